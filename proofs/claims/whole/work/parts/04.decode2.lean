theorem dX11_scanAll_74 : decode cX11_scanAll 74 = .ok (.iconst 5, 1) := by decide +kernel
theorem dX11_scanAll_75 : decode cX11_scanAll 75 = .ok (.if_icmp .eq 7, 3) := by decide +kernel
theorem dX11_scanAll_78 : decode cX11_scanAll 78 = .ok (.iconst 1, 1) := by decide +kernel
theorem dX11_scanAll_79 : decode cX11_scanAll 79 = .ok (.goto 4, 3) := by decide +kernel
theorem dX11_scanAll_82 : decode cX11_scanAll 82 = .ok (.iconst 0, 1) := by decide +kernel
theorem dX11_scanAll_83 : decode cX11_scanAll 83 = .ok (.istore_n 2, 1) := by decide +kernel
theorem dX11_scanAll_84 : decode cX11_scanAll 84 = .ok (.goto (-75), 3) := by decide +kernel
theorem dX11_scanAll_87 : decode cX11_scanAll 87 = .ok (.iload_n 2, 1) := by decide +kernel
theorem dX11_scanAll_88 : decode cX11_scanAll 88 = .ok (.ifCond .eq 13, 3) := by decide +kernel
theorem dX11_scanAll_91 : decode cX11_scanAll 91 = .ok (.aload_n 0, 1) := by decide +kernel
theorem dX11_scanAll_92 : decode cX11_scanAll 92 = .ok (.iconst 4, 1) := by decide +kernel
theorem dX11_scanAll_93 : decode cX11_scanAll 93 = .ok (.aload_n 0, 1) := by decide +kernel
theorem dX11_scanAll_94 : decode cX11_scanAll 94 = .ok (.getfield 250, 3) := by decide +kernel
theorem dX11_scanAll_97 : decode cX11_scanAll 97 = .ok (.iconst 0, 1) := by decide +kernel
theorem dX11_scanAll_98 : decode cX11_scanAll 98 = .ok (.invokevirtual 320, 3) := by decide +kernel
theorem dX11_scanAll_101 : decode cX11_scanAll 101 = .ok (.return_, 1) := by decide +kernel
theorem dX11_wrong_0 : decode cX11_wrong 0 = .ok (.aload_n 0, 1) := by decide +kernel
theorem dX11_wrong_1 : decode cX11_wrong 1 = .ok (.iload_n 1, 1) := by decide +kernel
theorem dX11_wrong_2 : decode cX11_wrong 2 = .ok (.putfield 333, 3) := by decide +kernel
theorem dX11_wrong_5 : decode cX11_wrong 5 = .ok (.aload_n 0, 1) := by decide +kernel
theorem dX11_wrong_6 : decode cX11_wrong 6 = .ok (.aload_n 0, 1) := by decide +kernel
theorem dX11_wrong_7 : decode cX11_wrong 7 = .ok (.getfield 16, 3) := by decide +kernel
theorem dX11_wrong_10 : decode cX11_wrong 10 = .ok (.aload_n 0, 1) := by decide +kernel
theorem dX11_wrong_11 : decode cX11_wrong 11 = .ok (.getfield 336, 3) := by decide +kernel
theorem dX11_wrong_14 : decode cX11_wrong 14 = .ok (.iaload, 1) := by decide +kernel
theorem dX11_wrong_15 : decode cX11_wrong 15 = .ok (.putfield 26, 3) := by decide +kernel
theorem dX11_wrong_18 : decode cX11_wrong 18 = .ok (.iconst 0, 1) := by decide +kernel
theorem dX11_wrong_19 : decode cX11_wrong 19 = .ok (.ireturn, 1) := by decide +kernel
theorem dX11_tells_0 : decode cX11_tells 0 = .ok (.aload_n 0, 1) := by decide +kernel
theorem dX11_tells_1 : decode cX11_tells 1 = .ok (.getfield 16, 3) := by decide +kernel
theorem dX11_tells_4 : decode cX11_tells 4 = .ok (.iload_n 2, 1) := by decide +kernel
theorem dX11_tells_5 : decode cX11_tells 5 = .ok (.iaload, 1) := by decide +kernel
theorem dX11_tells_6 : decode cX11_tells 6 = .ok (.istore_n 3, 1) := by decide +kernel
theorem dX11_tells_7 : decode cX11_tells 7 = .ok (.aload_n 0, 1) := by decide +kernel
theorem dX11_tells_8 : decode cX11_tells 8 = .ok (.getfield 339, 3) := by decide +kernel
theorem dX11_tells_11 : decode cX11_tells 11 = .ok (.ifCond .eq 28, 3) := by decide +kernel
theorem dX11_tells_14 : decode cX11_tells 14 = .ok (.iload_n 3, 1) := by decide +kernel
theorem dX11_tells_15 : decode cX11_tells 15 = .ok (.aload_n 0, 1) := by decide +kernel
theorem dX11_tells_16 : decode cX11_tells 16 = .ok (.getfield 342, 3) := by decide +kernel
theorem dX11_tells_19 : decode cX11_tells 19 = .ok (.if_icmp .gt 19, 3) := by decide +kernel
theorem dX11_tells_22 : decode cX11_tells 22 = .ok (.iload_n 3, 1) := by decide +kernel
theorem dX11_tells_23 : decode cX11_tells 23 = .ok (.aload_n 0, 1) := by decide +kernel
theorem dX11_tells_24 : decode cX11_tells 24 = .ok (.getfield 342, 3) := by decide +kernel
theorem dX11_tells_27 : decode cX11_tells 27 = .ok (.if_icmp .ne 12, 3) := by decide +kernel
theorem dX11_tells_30 : decode cX11_tells 30 = .ok (.iload_n 1, 1) := by decide +kernel
theorem dX11_tells_31 : decode cX11_tells 31 = .ok (.aload_n 0, 1) := by decide +kernel
theorem dX11_tells_32 : decode cX11_tells 32 = .ok (.getfield 339, 3) := by decide +kernel
theorem dX11_tells_35 : decode cX11_tells 35 = .ok (.if_icmp .lt 4, 3) := by decide +kernel
theorem dX11_tells_38 : decode cX11_tells 38 = .ok (.return_, 1) := by decide +kernel
theorem dX11_tells_39 : decode cX11_tells 39 = .ok (.aload_n 0, 1) := by decide +kernel
theorem dX11_tells_40 : decode cX11_tells 40 = .ok (.iload_n 1, 1) := by decide +kernel
theorem dX11_tells_41 : decode cX11_tells 41 = .ok (.putfield 339, 3) := by decide +kernel
theorem dX11_tells_44 : decode cX11_tells 44 = .ok (.aload_n 0, 1) := by decide +kernel
theorem dX11_tells_45 : decode cX11_tells 45 = .ok (.iload_n 3, 1) := by decide +kernel
theorem dX11_tells_46 : decode cX11_tells 46 = .ok (.putfield 342, 3) := by decide +kernel
theorem dX11_tells_49 : decode cX11_tells 49 = .ok (.return_, 1) := by decide +kernel
theorem dX11_pass_0 : decode cX11_pass 0 = .ok (.aload_n 0, 1) := by decide +kernel
theorem dX11_pass_1 : decode cX11_pass 1 = .ok (.getfield 336, 3) := by decide +kernel
theorem dX11_pass_4 : decode cX11_pass 4 = .ok (.sipush 400, 3) := by decide +kernel
theorem dX11_pass_7 : decode cX11_pass 7 = .ok (.if_icmp .lt 9, 3) := by decide +kernel
theorem dX11_pass_10 : decode cX11_pass 10 = .ok (.aload_n 0, 1) := by decide +kernel
theorem dX11_pass_11 : decode cX11_pass 11 = .ok (.iconst 2, 1) := by decide +kernel
theorem dX11_pass_12 : decode cX11_pass 12 = .ok (.invokevirtual 345, 3) := by decide +kernel
theorem dX11_pass_15 : decode cX11_pass 15 = .ok (.ireturn, 1) := by decide +kernel
theorem dX11_pass_16 : decode cX11_pass 16 = .ok (.aload_n 0, 1) := by decide +kernel
theorem dX11_pass_17 : decode cX11_pass 17 = .ok (.dup, 1) := by decide +kernel
theorem dX11_pass_18 : decode cX11_pass 18 = .ok (.getfield 336, 3) := by decide +kernel
theorem dX11_pass_21 : decode cX11_pass 21 = .ok (.iconst 1, 1) := by decide +kernel
theorem dX11_pass_22 : decode cX11_pass 22 = .ok (.iadd, 1) := by decide +kernel
theorem dX11_pass_23 : decode cX11_pass 23 = .ok (.putfield 336, 3) := by decide +kernel
theorem dX11_pass_26 : decode cX11_pass 26 = .ok (.iconst 1, 1) := by decide +kernel
theorem dX11_pass_27 : decode cX11_pass 27 = .ok (.ireturn, 1) := by decide +kernel
theorem dX11_isSign_0 : decode cX11_isSign 0 = .ok (.aload_n 0, 1) := by decide +kernel
theorem dX11_isSign_1 : decode cX11_isSign 1 = .ok (.getfield 13, 3) := by decide +kernel
theorem dX11_isSign_4 : decode cX11_isSign 4 = .ok (.aload_n 0, 1) := by decide +kernel
theorem dX11_isSign_5 : decode cX11_isSign 5 = .ok (.getfield 336, 3) := by decide +kernel
theorem dX11_isSign_8 : decode cX11_isSign 8 = .ok (.iaload, 1) := by decide +kernel
theorem dX11_isSign_9 : decode cX11_isSign 9 = .ok (.iconst 2, 1) := by decide +kernel
theorem dX11_isSign_10 : decode cX11_isSign 10 = .ok (.if_icmp .ne 20, 3) := by decide +kernel
theorem dX11_isSign_13 : decode cX11_isSign 13 = .ok (.aload_n 0, 1) := by decide +kernel
theorem dX11_isSign_14 : decode cX11_isSign 14 = .ok (.getfield 19, 3) := by decide +kernel
theorem dX11_isSign_17 : decode cX11_isSign 17 = .ok (.aload_n 0, 1) := by decide +kernel
theorem dX11_isSign_18 : decode cX11_isSign 18 = .ok (.getfield 336, 3) := by decide +kernel
theorem dX11_isSign_21 : decode cX11_isSign 21 = .ok (.iaload, 1) := by decide +kernel
theorem dX11_isSign_22 : decode cX11_isSign 22 = .ok (.iload_n 1, 1) := by decide +kernel
theorem dX11_isSign_23 : decode cX11_isSign 23 = .ok (.if_icmp .ne 7, 3) := by decide +kernel
theorem dX11_isSign_26 : decode cX11_isSign 26 = .ok (.iconst 1, 1) := by decide +kernel
theorem dX11_isSign_27 : decode cX11_isSign 27 = .ok (.goto 4, 3) := by decide +kernel
theorem dX11_isSign_30 : decode cX11_isSign 30 = .ok (.iconst 0, 1) := by decide +kernel
theorem dX11_isSign_31 : decode cX11_isSign 31 = .ok (.ireturn, 1) := by decide +kernel
theorem dX11_isWord_0 : decode cX11_isWord 0 = .ok (.aload_n 0, 1) := by decide +kernel
theorem dX11_isWord_1 : decode cX11_isWord 1 = .ok (.getfield 13, 3) := by decide +kernel
theorem dX11_isWord_4 : decode cX11_isWord 4 = .ok (.aload_n 0, 1) := by decide +kernel
theorem dX11_isWord_5 : decode cX11_isWord 5 = .ok (.getfield 336, 3) := by decide +kernel
theorem dX11_isWord_8 : decode cX11_isWord 8 = .ok (.iaload, 1) := by decide +kernel
theorem dX11_isWord_9 : decode cX11_isWord 9 = .ok (.iconst 3, 1) := by decide +kernel
theorem dX11_isWord_10 : decode cX11_isWord 10 = .ok (.if_icmp .ne 20, 3) := by decide +kernel
theorem dX11_isWord_13 : decode cX11_isWord 13 = .ok (.aload_n 0, 1) := by decide +kernel
theorem dX11_isWord_14 : decode cX11_isWord 14 = .ok (.getfield 19, 3) := by decide +kernel
theorem dX11_isWord_17 : decode cX11_isWord 17 = .ok (.aload_n 0, 1) := by decide +kernel
theorem dX11_isWord_18 : decode cX11_isWord 18 = .ok (.getfield 336, 3) := by decide +kernel
theorem dX11_isWord_21 : decode cX11_isWord 21 = .ok (.iaload, 1) := by decide +kernel
theorem dX11_isWord_22 : decode cX11_isWord 22 = .ok (.iload_n 1, 1) := by decide +kernel
theorem dX11_isWord_23 : decode cX11_isWord 23 = .ok (.if_icmp .ne 7, 3) := by decide +kernel
theorem dX11_isWord_26 : decode cX11_isWord 26 = .ok (.iconst 1, 1) := by decide +kernel
theorem dX11_isWord_27 : decode cX11_isWord 27 = .ok (.goto 4, 3) := by decide +kernel
theorem dX11_isWord_30 : decode cX11_isWord 30 = .ok (.iconst 0, 1) := by decide +kernel
theorem dX11_isWord_31 : decode cX11_isWord 31 = .ok (.ireturn, 1) := by decide +kernel
theorem dX11_takes_0 : decode cX11_takes 0 = .ok (.aload_n 0, 1) := by decide +kernel
theorem dX11_takes_1 : decode cX11_takes 1 = .ok (.getfield 13, 3) := by decide +kernel
theorem dX11_takes_4 : decode cX11_takes 4 = .ok (.aload_n 0, 1) := by decide +kernel
theorem dX11_takes_5 : decode cX11_takes 5 = .ok (.getfield 336, 3) := by decide +kernel
theorem dX11_takes_8 : decode cX11_takes 8 = .ok (.iaload, 1) := by decide +kernel
theorem dX11_takes_9 : decode cX11_takes 9 = .ok (.iload_n 1, 1) := by decide +kernel
theorem dX11_takes_10 : decode cX11_takes 10 = .ok (.if_icmp .ne 10, 3) := by decide +kernel
theorem dX11_takes_13 : decode cX11_takes 13 = .ok (.aload_n 0, 1) := by decide +kernel
theorem dX11_takes_14 : decode cX11_takes 14 = .ok (.invokevirtual 348, 3) := by decide +kernel
theorem dX11_takes_17 : decode cX11_takes 17 = .ok (.goto 8, 3) := by decide +kernel
theorem dX11_takes_20 : decode cX11_takes 20 = .ok (.aload_n 0, 1) := by decide +kernel
theorem dX11_takes_21 : decode cX11_takes 21 = .ok (.iconst 1, 1) := by decide +kernel
theorem dX11_takes_22 : decode cX11_takes 22 = .ok (.invokevirtual 345, 3) := by decide +kernel
theorem dX11_takes_25 : decode cX11_takes 25 = .ok (.ireturn, 1) := by decide +kernel
theorem dX11_takesInt_0 : decode cX11_takesInt 0 = .ok (.aload_n 0, 1) := by decide +kernel
theorem dX11_takesInt_1 : decode cX11_takesInt 1 = .ok (.getfield 336, 3) := by decide +kernel
theorem dX11_takesInt_4 : decode cX11_takesInt 4 = .ok (.istore_n 3, 1) := by decide +kernel
theorem dX11_takesInt_5 : decode cX11_takesInt 5 = .ok (.aload_n 0, 1) := by decide +kernel
theorem dX11_takesInt_6 : decode cX11_takesInt 6 = .ok (.iconst 1, 1) := by decide +kernel
theorem dX11_takesInt_7 : decode cX11_takesInt 7 = .ok (.invokevirtual 352, 3) := by decide +kernel
theorem dX11_takesInt_10 : decode cX11_takesInt 10 = .ok (.ifCond .ne 5, 3) := by decide +kernel
theorem dX11_takesInt_13 : decode cX11_takesInt 13 = .ok (.iconst 0, 1) := by decide +kernel
theorem dX11_takesInt_14 : decode cX11_takesInt 14 = .ok (.ireturn, 1) := by decide +kernel
theorem dX11_takesInt_15 : decode cX11_takesInt 15 = .ok (.aload_n 0, 1) := by decide +kernel
theorem dX11_takesInt_16 : decode cX11_takesInt 16 = .ok (.aload_n 0, 1) := by decide +kernel
theorem dX11_takesInt_17 : decode cX11_takesInt 17 = .ok (.getfield 19, 3) := by decide +kernel
theorem dX11_takesInt_20 : decode cX11_takesInt 20 = .ok (.iload_n 3, 1) := by decide +kernel
theorem dX11_takesInt_21 : decode cX11_takesInt 21 = .ok (.iaload, 1) := by decide +kernel
theorem dX11_takesInt_22 : decode cX11_takesInt 22 = .ok (.putfield 355, 3) := by decide +kernel
theorem dX11_takesInt_25 : decode cX11_takesInt 25 = .ok (.aload_n 0, 1) := by decide +kernel
theorem dX11_takesInt_26 : decode cX11_takesInt 26 = .ok (.getfield 355, 3) := by decide +kernel
theorem dX11_takesInt_29 : decode cX11_takesInt 29 = .ok (.iload_n 1, 1) := by decide +kernel
theorem dX11_takesInt_30 : decode cX11_takesInt 30 = .ok (.if_icmp .lt 11, 3) := by decide +kernel
theorem dX11_takesInt_33 : decode cX11_takesInt 33 = .ok (.aload_n 0, 1) := by decide +kernel
theorem dX11_takesInt_34 : decode cX11_takesInt 34 = .ok (.getfield 355, 3) := by decide +kernel
theorem dX11_takesInt_37 : decode cX11_takesInt 37 = .ok (.iload_n 2, 1) := by decide +kernel
theorem dX11_takesInt_38 : decode cX11_takesInt 38 = .ok (.if_icmp .le 9, 3) := by decide +kernel
theorem dX11_takesInt_41 : decode cX11_takesInt 41 = .ok (.aload_n 0, 1) := by decide +kernel
theorem dX11_takesInt_42 : decode cX11_takesInt 42 = .ok (.iconst 5, 1) := by decide +kernel
theorem dX11_takesInt_43 : decode cX11_takesInt 43 = .ok (.iload_n 3, 1) := by decide +kernel
theorem dX11_takesInt_44 : decode cX11_takesInt 44 = .ok (.invokevirtual 358, 3) := by decide +kernel
theorem dX11_takesInt_47 : decode cX11_takesInt 47 = .ok (.iconst 1, 1) := by decide +kernel
theorem dX11_takesInt_48 : decode cX11_takesInt 48 = .ok (.ireturn, 1) := by decide +kernel
theorem dX11_emit_0 : decode cX11_emit 0 = .ok (.aload_n 0, 1) := by decide +kernel
theorem dX11_emit_1 : decode cX11_emit 1 = .ok (.getfield 85, 3) := by decide +kernel
theorem dX11_emit_4 : decode cX11_emit 4 = .ok (.aload_n 0, 1) := by decide +kernel
theorem dX11_emit_5 : decode cX11_emit 5 = .ok (.getfield 82, 3) := by decide +kernel
theorem dX11_emit_8 : decode cX11_emit 8 = .ok (.aload_n 0, 1) := by decide +kernel
theorem dX11_emit_9 : decode cX11_emit 9 = .ok (.getfield 362, 3) := by decide +kernel
theorem dX11_emit_12 : decode cX11_emit 12 = .ok (.iaload, 1) := by decide +kernel
theorem dX11_emit_13 : decode cX11_emit 13 = .ok (.iload_n 1, 1) := by decide +kernel
theorem dX11_emit_14 : decode cX11_emit 14 = .ok (.iastore, 1) := by decide +kernel
theorem dX11_emit_15 : decode cX11_emit 15 = .ok (.aload_n 0, 1) := by decide +kernel
theorem dX11_emit_16 : decode cX11_emit 16 = .ok (.getfield 88, 3) := by decide +kernel
theorem dX11_emit_19 : decode cX11_emit 19 = .ok (.aload_n 0, 1) := by decide +kernel
theorem dX11_emit_20 : decode cX11_emit 20 = .ok (.getfield 82, 3) := by decide +kernel
theorem dX11_emit_23 : decode cX11_emit 23 = .ok (.aload_n 0, 1) := by decide +kernel
theorem dX11_emit_24 : decode cX11_emit 24 = .ok (.getfield 362, 3) := by decide +kernel
theorem dX11_emit_27 : decode cX11_emit 27 = .ok (.iaload, 1) := by decide +kernel
theorem dX11_emit_28 : decode cX11_emit 28 = .ok (.iload_n 2, 1) := by decide +kernel
theorem dX11_emit_29 : decode cX11_emit 29 = .ok (.iastore, 1) := by decide +kernel
theorem dX11_emit_30 : decode cX11_emit 30 = .ok (.aload_n 0, 1) := by decide +kernel
theorem dX11_emit_31 : decode cX11_emit 31 = .ok (.getfield 82, 3) := by decide +kernel
theorem dX11_emit_34 : decode cX11_emit 34 = .ok (.aload_n 0, 1) := by decide +kernel
theorem dX11_emit_35 : decode cX11_emit 35 = .ok (.getfield 362, 3) := by decide +kernel
theorem dX11_emit_38 : decode cX11_emit 38 = .ok (.dup2, 1) := by decide +kernel
theorem dX11_emit_39 : decode cX11_emit 39 = .ok (.iaload, 1) := by decide +kernel
theorem dX11_emit_40 : decode cX11_emit 40 = .ok (.iconst 1, 1) := by decide +kernel
theorem dX11_emit_41 : decode cX11_emit 41 = .ok (.iadd, 1) := by decide +kernel
theorem dX11_emit_42 : decode cX11_emit 42 = .ok (.iastore, 1) := by decide +kernel
theorem dX11_emit_43 : decode cX11_emit 43 = .ok (.return_, 1) := by decide +kernel
theorem dX11_rank_0 : decode cX11_rank 0 = .ok (.iload_n 0, 1) := by decide +kernel
theorem dX11_rank_1 : decode cX11_rank 1 = .ok (.iconst 4, 1) := by decide +kernel
theorem dX11_rank_2 : decode cX11_rank 2 = .ok (.if_icmp .ne 7, 3) := by decide +kernel
theorem dX11_rank_5 : decode cX11_rank 5 = .ok (.iconst 2, 1) := by decide +kernel
theorem dX11_rank_6 : decode cX11_rank 6 = .ok (.goto 13, 3) := by decide +kernel
theorem dX11_rank_9 : decode cX11_rank 9 = .ok (.iload_n 0, 1) := by decide +kernel
theorem dX11_rank_10 : decode cX11_rank 10 = .ok (.iconst 1, 1) := by decide +kernel
theorem dX11_rank_11 : decode cX11_rank 11 = .ok (.if_icmp .le 7, 3) := by decide +kernel
theorem dX11_rank_14 : decode cX11_rank 14 = .ok (.iconst 1, 1) := by decide +kernel
theorem dX11_rank_15 : decode cX11_rank 15 = .ok (.goto 4, 3) := by decide +kernel
theorem dX11_rank_18 : decode cX11_rank 18 = .ok (.iconst 0, 1) := by decide +kernel
theorem dX11_rank_19 : decode cX11_rank 19 = .ok (.ireturn, 1) := by decide +kernel
theorem dX11_reduce_0 : decode cX11_reduce 0 = .ok (.aload_n 0, 1) := by decide +kernel
theorem dX11_reduce_1 : decode cX11_reduce 1 = .ok (.getfield 365, 3) := by decide +kernel
theorem dX11_reduce_4 : decode cX11_reduce 4 = .ok (.iload_n 2, 1) := by decide +kernel
theorem dX11_reduce_5 : decode cX11_reduce 5 = .ok (.if_icmp .le 48, 3) := by decide +kernel
theorem dX11_reduce_8 : decode cX11_reduce 8 = .ok (.aload_n 0, 1) := by decide +kernel
theorem dX11_reduce_9 : decode cX11_reduce 9 = .ok (.getfield 163, 3) := by decide +kernel
theorem dX11_reduce_12 : decode cX11_reduce 12 = .ok (.aload_n 0, 1) := by decide +kernel
theorem dX11_reduce_13 : decode cX11_reduce 13 = .ok (.getfield 365, 3) := by decide +kernel
theorem dX11_reduce_16 : decode cX11_reduce 16 = .ok (.iconst 1, 1) := by decide +kernel
theorem dX11_reduce_17 : decode cX11_reduce 17 = .ok (.isub, 1) := by decide +kernel
theorem dX11_reduce_18 : decode cX11_reduce 18 = .ok (.iaload, 1) := by decide +kernel
theorem dX11_reduce_19 : decode cX11_reduce 19 = .ok (.invokestatic 368, 3) := by decide +kernel
theorem dX11_reduce_22 : decode cX11_reduce 22 = .ok (.iload_n 1, 1) := by decide +kernel
theorem dX11_reduce_23 : decode cX11_reduce 23 = .ok (.if_icmp .lt 30, 3) := by decide +kernel
theorem dX11_reduce_26 : decode cX11_reduce 26 = .ok (.aload_n 0, 1) := by decide +kernel
theorem dX11_reduce_27 : decode cX11_reduce 27 = .ok (.dup, 1) := by decide +kernel
theorem dX11_reduce_28 : decode cX11_reduce 28 = .ok (.getfield 365, 3) := by decide +kernel
theorem dX11_reduce_31 : decode cX11_reduce 31 = .ok (.iconst 1, 1) := by decide +kernel
theorem dX11_reduce_32 : decode cX11_reduce 32 = .ok (.isub, 1) := by decide +kernel
theorem dX11_reduce_33 : decode cX11_reduce 33 = .ok (.putfield 365, 3) := by decide +kernel
theorem dX11_reduce_36 : decode cX11_reduce 36 = .ok (.aload_n 0, 1) := by decide +kernel
theorem dX11_reduce_37 : decode cX11_reduce 37 = .ok (.aload_n 0, 1) := by decide +kernel
theorem dX11_reduce_38 : decode cX11_reduce 38 = .ok (.getfield 163, 3) := by decide +kernel
theorem dX11_reduce_41 : decode cX11_reduce 41 = .ok (.aload_n 0, 1) := by decide +kernel
theorem dX11_reduce_42 : decode cX11_reduce 42 = .ok (.getfield 365, 3) := by decide +kernel
theorem dX11_reduce_45 : decode cX11_reduce 45 = .ok (.iaload, 1) := by decide +kernel
theorem dX11_reduce_46 : decode cX11_reduce 46 = .ok (.iconst 0, 1) := by decide +kernel
theorem dX11_reduce_47 : decode cX11_reduce 47 = .ok (.invokevirtual 371, 3) := by decide +kernel
theorem dX11_reduce_50 : decode cX11_reduce 50 = .ok (.goto (-50), 3) := by decide +kernel
theorem dX11_reduce_53 : decode cX11_reduce 53 = .ok (.return_, 1) := by decide +kernel
theorem dX11_await_0 : decode cX11_await 0 = .ok (.aload_n 0, 1) := by decide +kernel
theorem dX11_await_1 : decode cX11_await 1 = .ok (.getfield 163, 3) := by decide +kernel
theorem dX11_await_4 : decode cX11_await 4 = .ok (.aload_n 0, 1) := by decide +kernel
theorem dX11_await_5 : decode cX11_await 5 = .ok (.getfield 365, 3) := by decide +kernel
theorem dX11_await_8 : decode cX11_await 8 = .ok (.iload_n 1, 1) := by decide +kernel
theorem dX11_await_9 : decode cX11_await 9 = .ok (.iastore, 1) := by decide +kernel
theorem dX11_await_10 : decode cX11_await 10 = .ok (.aload_n 0, 1) := by decide +kernel
theorem dX11_await_11 : decode cX11_await 11 = .ok (.dup, 1) := by decide +kernel
theorem dX11_await_12 : decode cX11_await 12 = .ok (.getfield 365, 3) := by decide +kernel
theorem dX11_await_15 : decode cX11_await 15 = .ok (.iconst 1, 1) := by decide +kernel
theorem dX11_await_16 : decode cX11_await 16 = .ok (.iadd, 1) := by decide +kernel
theorem dX11_await_17 : decode cX11_await 17 = .ok (.putfield 365, 3) := by decide +kernel
theorem dX11_await_20 : decode cX11_await 20 = .ok (.return_, 1) := by decide +kernel
theorem dX11_variableOf_0 : decode cX11_variableOf 0 = .ok (.iload_n 0, 1) := by decide +kernel
theorem dX11_variableOf_1 : decode cX11_variableOf 1 = .ok (.bipush 16, 2) := by decide +kernel
theorem dX11_variableOf_3 : decode cX11_variableOf 3 = .ok (.if_icmp .le 10, 3) := by decide +kernel
theorem dX11_variableOf_6 : decode cX11_variableOf 6 = .ok (.iload_n 0, 1) := by decide +kernel
theorem dX11_variableOf_7 : decode cX11_variableOf 7 = .ok (.bipush 17, 2) := by decide +kernel
theorem dX11_variableOf_9 : decode cX11_variableOf 9 = .ok (.isub, 1) := by decide +kernel
theorem dX11_variableOf_10 : decode cX11_variableOf 10 = .ok (.goto 4, 3) := by decide +kernel
theorem dX11_variableOf_13 : decode cX11_variableOf 13 = .ok (.iconst (-1), 1) := by decide +kernel
theorem dX11_variableOf_14 : decode cX11_variableOf 14 = .ok (.ireturn, 1) := by decide +kernel
theorem dX11_expr_0 : decode cX11_expr 0 = .ok (.aload_n 0, 1) := by decide +kernel
theorem dX11_expr_1 : decode cX11_expr 1 = .ok (.aload_n 0, 1) := by decide +kernel
theorem dX11_expr_2 : decode cX11_expr 2 = .ok (.getfield 82, 3) := by decide +kernel
theorem dX11_expr_5 : decode cX11_expr 5 = .ok (.aload_n 0, 1) := by decide +kernel
theorem dX11_expr_6 : decode cX11_expr 6 = .ok (.getfield 362, 3) := by decide +kernel
theorem dX11_expr_9 : decode cX11_expr 9 = .ok (.iaload, 1) := by decide +kernel
theorem dX11_expr_10 : decode cX11_expr 10 = .ok (.putfield 374, 3) := by decide +kernel
theorem dX11_expr_13 : decode cX11_expr 13 = .ok (.aload_n 0, 1) := by decide +kernel
theorem dX11_expr_14 : decode cX11_expr 14 = .ok (.iconst 0, 1) := by decide +kernel
theorem dX11_expr_15 : decode cX11_expr 15 = .ok (.putfield 365, 3) := by decide +kernel
theorem dX11_expr_18 : decode cX11_expr 18 = .ok (.iconst 0, 1) := by decide +kernel
theorem dX11_expr_19 : decode cX11_expr 19 = .ok (.istore_n 1, 1) := by decide +kernel
theorem dX11_expr_20 : decode cX11_expr 20 = .ok (.iconst 1, 1) := by decide +kernel
theorem dX11_expr_21 : decode cX11_expr 21 = .ok (.istore_n 2, 1) := by decide +kernel
theorem dX11_expr_22 : decode cX11_expr 22 = .ok (.iconst 1, 1) := by decide +kernel
theorem dX11_expr_23 : decode cX11_expr 23 = .ok (.istore_n 3, 1) := by decide +kernel
theorem dX11_expr_24 : decode cX11_expr 24 = .ok (.iload_n 3, 1) := by decide +kernel
theorem dX11_expr_25 : decode cX11_expr 25 = .ok (.ifCond .eq 295, 3) := by decide +kernel
theorem dX11_expr_28 : decode cX11_expr 28 = .ok (.iload_n 2, 1) := by decide +kernel
theorem dX11_expr_29 : decode cX11_expr 29 = .ok (.ifCond .eq 146, 3) := by decide +kernel
theorem dX11_expr_32 : decode cX11_expr 32 = .ok (.aload_n 0, 1) := by decide +kernel
theorem dX11_expr_33 : decode cX11_expr 33 = .ok (.bipush 40, 2) := by decide +kernel
theorem dX11_expr_35 : decode cX11_expr 35 = .ok (.invokevirtual 377, 3) := by decide +kernel
theorem dX11_expr_38 : decode cX11_expr 38 = .ok (.ifCond .eq 35, 3) := by decide +kernel
theorem dX11_expr_41 : decode cX11_expr 41 = .ok (.iload_n 1, 1) := by decide +kernel
theorem dX11_expr_42 : decode cX11_expr 42 = .ok (.bipush 6, 2) := by decide +kernel
theorem dX11_expr_44 : decode cX11_expr 44 = .ok (.if_icmp .ne 9, 3) := by decide +kernel
theorem dX11_expr_47 : decode cX11_expr 47 = .ok (.aload_n 0, 1) := by decide +kernel
theorem dX11_expr_48 : decode cX11_expr 48 = .ok (.iconst 2, 1) := by decide +kernel
theorem dX11_expr_49 : decode cX11_expr 49 = .ok (.invokevirtual 345, 3) := by decide +kernel
theorem dX11_expr_52 : decode cX11_expr 52 = .ok (.ireturn, 1) := by decide +kernel
theorem dX11_expr_53 : decode cX11_expr 53 = .ok (.aload_n 0, 1) := by decide +kernel
theorem dX11_expr_54 : decode cX11_expr 54 = .ok (.invokevirtual 348, 3) := by decide +kernel
theorem dX11_expr_57 : decode cX11_expr 57 = .ok (.ifCond .ne 5, 3) := by decide +kernel
theorem dX11_expr_60 : decode cX11_expr 60 = .ok (.iconst 0, 1) := by decide +kernel
theorem dX11_expr_61 : decode cX11_expr 61 = .ok (.ireturn, 1) := by decide +kernel
theorem dX11_expr_62 : decode cX11_expr 62 = .ok (.iinc 1 1, 3) := by decide +kernel
theorem dX11_expr_65 : decode cX11_expr 65 = .ok (.aload_n 0, 1) := by decide +kernel
theorem dX11_expr_66 : decode cX11_expr 66 = .ok (.iconst 0, 1) := by decide +kernel
theorem dX11_expr_67 : decode cX11_expr 67 = .ok (.invokevirtual 380, 3) := by decide +kernel
theorem dX11_expr_70 : decode cX11_expr 70 = .ok (.goto (-46), 3) := by decide +kernel
theorem dX11_expr_73 : decode cX11_expr 73 = .ok (.aload_n 0, 1) := by decide +kernel
theorem dX11_expr_74 : decode cX11_expr 74 = .ok (.getfield 13, 3) := by decide +kernel
theorem dX11_expr_77 : decode cX11_expr 77 = .ok (.aload_n 0, 1) := by decide +kernel
theorem dX11_expr_78 : decode cX11_expr 78 = .ok (.getfield 336, 3) := by decide +kernel
theorem dX11_expr_81 : decode cX11_expr 81 = .ok (.iaload, 1) := by decide +kernel
theorem dX11_expr_82 : decode cX11_expr 82 = .ok (.iconst 3, 1) := by decide +kernel
theorem dX11_expr_83 : decode cX11_expr 83 = .ok (.if_icmp .ne 18, 3) := by decide +kernel
theorem dX11_expr_86 : decode cX11_expr 86 = .ok (.aload_n 0, 1) := by decide +kernel
theorem dX11_expr_87 : decode cX11_expr 87 = .ok (.getfield 19, 3) := by decide +kernel
theorem dX11_expr_90 : decode cX11_expr 90 = .ok (.aload_n 0, 1) := by decide +kernel
theorem dX11_expr_91 : decode cX11_expr 91 = .ok (.getfield 336, 3) := by decide +kernel
theorem dX11_expr_94 : decode cX11_expr 94 = .ok (.iaload, 1) := by decide +kernel
theorem dX11_expr_95 : decode cX11_expr 95 = .ok (.invokestatic 383, 3) := by decide +kernel
theorem dX11_expr_98 : decode cX11_expr 98 = .ok (.goto 4, 3) := by decide +kernel
theorem dX11_expr_101 : decode cX11_expr 101 = .ok (.iconst (-1), 1) := by decide +kernel
theorem dX11_expr_102 : decode cX11_expr 102 = .ok (.istore 4, 2) := by decide +kernel
theorem dX11_expr_104 : decode cX11_expr 104 = .ok (.aload_n 0, 1) := by decide +kernel
theorem dX11_expr_105 : decode cX11_expr 105 = .ok (.getfield 13, 3) := by decide +kernel
theorem dX11_expr_108 : decode cX11_expr 108 = .ok (.aload_n 0, 1) := by decide +kernel
theorem dX11_expr_109 : decode cX11_expr 109 = .ok (.getfield 336, 3) := by decide +kernel
theorem dX11_expr_112 : decode cX11_expr 112 = .ok (.iaload, 1) := by decide +kernel
theorem dX11_expr_113 : decode cX11_expr 113 = .ok (.iconst 1, 1) := by decide +kernel
theorem dX11_expr_114 : decode cX11_expr 114 = .ok (.if_icmp .eq 14, 3) := by decide +kernel
theorem dX11_expr_117 : decode cX11_expr 117 = .ok (.iload 4, 2) := by decide +kernel
theorem dX11_expr_119 : decode cX11_expr 119 = .ok (.ifCond .ge 9, 3) := by decide +kernel
theorem dX11_expr_122 : decode cX11_expr 122 = .ok (.aload_n 0, 1) := by decide +kernel
theorem dX11_expr_123 : decode cX11_expr 123 = .ok (.iconst 1, 1) := by decide +kernel
theorem dX11_expr_124 : decode cX11_expr 124 = .ok (.invokevirtual 345, 3) := by decide +kernel
theorem dX11_expr_127 : decode cX11_expr 127 = .ok (.ireturn, 1) := by decide +kernel
theorem dX11_expr_128 : decode cX11_expr 128 = .ok (.aload_n 0, 1) := by decide +kernel
theorem dX11_expr_129 : decode cX11_expr 129 = .ok (.iload 4, 2) := by decide +kernel
theorem dX11_expr_131 : decode cX11_expr 131 = .ok (.ifCond .ge 7, 3) := by decide +kernel
theorem dX11_expr_134 : decode cX11_expr 134 = .ok (.iconst 0, 1) := by decide +kernel
theorem dX11_expr_135 : decode cX11_expr 135 = .ok (.goto 4, 3) := by decide +kernel
theorem dX11_expr_138 : decode cX11_expr 138 = .ok (.iconst 1, 1) := by decide +kernel
theorem dX11_expr_139 : decode cX11_expr 139 = .ok (.iload 4, 2) := by decide +kernel
theorem dX11_expr_141 : decode cX11_expr 141 = .ok (.ifCond .ge 15, 3) := by decide +kernel
theorem dX11_expr_144 : decode cX11_expr 144 = .ok (.aload_n 0, 1) := by decide +kernel
theorem dX11_expr_145 : decode cX11_expr 145 = .ok (.getfield 19, 3) := by decide +kernel
theorem dX11_expr_148 : decode cX11_expr 148 = .ok (.aload_n 0, 1) := by decide +kernel
theorem dX11_expr_149 : decode cX11_expr 149 = .ok (.getfield 336, 3) := by decide +kernel
theorem dX11_expr_152 : decode cX11_expr 152 = .ok (.iaload, 1) := by decide +kernel
theorem dX11_expr_153 : decode cX11_expr 153 = .ok (.goto 5, 3) := by decide +kernel
theorem dX11_expr_156 : decode cX11_expr 156 = .ok (.iload 4, 2) := by decide +kernel
theorem dX11_expr_158 : decode cX11_expr 158 = .ok (.invokevirtual 371, 3) := by decide +kernel
theorem dX11_expr_161 : decode cX11_expr 161 = .ok (.aload_n 0, 1) := by decide +kernel
theorem dX11_expr_162 : decode cX11_expr 162 = .ok (.invokevirtual 348, 3) := by decide +kernel
theorem dX11_expr_165 : decode cX11_expr 165 = .ok (.ifCond .ne 5, 3) := by decide +kernel
theorem dX11_expr_168 : decode cX11_expr 168 = .ok (.iconst 0, 1) := by decide +kernel
theorem dX11_expr_169 : decode cX11_expr 169 = .ok (.ireturn, 1) := by decide +kernel
theorem dX11_expr_170 : decode cX11_expr 170 = .ok (.iconst 0, 1) := by decide +kernel
theorem dX11_expr_171 : decode cX11_expr 171 = .ok (.istore_n 2, 1) := by decide +kernel
theorem dX11_expr_172 : decode cX11_expr 172 = .ok (.goto (-148), 3) := by decide +kernel
theorem dX11_expr_175 : decode cX11_expr 175 = .ok (.aload_n 0, 1) := by decide +kernel
theorem dX11_expr_176 : decode cX11_expr 176 = .ok (.bipush 42, 2) := by decide +kernel
theorem dX11_expr_178 : decode cX11_expr 178 = .ok (.invokevirtual 377, 3) := by decide +kernel
theorem dX11_expr_181 : decode cX11_expr 181 = .ok (.ifCond .eq 28, 3) := by decide +kernel
theorem dX11_expr_184 : decode cX11_expr 184 = .ok (.aload_n 0, 1) := by decide +kernel
theorem dX11_expr_185 : decode cX11_expr 185 = .ok (.iconst 2, 1) := by decide +kernel
theorem dX11_expr_186 : decode cX11_expr 186 = .ok (.iconst 0, 1) := by decide +kernel
theorem dX11_expr_187 : decode cX11_expr 187 = .ok (.invokevirtual 386, 3) := by decide +kernel
theorem dX11_expr_190 : decode cX11_expr 190 = .ok (.aload_n 0, 1) := by decide +kernel
theorem dX11_expr_191 : decode cX11_expr 191 = .ok (.iconst 4, 1) := by decide +kernel
theorem dX11_expr_192 : decode cX11_expr 192 = .ok (.invokevirtual 380, 3) := by decide +kernel
theorem dX11_expr_195 : decode cX11_expr 195 = .ok (.aload_n 0, 1) := by decide +kernel
theorem dX11_expr_196 : decode cX11_expr 196 = .ok (.invokevirtual 348, 3) := by decide +kernel
theorem dX11_expr_199 : decode cX11_expr 199 = .ok (.ifCond .ne 5, 3) := by decide +kernel
theorem dX11_expr_202 : decode cX11_expr 202 = .ok (.iconst 0, 1) := by decide +kernel
theorem dX11_expr_203 : decode cX11_expr 203 = .ok (.ireturn, 1) := by decide +kernel
theorem dX11_expr_204 : decode cX11_expr 204 = .ok (.iconst 1, 1) := by decide +kernel
theorem dX11_expr_205 : decode cX11_expr 205 = .ok (.istore_n 2, 1) := by decide +kernel
theorem dX11_expr_206 : decode cX11_expr 206 = .ok (.goto (-182), 3) := by decide +kernel
theorem dX11_expr_209 : decode cX11_expr 209 = .ok (.aload_n 0, 1) := by decide +kernel
theorem dX11_expr_210 : decode cX11_expr 210 = .ok (.bipush 43, 2) := by decide +kernel
theorem dX11_expr_212 : decode cX11_expr 212 = .ok (.invokevirtual 377, 3) := by decide +kernel
theorem dX11_expr_215 : decode cX11_expr 215 = .ok (.ifCond .ne 12, 3) := by decide +kernel
theorem dX11_expr_218 : decode cX11_expr 218 = .ok (.aload_n 0, 1) := by decide +kernel
theorem dX11_expr_219 : decode cX11_expr 219 = .ok (.bipush 45, 2) := by decide +kernel
theorem dX11_expr_221 : decode cX11_expr 221 = .ok (.invokevirtual 377, 3) := by decide +kernel
theorem dX11_expr_224 : decode cX11_expr 224 = .ok (.ifCond .eq 41, 3) := by decide +kernel
theorem dX11_expr_227 : decode cX11_expr 227 = .ok (.aload_n 0, 1) := by decide +kernel
theorem dX11_expr_228 : decode cX11_expr 228 = .ok (.iconst 1, 1) := by decide +kernel
theorem dX11_expr_229 : decode cX11_expr 229 = .ok (.iconst 0, 1) := by decide +kernel
theorem dX11_expr_230 : decode cX11_expr 230 = .ok (.invokevirtual 386, 3) := by decide +kernel
theorem dX11_expr_233 : decode cX11_expr 233 = .ok (.aload_n 0, 1) := by decide +kernel
theorem dX11_expr_234 : decode cX11_expr 234 = .ok (.aload_n 0, 1) := by decide +kernel
theorem dX11_expr_235 : decode cX11_expr 235 = .ok (.bipush 43, 2) := by decide +kernel
theorem dX11_expr_237 : decode cX11_expr 237 = .ok (.invokevirtual 377, 3) := by decide +kernel
theorem dX11_expr_240 : decode cX11_expr 240 = .ok (.ifCond .eq 7, 3) := by decide +kernel
theorem dX11_expr_243 : decode cX11_expr 243 = .ok (.iconst 2, 1) := by decide +kernel
theorem dX11_expr_244 : decode cX11_expr 244 = .ok (.goto 4, 3) := by decide +kernel
theorem dX11_expr_247 : decode cX11_expr 247 = .ok (.iconst 3, 1) := by decide +kernel
theorem dX11_expr_248 : decode cX11_expr 248 = .ok (.invokevirtual 380, 3) := by decide +kernel
theorem dX11_expr_251 : decode cX11_expr 251 = .ok (.aload_n 0, 1) := by decide +kernel
theorem dX11_expr_252 : decode cX11_expr 252 = .ok (.invokevirtual 348, 3) := by decide +kernel
theorem dX11_expr_255 : decode cX11_expr 255 = .ok (.ifCond .ne 5, 3) := by decide +kernel
theorem dX11_expr_258 : decode cX11_expr 258 = .ok (.iconst 0, 1) := by decide +kernel
theorem dX11_expr_259 : decode cX11_expr 259 = .ok (.ireturn, 1) := by decide +kernel
theorem dX11_expr_260 : decode cX11_expr 260 = .ok (.iconst 1, 1) := by decide +kernel
theorem dX11_expr_261 : decode cX11_expr 261 = .ok (.istore_n 2, 1) := by decide +kernel
theorem dX11_expr_262 : decode cX11_expr 262 = .ok (.goto (-238), 3) := by decide +kernel
theorem dX11_expr_265 : decode cX11_expr 265 = .ok (.iload_n 1, 1) := by decide +kernel
theorem dX11_expr_266 : decode cX11_expr 266 = .ok (.ifCond .le 49, 3) := by decide +kernel
theorem dX11_expr_269 : decode cX11_expr 269 = .ok (.aload_n 0, 1) := by decide +kernel
theorem dX11_expr_270 : decode cX11_expr 270 = .ok (.bipush 41, 2) := by decide +kernel
theorem dX11_expr_272 : decode cX11_expr 272 = .ok (.invokevirtual 377, 3) := by decide +kernel
theorem dX11_expr_275 : decode cX11_expr 275 = .ok (.ifCond .ne 9, 3) := by decide +kernel
theorem dX11_expr_278 : decode cX11_expr 278 = .ok (.aload_n 0, 1) := by decide +kernel
theorem dX11_expr_279 : decode cX11_expr 279 = .ok (.iconst 1, 1) := by decide +kernel
theorem dX11_expr_280 : decode cX11_expr 280 = .ok (.invokevirtual 345, 3) := by decide +kernel
theorem dX11_expr_283 : decode cX11_expr 283 = .ok (.ireturn, 1) := by decide +kernel
theorem dX11_expr_284 : decode cX11_expr 284 = .ok (.aload_n 0, 1) := by decide +kernel
theorem dX11_expr_285 : decode cX11_expr 285 = .ok (.invokevirtual 348, 3) := by decide +kernel
theorem dX11_expr_288 : decode cX11_expr 288 = .ok (.ifCond .ne 5, 3) := by decide +kernel
theorem dX11_expr_291 : decode cX11_expr 291 = .ok (.iconst 0, 1) := by decide +kernel
theorem dX11_expr_292 : decode cX11_expr 292 = .ok (.ireturn, 1) := by decide +kernel
theorem dX11_expr_293 : decode cX11_expr 293 = .ok (.aload_n 0, 1) := by decide +kernel
theorem dX11_expr_294 : decode cX11_expr 294 = .ok (.iconst 1, 1) := by decide +kernel
theorem dX11_expr_295 : decode cX11_expr 295 = .ok (.iconst 0, 1) := by decide +kernel
theorem dX11_expr_296 : decode cX11_expr 296 = .ok (.invokevirtual 386, 3) := by decide +kernel
theorem dX11_expr_299 : decode cX11_expr 299 = .ok (.aload_n 0, 1) := by decide +kernel
theorem dX11_expr_300 : decode cX11_expr 300 = .ok (.dup, 1) := by decide +kernel
theorem dX11_expr_301 : decode cX11_expr 301 = .ok (.getfield 365, 3) := by decide +kernel
theorem dX11_expr_304 : decode cX11_expr 304 = .ok (.iconst 1, 1) := by decide +kernel
theorem dX11_expr_305 : decode cX11_expr 305 = .ok (.isub, 1) := by decide +kernel
theorem dX11_expr_306 : decode cX11_expr 306 = .ok (.putfield 365, 3) := by decide +kernel
theorem dX11_expr_309 : decode cX11_expr 309 = .ok (.iinc 1 (-1), 3) := by decide +kernel
theorem dX11_expr_312 : decode cX11_expr 312 = .ok (.goto (-288), 3) := by decide +kernel
theorem dX11_expr_315 : decode cX11_expr 315 = .ok (.iconst 0, 1) := by decide +kernel
theorem dX11_expr_316 : decode cX11_expr 316 = .ok (.istore_n 3, 1) := by decide +kernel
theorem dX11_expr_317 : decode cX11_expr 317 = .ok (.goto (-293), 3) := by decide +kernel
theorem dX11_expr_320 : decode cX11_expr 320 = .ok (.aload_n 0, 1) := by decide +kernel
theorem dX11_expr_321 : decode cX11_expr 321 = .ok (.iconst 1, 1) := by decide +kernel
theorem dX11_expr_322 : decode cX11_expr 322 = .ok (.iconst 0, 1) := by decide +kernel
theorem dX11_expr_323 : decode cX11_expr 323 = .ok (.invokevirtual 386, 3) := by decide +kernel
theorem dX11_expr_326 : decode cX11_expr 326 = .ok (.iconst 1, 1) := by decide +kernel
theorem dX11_expr_327 : decode cX11_expr 327 = .ok (.ireturn, 1) := by decide +kernel
theorem dX11_cond_0 : decode cX11_cond 0 = .ok (.aload_n 0, 1) := by decide +kernel
theorem dX11_cond_1 : decode cX11_cond 1 = .ok (.aload_n 0, 1) := by decide +kernel
theorem dX11_cond_2 : decode cX11_cond 2 = .ok (.getfield 91, 3) := by decide +kernel
theorem dX11_cond_5 : decode cX11_cond 5 = .ok (.aload_n 0, 1) := by decide +kernel
theorem dX11_cond_6 : decode cX11_cond 6 = .ok (.getfield 362, 3) := by decide +kernel
theorem dX11_cond_9 : decode cX11_cond 9 = .ok (.iaload, 1) := by decide +kernel
theorem dX11_cond_10 : decode cX11_cond 10 = .ok (.putfield 389, 3) := by decide +kernel
theorem dX11_cond_13 : decode cX11_cond 13 = .ok (.iconst 0, 1) := by decide +kernel
theorem dX11_cond_14 : decode cX11_cond 14 = .ok (.istore_n 1, 1) := by decide +kernel
theorem dX11_cond_15 : decode cX11_cond 15 = .ok (.iconst 1, 1) := by decide +kernel
theorem dX11_cond_16 : decode cX11_cond 16 = .ok (.istore_n 2, 1) := by decide +kernel
theorem dX11_cond_17 : decode cX11_cond 17 = .ok (.iload_n 2, 1) := by decide +kernel
theorem dX11_cond_18 : decode cX11_cond 18 = .ok (.ifCond .eq 266, 3) := by decide +kernel
theorem dX11_cond_21 : decode cX11_cond 21 = .ok (.aload_n 0, 1) := by decide +kernel
theorem dX11_cond_22 : decode cX11_cond 22 = .ok (.getfield 91, 3) := by decide +kernel
theorem dX11_cond_25 : decode cX11_cond 25 = .ok (.aload_n 0, 1) := by decide +kernel
theorem dX11_cond_26 : decode cX11_cond 26 = .ok (.getfield 362, 3) := by decide +kernel
theorem dX11_cond_29 : decode cX11_cond 29 = .ok (.iaload, 1) := by decide +kernel
theorem dX11_cond_30 : decode cX11_cond 30 = .ok (.istore_n 3, 1) := by decide +kernel
theorem dX11_cond_31 : decode cX11_cond 31 = .ok (.iconst 0, 1) := by decide +kernel
theorem dX11_cond_32 : decode cX11_cond 32 = .ok (.istore 4, 2) := by decide +kernel
theorem dX11_cond_34 : decode cX11_cond 34 = .ok (.aload_n 0, 1) := by decide +kernel
theorem dX11_cond_35 : decode cX11_cond 35 = .ok (.bipush 10, 2) := by decide +kernel
theorem dX11_cond_37 : decode cX11_cond 37 = .ok (.invokevirtual 392, 3) := by decide +kernel
theorem dX11_cond_40 : decode cX11_cond 40 = .ok (.ifCond .eq 27, 3) := by decide +kernel
theorem dX11_cond_43 : decode cX11_cond 43 = .ok (.aload_n 0, 1) := by decide +kernel
theorem dX11_cond_44 : decode cX11_cond 44 = .ok (.invokevirtual 348, 3) := by decide +kernel
theorem dX11_cond_47 : decode cX11_cond 47 = .ok (.ifCond .ne 5, 3) := by decide +kernel
theorem dX11_cond_50 : decode cX11_cond 50 = .ok (.iconst 0, 1) := by decide +kernel
theorem dX11_cond_51 : decode cX11_cond 51 = .ok (.ireturn, 1) := by decide +kernel
theorem dX11_cond_52 : decode cX11_cond 52 = .ok (.iload 4, 2) := by decide +kernel
theorem dX11_cond_54 : decode cX11_cond 54 = .ok (.ifCond .ne 7, 3) := by decide +kernel
theorem dX11_cond_57 : decode cX11_cond 57 = .ok (.iconst 1, 1) := by decide +kernel
theorem dX11_cond_58 : decode cX11_cond 58 = .ok (.goto 4, 3) := by decide +kernel
theorem dX11_cond_61 : decode cX11_cond 61 = .ok (.iconst 0, 1) := by decide +kernel
theorem dX11_cond_62 : decode cX11_cond 62 = .ok (.istore 4, 2) := by decide +kernel
theorem dX11_cond_64 : decode cX11_cond 64 = .ok (.goto (-30), 3) := by decide +kernel
theorem dX11_cond_67 : decode cX11_cond 67 = .ok (.aload_n 0, 1) := by decide +kernel
theorem dX11_cond_68 : decode cX11_cond 68 = .ok (.invokevirtual 395, 3) := by decide +kernel
theorem dX11_cond_71 : decode cX11_cond 71 = .ok (.ifCond .ne 5, 3) := by decide +kernel
theorem dX11_cond_74 : decode cX11_cond 74 = .ok (.iconst 0, 1) := by decide +kernel
theorem dX11_cond_75 : decode cX11_cond 75 = .ok (.ireturn, 1) := by decide +kernel
theorem dX11_cond_76 : decode cX11_cond 76 = .ok (.aload_n 0, 1) := by decide +kernel
theorem dX11_cond_77 : decode cX11_cond 77 = .ok (.getfield 100, 3) := by decide +kernel
theorem dX11_cond_80 : decode cX11_cond 80 = .ok (.iload_n 3, 1) := by decide +kernel
theorem dX11_cond_81 : decode cX11_cond 81 = .ok (.aload_n 0, 1) := by decide +kernel
theorem dX11_cond_82 : decode cX11_cond 82 = .ok (.getfield 374, 3) := by decide +kernel
theorem dX11_cond_85 : decode cX11_cond 85 = .ok (.iastore, 1) := by decide +kernel
theorem dX11_cond_86 : decode cX11_cond 86 = .ok (.aload_n 0, 1) := by decide +kernel
theorem dX11_cond_87 : decode cX11_cond 87 = .ok (.getfield 103, 3) := by decide +kernel
theorem dX11_cond_90 : decode cX11_cond 90 = .ok (.iload_n 3, 1) := by decide +kernel
theorem dX11_cond_91 : decode cX11_cond 91 = .ok (.aload_n 0, 1) := by decide +kernel
theorem dX11_cond_92 : decode cX11_cond 92 = .ok (.getfield 82, 3) := by decide +kernel
theorem dX11_cond_95 : decode cX11_cond 95 = .ok (.aload_n 0, 1) := by decide +kernel
theorem dX11_cond_96 : decode cX11_cond 96 = .ok (.getfield 362, 3) := by decide +kernel
theorem dX11_cond_99 : decode cX11_cond 99 = .ok (.iaload, 1) := by decide +kernel
theorem dX11_cond_100 : decode cX11_cond 100 = .ok (.iastore, 1) := by decide +kernel
theorem dX11_cond_101 : decode cX11_cond 101 = .ok (.aload_n 0, 1) := by decide +kernel
theorem dX11_cond_102 : decode cX11_cond 102 = .ok (.sipush 300, 3) := by decide +kernel
theorem dX11_cond_105 : decode cX11_cond 105 = .ok (.invokevirtual 377, 3) := by decide +kernel
theorem dX11_cond_108 : decode cX11_cond 108 = .ok (.ifCond .ne 32, 3) := by decide +kernel
theorem dX11_cond_111 : decode cX11_cond 111 = .ok (.aload_n 0, 1) := by decide +kernel
theorem dX11_cond_112 : decode cX11_cond 112 = .ok (.sipush 301, 3) := by decide +kernel
theorem dX11_cond_115 : decode cX11_cond 115 = .ok (.invokevirtual 377, 3) := by decide +kernel
theorem dX11_cond_118 : decode cX11_cond 118 = .ok (.ifCond .ne 22, 3) := by decide +kernel
theorem dX11_cond_121 : decode cX11_cond 121 = .ok (.aload_n 0, 1) := by decide +kernel
theorem dX11_cond_122 : decode cX11_cond 122 = .ok (.sipush 302, 3) := by decide +kernel
theorem dX11_cond_125 : decode cX11_cond 125 = .ok (.invokevirtual 377, 3) := by decide +kernel
theorem dX11_cond_128 : decode cX11_cond 128 = .ok (.ifCond .ne 12, 3) := by decide +kernel
theorem dX11_cond_131 : decode cX11_cond 131 = .ok (.aload_n 0, 1) := by decide +kernel
theorem dX11_cond_132 : decode cX11_cond 132 = .ok (.bipush 60, 2) := by decide +kernel
theorem dX11_cond_134 : decode cX11_cond 134 = .ok (.invokevirtual 377, 3) := by decide +kernel
theorem dX11_cond_137 : decode cX11_cond 137 = .ok (.ifCond .eq 7, 3) := by decide +kernel
theorem dX11_cond_140 : decode cX11_cond 140 = .ok (.iconst 1, 1) := by decide +kernel
theorem dX11_cond_141 : decode cX11_cond 141 = .ok (.goto 4, 3) := by decide +kernel
theorem dX11_cond_144 : decode cX11_cond 144 = .ok (.iconst 0, 1) := by decide +kernel
theorem dX11_cond_145 : decode cX11_cond 145 = .ok (.istore 5, 2) := by decide +kernel
theorem dX11_cond_147 : decode cX11_cond 147 = .ok (.iload 5, 2) := by decide +kernel
theorem dX11_cond_149 : decode cX11_cond 149 = .ok (.ifCond .ne 9, 3) := by decide +kernel
theorem dX11_cond_152 : decode cX11_cond 152 = .ok (.aload_n 0, 1) := by decide +kernel
theorem dX11_cond_153 : decode cX11_cond 153 = .ok (.iconst 1, 1) := by decide +kernel
theorem dX11_cond_154 : decode cX11_cond 154 = .ok (.invokevirtual 345, 3) := by decide +kernel
theorem dX11_cond_157 : decode cX11_cond 157 = .ok (.ireturn, 1) := by decide +kernel
theorem dX11_cond_158 : decode cX11_cond 158 = .ok (.aload_n 0, 1) := by decide +kernel
theorem dX11_cond_159 : decode cX11_cond 159 = .ok (.getfield 97, 3) := by decide +kernel
theorem dX11_cond_162 : decode cX11_cond 162 = .ok (.iload_n 3, 1) := by decide +kernel
theorem dX11_cond_163 : decode cX11_cond 163 = .ok (.aload_n 0, 1) := by decide +kernel
theorem dX11_cond_164 : decode cX11_cond 164 = .ok (.getfield 19, 3) := by decide +kernel
theorem dX11_cond_167 : decode cX11_cond 167 = .ok (.aload_n 0, 1) := by decide +kernel
theorem dX11_cond_168 : decode cX11_cond 168 = .ok (.getfield 336, 3) := by decide +kernel
theorem dX11_cond_171 : decode cX11_cond 171 = .ok (.iaload, 1) := by decide +kernel
theorem dX11_cond_172 : decode cX11_cond 172 = .ok (.iastore, 1) := by decide +kernel
theorem dX11_cond_173 : decode cX11_cond 173 = .ok (.aload_n 0, 1) := by decide +kernel
theorem dX11_cond_174 : decode cX11_cond 174 = .ok (.invokevirtual 348, 3) := by decide +kernel
theorem dX11_cond_177 : decode cX11_cond 177 = .ok (.ifCond .eq 10, 3) := by decide +kernel
theorem dX11_cond_180 : decode cX11_cond 180 = .ok (.aload_n 0, 1) := by decide +kernel
theorem dX11_cond_181 : decode cX11_cond 181 = .ok (.invokevirtual 395, 3) := by decide +kernel
theorem dX11_cond_184 : decode cX11_cond 184 = .ok (.ifCond .ne 5, 3) := by decide +kernel
theorem dX11_cond_187 : decode cX11_cond 187 = .ok (.iconst 0, 1) := by decide +kernel
theorem dX11_cond_188 : decode cX11_cond 188 = .ok (.ireturn, 1) := by decide +kernel
theorem dX11_cond_189 : decode cX11_cond 189 = .ok (.aload_n 0, 1) := by decide +kernel
theorem dX11_cond_190 : decode cX11_cond 190 = .ok (.getfield 106, 3) := by decide +kernel
theorem dX11_cond_193 : decode cX11_cond 193 = .ok (.iload_n 3, 1) := by decide +kernel
theorem dX11_cond_194 : decode cX11_cond 194 = .ok (.aload_n 0, 1) := by decide +kernel
theorem dX11_cond_195 : decode cX11_cond 195 = .ok (.getfield 82, 3) := by decide +kernel
theorem dX11_cond_198 : decode cX11_cond 198 = .ok (.aload_n 0, 1) := by decide +kernel
theorem dX11_cond_199 : decode cX11_cond 199 = .ok (.getfield 362, 3) := by decide +kernel
theorem dX11_cond_202 : decode cX11_cond 202 = .ok (.iaload, 1) := by decide +kernel
theorem dX11_cond_203 : decode cX11_cond 203 = .ok (.iastore, 1) := by decide +kernel
theorem dX11_cond_204 : decode cX11_cond 204 = .ok (.aload_n 0, 1) := by decide +kernel
theorem dX11_cond_205 : decode cX11_cond 205 = .ok (.getfield 94, 3) := by decide +kernel
theorem dX11_cond_208 : decode cX11_cond 208 = .ok (.iload_n 3, 1) := by decide +kernel
theorem dX11_cond_209 : decode cX11_cond 209 = .ok (.iload 4, 2) := by decide +kernel
theorem dX11_cond_211 : decode cX11_cond 211 = .ok (.bastore, 1) := by decide +kernel
theorem dX11_cond_212 : decode cX11_cond 212 = .ok (.aload_n 0, 1) := by decide +kernel
theorem dX11_cond_213 : decode cX11_cond 213 = .ok (.getfield 109, 3) := by decide +kernel
theorem dX11_cond_216 : decode cX11_cond 216 = .ok (.iload_n 3, 1) := by decide +kernel
theorem dX11_cond_217 : decode cX11_cond 217 = .ok (.iload_n 1, 1) := by decide +kernel
theorem dX11_cond_218 : decode cX11_cond 218 = .ok (.iastore, 1) := by decide +kernel
theorem dX11_cond_219 : decode cX11_cond 219 = .ok (.aload_n 0, 1) := by decide +kernel
theorem dX11_cond_220 : decode cX11_cond 220 = .ok (.getfield 91, 3) := by decide +kernel
theorem dX11_cond_223 : decode cX11_cond 223 = .ok (.aload_n 0, 1) := by decide +kernel
theorem dX11_cond_224 : decode cX11_cond 224 = .ok (.getfield 362, 3) := by decide +kernel
theorem dX11_cond_227 : decode cX11_cond 227 = .ok (.dup2, 1) := by decide +kernel
theorem dX11_cond_228 : decode cX11_cond 228 = .ok (.iaload, 1) := by decide +kernel
theorem dX11_cond_229 : decode cX11_cond 229 = .ok (.iconst 1, 1) := by decide +kernel
theorem dX11_cond_230 : decode cX11_cond 230 = .ok (.iadd, 1) := by decide +kernel
theorem dX11_cond_231 : decode cX11_cond 231 = .ok (.iastore, 1) := by decide +kernel
theorem dX11_cond_232 : decode cX11_cond 232 = .ok (.aload_n 0, 1) := by decide +kernel
theorem dX11_cond_233 : decode cX11_cond 233 = .ok (.bipush 11, 2) := by decide +kernel
theorem dX11_cond_235 : decode cX11_cond 235 = .ok (.invokevirtual 392, 3) := by decide +kernel
theorem dX11_cond_238 : decode cX11_cond 238 = .ok (.ifCond .ne 12, 3) := by decide +kernel
theorem dX11_cond_241 : decode cX11_cond 241 = .ok (.aload_n 0, 1) := by decide +kernel
theorem dX11_cond_242 : decode cX11_cond 242 = .ok (.bipush 12, 2) := by decide +kernel
theorem dX11_cond_244 : decode cX11_cond 244 = .ok (.invokevirtual 392, 3) := by decide +kernel
theorem dX11_cond_247 : decode cX11_cond 247 = .ok (.ifCond .eq 7, 3) := by decide +kernel
theorem dX11_cond_250 : decode cX11_cond 250 = .ok (.iconst 1, 1) := by decide +kernel
theorem dX11_cond_251 : decode cX11_cond 251 = .ok (.goto 4, 3) := by decide +kernel
theorem dX11_cond_254 : decode cX11_cond 254 = .ok (.iconst 0, 1) := by decide +kernel
theorem dX11_cond_255 : decode cX11_cond 255 = .ok (.istore_n 2, 1) := by decide +kernel
theorem dX11_cond_256 : decode cX11_cond 256 = .ok (.aload_n 0, 1) := by decide +kernel
theorem dX11_cond_257 : decode cX11_cond 257 = .ok (.bipush 12, 2) := by decide +kernel
theorem dX11_cond_259 : decode cX11_cond 259 = .ok (.invokevirtual 392, 3) := by decide +kernel
theorem dX11_cond_262 : decode cX11_cond 262 = .ok (.ifCond .eq 6, 3) := by decide +kernel
theorem dX11_cond_265 : decode cX11_cond 265 = .ok (.iinc 1 1, 3) := by decide +kernel
theorem dX11_cond_268 : decode cX11_cond 268 = .ok (.iload_n 2, 1) := by decide +kernel
theorem dX11_cond_269 : decode cX11_cond 269 = .ok (.ifCond .eq 12, 3) := by decide +kernel
theorem dX11_cond_272 : decode cX11_cond 272 = .ok (.aload_n 0, 1) := by decide +kernel
theorem dX11_cond_273 : decode cX11_cond 273 = .ok (.invokevirtual 348, 3) := by decide +kernel
theorem dX11_cond_276 : decode cX11_cond 276 = .ok (.ifCond .ne 5, 3) := by decide +kernel
theorem dX11_cond_279 : decode cX11_cond 279 = .ok (.iconst 0, 1) := by decide +kernel
theorem dX11_cond_280 : decode cX11_cond 280 = .ok (.ireturn, 1) := by decide +kernel
theorem dX11_cond_281 : decode cX11_cond 281 = .ok (.goto (-264), 3) := by decide +kernel
theorem dX11_cond_284 : decode cX11_cond 284 = .ok (.iconst 1, 1) := by decide +kernel
theorem dX11_cond_285 : decode cX11_cond 285 = .ok (.ireturn, 1) := by decide +kernel
theorem dX11_begin_0 : decode cX11_begin 0 = .ok (.aload_n 0, 1) := by decide +kernel
theorem dX11_begin_1 : decode cX11_begin 1 = .ok (.getfield 33, 3) := by decide +kernel
theorem dX11_begin_4 : decode cX11_begin 4 = .ok (.bipush 7, 2) := by decide +kernel
theorem dX11_begin_6 : decode cX11_begin 6 = .ok (.iload_n 1, 1) := by decide +kernel
theorem dX11_begin_7 : decode cX11_begin 7 = .ok (.imul, 1) := by decide +kernel
theorem dX11_begin_8 : decode cX11_begin 8 = .ok (.bipush 20, 2) := by decide +kernel
theorem dX11_begin_10 : decode cX11_begin 10 = .ok (.iastore, 1) := by decide +kernel
theorem dX11_begin_11 : decode cX11_begin 11 = .ok (.aload_n 0, 1) := by decide +kernel
theorem dX11_begin_12 : decode cX11_begin 12 = .ok (.getfield 33, 3) := by decide +kernel
theorem dX11_begin_15 : decode cX11_begin 15 = .ok (.bipush 7, 2) := by decide +kernel
theorem dX11_begin_17 : decode cX11_begin 17 = .ok (.iload_n 1, 1) := by decide +kernel
theorem dX11_begin_18 : decode cX11_begin 18 = .ok (.imul, 1) := by decide +kernel
theorem dX11_begin_19 : decode cX11_begin 19 = .ok (.iconst 1, 1) := by decide +kernel
theorem dX11_begin_20 : decode cX11_begin 20 = .ok (.iadd, 1) := by decide +kernel
theorem dX11_begin_21 : decode cX11_begin 21 = .ok (.bipush 45, 2) := by decide +kernel
theorem dX11_begin_23 : decode cX11_begin 23 = .ok (.iastore, 1) := by decide +kernel
theorem dX11_begin_24 : decode cX11_begin 24 = .ok (.aload_n 0, 1) := by decide +kernel
theorem dX11_begin_25 : decode cX11_begin 25 = .ok (.getfield 33, 3) := by decide +kernel
theorem dX11_begin_28 : decode cX11_begin 28 = .ok (.bipush 7, 2) := by decide +kernel
theorem dX11_begin_30 : decode cX11_begin 30 = .ok (.iload_n 1, 1) := by decide +kernel
theorem dX11_begin_31 : decode cX11_begin 31 = .ok (.imul, 1) := by decide +kernel
theorem dX11_begin_32 : decode cX11_begin 32 = .ok (.iconst 2, 1) := by decide +kernel
theorem dX11_begin_33 : decode cX11_begin 33 = .ok (.iadd, 1) := by decide +kernel
theorem dX11_begin_34 : decode cX11_begin 34 = .ok (.sipush 1000, 3) := by decide +kernel
theorem dX11_begin_37 : decode cX11_begin 37 = .ok (.iastore, 1) := by decide +kernel
theorem dX11_begin_38 : decode cX11_begin 38 = .ok (.aload_n 0, 1) := by decide +kernel
theorem dX11_begin_39 : decode cX11_begin 39 = .ok (.getfield 33, 3) := by decide +kernel
theorem dX11_begin_42 : decode cX11_begin 42 = .ok (.bipush 7, 2) := by decide +kernel
theorem dX11_begin_44 : decode cX11_begin 44 = .ok (.iload_n 1, 1) := by decide +kernel
theorem dX11_begin_45 : decode cX11_begin 45 = .ok (.imul, 1) := by decide +kernel
theorem dX11_begin_46 : decode cX11_begin 46 = .ok (.iconst 3, 1) := by decide +kernel
theorem dX11_begin_47 : decode cX11_begin 47 = .ok (.iadd, 1) := by decide +kernel
theorem dX11_begin_48 : decode cX11_begin 48 = .ok (.iconst 5, 1) := by decide +kernel
theorem dX11_begin_49 : decode cX11_begin 49 = .ok (.iastore, 1) := by decide +kernel
theorem dX11_begin_50 : decode cX11_begin 50 = .ok (.aload_n 0, 1) := by decide +kernel
theorem dX11_begin_51 : decode cX11_begin 51 = .ok (.getfield 33, 3) := by decide +kernel
theorem dX11_begin_54 : decode cX11_begin 54 = .ok (.bipush 7, 2) := by decide +kernel
theorem dX11_begin_56 : decode cX11_begin 56 = .ok (.iload_n 1, 1) := by decide +kernel
theorem dX11_begin_57 : decode cX11_begin 57 = .ok (.imul, 1) := by decide +kernel
theorem dX11_begin_58 : decode cX11_begin 58 = .ok (.iconst 4, 1) := by decide +kernel
theorem dX11_begin_59 : decode cX11_begin 59 = .ok (.iadd, 1) := by decide +kernel
theorem dX11_begin_60 : decode cX11_begin 60 = .ok (.bipush 30, 2) := by decide +kernel
theorem dX11_begin_62 : decode cX11_begin 62 = .ok (.iastore, 1) := by decide +kernel
theorem dX11_begin_63 : decode cX11_begin 63 = .ok (.aload_n 0, 1) := by decide +kernel
theorem dX11_begin_64 : decode cX11_begin 64 = .ok (.getfield 33, 3) := by decide +kernel
theorem dX11_begin_67 : decode cX11_begin 67 = .ok (.bipush 7, 2) := by decide +kernel
theorem dX11_begin_69 : decode cX11_begin 69 = .ok (.iload_n 1, 1) := by decide +kernel
theorem dX11_begin_70 : decode cX11_begin 70 = .ok (.imul, 1) := by decide +kernel
theorem dX11_begin_71 : decode cX11_begin 71 = .ok (.iconst 5, 1) := by decide +kernel
theorem dX11_begin_72 : decode cX11_begin 72 = .ok (.iadd, 1) := by decide +kernel
theorem dX11_begin_73 : decode cX11_begin 73 = .ok (.bipush 100, 2) := by decide +kernel
theorem dX11_begin_75 : decode cX11_begin 75 = .ok (.iastore, 1) := by decide +kernel
theorem dX11_begin_76 : decode cX11_begin 76 = .ok (.aload_n 0, 1) := by decide +kernel
theorem dX11_begin_77 : decode cX11_begin 77 = .ok (.getfield 33, 3) := by decide +kernel
theorem dX11_begin_80 : decode cX11_begin 80 = .ok (.bipush 7, 2) := by decide +kernel
theorem dX11_begin_82 : decode cX11_begin 82 = .ok (.iload_n 1, 1) := by decide +kernel
theorem dX11_begin_83 : decode cX11_begin 83 = .ok (.imul, 1) := by decide +kernel
theorem dX11_begin_84 : decode cX11_begin 84 = .ok (.bipush 6, 2) := by decide +kernel
theorem dX11_begin_86 : decode cX11_begin 86 = .ok (.iadd, 1) := by decide +kernel
theorem dX11_begin_87 : decode cX11_begin 87 = .ok (.iconst 2, 1) := by decide +kernel
theorem dX11_begin_88 : decode cX11_begin 88 = .ok (.iastore, 1) := by decide +kernel
theorem dX11_begin_89 : decode cX11_begin 89 = .ok (.aload_n 0, 1) := by decide +kernel
theorem dX11_begin_90 : decode cX11_begin 90 = .ok (.getfield 36, 3) := by decide +kernel
theorem dX11_begin_93 : decode cX11_begin 93 = .ok (.iload_n 1, 1) := by decide +kernel
theorem dX11_begin_94 : decode cX11_begin 94 = .ok (.iconst 0, 1) := by decide +kernel
theorem dX11_begin_95 : decode cX11_begin 95 = .ok (.iastore, 1) := by decide +kernel
theorem dX11_begin_96 : decode cX11_begin 96 = .ok (.aload_n 0, 1) := by decide +kernel
theorem dX11_begin_97 : decode cX11_begin 97 = .ok (.getfield 39, 3) := by decide +kernel
theorem dX11_begin_100 : decode cX11_begin 100 = .ok (.iload_n 1, 1) := by decide +kernel
theorem dX11_begin_101 : decode cX11_begin 101 = .ok (.iconst 0, 1) := by decide +kernel
theorem dX11_begin_102 : decode cX11_begin 102 = .ok (.iastore, 1) := by decide +kernel
theorem dX11_begin_103 : decode cX11_begin 103 = .ok (.aload_n 0, 1) := by decide +kernel
theorem dX11_begin_104 : decode cX11_begin 104 = .ok (.getfield 58, 3) := by decide +kernel
theorem dX11_begin_107 : decode cX11_begin 107 = .ok (.iload_n 1, 1) := by decide +kernel
theorem dX11_begin_108 : decode cX11_begin 108 = .ok (.iconst 0, 1) := by decide +kernel
theorem dX11_begin_109 : decode cX11_begin 109 = .ok (.iastore, 1) := by decide +kernel
theorem dX11_begin_110 : decode cX11_begin 110 = .ok (.aload_n 0, 1) := by decide +kernel
theorem dX11_begin_111 : decode cX11_begin 111 = .ok (.getfield 67, 3) := by decide +kernel
theorem dX11_begin_114 : decode cX11_begin 114 = .ok (.iload_n 1, 1) := by decide +kernel
theorem dX11_begin_115 : decode cX11_begin 115 = .ok (.iconst 0, 1) := by decide +kernel
theorem dX11_begin_116 : decode cX11_begin 116 = .ok (.iastore, 1) := by decide +kernel
theorem dX11_begin_117 : decode cX11_begin 117 = .ok (.aload_n 0, 1) := by decide +kernel
theorem dX11_begin_118 : decode cX11_begin 118 = .ok (.getfield 73, 3) := by decide +kernel
theorem dX11_begin_121 : decode cX11_begin 121 = .ok (.iload_n 1, 1) := by decide +kernel
theorem dX11_begin_122 : decode cX11_begin 122 = .ok (.iconst 0, 1) := by decide +kernel
theorem dX11_begin_123 : decode cX11_begin 123 = .ok (.iastore, 1) := by decide +kernel
theorem dX11_begin_124 : decode cX11_begin 124 = .ok (.aload_n 0, 1) := by decide +kernel
theorem dX11_begin_125 : decode cX11_begin 125 = .ok (.getfield 82, 3) := by decide +kernel
theorem dX11_begin_128 : decode cX11_begin 128 = .ok (.iload_n 1, 1) := by decide +kernel
theorem dX11_begin_129 : decode cX11_begin 129 = .ok (.sipush 500, 3) := by decide +kernel
theorem dX11_begin_132 : decode cX11_begin 132 = .ok (.iload_n 1, 1) := by decide +kernel
theorem dX11_begin_133 : decode cX11_begin 133 = .ok (.imul, 1) := by decide +kernel
theorem dX11_begin_134 : decode cX11_begin 134 = .ok (.iastore, 1) := by decide +kernel
theorem dX11_begin_135 : decode cX11_begin 135 = .ok (.aload_n 0, 1) := by decide +kernel
theorem dX11_begin_136 : decode cX11_begin 136 = .ok (.getfield 91, 3) := by decide +kernel
theorem dX11_begin_139 : decode cX11_begin 139 = .ok (.iload_n 1, 1) := by decide +kernel
theorem dX11_begin_140 : decode cX11_begin 140 = .ok (.sipush 200, 3) := by decide +kernel
theorem dX11_begin_143 : decode cX11_begin 143 = .ok (.iload_n 1, 1) := by decide +kernel
theorem dX11_begin_144 : decode cX11_begin 144 = .ok (.imul, 1) := by decide +kernel
theorem dX11_begin_145 : decode cX11_begin 145 = .ok (.iastore, 1) := by decide +kernel
theorem dX11_begin_146 : decode cX11_begin 146 = .ok (.aload_n 0, 1) := by decide +kernel
theorem dX11_begin_147 : decode cX11_begin 147 = .ok (.iconst 0, 1) := by decide +kernel
theorem dX11_begin_148 : decode cX11_begin 148 = .ok (.putfield 398, 3) := by decide +kernel
theorem dX11_begin_151 : decode cX11_begin 151 = .ok (.return_, 1) := by decide +kernel
theorem dX11_placeAt_0 : decode cX11_placeAt 0 = .ok (.iconst 0, 1) := by decide +kernel
theorem dX11_placeAt_1 : decode cX11_placeAt 1 = .ok (.istore_n 2, 1) := by decide +kernel
theorem dX11_placeAt_2 : decode cX11_placeAt 2 = .ok (.iload_n 2, 1) := by decide +kernel
theorem dX11_placeAt_3 : decode cX11_placeAt 3 = .ok (.aload_n 0, 1) := by decide +kernel
theorem dX11_placeAt_4 : decode cX11_placeAt 4 = .ok (.getfield 398, 3) := by decide +kernel
theorem dX11_placeAt_7 : decode cX11_placeAt 7 = .ok (.if_icmp .ge 41, 3) := by decide +kernel
theorem dX11_placeAt_10 : decode cX11_placeAt 10 = .ok (.aload_n 0, 1) := by decide +kernel
theorem dX11_placeAt_11 : decode cX11_placeAt 11 = .ok (.getfield 112, 3) := by decide +kernel
theorem dX11_placeAt_14 : decode cX11_placeAt 14 = .ok (.iload_n 2, 1) := by decide +kernel
theorem dX11_placeAt_15 : decode cX11_placeAt 15 = .ok (.laload, 1) := by decide +kernel
theorem dX11_placeAt_16 : decode cX11_placeAt 16 = .ok (.aload_n 0, 1) := by decide +kernel
theorem dX11_placeAt_17 : decode cX11_placeAt 17 = .ok (.getfield 22, 3) := by decide +kernel
theorem dX11_placeAt_20 : decode cX11_placeAt 20 = .ok (.iload_n 1, 1) := by decide +kernel
theorem dX11_placeAt_21 : decode cX11_placeAt 21 = .ok (.laload, 1) := by decide +kernel
theorem dX11_placeAt_22 : decode cX11_placeAt 22 = .ok (.lcmp, 1) := by decide +kernel
theorem dX11_placeAt_23 : decode cX11_placeAt 23 = .ok (.ifCond .ne 19, 3) := by decide +kernel
theorem dX11_placeAt_26 : decode cX11_placeAt 26 = .ok (.aload_n 0, 1) := by decide +kernel
theorem dX11_placeAt_27 : decode cX11_placeAt 27 = .ok (.getfield 115, 3) := by decide +kernel
theorem dX11_placeAt_30 : decode cX11_placeAt 30 = .ok (.iload_n 2, 1) := by decide +kernel
theorem dX11_placeAt_31 : decode cX11_placeAt 31 = .ok (.iaload, 1) := by decide +kernel
theorem dX11_placeAt_32 : decode cX11_placeAt 32 = .ok (.ifCond .lt 10, 3) := by decide +kernel
theorem dX11_placeAt_35 : decode cX11_placeAt 35 = .ok (.aload_n 0, 1) := by decide +kernel
theorem dX11_placeAt_36 : decode cX11_placeAt 36 = .ok (.getfield 115, 3) := by decide +kernel
theorem dX11_placeAt_39 : decode cX11_placeAt 39 = .ok (.iload_n 2, 1) := by decide +kernel
theorem dX11_placeAt_40 : decode cX11_placeAt 40 = .ok (.iaload, 1) := by decide +kernel
theorem dX11_placeAt_41 : decode cX11_placeAt 41 = .ok (.ireturn, 1) := by decide +kernel
theorem dX11_placeAt_42 : decode cX11_placeAt 42 = .ok (.iinc 2 1, 3) := by decide +kernel
theorem dX11_placeAt_45 : decode cX11_placeAt 45 = .ok (.goto (-43), 3) := by decide +kernel
theorem dX11_placeAt_48 : decode cX11_placeAt 48 = .ok (.aload_n 0, 1) := by decide +kernel
theorem dX11_placeAt_49 : decode cX11_placeAt 49 = .ok (.iconst 4, 1) := by decide +kernel
theorem dX11_placeAt_50 : decode cX11_placeAt 50 = .ok (.iload_n 1, 1) := by decide +kernel
theorem dX11_placeAt_51 : decode cX11_placeAt 51 = .ok (.invokevirtual 358, 3) := by decide +kernel
theorem dX11_placeAt_54 : decode cX11_placeAt 54 = .ok (.iconst (-1), 1) := by decide +kernel
theorem dX11_placeAt_55 : decode cX11_placeAt 55 = .ok (.ireturn, 1) := by decide +kernel
theorem dX11_names_0 : decode cX11_names 0 = .ok (.aload_n 0, 1) := by decide +kernel
theorem dX11_names_1 : decode cX11_names 1 = .ok (.getfield 336, 3) := by decide +kernel
theorem dX11_names_4 : decode cX11_names 4 = .ok (.istore_n 2, 1) := by decide +kernel
theorem dX11_names_5 : decode cX11_names 5 = .ok (.aload_n 0, 1) := by decide +kernel
theorem dX11_names_6 : decode cX11_names 6 = .ok (.iconst 0, 1) := by decide +kernel
theorem dX11_names_7 : decode cX11_names 7 = .ok (.invokevirtual 352, 3) := by decide +kernel
theorem dX11_names_10 : decode cX11_names 10 = .ok (.ifCond .ne 5, 3) := by decide +kernel
theorem dX11_names_13 : decode cX11_names 13 = .ok (.iconst 0, 1) := by decide +kernel
theorem dX11_names_14 : decode cX11_names 14 = .ok (.ireturn, 1) := by decide +kernel
theorem dX11_names_15 : decode cX11_names 15 = .ok (.iconst 0, 1) := by decide +kernel
theorem dX11_names_16 : decode cX11_names 16 = .ok (.istore_n 3, 1) := by decide +kernel
theorem dX11_names_17 : decode cX11_names 17 = .ok (.iload_n 3, 1) := by decide +kernel
theorem dX11_names_18 : decode cX11_names 18 = .ok (.aload_n 0, 1) := by decide +kernel
theorem dX11_names_19 : decode cX11_names 19 = .ok (.getfield 398, 3) := by decide +kernel
theorem dX11_names_22 : decode cX11_names 22 = .ok (.if_icmp .ge 31, 3) := by decide +kernel
theorem dX11_names_25 : decode cX11_names 25 = .ok (.aload_n 0, 1) := by decide +kernel
theorem dX11_names_26 : decode cX11_names 26 = .ok (.getfield 112, 3) := by decide +kernel
theorem dX11_names_29 : decode cX11_names 29 = .ok (.iload_n 3, 1) := by decide +kernel
theorem dX11_names_30 : decode cX11_names 30 = .ok (.laload, 1) := by decide +kernel
theorem dX11_names_31 : decode cX11_names 31 = .ok (.aload_n 0, 1) := by decide +kernel
theorem dX11_names_32 : decode cX11_names 32 = .ok (.getfield 22, 3) := by decide +kernel
theorem dX11_names_35 : decode cX11_names 35 = .ok (.iload_n 2, 1) := by decide +kernel
theorem dX11_names_36 : decode cX11_names 36 = .ok (.laload, 1) := by decide +kernel
theorem dX11_names_37 : decode cX11_names 37 = .ok (.lcmp, 1) := by decide +kernel
theorem dX11_names_38 : decode cX11_names 38 = .ok (.ifCond .ne 9, 3) := by decide +kernel
theorem dX11_names_41 : decode cX11_names 41 = .ok (.aload_n 0, 1) := by decide +kernel
theorem dX11_names_42 : decode cX11_names 42 = .ok (.iconst 3, 1) := by decide +kernel
theorem dX11_names_43 : decode cX11_names 43 = .ok (.iload_n 2, 1) := by decide +kernel
theorem dX11_names_44 : decode cX11_names 44 = .ok (.invokevirtual 358, 3) := by decide +kernel
theorem dX11_names_47 : decode cX11_names 47 = .ok (.iinc 3 1, 3) := by decide +kernel
theorem dX11_names_50 : decode cX11_names 50 = .ok (.goto (-33), 3) := by decide +kernel
theorem dX11_names_53 : decode cX11_names 53 = .ok (.aload_n 0, 1) := by decide +kernel
theorem dX11_names_54 : decode cX11_names 54 = .ok (.getfield 112, 3) := by decide +kernel
theorem dX11_names_57 : decode cX11_names 57 = .ok (.aload_n 0, 1) := by decide +kernel
theorem dX11_names_58 : decode cX11_names 58 = .ok (.getfield 398, 3) := by decide +kernel
theorem dX11_names_61 : decode cX11_names 61 = .ok (.aload_n 0, 1) := by decide +kernel
theorem dX11_names_62 : decode cX11_names 62 = .ok (.getfield 22, 3) := by decide +kernel
theorem dX11_names_65 : decode cX11_names 65 = .ok (.iload_n 2, 1) := by decide +kernel
theorem dX11_names_66 : decode cX11_names 66 = .ok (.laload, 1) := by decide +kernel
theorem dX11_names_67 : decode cX11_names 67 = .ok (.lastore, 1) := by decide +kernel
theorem dX11_names_68 : decode cX11_names 68 = .ok (.aload_n 0, 1) := by decide +kernel
theorem dX11_names_69 : decode cX11_names 69 = .ok (.getfield 115, 3) := by decide +kernel
theorem dX11_names_72 : decode cX11_names 72 = .ok (.aload_n 0, 1) := by decide +kernel
theorem dX11_names_73 : decode cX11_names 73 = .ok (.getfield 398, 3) := by decide +kernel
theorem dX11_names_76 : decode cX11_names 76 = .ok (.iload_n 1, 1) := by decide +kernel
theorem dX11_names_77 : decode cX11_names 77 = .ok (.iastore, 1) := by decide +kernel
theorem dX11_names_78 : decode cX11_names 78 = .ok (.aload_n 0, 1) := by decide +kernel
theorem dX11_names_79 : decode cX11_names 79 = .ok (.dup, 1) := by decide +kernel
theorem dX11_names_80 : decode cX11_names 80 = .ok (.getfield 398, 3) := by decide +kernel
theorem dX11_names_83 : decode cX11_names 83 = .ok (.iconst 1, 1) := by decide +kernel
theorem dX11_names_84 : decode cX11_names 84 = .ok (.iadd, 1) := by decide +kernel
theorem dX11_names_85 : decode cX11_names 85 = .ok (.putfield 398, 3) := by decide +kernel
theorem dX11_names_88 : decode cX11_names 88 = .ok (.iconst 1, 1) := by decide +kernel
theorem dX11_names_89 : decode cX11_names 89 = .ok (.ireturn, 1) := by decide +kernel
theorem dX11_tellWay_0 : decode cX11_tellWay 0 = .ok (.aload_n 0, 1) := by decide +kernel
theorem dX11_tellWay_1 : decode cX11_tellWay 1 = .ok (.getfield 39, 3) := by decide +kernel
theorem dX11_tellWay_4 : decode cX11_tellWay 4 = .ok (.aload_n 0, 1) := by decide +kernel
theorem dX11_tellWay_5 : decode cX11_tellWay 5 = .ok (.getfield 362, 3) := by decide +kernel
theorem dX11_tellWay_8 : decode cX11_tellWay 8 = .ok (.iaload, 1) := by decide +kernel
theorem dX11_tellWay_9 : decode cX11_tellWay 9 = .ok (.bipush 24, 2) := by decide +kernel
theorem dX11_tellWay_11 : decode cX11_tellWay 11 = .ok (.if_icmp .ne 9, 3) := by decide +kernel
theorem dX11_tellWay_14 : decode cX11_tellWay 14 = .ok (.aload_n 0, 1) := by decide +kernel
theorem dX11_tellWay_15 : decode cX11_tellWay 15 = .ok (.iconst 2, 1) := by decide +kernel
theorem dX11_tellWay_16 : decode cX11_tellWay 16 = .ok (.invokevirtual 345, 3) := by decide +kernel
theorem dX11_tellWay_19 : decode cX11_tellWay 19 = .ok (.ireturn, 1) := by decide +kernel
theorem dX11_tellWay_20 : decode cX11_tellWay 20 = .ok (.bipush 24, 2) := by decide +kernel
theorem dX11_tellWay_22 : decode cX11_tellWay 22 = .ok (.aload_n 0, 1) := by decide +kernel
theorem dX11_tellWay_23 : decode cX11_tellWay 23 = .ok (.getfield 362, 3) := by decide +kernel
theorem dX11_tellWay_26 : decode cX11_tellWay 26 = .ok (.imul, 1) := by decide +kernel
theorem dX11_tellWay_27 : decode cX11_tellWay 27 = .ok (.aload_n 0, 1) := by decide +kernel
theorem dX11_tellWay_28 : decode cX11_tellWay 28 = .ok (.getfield 39, 3) := by decide +kernel
theorem dX11_tellWay_31 : decode cX11_tellWay 31 = .ok (.aload_n 0, 1) := by decide +kernel
theorem dX11_tellWay_32 : decode cX11_tellWay 32 = .ok (.getfield 362, 3) := by decide +kernel
theorem dX11_tellWay_35 : decode cX11_tellWay 35 = .ok (.iaload, 1) := by decide +kernel
theorem dX11_tellWay_36 : decode cX11_tellWay 36 = .ok (.iadd, 1) := by decide +kernel
theorem dX11_tellWay_37 : decode cX11_tellWay 37 = .ok (.istore_n 1, 1) := by decide +kernel
theorem dX11_tellWay_38 : decode cX11_tellWay 38 = .ok (.aload_n 0, 1) := by decide +kernel
theorem dX11_tellWay_39 : decode cX11_tellWay 39 = .ok (.getfield 336, 3) := by decide +kernel
theorem dX11_tellWay_42 : decode cX11_tellWay 42 = .ok (.iconst 1, 1) := by decide +kernel
theorem dX11_tellWay_43 : decode cX11_tellWay 43 = .ok (.iadd, 1) := by decide +kernel
theorem dX11_tellWay_44 : decode cX11_tellWay 44 = .ok (.istore_n 2, 1) := by decide +kernel
theorem dX11_tellWay_45 : decode cX11_tellWay 45 = .ok (.aload_n 0, 1) := by decide +kernel
theorem dX11_tellWay_46 : decode cX11_tellWay 46 = .ok (.invokevirtual 348, 3) := by decide +kernel
theorem dX11_tellWay_49 : decode cX11_tellWay 49 = .ok (.ifCond .eq 19, 3) := by decide +kernel
theorem dX11_tellWay_52 : decode cX11_tellWay 52 = .ok (.aload_n 0, 1) := by decide +kernel
theorem dX11_tellWay_53 : decode cX11_tellWay 53 = .ok (.iconst 0, 1) := by decide +kernel
theorem dX11_tellWay_54 : decode cX11_tellWay 54 = .ok (.invokevirtual 352, 3) := by decide +kernel
theorem dX11_tellWay_57 : decode cX11_tellWay 57 = .ok (.ifCond .eq 11, 3) := by decide +kernel
theorem dX11_tellWay_60 : decode cX11_tellWay 60 = .ok (.aload_n 0, 1) := by decide +kernel
theorem dX11_tellWay_61 : decode cX11_tellWay 61 = .ok (.iconst 0, 1) := by decide +kernel
theorem dX11_tellWay_62 : decode cX11_tellWay 62 = .ok (.invokevirtual 352, 3) := by decide +kernel
theorem dX11_tellWay_65 : decode cX11_tellWay 65 = .ok (.ifCond .ne 5, 3) := by decide +kernel
theorem dX11_tellWay_68 : decode cX11_tellWay 68 = .ok (.iconst 0, 1) := by decide +kernel
theorem dX11_tellWay_69 : decode cX11_tellWay 69 = .ok (.ireturn, 1) := by decide +kernel
theorem dX11_tellWay_70 : decode cX11_tellWay 70 = .ok (.aload_n 0, 1) := by decide +kernel
theorem dX11_tellWay_71 : decode cX11_tellWay 71 = .ok (.getfield 42, 3) := by decide +kernel
theorem dX11_tellWay_74 : decode cX11_tellWay 74 = .ok (.iload_n 1, 1) := by decide +kernel
theorem dX11_tellWay_75 : decode cX11_tellWay 75 = .ok (.aload_n 0, 1) := by decide +kernel
theorem dX11_tellWay_76 : decode cX11_tellWay 76 = .ok (.iload_n 2, 1) := by decide +kernel
theorem dX11_tellWay_77 : decode cX11_tellWay 77 = .ok (.invokevirtual 401, 3) := by decide +kernel
theorem dX11_tellWay_80 : decode cX11_tellWay 80 = .ok (.iastore, 1) := by decide +kernel
theorem dX11_tellWay_81 : decode cX11_tellWay 81 = .ok (.aload_n 0, 1) := by decide +kernel
theorem dX11_tellWay_82 : decode cX11_tellWay 82 = .ok (.getfield 45, 3) := by decide +kernel
theorem dX11_tellWay_85 : decode cX11_tellWay 85 = .ok (.iload_n 1, 1) := by decide +kernel
theorem dX11_tellWay_86 : decode cX11_tellWay 86 = .ok (.aload_n 0, 1) := by decide +kernel
theorem dX11_tellWay_87 : decode cX11_tellWay 87 = .ok (.iload_n 2, 1) := by decide +kernel
theorem dX11_tellWay_88 : decode cX11_tellWay 88 = .ok (.iconst 1, 1) := by decide +kernel
theorem dX11_tellWay_89 : decode cX11_tellWay 89 = .ok (.iadd, 1) := by decide +kernel
theorem dX11_tellWay_90 : decode cX11_tellWay 90 = .ok (.invokevirtual 401, 3) := by decide +kernel
theorem dX11_tellWay_93 : decode cX11_tellWay 93 = .ok (.iastore, 1) := by decide +kernel
theorem dX11_tellWay_94 : decode cX11_tellWay 94 = .ok (.aload_n 0, 1) := by decide +kernel
theorem dX11_tellWay_95 : decode cX11_tellWay 95 = .ok (.getfield 22, 3) := by decide +kernel
theorem dX11_tellWay_98 : decode cX11_tellWay 98 = .ok (.iload_n 2, 1) := by decide +kernel
theorem dX11_tellWay_99 : decode cX11_tellWay 99 = .ok (.laload, 1) := by decide +kernel
theorem dX11_tellWay_100 : decode cX11_tellWay 100 = .ok (.aload_n 0, 1) := by decide +kernel
theorem dX11_tellWay_101 : decode cX11_tellWay 101 = .ok (.getfield 22, 3) := by decide +kernel
theorem dX11_tellWay_104 : decode cX11_tellWay 104 = .ok (.iload_n 2, 1) := by decide +kernel
theorem dX11_tellWay_105 : decode cX11_tellWay 105 = .ok (.iconst 1, 1) := by decide +kernel
theorem dX11_tellWay_106 : decode cX11_tellWay 106 = .ok (.iadd, 1) := by decide +kernel
theorem dX11_tellWay_107 : decode cX11_tellWay 107 = .ok (.laload, 1) := by decide +kernel
theorem dX11_tellWay_108 : decode cX11_tellWay 108 = .ok (.lcmp, 1) := by decide +kernel
theorem dX11_tellWay_109 : decode cX11_tellWay 109 = .ok (.ifCond .ne 20, 3) := by decide +kernel
theorem dX11_tellWay_112 : decode cX11_tellWay 112 = .ok (.aload_n 0, 1) := by decide +kernel
theorem dX11_tellWay_113 : decode cX11_tellWay 113 = .ok (.getfield 42, 3) := by decide +kernel
theorem dX11_tellWay_116 : decode cX11_tellWay 116 = .ok (.iload_n 1, 1) := by decide +kernel
theorem dX11_tellWay_117 : decode cX11_tellWay 117 = .ok (.iaload, 1) := by decide +kernel
theorem dX11_tellWay_118 : decode cX11_tellWay 118 = .ok (.ifCond .lt 11, 3) := by decide +kernel
theorem dX11_tellWay_121 : decode cX11_tellWay 121 = .ok (.aload_n 0, 1) := by decide +kernel
theorem dX11_tellWay_122 : decode cX11_tellWay 122 = .ok (.iconst 5, 1) := by decide +kernel
theorem dX11_tellWay_123 : decode cX11_tellWay 123 = .ok (.iload_n 2, 1) := by decide +kernel
theorem dX11_tellWay_124 : decode cX11_tellWay 124 = .ok (.iconst 1, 1) := by decide +kernel
theorem dX11_tellWay_125 : decode cX11_tellWay 125 = .ok (.iadd, 1) := by decide +kernel
theorem dX11_tellWay_126 : decode cX11_tellWay 126 = .ok (.invokevirtual 358, 3) := by decide +kernel
theorem dX11_tellWay_129 : decode cX11_tellWay 129 = .ok (.aload_n 0, 1) := by decide +kernel
theorem dX11_tellWay_130 : decode cX11_tellWay 130 = .ok (.iconst 1, 1) := by decide +kernel
theorem dX11_tellWay_131 : decode cX11_tellWay 131 = .ok (.sipush 9999, 3) := by decide +kernel
theorem dX11_tellWay_134 : decode cX11_tellWay 134 = .ok (.invokevirtual 404, 3) := by decide +kernel
theorem dX11_tellWay_137 : decode cX11_tellWay 137 = .ok (.ifCond .ne 5, 3) := by decide +kernel
theorem dX11_tellWay_140 : decode cX11_tellWay 140 = .ok (.iconst 0, 1) := by decide +kernel
theorem dX11_tellWay_141 : decode cX11_tellWay 141 = .ok (.ireturn, 1) := by decide +kernel
theorem dX11_tellWay_142 : decode cX11_tellWay 142 = .ok (.aload_n 0, 1) := by decide +kernel
theorem dX11_tellWay_143 : decode cX11_tellWay 143 = .ok (.getfield 48, 3) := by decide +kernel
theorem dX11_tellWay_146 : decode cX11_tellWay 146 = .ok (.iload_n 1, 1) := by decide +kernel
theorem dX11_tellWay_147 : decode cX11_tellWay 147 = .ok (.aload_n 0, 1) := by decide +kernel
theorem dX11_tellWay_148 : decode cX11_tellWay 148 = .ok (.getfield 355, 3) := by decide +kernel
theorem dX11_tellWay_151 : decode cX11_tellWay 151 = .ok (.iastore, 1) := by decide +kernel
theorem dX11_tellWay_152 : decode cX11_tellWay 152 = .ok (.aload_n 0, 1) := by decide +kernel
theorem dX11_tellWay_153 : decode cX11_tellWay 153 = .ok (.iconst 1, 1) := by decide +kernel
theorem dX11_tellWay_154 : decode cX11_tellWay 154 = .ok (.bipush 99, 2) := by decide +kernel
theorem dX11_tellWay_156 : decode cX11_tellWay 156 = .ok (.invokevirtual 404, 3) := by decide +kernel
theorem dX11_tellWay_159 : decode cX11_tellWay 159 = .ok (.ifCond .ne 5, 3) := by decide +kernel
theorem dX11_tellWay_162 : decode cX11_tellWay 162 = .ok (.iconst 0, 1) := by decide +kernel
theorem dX11_tellWay_163 : decode cX11_tellWay 163 = .ok (.ireturn, 1) := by decide +kernel
theorem dX11_tellWay_164 : decode cX11_tellWay 164 = .ok (.aload_n 0, 1) := by decide +kernel
theorem dX11_tellWay_165 : decode cX11_tellWay 165 = .ok (.getfield 51, 3) := by decide +kernel
theorem dX11_tellWay_168 : decode cX11_tellWay 168 = .ok (.iload_n 1, 1) := by decide +kernel
theorem dX11_tellWay_169 : decode cX11_tellWay 169 = .ok (.aload_n 0, 1) := by decide +kernel
theorem dX11_tellWay_170 : decode cX11_tellWay 170 = .ok (.getfield 355, 3) := by decide +kernel
theorem dX11_tellWay_173 : decode cX11_tellWay 173 = .ok (.iastore, 1) := by decide +kernel
theorem dX11_tellWay_174 : decode cX11_tellWay 174 = .ok (.aload_n 0, 1) := by decide +kernel
theorem dX11_tellWay_175 : decode cX11_tellWay 175 = .ok (.getfield 54, 3) := by decide +kernel
theorem dX11_tellWay_178 : decode cX11_tellWay 178 = .ok (.iload_n 1, 1) := by decide +kernel
theorem dX11_tellWay_179 : decode cX11_tellWay 179 = .ok (.aload_n 0, 1) := by decide +kernel
theorem dX11_tellWay_180 : decode cX11_tellWay 180 = .ok (.iconst 2, 1) := by decide +kernel
theorem dX11_tellWay_181 : decode cX11_tellWay 181 = .ok (.invokevirtual 392, 3) := by decide +kernel
theorem dX11_tellWay_184 : decode cX11_tellWay 184 = .ok (.bastore, 1) := by decide +kernel
theorem dX11_tellWay_185 : decode cX11_tellWay 185 = .ok (.aload_n 0, 1) := by decide +kernel
theorem dX11_tellWay_186 : decode cX11_tellWay 186 = .ok (.getfield 54, 3) := by decide +kernel
theorem dX11_tellWay_189 : decode cX11_tellWay 189 = .ok (.iload_n 1, 1) := by decide +kernel
theorem dX11_tellWay_190 : decode cX11_tellWay 190 = .ok (.baload, 1) := by decide +kernel
theorem dX11_tellWay_191 : decode cX11_tellWay 191 = .ok (.ifCond .eq 12, 3) := by decide +kernel
theorem dX11_tellWay_194 : decode cX11_tellWay 194 = .ok (.aload_n 0, 1) := by decide +kernel
theorem dX11_tellWay_195 : decode cX11_tellWay 195 = .ok (.invokevirtual 348, 3) := by decide +kernel
theorem dX11_tellWay_198 : decode cX11_tellWay 198 = .ok (.ifCond .ne 5, 3) := by decide +kernel
theorem dX11_tellWay_201 : decode cX11_tellWay 201 = .ok (.iconst 0, 1) := by decide +kernel
theorem dX11_tellWay_202 : decode cX11_tellWay 202 = .ok (.ireturn, 1) := by decide +kernel
theorem dX11_tellWay_203 : decode cX11_tellWay 203 = .ok (.aload_n 0, 1) := by decide +kernel
theorem dX11_tellWay_204 : decode cX11_tellWay 204 = .ok (.getfield 39, 3) := by decide +kernel
theorem dX11_tellWay_207 : decode cX11_tellWay 207 = .ok (.aload_n 0, 1) := by decide +kernel
theorem dX11_tellWay_208 : decode cX11_tellWay 208 = .ok (.getfield 362, 3) := by decide +kernel
theorem dX11_tellWay_211 : decode cX11_tellWay 211 = .ok (.dup2, 1) := by decide +kernel
theorem dX11_tellWay_212 : decode cX11_tellWay 212 = .ok (.iaload, 1) := by decide +kernel
theorem dX11_tellWay_213 : decode cX11_tellWay 213 = .ok (.iconst 1, 1) := by decide +kernel
theorem dX11_tellWay_214 : decode cX11_tellWay 214 = .ok (.iadd, 1) := by decide +kernel
theorem dX11_tellWay_215 : decode cX11_tellWay 215 = .ok (.iastore, 1) := by decide +kernel
theorem dX11_tellWay_216 : decode cX11_tellWay 216 = .ok (.iconst 1, 1) := by decide +kernel
theorem dX11_tellWay_217 : decode cX11_tellWay 217 = .ok (.ireturn, 1) := by decide +kernel
theorem dX11_tellSchool_0 : decode cX11_tellSchool 0 = .ok (.aload_n 0, 1) := by decide +kernel
theorem dX11_tellSchool_1 : decode cX11_tellSchool 1 = .ok (.getfield 58, 3) := by decide +kernel
theorem dX11_tellSchool_4 : decode cX11_tellSchool 4 = .ok (.aload_n 0, 1) := by decide +kernel
theorem dX11_tellSchool_5 : decode cX11_tellSchool 5 = .ok (.getfield 362, 3) := by decide +kernel
theorem dX11_tellSchool_8 : decode cX11_tellSchool 8 = .ok (.iaload, 1) := by decide +kernel
theorem dX11_tellSchool_9 : decode cX11_tellSchool 9 = .ok (.iconst 3, 1) := by decide +kernel
theorem dX11_tellSchool_10 : decode cX11_tellSchool 10 = .ok (.if_icmp .ne 9, 3) := by decide +kernel
theorem dX11_tellSchool_13 : decode cX11_tellSchool 13 = .ok (.aload_n 0, 1) := by decide +kernel
theorem dX11_tellSchool_14 : decode cX11_tellSchool 14 = .ok (.iconst 2, 1) := by decide +kernel
theorem dX11_tellSchool_15 : decode cX11_tellSchool 15 = .ok (.invokevirtual 345, 3) := by decide +kernel
theorem dX11_tellSchool_18 : decode cX11_tellSchool 18 = .ok (.ireturn, 1) := by decide +kernel
theorem dX11_tellSchool_19 : decode cX11_tellSchool 19 = .ok (.iconst 3, 1) := by decide +kernel
theorem dX11_tellSchool_20 : decode cX11_tellSchool 20 = .ok (.aload_n 0, 1) := by decide +kernel
theorem dX11_tellSchool_21 : decode cX11_tellSchool 21 = .ok (.getfield 362, 3) := by decide +kernel
theorem dX11_tellSchool_24 : decode cX11_tellSchool 24 = .ok (.imul, 1) := by decide +kernel
theorem dX11_tellSchool_25 : decode cX11_tellSchool 25 = .ok (.aload_n 0, 1) := by decide +kernel
theorem dX11_tellSchool_26 : decode cX11_tellSchool 26 = .ok (.getfield 58, 3) := by decide +kernel
theorem dX11_tellSchool_29 : decode cX11_tellSchool 29 = .ok (.aload_n 0, 1) := by decide +kernel
theorem dX11_tellSchool_30 : decode cX11_tellSchool 30 = .ok (.getfield 362, 3) := by decide +kernel
theorem dX11_tellSchool_33 : decode cX11_tellSchool 33 = .ok (.iaload, 1) := by decide +kernel
theorem dX11_tellSchool_34 : decode cX11_tellSchool 34 = .ok (.iadd, 1) := by decide +kernel
theorem dX11_tellSchool_35 : decode cX11_tellSchool 35 = .ok (.istore_n 1, 1) := by decide +kernel
theorem dX11_tellSchool_36 : decode cX11_tellSchool 36 = .ok (.aload_n 0, 1) := by decide +kernel
theorem dX11_tellSchool_37 : decode cX11_tellSchool 37 = .ok (.invokevirtual 348, 3) := by decide +kernel
theorem dX11_tellSchool_40 : decode cX11_tellSchool 40 = .ok (.ifCond .eq 11, 3) := by decide +kernel
theorem dX11_tellSchool_43 : decode cX11_tellSchool 43 = .ok (.aload_n 0, 1) := by decide +kernel
theorem dX11_tellSchool_44 : decode cX11_tellSchool 44 = .ok (.iconst (-1), 1) := by decide +kernel
theorem dX11_tellSchool_45 : decode cX11_tellSchool 45 = .ok (.invokevirtual 408, 3) := by decide +kernel
theorem dX11_tellSchool_48 : decode cX11_tellSchool 48 = .ok (.ifCond .ne 5, 3) := by decide +kernel
theorem dX11_tellSchool_51 : decode cX11_tellSchool 51 = .ok (.iconst 0, 1) := by decide +kernel
theorem dX11_tellSchool_52 : decode cX11_tellSchool 52 = .ok (.ireturn, 1) := by decide +kernel
theorem dX11_tellSchool_53 : decode cX11_tellSchool 53 = .ok (.aload_n 0, 1) := by decide +kernel
theorem dX11_tellSchool_54 : decode cX11_tellSchool 54 = .ok (.iconst 4, 1) := by decide +kernel
theorem dX11_tellSchool_55 : decode cX11_tellSchool 55 = .ok (.invokevirtual 392, 3) := by decide +kernel
theorem dX11_tellSchool_58 : decode cX11_tellSchool 58 = .ok (.ifCond .ne 9, 3) := by decide +kernel
theorem dX11_tellSchool_61 : decode cX11_tellSchool 61 = .ok (.aload_n 0, 1) := by decide +kernel
theorem dX11_tellSchool_62 : decode cX11_tellSchool 62 = .ok (.iconst 1, 1) := by decide +kernel
theorem dX11_tellSchool_63 : decode cX11_tellSchool 63 = .ok (.invokevirtual 345, 3) := by decide +kernel
theorem dX11_tellSchool_66 : decode cX11_tellSchool 66 = .ok (.ireturn, 1) := by decide +kernel
theorem dX11_tellSchool_67 : decode cX11_tellSchool 67 = .ok (.aload_n 0, 1) := by decide +kernel
theorem dX11_tellSchool_68 : decode cX11_tellSchool 68 = .ok (.invokevirtual 348, 3) := by decide +kernel
theorem dX11_tellSchool_71 : decode cX11_tellSchool 71 = .ok (.ifCond .ne 5, 3) := by decide +kernel
theorem dX11_tellSchool_74 : decode cX11_tellSchool 74 = .ok (.iconst 0, 1) := by decide +kernel
theorem dX11_tellSchool_75 : decode cX11_tellSchool 75 = .ok (.ireturn, 1) := by decide +kernel
theorem dX11_tellSchool_76 : decode cX11_tellSchool 76 = .ok (.aload_n 0, 1) := by decide +kernel
theorem dX11_tellSchool_77 : decode cX11_tellSchool 77 = .ok (.getfield 336, 3) := by decide +kernel
theorem dX11_tellSchool_80 : decode cX11_tellSchool 80 = .ok (.istore_n 2, 1) := by decide +kernel
theorem dX11_tellSchool_81 : decode cX11_tellSchool 81 = .ok (.aload_n 0, 1) := by decide +kernel
theorem dX11_tellSchool_82 : decode cX11_tellSchool 82 = .ok (.iconst 0, 1) := by decide +kernel
theorem dX11_tellSchool_83 : decode cX11_tellSchool 83 = .ok (.invokevirtual 352, 3) := by decide +kernel
theorem dX11_tellSchool_86 : decode cX11_tellSchool 86 = .ok (.ifCond .ne 5, 3) := by decide +kernel
theorem dX11_tellSchool_89 : decode cX11_tellSchool 89 = .ok (.iconst 0, 1) := by decide +kernel
theorem dX11_tellSchool_90 : decode cX11_tellSchool 90 = .ok (.ireturn, 1) := by decide +kernel
theorem dX11_tellSchool_91 : decode cX11_tellSchool 91 = .ok (.aload_n 0, 1) := by decide +kernel
theorem dX11_tellSchool_92 : decode cX11_tellSchool 92 = .ok (.getfield 61, 3) := by decide +kernel
theorem dX11_tellSchool_95 : decode cX11_tellSchool 95 = .ok (.iload_n 1, 1) := by decide +kernel
theorem dX11_tellSchool_96 : decode cX11_tellSchool 96 = .ok (.aload_n 0, 1) := by decide +kernel
theorem dX11_tellSchool_97 : decode cX11_tellSchool 97 = .ok (.iload_n 2, 1) := by decide +kernel
theorem dX11_tellSchool_98 : decode cX11_tellSchool 98 = .ok (.invokevirtual 401, 3) := by decide +kernel
theorem dX11_tellSchool_101 : decode cX11_tellSchool 101 = .ok (.iastore, 1) := by decide +kernel
theorem dX11_tellSchool_102 : decode cX11_tellSchool 102 = .ok (.aload_n 0, 1) := by decide +kernel
theorem dX11_tellSchool_103 : decode cX11_tellSchool 103 = .ok (.iconst 0, 1) := by decide +kernel
theorem dX11_tellSchool_104 : decode cX11_tellSchool 104 = .ok (.sipush 1439, 3) := by decide +kernel
theorem dX11_tellSchool_107 : decode cX11_tellSchool 107 = .ok (.invokevirtual 404, 3) := by decide +kernel
theorem dX11_tellSchool_110 : decode cX11_tellSchool 110 = .ok (.ifCond .ne 5, 3) := by decide +kernel
theorem dX11_tellSchool_113 : decode cX11_tellSchool 113 = .ok (.iconst 0, 1) := by decide +kernel
theorem dX11_tellSchool_114 : decode cX11_tellSchool 114 = .ok (.ireturn, 1) := by decide +kernel
theorem dX11_tellSchool_115 : decode cX11_tellSchool 115 = .ok (.aload_n 0, 1) := by decide +kernel
theorem dX11_tellSchool_116 : decode cX11_tellSchool 116 = .ok (.getfield 64, 3) := by decide +kernel
theorem dX11_tellSchool_119 : decode cX11_tellSchool 119 = .ok (.iload_n 1, 1) := by decide +kernel
theorem dX11_tellSchool_120 : decode cX11_tellSchool 120 = .ok (.aload_n 0, 1) := by decide +kernel
theorem dX11_tellSchool_121 : decode cX11_tellSchool 121 = .ok (.getfield 355, 3) := by decide +kernel
theorem dX11_tellSchool_124 : decode cX11_tellSchool 124 = .ok (.iastore, 1) := by decide +kernel
theorem dX11_tellSchool_125 : decode cX11_tellSchool 125 = .ok (.aload_n 0, 1) := by decide +kernel
theorem dX11_tellSchool_126 : decode cX11_tellSchool 126 = .ok (.getfield 58, 3) := by decide +kernel
theorem dX11_tellSchool_129 : decode cX11_tellSchool 129 = .ok (.aload_n 0, 1) := by decide +kernel
theorem dX11_tellSchool_130 : decode cX11_tellSchool 130 = .ok (.getfield 362, 3) := by decide +kernel
theorem dX11_tellSchool_133 : decode cX11_tellSchool 133 = .ok (.dup2, 1) := by decide +kernel
theorem dX11_tellSchool_134 : decode cX11_tellSchool 134 = .ok (.iaload, 1) := by decide +kernel
theorem dX11_tellSchool_135 : decode cX11_tellSchool 135 = .ok (.iconst 1, 1) := by decide +kernel
theorem dX11_tellSchool_136 : decode cX11_tellSchool 136 = .ok (.iadd, 1) := by decide +kernel
theorem dX11_tellSchool_137 : decode cX11_tellSchool 137 = .ok (.iastore, 1) := by decide +kernel
theorem dX11_tellSchool_138 : decode cX11_tellSchool 138 = .ok (.iconst 1, 1) := by decide +kernel
theorem dX11_tellSchool_139 : decode cX11_tellSchool 139 = .ok (.ireturn, 1) := by decide +kernel
theorem dX11_tellStop_0 : decode cX11_tellStop 0 = .ok (.aload_n 0, 1) := by decide +kernel
theorem dX11_tellStop_1 : decode cX11_tellStop 1 = .ok (.getfield 67, 3) := by decide +kernel
theorem dX11_tellStop_4 : decode cX11_tellStop 4 = .ok (.aload_n 0, 1) := by decide +kernel
theorem dX11_tellStop_5 : decode cX11_tellStop 5 = .ok (.getfield 362, 3) := by decide +kernel
theorem dX11_tellStop_8 : decode cX11_tellStop 8 = .ok (.iaload, 1) := by decide +kernel
theorem dX11_tellStop_9 : decode cX11_tellStop 9 = .ok (.bipush 6, 2) := by decide +kernel
theorem dX11_tellStop_11 : decode cX11_tellStop 11 = .ok (.if_icmp .ne 9, 3) := by decide +kernel
theorem dX11_tellStop_14 : decode cX11_tellStop 14 = .ok (.aload_n 0, 1) := by decide +kernel
theorem dX11_tellStop_15 : decode cX11_tellStop 15 = .ok (.iconst 2, 1) := by decide +kernel
theorem dX11_tellStop_16 : decode cX11_tellStop 16 = .ok (.invokevirtual 345, 3) := by decide +kernel
theorem dX11_tellStop_19 : decode cX11_tellStop 19 = .ok (.ireturn, 1) := by decide +kernel
theorem dX11_tellStop_20 : decode cX11_tellStop 20 = .ok (.bipush 6, 2) := by decide +kernel
theorem dX11_tellStop_22 : decode cX11_tellStop 22 = .ok (.aload_n 0, 1) := by decide +kernel
theorem dX11_tellStop_23 : decode cX11_tellStop 23 = .ok (.getfield 362, 3) := by decide +kernel
theorem dX11_tellStop_26 : decode cX11_tellStop 26 = .ok (.imul, 1) := by decide +kernel
theorem dX11_tellStop_27 : decode cX11_tellStop 27 = .ok (.aload_n 0, 1) := by decide +kernel
theorem dX11_tellStop_28 : decode cX11_tellStop 28 = .ok (.getfield 67, 3) := by decide +kernel
theorem dX11_tellStop_31 : decode cX11_tellStop 31 = .ok (.aload_n 0, 1) := by decide +kernel
theorem dX11_tellStop_32 : decode cX11_tellStop 32 = .ok (.getfield 362, 3) := by decide +kernel
theorem dX11_tellStop_35 : decode cX11_tellStop 35 = .ok (.iaload, 1) := by decide +kernel
theorem dX11_tellStop_36 : decode cX11_tellStop 36 = .ok (.iadd, 1) := by decide +kernel
theorem dX11_tellStop_37 : decode cX11_tellStop 37 = .ok (.istore_n 1, 1) := by decide +kernel
theorem dX11_tellStop_38 : decode cX11_tellStop 38 = .ok (.aload_n 0, 1) := by decide +kernel
theorem dX11_tellStop_39 : decode cX11_tellStop 39 = .ok (.invokevirtual 348, 3) := by decide +kernel
theorem dX11_tellStop_42 : decode cX11_tellStop 42 = .ok (.ifCond .eq 11, 3) := by decide +kernel
theorem dX11_tellStop_45 : decode cX11_tellStop 45 = .ok (.aload_n 0, 1) := by decide +kernel
theorem dX11_tellStop_46 : decode cX11_tellStop 46 = .ok (.iconst (-1), 1) := by decide +kernel
theorem dX11_tellStop_47 : decode cX11_tellStop 47 = .ok (.invokevirtual 408, 3) := by decide +kernel
theorem dX11_tellStop_50 : decode cX11_tellStop 50 = .ok (.ifCond .ne 5, 3) := by decide +kernel
theorem dX11_tellStop_53 : decode cX11_tellStop 53 = .ok (.iconst 0, 1) := by decide +kernel
theorem dX11_tellStop_54 : decode cX11_tellStop 54 = .ok (.ireturn, 1) := by decide +kernel
theorem dX11_tellStop_55 : decode cX11_tellStop 55 = .ok (.aload_n 0, 1) := by decide +kernel
theorem dX11_tellStop_56 : decode cX11_tellStop 56 = .ok (.iconst 4, 1) := by decide +kernel
theorem dX11_tellStop_57 : decode cX11_tellStop 57 = .ok (.invokevirtual 392, 3) := by decide +kernel
theorem dX11_tellStop_60 : decode cX11_tellStop 60 = .ok (.ifCond .ne 9, 3) := by decide +kernel
theorem dX11_tellStop_63 : decode cX11_tellStop 63 = .ok (.aload_n 0, 1) := by decide +kernel
theorem dX11_tellStop_64 : decode cX11_tellStop 64 = .ok (.iconst 1, 1) := by decide +kernel
theorem dX11_tellStop_65 : decode cX11_tellStop 65 = .ok (.invokevirtual 345, 3) := by decide +kernel
theorem dX11_tellStop_68 : decode cX11_tellStop 68 = .ok (.ireturn, 1) := by decide +kernel
theorem dX11_tellStop_69 : decode cX11_tellStop 69 = .ok (.aload_n 0, 1) := by decide +kernel
theorem dX11_tellStop_70 : decode cX11_tellStop 70 = .ok (.invokevirtual 348, 3) := by decide +kernel
theorem dX11_tellStop_73 : decode cX11_tellStop 73 = .ok (.ifCond .ne 5, 3) := by decide +kernel
theorem dX11_tellStop_76 : decode cX11_tellStop 76 = .ok (.iconst 0, 1) := by decide +kernel
theorem dX11_tellStop_77 : decode cX11_tellStop 77 = .ok (.ireturn, 1) := by decide +kernel
theorem dX11_tellStop_78 : decode cX11_tellStop 78 = .ok (.aload_n 0, 1) := by decide +kernel
theorem dX11_tellStop_79 : decode cX11_tellStop 79 = .ok (.getfield 336, 3) := by decide +kernel
theorem dX11_tellStop_82 : decode cX11_tellStop 82 = .ok (.istore_n 2, 1) := by decide +kernel
theorem dX11_tellStop_83 : decode cX11_tellStop 83 = .ok (.aload_n 0, 1) := by decide +kernel
theorem dX11_tellStop_84 : decode cX11_tellStop 84 = .ok (.iconst 0, 1) := by decide +kernel
theorem dX11_tellStop_85 : decode cX11_tellStop 85 = .ok (.invokevirtual 352, 3) := by decide +kernel
theorem dX11_tellStop_88 : decode cX11_tellStop 88 = .ok (.ifCond .ne 5, 3) := by decide +kernel
theorem dX11_tellStop_91 : decode cX11_tellStop 91 = .ok (.iconst 0, 1) := by decide +kernel
theorem dX11_tellStop_92 : decode cX11_tellStop 92 = .ok (.ireturn, 1) := by decide +kernel
theorem dX11_tellStop_93 : decode cX11_tellStop 93 = .ok (.aload_n 0, 1) := by decide +kernel
theorem dX11_tellStop_94 : decode cX11_tellStop 94 = .ok (.getfield 70, 3) := by decide +kernel
theorem dX11_tellStop_97 : decode cX11_tellStop 97 = .ok (.iload_n 1, 1) := by decide +kernel
theorem dX11_tellStop_98 : decode cX11_tellStop 98 = .ok (.aload_n 0, 1) := by decide +kernel
theorem dX11_tellStop_99 : decode cX11_tellStop 99 = .ok (.iload_n 2, 1) := by decide +kernel
theorem dX11_tellStop_100 : decode cX11_tellStop 100 = .ok (.invokevirtual 401, 3) := by decide +kernel
theorem dX11_tellStop_103 : decode cX11_tellStop 103 = .ok (.iastore, 1) := by decide +kernel
theorem dX11_tellStop_104 : decode cX11_tellStop 104 = .ok (.aload_n 0, 1) := by decide +kernel
theorem dX11_tellStop_105 : decode cX11_tellStop 105 = .ok (.getfield 67, 3) := by decide +kernel
theorem dX11_tellStop_108 : decode cX11_tellStop 108 = .ok (.aload_n 0, 1) := by decide +kernel
theorem dX11_tellStop_109 : decode cX11_tellStop 109 = .ok (.getfield 362, 3) := by decide +kernel
theorem dX11_tellStop_112 : decode cX11_tellStop 112 = .ok (.dup2, 1) := by decide +kernel
theorem dX11_tellStop_113 : decode cX11_tellStop 113 = .ok (.iaload, 1) := by decide +kernel
theorem dX11_tellStop_114 : decode cX11_tellStop 114 = .ok (.iconst 1, 1) := by decide +kernel
theorem dX11_tellStop_115 : decode cX11_tellStop 115 = .ok (.iadd, 1) := by decide +kernel
theorem dX11_tellStop_116 : decode cX11_tellStop 116 = .ok (.iastore, 1) := by decide +kernel
theorem dX11_tellStop_117 : decode cX11_tellStop 117 = .ok (.iconst 1, 1) := by decide +kernel
theorem dX11_tellStop_118 : decode cX11_tellStop 118 = .ok (.ireturn, 1) := by decide +kernel
theorem dX11_tellRight_0 : decode cX11_tellRight 0 = .ok (.aload_n 0, 1) := by decide +kernel
theorem dX11_tellRight_1 : decode cX11_tellRight 1 = .ok (.getfield 73, 3) := by decide +kernel
theorem dX11_tellRight_4 : decode cX11_tellRight 4 = .ok (.aload_n 0, 1) := by decide +kernel
theorem dX11_tellRight_5 : decode cX11_tellRight 5 = .ok (.getfield 362, 3) := by decide +kernel
theorem dX11_tellRight_8 : decode cX11_tellRight 8 = .ok (.iaload, 1) := by decide +kernel
theorem dX11_tellRight_9 : decode cX11_tellRight 9 = .ok (.bipush 8, 2) := by decide +kernel
theorem dX11_tellRight_11 : decode cX11_tellRight 11 = .ok (.if_icmp .ne 9, 3) := by decide +kernel
theorem dX11_tellRight_14 : decode cX11_tellRight 14 = .ok (.aload_n 0, 1) := by decide +kernel
theorem dX11_tellRight_15 : decode cX11_tellRight 15 = .ok (.iconst 2, 1) := by decide +kernel
theorem dX11_tellRight_16 : decode cX11_tellRight 16 = .ok (.invokevirtual 345, 3) := by decide +kernel
theorem dX11_tellRight_19 : decode cX11_tellRight 19 = .ok (.ireturn, 1) := by decide +kernel
theorem dX11_tellRight_20 : decode cX11_tellRight 20 = .ok (.aload_n 0, 1) := by decide +kernel
theorem dX11_tellRight_21 : decode cX11_tellRight 21 = .ok (.invokevirtual 348, 3) := by decide +kernel
theorem dX11_tellRight_24 : decode cX11_tellRight 24 = .ok (.ifCond .ne 5, 3) := by decide +kernel
theorem dX11_tellRight_27 : decode cX11_tellRight 27 = .ok (.iconst 0, 1) := by decide +kernel
theorem dX11_tellRight_28 : decode cX11_tellRight 28 = .ok (.ireturn, 1) := by decide +kernel
theorem dX11_tellRight_29 : decode cX11_tellRight 29 = .ok (.aload_n 0, 1) := by decide +kernel
theorem dX11_tellRight_30 : decode cX11_tellRight 30 = .ok (.bipush 8, 2) := by decide +kernel
theorem dX11_tellRight_32 : decode cX11_tellRight 32 = .ok (.invokevirtual 392, 3) := by decide +kernel
theorem dX11_tellRight_35 : decode cX11_tellRight 35 = .ok (.ifCond .ne 9, 3) := by decide +kernel
theorem dX11_tellRight_38 : decode cX11_tellRight 38 = .ok (.aload_n 0, 1) := by decide +kernel
theorem dX11_tellRight_39 : decode cX11_tellRight 39 = .ok (.iconst 1, 1) := by decide +kernel
theorem dX11_tellRight_40 : decode cX11_tellRight 40 = .ok (.invokevirtual 345, 3) := by decide +kernel
theorem dX11_tellRight_43 : decode cX11_tellRight 43 = .ok (.ireturn, 1) := by decide +kernel
theorem dX11_tellRight_44 : decode cX11_tellRight 44 = .ok (.aload_n 0, 1) := by decide +kernel
theorem dX11_tellRight_45 : decode cX11_tellRight 45 = .ok (.invokevirtual 348, 3) := by decide +kernel
theorem dX11_tellRight_48 : decode cX11_tellRight 48 = .ok (.ifCond .eq 10, 3) := by decide +kernel
theorem dX11_tellRight_51 : decode cX11_tellRight 51 = .ok (.aload_n 0, 1) := by decide +kernel
theorem dX11_tellRight_52 : decode cX11_tellRight 52 = .ok (.invokevirtual 410, 3) := by decide +kernel
theorem dX11_tellRight_55 : decode cX11_tellRight 55 = .ok (.ifCond .ne 5, 3) := by decide +kernel
theorem dX11_tellRight_58 : decode cX11_tellRight 58 = .ok (.iconst 0, 1) := by decide +kernel
theorem dX11_tellRight_59 : decode cX11_tellRight 59 = .ok (.ireturn, 1) := by decide +kernel
theorem dX11_tellRight_60 : decode cX11_tellRight 60 = .ok (.bipush 8, 2) := by decide +kernel
theorem dX11_tellRight_62 : decode cX11_tellRight 62 = .ok (.aload_n 0, 1) := by decide +kernel
theorem dX11_tellRight_63 : decode cX11_tellRight 63 = .ok (.getfield 362, 3) := by decide +kernel
theorem dX11_tellRight_66 : decode cX11_tellRight 66 = .ok (.imul, 1) := by decide +kernel
theorem dX11_tellRight_67 : decode cX11_tellRight 67 = .ok (.aload_n 0, 1) := by decide +kernel
theorem dX11_tellRight_68 : decode cX11_tellRight 68 = .ok (.getfield 73, 3) := by decide +kernel
theorem dX11_tellRight_71 : decode cX11_tellRight 71 = .ok (.aload_n 0, 1) := by decide +kernel
theorem dX11_tellRight_72 : decode cX11_tellRight 72 = .ok (.getfield 362, 3) := by decide +kernel
theorem dX11_tellRight_75 : decode cX11_tellRight 75 = .ok (.iaload, 1) := by decide +kernel
theorem dX11_tellRight_76 : decode cX11_tellRight 76 = .ok (.iadd, 1) := by decide +kernel
theorem dX11_tellRight_77 : decode cX11_tellRight 77 = .ok (.istore_n 1, 1) := by decide +kernel
theorem dX11_tellRight_78 : decode cX11_tellRight 78 = .ok (.aload_n 0, 1) := by decide +kernel
theorem dX11_tellRight_79 : decode cX11_tellRight 79 = .ok (.getfield 76, 3) := by decide +kernel
theorem dX11_tellRight_82 : decode cX11_tellRight 82 = .ok (.iload_n 1, 1) := by decide +kernel
theorem dX11_tellRight_83 : decode cX11_tellRight 83 = .ok (.aload_n 0, 1) := by decide +kernel
theorem dX11_tellRight_84 : decode cX11_tellRight 84 = .ok (.getfield 389, 3) := by decide +kernel
theorem dX11_tellRight_87 : decode cX11_tellRight 87 = .ok (.iastore, 1) := by decide +kernel
theorem dX11_tellRight_88 : decode cX11_tellRight 88 = .ok (.aload_n 0, 1) := by decide +kernel
theorem dX11_tellRight_89 : decode cX11_tellRight 89 = .ok (.getfield 79, 3) := by decide +kernel
theorem dX11_tellRight_92 : decode cX11_tellRight 92 = .ok (.iload_n 1, 1) := by decide +kernel
theorem dX11_tellRight_93 : decode cX11_tellRight 93 = .ok (.aload_n 0, 1) := by decide +kernel
theorem dX11_tellRight_94 : decode cX11_tellRight 94 = .ok (.getfield 91, 3) := by decide +kernel
theorem dX11_tellRight_97 : decode cX11_tellRight 97 = .ok (.aload_n 0, 1) := by decide +kernel
theorem dX11_tellRight_98 : decode cX11_tellRight 98 = .ok (.getfield 362, 3) := by decide +kernel
theorem dX11_tellRight_101 : decode cX11_tellRight 101 = .ok (.iaload, 1) := by decide +kernel
theorem dX11_tellRight_102 : decode cX11_tellRight 102 = .ok (.iastore, 1) := by decide +kernel
theorem dX11_tellRight_103 : decode cX11_tellRight 103 = .ok (.aload_n 0, 1) := by decide +kernel
theorem dX11_tellRight_104 : decode cX11_tellRight 104 = .ok (.getfield 73, 3) := by decide +kernel
theorem dX11_tellRight_107 : decode cX11_tellRight 107 = .ok (.aload_n 0, 1) := by decide +kernel
theorem dX11_tellRight_108 : decode cX11_tellRight 108 = .ok (.getfield 362, 3) := by decide +kernel
theorem dX11_tellRight_111 : decode cX11_tellRight 111 = .ok (.dup2, 1) := by decide +kernel
theorem dX11_tellRight_112 : decode cX11_tellRight 112 = .ok (.iaload, 1) := by decide +kernel
theorem dX11_tellRight_113 : decode cX11_tellRight 113 = .ok (.iconst 1, 1) := by decide +kernel
theorem dX11_tellRight_114 : decode cX11_tellRight 114 = .ok (.iadd, 1) := by decide +kernel
theorem dX11_tellRight_115 : decode cX11_tellRight 115 = .ok (.iastore, 1) := by decide +kernel
theorem dX11_tellRight_116 : decode cX11_tellRight 116 = .ok (.iconst 1, 1) := by decide +kernel
theorem dX11_tellRight_117 : decode cX11_tellRight 117 = .ok (.ireturn, 1) := by decide +kernel
theorem dX11_tellNumber_0 : decode cX11_tellNumber 0 = .ok (.aload_n 0, 1) := by decide +kernel
theorem dX11_tellNumber_1 : decode cX11_tellNumber 1 = .ok (.invokevirtual 348, 3) := by decide +kernel
theorem dX11_tellNumber_4 : decode cX11_tellNumber 4 = .ok (.ifCond .eq 14, 3) := by decide +kernel
theorem dX11_tellNumber_7 : decode cX11_tellNumber 7 = .ok (.aload_n 0, 1) := by decide +kernel
theorem dX11_tellNumber_8 : decode cX11_tellNumber 8 = .ok (.iload_n 2, 1) := by decide +kernel
theorem dX11_tellNumber_9 : decode cX11_tellNumber 9 = .ok (.sipush 9999, 3) := by decide +kernel
theorem dX11_tellNumber_12 : decode cX11_tellNumber 12 = .ok (.invokevirtual 404, 3) := by decide +kernel
theorem dX11_tellNumber_15 : decode cX11_tellNumber 15 = .ok (.ifCond .ne 5, 3) := by decide +kernel
theorem dX11_tellNumber_18 : decode cX11_tellNumber 18 = .ok (.iconst 0, 1) := by decide +kernel
theorem dX11_tellNumber_19 : decode cX11_tellNumber 19 = .ok (.ireturn, 1) := by decide +kernel
theorem dX11_tellNumber_20 : decode cX11_tellNumber 20 = .ok (.aload_n 0, 1) := by decide +kernel
theorem dX11_tellNumber_21 : decode cX11_tellNumber 21 = .ok (.getfield 33, 3) := by decide +kernel
theorem dX11_tellNumber_24 : decode cX11_tellNumber 24 = .ok (.bipush 7, 2) := by decide +kernel
theorem dX11_tellNumber_26 : decode cX11_tellNumber 26 = .ok (.aload_n 0, 1) := by decide +kernel
theorem dX11_tellNumber_27 : decode cX11_tellNumber 27 = .ok (.getfield 362, 3) := by decide +kernel
theorem dX11_tellNumber_30 : decode cX11_tellNumber 30 = .ok (.imul, 1) := by decide +kernel
theorem dX11_tellNumber_31 : decode cX11_tellNumber 31 = .ok (.iload_n 1, 1) := by decide +kernel
theorem dX11_tellNumber_32 : decode cX11_tellNumber 32 = .ok (.iadd, 1) := by decide +kernel
theorem dX11_tellNumber_33 : decode cX11_tellNumber 33 = .ok (.aload_n 0, 1) := by decide +kernel
theorem dX11_tellNumber_34 : decode cX11_tellNumber 34 = .ok (.getfield 355, 3) := by decide +kernel
theorem dX11_tellNumber_37 : decode cX11_tellNumber 37 = .ok (.iastore, 1) := by decide +kernel
theorem dX11_tellNumber_38 : decode cX11_tellNumber 38 = .ok (.iconst 1, 1) := by decide +kernel
theorem dX11_tellNumber_39 : decode cX11_tellNumber 39 = .ok (.ireturn, 1) := by decide +kernel
theorem dX11_tell_0 : decode cX11_tell 0 = .ok (.aload_n 0, 1) := by decide +kernel
theorem dX11_tell_1 : decode cX11_tell 1 = .ok (.getfield 13, 3) := by decide +kernel
theorem dX11_tell_4 : decode cX11_tell 4 = .ok (.aload_n 0, 1) := by decide +kernel
theorem dX11_tell_5 : decode cX11_tell 5 = .ok (.getfield 336, 3) := by decide +kernel
theorem dX11_tell_8 : decode cX11_tell 8 = .ok (.iaload, 1) := by decide +kernel
theorem dX11_tell_9 : decode cX11_tell 9 = .ok (.iconst 3, 1) := by decide +kernel
theorem dX11_tell_10 : decode cX11_tell 10 = .ok (.if_icmp .ne 15, 3) := by decide +kernel
theorem dX11_tell_13 : decode cX11_tell 13 = .ok (.aload_n 0, 1) := by decide +kernel
theorem dX11_tell_14 : decode cX11_tell 14 = .ok (.getfield 19, 3) := by decide +kernel
theorem dX11_tell_17 : decode cX11_tell 17 = .ok (.aload_n 0, 1) := by decide +kernel
theorem dX11_tell_18 : decode cX11_tell 18 = .ok (.getfield 336, 3) := by decide +kernel
theorem dX11_tell_21 : decode cX11_tell 21 = .ok (.iaload, 1) := by decide +kernel
theorem dX11_tell_22 : decode cX11_tell 22 = .ok (.goto 4, 3) := by decide +kernel
theorem dX11_tell_25 : decode cX11_tell 25 = .ok (.iconst (-1), 1) := by decide +kernel
theorem dX11_tell_26 : decode cX11_tell 26 = .ok (.istore_n 1, 1) := by decide +kernel
theorem dX11_tell_27 : decode cX11_tell 27 = .ok (.iload_n 1, 1) := by decide +kernel
theorem dX11_tell_28 : decode cX11_tell 28 = .ok (.ifCond .ne 63, 3) := by decide +kernel
theorem dX11_tell_31 : decode cX11_tell 31 = .ok (.aload_n 0, 1) := by decide +kernel
theorem dX11_tell_32 : decode cX11_tell 32 = .ok (.getfield 36, 3) := by decide +kernel
theorem dX11_tell_35 : decode cX11_tell 35 = .ok (.aload_n 0, 1) := by decide +kernel
theorem dX11_tell_36 : decode cX11_tell 36 = .ok (.getfield 362, 3) := by decide +kernel
theorem dX11_tell_39 : decode cX11_tell 39 = .ok (.iaload, 1) := by decide +kernel
theorem dX11_tell_40 : decode cX11_tell 40 = .ok (.bipush 12, 2) := by decide +kernel
theorem dX11_tell_42 : decode cX11_tell 42 = .ok (.if_icmp .ne 9, 3) := by decide +kernel
theorem dX11_tell_45 : decode cX11_tell 45 = .ok (.aload_n 0, 1) := by decide +kernel
theorem dX11_tell_46 : decode cX11_tell 46 = .ok (.iconst 2, 1) := by decide +kernel
theorem dX11_tell_47 : decode cX11_tell 47 = .ok (.invokevirtual 345, 3) := by decide +kernel
theorem dX11_tell_50 : decode cX11_tell 50 = .ok (.ireturn, 1) := by decide +kernel
theorem dX11_tell_51 : decode cX11_tell 51 = .ok (.aload_n 0, 1) := by decide +kernel
theorem dX11_tell_52 : decode cX11_tell 52 = .ok (.invokevirtual 348, 3) := by decide +kernel
theorem dX11_tell_55 : decode cX11_tell 55 = .ok (.ifCond .eq 19, 3) := by decide +kernel
theorem dX11_tell_58 : decode cX11_tell 58 = .ok (.aload_n 0, 1) := by decide +kernel
theorem dX11_tell_59 : decode cX11_tell 59 = .ok (.aload_n 0, 1) := by decide +kernel
theorem dX11_tell_60 : decode cX11_tell 60 = .ok (.getfield 36, 3) := by decide +kernel
theorem dX11_tell_63 : decode cX11_tell 63 = .ok (.aload_n 0, 1) := by decide +kernel
theorem dX11_tell_64 : decode cX11_tell 64 = .ok (.getfield 362, 3) := by decide +kernel
theorem dX11_tell_67 : decode cX11_tell 67 = .ok (.iaload, 1) := by decide +kernel
theorem dX11_tell_68 : decode cX11_tell 68 = .ok (.invokevirtual 408, 3) := by decide +kernel
theorem dX11_tell_71 : decode cX11_tell 71 = .ok (.ifCond .ne 5, 3) := by decide +kernel
theorem dX11_tell_74 : decode cX11_tell 74 = .ok (.iconst 0, 1) := by decide +kernel
theorem dX11_tell_75 : decode cX11_tell 75 = .ok (.ireturn, 1) := by decide +kernel
theorem dX11_tell_76 : decode cX11_tell 76 = .ok (.aload_n 0, 1) := by decide +kernel
theorem dX11_tell_77 : decode cX11_tell 77 = .ok (.getfield 36, 3) := by decide +kernel
theorem dX11_tell_80 : decode cX11_tell 80 = .ok (.aload_n 0, 1) := by decide +kernel
theorem dX11_tell_81 : decode cX11_tell 81 = .ok (.getfield 362, 3) := by decide +kernel
theorem dX11_tell_84 : decode cX11_tell 84 = .ok (.dup2, 1) := by decide +kernel
theorem dX11_tell_85 : decode cX11_tell 85 = .ok (.iaload, 1) := by decide +kernel
theorem dX11_tell_86 : decode cX11_tell 86 = .ok (.iconst 1, 1) := by decide +kernel
theorem dX11_tell_87 : decode cX11_tell 87 = .ok (.iadd, 1) := by decide +kernel
theorem dX11_tell_88 : decode cX11_tell 88 = .ok (.iastore, 1) := by decide +kernel
theorem dX11_tell_89 : decode cX11_tell 89 = .ok (.iconst 1, 1) := by decide +kernel
theorem dX11_tell_90 : decode cX11_tell 90 = .ok (.ireturn, 1) := by decide +kernel
theorem dX11_tell_91 : decode cX11_tell 91 = .ok (.iload_n 1, 1) := by decide +kernel
theorem dX11_tell_92 : decode cX11_tell 92 = .ok (.iconst 1, 1) := by decide +kernel
theorem dX11_tell_93 : decode cX11_tell 93 = .ok (.if_icmp .ne 8, 3) := by decide +kernel
theorem dX11_tell_96 : decode cX11_tell 96 = .ok (.aload_n 0, 1) := by decide +kernel
theorem dX11_tell_97 : decode cX11_tell 97 = .ok (.invokevirtual 413, 3) := by decide +kernel
theorem dX11_tell_100 : decode cX11_tell 100 = .ok (.ireturn, 1) := by decide +kernel
theorem dX11_tell_101 : decode cX11_tell 101 = .ok (.iload_n 1, 1) := by decide +kernel
theorem dX11_tell_102 : decode cX11_tell 102 = .ok (.iconst 3, 1) := by decide +kernel
theorem dX11_tell_103 : decode cX11_tell 103 = .ok (.if_icmp .ne 8, 3) := by decide +kernel
theorem dX11_tell_106 : decode cX11_tell 106 = .ok (.aload_n 0, 1) := by decide +kernel
theorem dX11_tell_107 : decode cX11_tell 107 = .ok (.invokevirtual 416, 3) := by decide +kernel
theorem dX11_tell_110 : decode cX11_tell 110 = .ok (.ireturn, 1) := by decide +kernel
theorem dX11_tell_111 : decode cX11_tell 111 = .ok (.iload_n 1, 1) := by decide +kernel
theorem dX11_tell_112 : decode cX11_tell 112 = .ok (.iconst 5, 1) := by decide +kernel
theorem dX11_tell_113 : decode cX11_tell 113 = .ok (.if_icmp .ne 8, 3) := by decide +kernel
theorem dX11_tell_116 : decode cX11_tell 116 = .ok (.aload_n 0, 1) := by decide +kernel
theorem dX11_tell_117 : decode cX11_tell 117 = .ok (.invokevirtual 419, 3) := by decide +kernel
theorem dX11_tell_120 : decode cX11_tell 120 = .ok (.ireturn, 1) := by decide +kernel
theorem dX11_tell_121 : decode cX11_tell 121 = .ok (.iload_n 1, 1) := by decide +kernel
theorem dX11_tell_122 : decode cX11_tell 122 = .ok (.bipush 6, 2) := by decide +kernel
theorem dX11_tell_124 : decode cX11_tell 124 = .ok (.if_icmp .ne 8, 3) := by decide +kernel
theorem dX11_tell_127 : decode cX11_tell 127 = .ok (.aload_n 0, 1) := by decide +kernel
theorem dX11_tell_128 : decode cX11_tell 128 = .ok (.invokevirtual 422, 3) := by decide +kernel
theorem dX11_tell_131 : decode cX11_tell 131 = .ok (.ireturn, 1) := by decide +kernel
theorem dX11_tell_132 : decode cX11_tell 132 = .ok (.iload_n 1, 1) := by decide +kernel
theorem dX11_tell_133 : decode cX11_tell 133 = .ok (.bipush 7, 2) := by decide +kernel
theorem dX11_tell_135 : decode cX11_tell 135 = .ok (.if_icmp .ne 10, 3) := by decide +kernel
theorem dX11_tell_138 : decode cX11_tell 138 = .ok (.aload_n 0, 1) := by decide +kernel
theorem dX11_tell_139 : decode cX11_tell 139 = .ok (.iconst 0, 1) := by decide +kernel
theorem dX11_tell_140 : decode cX11_tell 140 = .ok (.iconst 1, 1) := by decide +kernel
theorem dX11_tell_141 : decode cX11_tell 141 = .ok (.invokevirtual 425, 3) := by decide +kernel
theorem dX11_tell_144 : decode cX11_tell 144 = .ok (.ireturn, 1) := by decide +kernel
theorem dX11_tell_145 : decode cX11_tell 145 = .ok (.iload_n 1, 1) := by decide +kernel
theorem dX11_tell_146 : decode cX11_tell 146 = .ok (.bipush 9, 2) := by decide +kernel
theorem dX11_tell_148 : decode cX11_tell 148 = .ok (.if_icmp .ne 10, 3) := by decide +kernel
theorem dX11_tell_151 : decode cX11_tell 151 = .ok (.aload_n 0, 1) := by decide +kernel
theorem dX11_tell_152 : decode cX11_tell 152 = .ok (.iconst 1, 1) := by decide +kernel
theorem dX11_tell_153 : decode cX11_tell 153 = .ok (.iconst 1, 1) := by decide +kernel
theorem dX11_tell_154 : decode cX11_tell 154 = .ok (.invokevirtual 425, 3) := by decide +kernel
theorem dX11_tell_157 : decode cX11_tell 157 = .ok (.ireturn, 1) := by decide +kernel
theorem dX11_tell_158 : decode cX11_tell 158 = .ok (.iload_n 1, 1) := by decide +kernel
theorem dX11_tell_159 : decode cX11_tell 159 = .ok (.bipush 13, 2) := by decide +kernel
theorem dX11_tell_161 : decode cX11_tell 161 = .ok (.if_icmp .lt 19, 3) := by decide +kernel
theorem dX11_tell_164 : decode cX11_tell 164 = .ok (.iload_n 1, 1) := by decide +kernel
theorem dX11_tell_165 : decode cX11_tell 165 = .ok (.bipush 15, 2) := by decide +kernel
theorem dX11_tell_167 : decode cX11_tell 167 = .ok (.if_icmp .gt 13, 3) := by decide +kernel
theorem dX11_tell_170 : decode cX11_tell 170 = .ok (.aload_n 0, 1) := by decide +kernel
theorem dX11_tell_171 : decode cX11_tell 171 = .ok (.iload_n 1, 1) := by decide +kernel
theorem dX11_tell_172 : decode cX11_tell 172 = .ok (.bipush 11, 2) := by decide +kernel
theorem dX11_tell_174 : decode cX11_tell 174 = .ok (.isub, 1) := by decide +kernel
theorem dX11_tell_175 : decode cX11_tell 175 = .ok (.iconst 0, 1) := by decide +kernel
theorem dX11_tell_176 : decode cX11_tell 176 = .ok (.invokevirtual 425, 3) := by decide +kernel
theorem dX11_tell_179 : decode cX11_tell 179 = .ok (.ireturn, 1) := by decide +kernel
theorem dX11_tell_180 : decode cX11_tell 180 = .ok (.iload_n 1, 1) := by decide +kernel
theorem dX11_tell_181 : decode cX11_tell 181 = .ok (.bipush 16, 2) := by decide +kernel
theorem dX11_tell_183 : decode cX11_tell 183 = .ok (.if_icmp .ne 12, 3) := by decide +kernel
theorem dX11_tell_186 : decode cX11_tell 186 = .ok (.aload_n 0, 1) := by decide +kernel
theorem dX11_tell_187 : decode cX11_tell 187 = .ok (.iconst 5, 1) := by decide +kernel
theorem dX11_tell_188 : decode cX11_tell 188 = .ok (.iconst 0, 1) := by decide +kernel
theorem dX11_tell_189 : decode cX11_tell 189 = .ok (.invokevirtual 425, 3) := by decide +kernel
theorem dX11_tell_192 : decode cX11_tell 192 = .ok (.ifCond .ne 19, 3) := by decide +kernel
theorem dX11_tell_195 : decode cX11_tell 195 = .ok (.iload_n 1, 1) := by decide +kernel
theorem dX11_tell_196 : decode cX11_tell 196 = .ok (.bipush 16, 2) := by decide +kernel
theorem dX11_tell_198 : decode cX11_tell 198 = .ok (.if_icmp .ne 7, 3) := by decide +kernel
theorem dX11_tell_201 : decode cX11_tell 201 = .ok (.iconst 0, 1) := by decide +kernel
theorem dX11_tell_202 : decode cX11_tell 202 = .ok (.goto 8, 3) := by decide +kernel
theorem dX11_tell_205 : decode cX11_tell 205 = .ok (.aload_n 0, 1) := by decide +kernel
theorem dX11_tell_206 : decode cX11_tell 206 = .ok (.iconst 1, 1) := by decide +kernel
theorem dX11_tell_207 : decode cX11_tell 207 = .ok (.invokevirtual 345, 3) := by decide +kernel
theorem dX11_tell_210 : decode cX11_tell 210 = .ok (.ireturn, 1) := by decide +kernel
theorem dX11_tell_211 : decode cX11_tell 211 = .ok (.aload_n 0, 1) := by decide +kernel
theorem dX11_tell_212 : decode cX11_tell 212 = .ok (.iconst 0, 1) := by decide +kernel
theorem dX11_tell_213 : decode cX11_tell 213 = .ok (.sipush 9999, 3) := by decide +kernel
theorem dX11_tell_216 : decode cX11_tell 216 = .ok (.invokevirtual 404, 3) := by decide +kernel
theorem dX11_tell_219 : decode cX11_tell 219 = .ok (.ifCond .ne 5, 3) := by decide +kernel
theorem dX11_tell_222 : decode cX11_tell 222 = .ok (.iconst 0, 1) := by decide +kernel
theorem dX11_tell_223 : decode cX11_tell 223 = .ok (.ireturn, 1) := by decide +kernel
theorem dX11_tell_224 : decode cX11_tell 224 = .ok (.aload_n 0, 1) := by decide +kernel
theorem dX11_tell_225 : decode cX11_tell 225 = .ok (.getfield 33, 3) := by decide +kernel
theorem dX11_tell_228 : decode cX11_tell 228 = .ok (.bipush 7, 2) := by decide +kernel
theorem dX11_tell_230 : decode cX11_tell 230 = .ok (.aload_n 0, 1) := by decide +kernel
theorem dX11_tell_231 : decode cX11_tell 231 = .ok (.getfield 362, 3) := by decide +kernel
theorem dX11_tell_234 : decode cX11_tell 234 = .ok (.imul, 1) := by decide +kernel
theorem dX11_tell_235 : decode cX11_tell 235 = .ok (.bipush 6, 2) := by decide +kernel
theorem dX11_tell_237 : decode cX11_tell 237 = .ok (.iadd, 1) := by decide +kernel
theorem dX11_tell_238 : decode cX11_tell 238 = .ok (.aload_n 0, 1) := by decide +kernel
theorem dX11_tell_239 : decode cX11_tell 239 = .ok (.getfield 355, 3) := by decide +kernel
theorem dX11_tell_242 : decode cX11_tell 242 = .ok (.iastore, 1) := by decide +kernel
theorem dX11_tell_243 : decode cX11_tell 243 = .ok (.iconst 1, 1) := by decide +kernel
theorem dX11_tell_244 : decode cX11_tell 244 = .ok (.ireturn, 1) := by decide +kernel
theorem dX11_parses_0 : decode cX11_parses 0 = .ok (.aload_n 0, 1) := by decide +kernel
theorem dX11_parses_1 : decode cX11_parses 1 = .ok (.iconst 0, 1) := by decide +kernel
theorem dX11_parses_2 : decode cX11_parses 2 = .ok (.putfield 336, 3) := by decide +kernel
theorem dX11_parses_5 : decode cX11_parses 5 = .ok (.aload_n 0, 1) := by decide +kernel
theorem dX11_parses_6 : decode cX11_parses 6 = .ok (.getfield 13, 3) := by decide +kernel
theorem dX11_parses_9 : decode cX11_parses 9 = .ok (.aload_n 0, 1) := by decide +kernel
theorem dX11_parses_10 : decode cX11_parses 10 = .ok (.getfield 336, 3) := by decide +kernel
theorem dX11_parses_13 : decode cX11_parses 13 = .ok (.iaload, 1) := by decide +kernel
theorem dX11_parses_14 : decode cX11_parses 14 = .ok (.iconst 4, 1) := by decide +kernel
theorem dX11_parses_15 : decode cX11_parses 15 = .ok (.if_icmp .eq 36, 3) := by decide +kernel
theorem dX11_parses_18 : decode cX11_parses 18 = .ok (.aload_n 0, 1) := by decide +kernel
theorem dX11_parses_19 : decode cX11_parses 19 = .ok (.invokevirtual 428, 3) := by decide +kernel
theorem dX11_parses_22 : decode cX11_parses 22 = .ok (.ifCond .ne 5, 3) := by decide +kernel
theorem dX11_parses_25 : decode cX11_parses 25 = .ok (.iconst 0, 1) := by decide +kernel
theorem dX11_parses_26 : decode cX11_parses 26 = .ok (.ireturn, 1) := by decide +kernel
theorem dX11_parses_27 : decode cX11_parses 27 = .ok (.aload_n 0, 1) := by decide +kernel
theorem dX11_parses_28 : decode cX11_parses 28 = .ok (.bipush 59, 2) := by decide +kernel
theorem dX11_parses_30 : decode cX11_parses 30 = .ok (.invokevirtual 377, 3) := by decide +kernel
theorem dX11_parses_33 : decode cX11_parses 33 = .ok (.ifCond .ne 9, 3) := by decide +kernel
theorem dX11_parses_36 : decode cX11_parses 36 = .ok (.aload_n 0, 1) := by decide +kernel
theorem dX11_parses_37 : decode cX11_parses 37 = .ok (.iconst 1, 1) := by decide +kernel
theorem dX11_parses_38 : decode cX11_parses 38 = .ok (.invokevirtual 345, 3) := by decide +kernel
theorem dX11_parses_41 : decode cX11_parses 41 = .ok (.ireturn, 1) := by decide +kernel
theorem dX11_parses_42 : decode cX11_parses 42 = .ok (.aload_n 0, 1) := by decide +kernel
theorem dX11_parses_43 : decode cX11_parses 43 = .ok (.invokevirtual 348, 3) := by decide +kernel
theorem dX11_parses_46 : decode cX11_parses 46 = .ok (.ifCond .ne (-41), 3) := by decide +kernel
theorem dX11_parses_49 : decode cX11_parses 49 = .ok (.iconst 0, 1) := by decide +kernel
theorem dX11_parses_50 : decode cX11_parses 50 = .ok (.ireturn, 1) := by decide +kernel
theorem dX11_parses_51 : decode cX11_parses 51 = .ok (.iconst 1, 1) := by decide +kernel
theorem dX11_parses_52 : decode cX11_parses 52 = .ok (.ireturn, 1) := by decide +kernel
theorem dX11_read_0 : decode cX11_read 0 = .ok (.aload_n 0, 1) := by decide +kernel
theorem dX11_read_1 : decode cX11_read 1 = .ok (.getfield 431, 3) := by decide +kernel
theorem dX11_read_4 : decode cX11_read 4 = .ok (.iconst 3, 1) := by decide +kernel
theorem dX11_read_5 : decode cX11_read 5 = .ok (.if_icmp .eq 14, 3) := by decide +kernel
theorem dX11_read_8 : decode cX11_read 8 = .ok (.iload_n 1, 1) := by decide +kernel
theorem dX11_read_9 : decode cX11_read 9 = .ok (.ifCond .lt 10, 3) := by decide +kernel
theorem dX11_read_12 : decode cX11_read 12 = .ok (.iload_n 1, 1) := by decide +kernel
theorem dX11_read_13 : decode cX11_read 13 = .ok (.sipush 364, 3) := by decide +kernel
theorem dX11_read_16 : decode cX11_read 16 = .ok (.if_icmp .le 6, 3) := by decide +kernel
theorem dX11_read_19 : decode cX11_read 19 = .ok (.bipush (-2), 2) := by decide +kernel
theorem dX11_read_21 : decode cX11_read 21 = .ok (.ireturn, 1) := by decide +kernel
theorem dX11_read_22 : decode cX11_read 22 = .ok (.aload_n 0, 1) := by decide +kernel
theorem dX11_read_23 : decode cX11_read 23 = .ok (.invokevirtual 434, 3) := by decide +kernel
theorem dX11_read_26 : decode cX11_read 26 = .ok (.aload_n 0, 1) := by decide +kernel
theorem dX11_read_27 : decode cX11_read 27 = .ok (.iconst 0, 1) := by decide +kernel
theorem dX11_read_28 : decode cX11_read 28 = .ok (.putfield 333, 3) := by decide +kernel
theorem dX11_read_31 : decode cX11_read 31 = .ok (.aload_n 0, 1) := by decide +kernel
theorem dX11_read_32 : decode cX11_read 32 = .ok (.iconst (-1), 1) := by decide +kernel
theorem dX11_read_33 : decode cX11_read 33 = .ok (.putfield 26, 3) := by decide +kernel
theorem dX11_read_36 : decode cX11_read 36 = .ok (.aload_n 0, 1) := by decide +kernel
theorem dX11_read_37 : decode cX11_read 37 = .ok (.iconst 0, 1) := by decide +kernel
theorem dX11_read_38 : decode cX11_read 38 = .ok (.putfield 339, 3) := by decide +kernel
theorem dX11_read_41 : decode cX11_read 41 = .ok (.aload_n 0, 1) := by decide +kernel
theorem dX11_read_42 : decode cX11_read 42 = .ok (.aload_n 0, 1) := by decide +kernel
theorem dX11_read_43 : decode cX11_read 43 = .ok (.getfield 431, 3) := by decide +kernel
theorem dX11_read_46 : decode cX11_read 46 = .ok (.putfield 362, 3) := by decide +kernel
theorem dX11_read_49 : decode cX11_read 49 = .ok (.aload_n 0, 1) := by decide +kernel
theorem dX11_read_50 : decode cX11_read 50 = .ok (.aload_n 0, 1) := by decide +kernel
theorem dX11_read_51 : decode cX11_read 51 = .ok (.getfield 362, 3) := by decide +kernel
theorem dX11_read_54 : decode cX11_read 54 = .ok (.invokevirtual 437, 3) := by decide +kernel
theorem dX11_read_57 : decode cX11_read 57 = .ok (.aload_n 0, 1) := by decide +kernel
theorem dX11_read_58 : decode cX11_read 58 = .ok (.invokevirtual 440, 3) := by decide +kernel
theorem dX11_read_61 : decode cX11_read 61 = .ok (.ifCond .eq 26, 3) := by decide +kernel
theorem dX11_read_64 : decode cX11_read 64 = .ok (.aload_n 0, 1) := by decide +kernel
theorem dX11_read_65 : decode cX11_read 65 = .ok (.getfield 339, 3) := by decide +kernel
theorem dX11_read_68 : decode cX11_read 68 = .ok (.ifCond .eq 19, 3) := by decide +kernel
theorem dX11_read_71 : decode cX11_read 71 = .ok (.aload_n 0, 1) := by decide +kernel
theorem dX11_read_72 : decode cX11_read 72 = .ok (.aload_n 0, 1) := by decide +kernel
theorem dX11_read_73 : decode cX11_read 73 = .ok (.getfield 339, 3) := by decide +kernel
theorem dX11_read_76 : decode cX11_read 76 = .ok (.putfield 333, 3) := by decide +kernel
theorem dX11_read_79 : decode cX11_read 79 = .ok (.aload_n 0, 1) := by decide +kernel
theorem dX11_read_80 : decode cX11_read 80 = .ok (.aload_n 0, 1) := by decide +kernel
theorem dX11_read_81 : decode cX11_read 81 = .ok (.getfield 342, 3) := by decide +kernel
theorem dX11_read_84 : decode cX11_read 84 = .ok (.putfield 26, 3) := by decide +kernel
theorem dX11_read_87 : decode cX11_read 87 = .ok (.aload_n 0, 1) := by decide +kernel
theorem dX11_read_88 : decode cX11_read 88 = .ok (.iconst 0, 1) := by decide +kernel
theorem dX11_read_89 : decode cX11_read 89 = .ok (.putfield 250, 3) := by decide +kernel
theorem dX11_read_92 : decode cX11_read 92 = .ok (.aload_n 0, 1) := by decide +kernel
theorem dX11_read_93 : decode cX11_read 93 = .ok (.getfield 333, 3) := by decide +kernel
theorem dX11_read_96 : decode cX11_read 96 = .ok (.ifCond .eq 8, 3) := by decide +kernel
theorem dX11_read_99 : decode cX11_read 99 = .ok (.aload_n 0, 1) := by decide +kernel
theorem dX11_read_100 : decode cX11_read 100 = .ok (.getfield 333, 3) := by decide +kernel
theorem dX11_read_103 : decode cX11_read 103 = .ok (.ireturn, 1) := by decide +kernel
theorem dX11_read_104 : decode cX11_read 104 = .ok (.aload_n 0, 1) := by decide +kernel
theorem dX11_read_105 : decode cX11_read 105 = .ok (.getfield 30, 3) := by decide +kernel
theorem dX11_read_108 : decode cX11_read 108 = .ok (.aload_n 0, 1) := by decide +kernel
theorem dX11_read_109 : decode cX11_read 109 = .ok (.getfield 431, 3) := by decide +kernel
theorem dX11_read_112 : decode cX11_read 112 = .ok (.iload_n 1, 1) := by decide +kernel
theorem dX11_read_113 : decode cX11_read 113 = .ok (.iastore, 1) := by decide +kernel
theorem dX11_read_114 : decode cX11_read 114 = .ok (.aload_n 0, 1) := by decide +kernel
theorem dX11_read_115 : decode cX11_read 115 = .ok (.dup, 1) := by decide +kernel
theorem dX11_read_116 : decode cX11_read 116 = .ok (.getfield 431, 3) := by decide +kernel
theorem dX11_read_119 : decode cX11_read 119 = .ok (.iconst 1, 1) := by decide +kernel
theorem dX11_read_120 : decode cX11_read 120 = .ok (.iadd, 1) := by decide +kernel
theorem dX11_read_121 : decode cX11_read 121 = .ok (.putfield 431, 3) := by decide +kernel
theorem dX11_read_124 : decode cX11_read 124 = .ok (.iconst 0, 1) := by decide +kernel
theorem dX11_read_125 : decode cX11_read 125 = .ok (.ireturn, 1) := by decide +kernel
theorem dX11_place_0 : decode cX11_place 0 = .ok (.aload_n 0, 1) := by decide +kernel
theorem dX11_place_1 : decode cX11_place 1 = .ok (.getfield 26, 3) := by decide +kernel
theorem dX11_place_4 : decode cX11_place 4 = .ok (.ireturn, 1) := by decide +kernel
theorem dX11_fact_0 : decode cX11_fact 0 = .ok (.aload_n 0, 1) := by decide +kernel
theorem dX11_fact_1 : decode cX11_fact 1 = .ok (.getfield 443, 3) := by decide +kernel
theorem dX11_fact_4 : decode cX11_fact 4 = .ok (.bipush 100, 2) := by decide +kernel
theorem dX11_fact_6 : decode cX11_fact 6 = .ok (.if_icmp .ne 5, 3) := by decide +kernel
theorem dX11_fact_9 : decode cX11_fact 9 = .ok (.iconst (-1), 1) := by decide +kernel
theorem dX11_fact_10 : decode cX11_fact 10 = .ok (.ireturn, 1) := by decide +kernel
theorem dX11_fact_11 : decode cX11_fact 11 = .ok (.aload_n 0, 1) := by decide +kernel
theorem dX11_fact_12 : decode cX11_fact 12 = .ok (.getfield 118, 3) := by decide +kernel
theorem dX11_fact_15 : decode cX11_fact 15 = .ok (.aload_n 0, 1) := by decide +kernel
theorem dX11_fact_16 : decode cX11_fact 16 = .ok (.getfield 443, 3) := by decide +kernel
theorem dX11_fact_19 : decode cX11_fact 19 = .ok (.iload_n 1, 1) := by decide +kernel
theorem dX11_fact_20 : decode cX11_fact 20 = .ok (.iastore, 1) := by decide +kernel
theorem dX11_fact_21 : decode cX11_fact 21 = .ok (.aload_n 0, 1) := by decide +kernel
theorem dX11_fact_22 : decode cX11_fact 22 = .ok (.getfield 121, 3) := by decide +kernel
theorem dX11_fact_25 : decode cX11_fact 25 = .ok (.aload_n 0, 1) := by decide +kernel
theorem dX11_fact_26 : decode cX11_fact 26 = .ok (.getfield 443, 3) := by decide +kernel
theorem dX11_fact_29 : decode cX11_fact 29 = .ok (.iload_n 2, 1) := by decide +kernel
theorem dX11_fact_30 : decode cX11_fact 30 = .ok (.iastore, 1) := by decide +kernel
theorem dX11_fact_31 : decode cX11_fact 31 = .ok (.aload_n 0, 1) := by decide +kernel
theorem dX11_fact_32 : decode cX11_fact 32 = .ok (.getfield 124, 3) := by decide +kernel
theorem dX11_fact_35 : decode cX11_fact 35 = .ok (.aload_n 0, 1) := by decide +kernel
theorem dX11_fact_36 : decode cX11_fact 36 = .ok (.getfield 443, 3) := by decide +kernel
theorem dX11_fact_39 : decode cX11_fact 39 = .ok (.iload_n 3, 1) := by decide +kernel
theorem dX11_fact_40 : decode cX11_fact 40 = .ok (.iastore, 1) := by decide +kernel
theorem dX11_fact_41 : decode cX11_fact 41 = .ok (.aload_n 0, 1) := by decide +kernel
theorem dX11_fact_42 : decode cX11_fact 42 = .ok (.getfield 127, 3) := by decide +kernel
theorem dX11_fact_45 : decode cX11_fact 45 = .ok (.aload_n 0, 1) := by decide +kernel
theorem dX11_fact_46 : decode cX11_fact 46 = .ok (.getfield 443, 3) := by decide +kernel
theorem dX11_fact_49 : decode cX11_fact 49 = .ok (.iload 4, 2) := by decide +kernel
theorem dX11_fact_51 : decode cX11_fact 51 = .ok (.iastore, 1) := by decide +kernel
theorem dX11_fact_52 : decode cX11_fact 52 = .ok (.aload_n 0, 1) := by decide +kernel
theorem dX11_fact_53 : decode cX11_fact 53 = .ok (.getfield 130, 3) := by decide +kernel
theorem dX11_fact_56 : decode cX11_fact 56 = .ok (.aload_n 0, 1) := by decide +kernel
theorem dX11_fact_57 : decode cX11_fact 57 = .ok (.getfield 443, 3) := by decide +kernel
theorem dX11_fact_60 : decode cX11_fact 60 = .ok (.iload 5, 2) := by decide +kernel
theorem dX11_fact_62 : decode cX11_fact 62 = .ok (.iastore, 1) := by decide +kernel
theorem dX11_fact_63 : decode cX11_fact 63 = .ok (.aload_n 0, 1) := by decide +kernel
theorem dX11_fact_64 : decode cX11_fact 64 = .ok (.dup, 1) := by decide +kernel
theorem dX11_fact_65 : decode cX11_fact 65 = .ok (.getfield 443, 3) := by decide +kernel
theorem dX11_fact_68 : decode cX11_fact 68 = .ok (.iconst 1, 1) := by decide +kernel
theorem dX11_fact_69 : decode cX11_fact 69 = .ok (.iadd, 1) := by decide +kernel
theorem dX11_fact_70 : decode cX11_fact 70 = .ok (.putfield 443, 3) := by decide +kernel
theorem dX11_fact_73 : decode cX11_fact 73 = .ok (.aload_n 0, 1) := by decide +kernel
theorem dX11_fact_74 : decode cX11_fact 74 = .ok (.getfield 443, 3) := by decide +kernel
theorem dX11_fact_77 : decode cX11_fact 77 = .ok (.iconst 1, 1) := by decide +kernel
theorem dX11_fact_78 : decode cX11_fact 78 = .ok (.isub, 1) := by decide +kernel
theorem dX11_fact_79 : decode cX11_fact 79 = .ok (.ireturn, 1) := by decide +kernel
theorem dX11_isIn_0 : decode cX11_isIn 0 = .ok (.iload_n 0, 1) := by decide +kernel
theorem dX11_isIn_1 : decode cX11_isIn 1 = .ok (.iload_n 1, 1) := by decide +kernel
theorem dX11_isIn_2 : decode cX11_isIn 2 = .ok (.if_icmp .lt 12, 3) := by decide +kernel
theorem dX11_isIn_5 : decode cX11_isIn 5 = .ok (.iload_n 0, 1) := by decide +kernel
theorem dX11_isIn_6 : decode cX11_isIn 6 = .ok (.iload_n 2, 1) := by decide +kernel
theorem dX11_isIn_7 : decode cX11_isIn 7 = .ok (.if_icmp .gt 7, 3) := by decide +kernel
theorem dX11_isIn_10 : decode cX11_isIn 10 = .ok (.iconst 1, 1) := by decide +kernel
theorem dX11_isIn_11 : decode cX11_isIn 11 = .ok (.goto 4, 3) := by decide +kernel
theorem dX11_isIn_14 : decode cX11_isIn 14 = .ok (.iconst 0, 1) := by decide +kernel
theorem dX11_isIn_15 : decode cX11_isIn 15 = .ok (.ireturn, 1) := by decide +kernel
theorem dX11_isChild_0 : decode cX11_isChild 0 = .ok (.iload_n 1, 1) := by decide +kernel
theorem dX11_isChild_1 : decode cX11_isChild 1 = .ok (.ifCond .lt 15, 3) := by decide +kernel
theorem dX11_isChild_4 : decode cX11_isChild 4 = .ok (.iload_n 1, 1) := by decide +kernel
theorem dX11_isChild_5 : decode cX11_isChild 5 = .ok (.aload_n 0, 1) := by decide +kernel
theorem dX11_isChild_6 : decode cX11_isChild 6 = .ok (.getfield 446, 3) := by decide +kernel
theorem dX11_isChild_9 : decode cX11_isChild 9 = .ok (.if_icmp .ge 7, 3) := by decide +kernel
theorem dX11_isChild_12 : decode cX11_isChild 12 = .ok (.iconst 1, 1) := by decide +kernel
theorem dX11_isChild_13 : decode cX11_isChild 13 = .ok (.goto 4, 3) := by decide +kernel
theorem dX11_isChild_16 : decode cX11_isChild 16 = .ok (.iconst 0, 1) := by decide +kernel
theorem dX11_isChild_17 : decode cX11_isChild 17 = .ok (.ireturn, 1) := by decide +kernel
theorem dX11_child_0 : decode cX11_child 0 = .ok (.aload_n 0, 1) := by decide +kernel
theorem dX11_child_1 : decode cX11_child 1 = .ok (.getfield 446, 3) := by decide +kernel
theorem dX11_child_4 : decode cX11_child 4 = .ok (.bipush 20, 2) := by decide +kernel
theorem dX11_child_6 : decode cX11_child 6 = .ok (.if_icmp .eq 51, 3) := by decide +kernel
theorem dX11_child_9 : decode cX11_child 9 = .ok (.aload_n 0, 1) := by decide +kernel
theorem dX11_child_10 : decode cX11_child 10 = .ok (.getfield 443, 3) := by decide +kernel
theorem dX11_child_13 : decode cX11_child 13 = .ok (.bipush 100, 2) := by decide +kernel
theorem dX11_child_15 : decode cX11_child 15 = .ok (.if_icmp .eq 42, 3) := by decide +kernel
theorem dX11_child_18 : decode cX11_child 18 = .ok (.iload_n 1, 1) := by decide +kernel
theorem dX11_child_19 : decode cX11_child 19 = .ok (.iconst 0, 1) := by decide +kernel
theorem dX11_child_20 : decode cX11_child 20 = .ok (.bipush 11, 2) := by decide +kernel
theorem dX11_child_22 : decode cX11_child 22 = .ok (.invokestatic 449, 3) := by decide +kernel
theorem dX11_child_25 : decode cX11_child 25 = .ok (.ifCond .eq 32, 3) := by decide +kernel
theorem dX11_child_28 : decode cX11_child 28 = .ok (.iload_n 2, 1) := by decide +kernel
theorem dX11_child_29 : decode cX11_child 29 = .ok (.iconst 0, 1) := by decide +kernel
theorem dX11_child_30 : decode cX11_child 30 = .ok (.iconst 2, 1) := by decide +kernel
theorem dX11_child_31 : decode cX11_child 31 = .ok (.invokestatic 449, 3) := by decide +kernel
theorem dX11_child_34 : decode cX11_child 34 = .ok (.ifCond .eq 23, 3) := by decide +kernel
theorem dX11_child_37 : decode cX11_child 37 = .ok (.iload_n 3, 1) := by decide +kernel
theorem dX11_child_38 : decode cX11_child 38 = .ok (.iconst 0, 1) := by decide +kernel
theorem dX11_child_39 : decode cX11_child 39 = .ok (.bipush 12, 2) := by decide +kernel
theorem dX11_child_41 : decode cX11_child 41 = .ok (.invokestatic 449, 3) := by decide +kernel
theorem dX11_child_44 : decode cX11_child 44 = .ok (.ifCond .eq 13, 3) := by decide +kernel
theorem dX11_child_47 : decode cX11_child 47 = .ok (.iload 4, 2) := by decide +kernel
theorem dX11_child_49 : decode cX11_child 49 = .ok (.iconst 0, 1) := by decide +kernel
theorem dX11_child_50 : decode cX11_child 50 = .ok (.iconst 3, 1) := by decide +kernel
theorem dX11_child_51 : decode cX11_child 51 = .ok (.invokestatic 449, 3) := by decide +kernel
theorem dX11_child_54 : decode cX11_child 54 = .ok (.ifCond .ne 5, 3) := by decide +kernel
theorem dX11_child_57 : decode cX11_child 57 = .ok (.iconst (-1), 1) := by decide +kernel
theorem dX11_child_58 : decode cX11_child 58 = .ok (.ireturn, 1) := by decide +kernel
theorem dX11_child_59 : decode cX11_child 59 = .ok (.aload_n 0, 1) := by decide +kernel
theorem dX11_child_60 : decode cX11_child 60 = .ok (.getfield 133, 3) := by decide +kernel
theorem dX11_child_63 : decode cX11_child 63 = .ok (.aload_n 0, 1) := by decide +kernel
theorem dX11_child_64 : decode cX11_child 64 = .ok (.getfield 446, 3) := by decide +kernel
theorem dX11_child_67 : decode cX11_child 67 = .ok (.aload_n 0, 1) := by decide +kernel
theorem dX11_child_68 : decode cX11_child 68 = .ok (.iconst 0, 1) := by decide +kernel
theorem dX11_child_69 : decode cX11_child 69 = .ok (.iload_n 1, 1) := by decide +kernel
theorem dX11_child_70 : decode cX11_child 70 = .ok (.iload_n 2, 1) := by decide +kernel
theorem dX11_child_71 : decode cX11_child 71 = .ok (.iload_n 3, 1) := by decide +kernel
theorem dX11_child_72 : decode cX11_child 72 = .ok (.iload 4, 2) := by decide +kernel
theorem dX11_child_74 : decode cX11_child 74 = .ok (.invokevirtual 453, 3) := by decide +kernel
theorem dX11_child_77 : decode cX11_child 77 = .ok (.iastore, 1) := by decide +kernel
theorem dX11_child_78 : decode cX11_child 78 = .ok (.aload_n 0, 1) := by decide +kernel
theorem dX11_child_79 : decode cX11_child 79 = .ok (.dup, 1) := by decide +kernel
theorem dX11_child_80 : decode cX11_child 80 = .ok (.getfield 446, 3) := by decide +kernel
theorem dX11_child_83 : decode cX11_child 83 = .ok (.iconst 1, 1) := by decide +kernel
theorem dX11_child_84 : decode cX11_child 84 = .ok (.iadd, 1) := by decide +kernel
theorem dX11_child_85 : decode cX11_child 85 = .ok (.putfield 446, 3) := by decide +kernel
theorem dX11_child_88 : decode cX11_child 88 = .ok (.aload_n 0, 1) := by decide +kernel
theorem dX11_child_89 : decode cX11_child 89 = .ok (.getfield 446, 3) := by decide +kernel
theorem dX11_child_92 : decode cX11_child 92 = .ok (.iconst 1, 1) := by decide +kernel
theorem dX11_child_93 : decode cX11_child 93 = .ok (.isub, 1) := by decide +kernel
theorem dX11_child_94 : decode cX11_child 94 = .ok (.ireturn, 1) := by decide +kernel
theorem dX11_move_0 : decode cX11_move 0 = .ok (.aload_n 0, 1) := by decide +kernel
theorem dX11_move_1 : decode cX11_move 1 = .ok (.iload_n 1, 1) := by decide +kernel
theorem dX11_move_2 : decode cX11_move 2 = .ok (.invokevirtual 457, 3) := by decide +kernel
theorem dX11_move_5 : decode cX11_move 5 = .ok (.ifCond .eq 45, 3) := by decide +kernel
theorem dX11_move_8 : decode cX11_move 8 = .ok (.iload_n 2, 1) := by decide +kernel
theorem dX11_move_9 : decode cX11_move 9 = .ok (.iconst 0, 1) := by decide +kernel
theorem dX11_move_10 : decode cX11_move 10 = .ok (.bipush 11, 2) := by decide +kernel
theorem dX11_move_12 : decode cX11_move 12 = .ok (.invokestatic 449, 3) := by decide +kernel
theorem dX11_move_15 : decode cX11_move 15 = .ok (.ifCond .eq 35, 3) := by decide +kernel
theorem dX11_move_18 : decode cX11_move 18 = .ok (.iload_n 3, 1) := by decide +kernel
theorem dX11_move_19 : decode cX11_move 19 = .ok (.iconst 0, 1) := by decide +kernel
theorem dX11_move_20 : decode cX11_move 20 = .ok (.sipush 364, 3) := by decide +kernel
theorem dX11_move_23 : decode cX11_move 23 = .ok (.invokestatic 449, 3) := by decide +kernel
theorem dX11_move_26 : decode cX11_move 26 = .ok (.ifCond .eq 24, 3) := by decide +kernel
theorem dX11_move_29 : decode cX11_move 29 = .ok (.aload_n 0, 1) := by decide +kernel
theorem dX11_move_30 : decode cX11_move 30 = .ok (.iload 4, 2) := by decide +kernel
theorem dX11_move_32 : decode cX11_move 32 = .ok (.ifCond .eq 7, 3) := by decide +kernel
theorem dX11_move_35 : decode cX11_move 35 = .ok (.iconst 2, 1) := by decide +kernel
theorem dX11_move_36 : decode cX11_move 36 = .ok (.goto 4, 3) := by decide +kernel
theorem dX11_move_39 : decode cX11_move 39 = .ok (.iconst 1, 1) := by decide +kernel
theorem dX11_move_40 : decode cX11_move 40 = .ok (.iload_n 1, 1) := by decide +kernel
theorem dX11_move_41 : decode cX11_move 41 = .ok (.iload_n 2, 1) := by decide +kernel
theorem dX11_move_42 : decode cX11_move 42 = .ok (.iload_n 3, 1) := by decide +kernel
theorem dX11_move_43 : decode cX11_move 43 = .ok (.iconst 0, 1) := by decide +kernel
theorem dX11_move_44 : decode cX11_move 44 = .ok (.invokevirtual 453, 3) := by decide +kernel
theorem dX11_move_47 : decode cX11_move 47 = .ok (.goto 4, 3) := by decide +kernel
theorem dX11_move_50 : decode cX11_move 50 = .ok (.iconst (-1), 1) := by decide +kernel
theorem dX11_move_51 : decode cX11_move 51 = .ok (.ireturn, 1) := by decide +kernel
theorem dX11_shut_0 : decode cX11_shut 0 = .ok (.iload_n 1, 1) := by decide +kernel
theorem dX11_shut_1 : decode cX11_shut 1 = .ok (.iconst 0, 1) := by decide +kernel
theorem dX11_shut_2 : decode cX11_shut 2 = .ok (.bipush 23, 2) := by decide +kernel
theorem dX11_shut_4 : decode cX11_shut 4 = .ok (.invokestatic 449, 3) := by decide +kernel
theorem dX11_shut_7 : decode cX11_shut 7 = .ok (.ifCond .eq 37, 3) := by decide +kernel
theorem dX11_shut_10 : decode cX11_shut 10 = .ok (.iload_n 2, 1) := by decide +kernel
theorem dX11_shut_11 : decode cX11_shut 11 = .ok (.iconst 0, 1) := by decide +kernel
theorem dX11_shut_12 : decode cX11_shut 12 = .ok (.sipush 364, 3) := by decide +kernel
theorem dX11_shut_15 : decode cX11_shut 15 = .ok (.invokestatic 449, 3) := by decide +kernel
theorem dX11_shut_18 : decode cX11_shut 18 = .ok (.ifCond .eq 26, 3) := by decide +kernel
theorem dX11_shut_21 : decode cX11_shut 21 = .ok (.iload_n 3, 1) := by decide +kernel
theorem dX11_shut_22 : decode cX11_shut 22 = .ok (.iload_n 2, 1) := by decide +kernel
theorem dX11_shut_23 : decode cX11_shut 23 = .ok (.sipush 364, 3) := by decide +kernel
theorem dX11_shut_26 : decode cX11_shut 26 = .ok (.invokestatic 449, 3) := by decide +kernel
theorem dX11_shut_29 : decode cX11_shut 29 = .ok (.ifCond .eq 15, 3) := by decide +kernel
theorem dX11_shut_32 : decode cX11_shut 32 = .ok (.aload_n 0, 1) := by decide +kernel
theorem dX11_shut_33 : decode cX11_shut 33 = .ok (.iconst 3, 1) := by decide +kernel
theorem dX11_shut_34 : decode cX11_shut 34 = .ok (.iload_n 1, 1) := by decide +kernel
theorem dX11_shut_35 : decode cX11_shut 35 = .ok (.iload_n 2, 1) := by decide +kernel
theorem dX11_shut_36 : decode cX11_shut 36 = .ok (.iload_n 3, 1) := by decide +kernel
theorem dX11_shut_37 : decode cX11_shut 37 = .ok (.iconst 0, 1) := by decide +kernel
theorem dX11_shut_38 : decode cX11_shut 38 = .ok (.invokevirtual 453, 3) := by decide +kernel
theorem dX11_shut_41 : decode cX11_shut 41 = .ok (.goto 4, 3) := by decide +kernel
theorem dX11_shut_44 : decode cX11_shut 44 = .ok (.iconst (-1), 1) := by decide +kernel
theorem dX11_shut_45 : decode cX11_shut 45 = .ok (.ireturn, 1) := by decide +kernel
theorem dX11_part_0 : decode cX11_part 0 = .ok (.aload_n 0, 1) := by decide +kernel
theorem dX11_part_1 : decode cX11_part 1 = .ok (.iload_n 1, 1) := by decide +kernel
theorem dX11_part_2 : decode cX11_part 2 = .ok (.invokevirtual 457, 3) := by decide +kernel
theorem dX11_part_5 : decode cX11_part 5 = .ok (.ifCond .eq 28, 3) := by decide +kernel
theorem dX11_part_8 : decode cX11_part 8 = .ok (.aload_n 0, 1) := by decide +kernel
theorem dX11_part_9 : decode cX11_part 9 = .ok (.iload_n 2, 1) := by decide +kernel
theorem dX11_part_10 : decode cX11_part 10 = .ok (.invokevirtual 457, 3) := by decide +kernel
theorem dX11_part_13 : decode cX11_part 13 = .ok (.ifCond .eq 20, 3) := by decide +kernel
theorem dX11_part_16 : decode cX11_part 16 = .ok (.iload_n 1, 1) := by decide +kernel
theorem dX11_part_17 : decode cX11_part 17 = .ok (.iload_n 2, 1) := by decide +kernel
theorem dX11_part_18 : decode cX11_part 18 = .ok (.if_icmp .eq 15, 3) := by decide +kernel
theorem dX11_part_21 : decode cX11_part 21 = .ok (.aload_n 0, 1) := by decide +kernel
theorem dX11_part_22 : decode cX11_part 22 = .ok (.iconst 4, 1) := by decide +kernel
theorem dX11_part_23 : decode cX11_part 23 = .ok (.iload_n 1, 1) := by decide +kernel
theorem dX11_part_24 : decode cX11_part 24 = .ok (.iload_n 2, 1) := by decide +kernel
theorem dX11_part_25 : decode cX11_part 25 = .ok (.iconst 0, 1) := by decide +kernel
theorem dX11_part_26 : decode cX11_part 26 = .ok (.iconst 0, 1) := by decide +kernel
theorem dX11_part_27 : decode cX11_part 27 = .ok (.invokevirtual 453, 3) := by decide +kernel
theorem dX11_part_30 : decode cX11_part 30 = .ok (.goto 4, 3) := by decide +kernel
theorem dX11_part_33 : decode cX11_part 33 = .ok (.iconst (-1), 1) := by decide +kernel
theorem dX11_part_34 : decode cX11_part 34 = .ok (.ireturn, 1) := by decide +kernel
theorem dX11_tap_0 : decode cX11_tap 0 = .ok (.aload_n 0, 1) := by decide +kernel
theorem dX11_tap_1 : decode cX11_tap 1 = .ok (.iload_n 1, 1) := by decide +kernel
theorem dX11_tap_2 : decode cX11_tap 2 = .ok (.invokevirtual 457, 3) := by decide +kernel
theorem dX11_tap_5 : decode cX11_tap 5 = .ok (.ifCond .eq 48, 3) := by decide +kernel
theorem dX11_tap_8 : decode cX11_tap 8 = .ok (.iload_n 2, 1) := by decide +kernel
theorem dX11_tap_9 : decode cX11_tap 9 = .ok (.iconst 0, 1) := by decide +kernel
theorem dX11_tap_10 : decode cX11_tap 10 = .ok (.iconst 5, 1) := by decide +kernel
theorem dX11_tap_11 : decode cX11_tap 11 = .ok (.invokestatic 449, 3) := by decide +kernel
theorem dX11_tap_14 : decode cX11_tap 14 = .ok (.ifCond .eq 39, 3) := by decide +kernel
theorem dX11_tap_17 : decode cX11_tap 17 = .ok (.iload_n 3, 1) := by decide +kernel
theorem dX11_tap_18 : decode cX11_tap 18 = .ok (.iconst 0, 1) := by decide +kernel
theorem dX11_tap_19 : decode cX11_tap 19 = .ok (.sipush 364, 3) := by decide +kernel
theorem dX11_tap_22 : decode cX11_tap 22 = .ok (.invokestatic 449, 3) := by decide +kernel
theorem dX11_tap_25 : decode cX11_tap 25 = .ok (.ifCond .eq 28, 3) := by decide +kernel
theorem dX11_tap_28 : decode cX11_tap 28 = .ok (.iload 4, 2) := by decide +kernel
theorem dX11_tap_30 : decode cX11_tap 30 = .ok (.iconst 0, 1) := by decide +kernel
theorem dX11_tap_31 : decode cX11_tap 31 = .ok (.sipush 1439, 3) := by decide +kernel
theorem dX11_tap_34 : decode cX11_tap 34 = .ok (.invokestatic 449, 3) := by decide +kernel
theorem dX11_tap_37 : decode cX11_tap 37 = .ok (.ifCond .eq 16, 3) := by decide +kernel
theorem dX11_tap_40 : decode cX11_tap 40 = .ok (.aload_n 0, 1) := by decide +kernel
theorem dX11_tap_41 : decode cX11_tap 41 = .ok (.iconst 5, 1) := by decide +kernel
theorem dX11_tap_42 : decode cX11_tap 42 = .ok (.iload_n 1, 1) := by decide +kernel
theorem dX11_tap_43 : decode cX11_tap 43 = .ok (.iload_n 2, 1) := by decide +kernel
theorem dX11_tap_44 : decode cX11_tap 44 = .ok (.iload_n 3, 1) := by decide +kernel
theorem dX11_tap_45 : decode cX11_tap 45 = .ok (.iload 4, 2) := by decide +kernel
theorem dX11_tap_47 : decode cX11_tap 47 = .ok (.invokevirtual 453, 3) := by decide +kernel
theorem dX11_tap_50 : decode cX11_tap 50 = .ok (.goto 4, 3) := by decide +kernel
theorem dX11_tap_53 : decode cX11_tap 53 = .ok (.iconst (-1), 1) := by decide +kernel
theorem dX11_tap_54 : decode cX11_tap 54 = .ok (.ireturn, 1) := by decide +kernel
theorem dX11_annul_0 : decode cX11_annul 0 = .ok (.iload_n 1, 1) := by decide +kernel
theorem dX11_annul_1 : decode cX11_annul 1 = .ok (.iconst 0, 1) := by decide +kernel
theorem dX11_annul_2 : decode cX11_annul 2 = .ok (.aload_n 0, 1) := by decide +kernel
theorem dX11_annul_3 : decode cX11_annul 3 = .ok (.getfield 443, 3) := by decide +kernel
theorem dX11_annul_6 : decode cX11_annul 6 = .ok (.iconst 1, 1) := by decide +kernel
theorem dX11_annul_7 : decode cX11_annul 7 = .ok (.isub, 1) := by decide +kernel
theorem dX11_annul_8 : decode cX11_annul 8 = .ok (.invokestatic 449, 3) := by decide +kernel
theorem dX11_annul_11 : decode cX11_annul 11 = .ok (.ifCond .eq 36, 3) := by decide +kernel
theorem dX11_annul_14 : decode cX11_annul 14 = .ok (.aload_n 0, 1) := by decide +kernel
theorem dX11_annul_15 : decode cX11_annul 15 = .ok (.getfield 118, 3) := by decide +kernel
theorem dX11_annul_18 : decode cX11_annul 18 = .ok (.iload_n 1, 1) := by decide +kernel
theorem dX11_annul_19 : decode cX11_annul 19 = .ok (.iaload, 1) := by decide +kernel
theorem dX11_annul_20 : decode cX11_annul 20 = .ok (.ifCond .eq 27, 3) := by decide +kernel
theorem dX11_annul_23 : decode cX11_annul 23 = .ok (.aload_n 0, 1) := by decide +kernel
theorem dX11_annul_24 : decode cX11_annul 24 = .ok (.getfield 118, 3) := by decide +kernel
theorem dX11_annul_27 : decode cX11_annul 27 = .ok (.iload_n 1, 1) := by decide +kernel
theorem dX11_annul_28 : decode cX11_annul 28 = .ok (.iaload, 1) := by decide +kernel
theorem dX11_annul_29 : decode cX11_annul 29 = .ok (.bipush 6, 2) := by decide +kernel
theorem dX11_annul_31 : decode cX11_annul 31 = .ok (.if_icmp .eq 16, 3) := by decide +kernel
theorem dX11_annul_34 : decode cX11_annul 34 = .ok (.aload_n 0, 1) := by decide +kernel
theorem dX11_annul_35 : decode cX11_annul 35 = .ok (.bipush 6, 2) := by decide +kernel
theorem dX11_annul_37 : decode cX11_annul 37 = .ok (.iload_n 1, 1) := by decide +kernel
theorem dX11_annul_38 : decode cX11_annul 38 = .ok (.iconst 0, 1) := by decide +kernel
theorem dX11_annul_39 : decode cX11_annul 39 = .ok (.iconst 0, 1) := by decide +kernel
theorem dX11_annul_40 : decode cX11_annul 40 = .ok (.iconst 0, 1) := by decide +kernel
theorem dX11_annul_41 : decode cX11_annul 41 = .ok (.invokevirtual 453, 3) := by decide +kernel
theorem dX11_annul_44 : decode cX11_annul 44 = .ok (.goto 4, 3) := by decide +kernel
theorem dX11_annul_47 : decode cX11_annul 47 = .ok (.iconst (-1), 1) := by decide +kernel
theorem dX11_annul_48 : decode cX11_annul 48 = .ok (.ireturn, 1) := by decide +kernel
theorem dX11_isKnown_0 : decode cX11_isKnown 0 = .ok (.iload_n 1, 1) := by decide +kernel
theorem dX11_isKnown_1 : decode cX11_isKnown 1 = .ok (.ifCond .lt 15, 3) := by decide +kernel
theorem dX11_isKnown_4 : decode cX11_isKnown 4 = .ok (.iload_n 1, 1) := by decide +kernel
theorem dX11_isKnown_5 : decode cX11_isKnown 5 = .ok (.aload_n 0, 1) := by decide +kernel
theorem dX11_isKnown_6 : decode cX11_isKnown 6 = .ok (.getfield 443, 3) := by decide +kernel
theorem dX11_isKnown_9 : decode cX11_isKnown 9 = .ok (.if_icmp .gt 7, 3) := by decide +kernel
theorem dX11_isKnown_12 : decode cX11_isKnown 12 = .ok (.iconst 1, 1) := by decide +kernel
theorem dX11_isKnown_13 : decode cX11_isKnown 13 = .ok (.goto 4, 3) := by decide +kernel
theorem dX11_isKnown_16 : decode cX11_isKnown 16 = .ok (.iconst 0, 1) := by decide +kernel
theorem dX11_isKnown_17 : decode cX11_isKnown 17 = .ok (.ireturn, 1) := by decide +kernel
theorem dX11_isLive_0 : decode cX11_isLive 0 = .ok (.iload_n 1, 1) := by decide +kernel
theorem dX11_isLive_1 : decode cX11_isLive 1 = .ok (.iconst 1, 1) := by decide +kernel
theorem dX11_isLive_2 : decode cX11_isLive 2 = .ok (.iadd, 1) := by decide +kernel
theorem dX11_isLive_3 : decode cX11_isLive 3 = .ok (.istore_n 3, 1) := by decide +kernel
theorem dX11_isLive_4 : decode cX11_isLive 4 = .ok (.iload_n 3, 1) := by decide +kernel
theorem dX11_isLive_5 : decode cX11_isLive 5 = .ok (.iload_n 2, 1) := by decide +kernel
theorem dX11_isLive_6 : decode cX11_isLive 6 = .ok (.if_icmp .ge 32, 3) := by decide +kernel
theorem dX11_isLive_9 : decode cX11_isLive 9 = .ok (.aload_n 0, 1) := by decide +kernel
theorem dX11_isLive_10 : decode cX11_isLive 10 = .ok (.getfield 118, 3) := by decide +kernel
theorem dX11_isLive_13 : decode cX11_isLive 13 = .ok (.iload_n 3, 1) := by decide +kernel
theorem dX11_isLive_14 : decode cX11_isLive 14 = .ok (.iaload, 1) := by decide +kernel
theorem dX11_isLive_15 : decode cX11_isLive 15 = .ok (.bipush 6, 2) := by decide +kernel
theorem dX11_isLive_17 : decode cX11_isLive 17 = .ok (.if_icmp .ne 15, 3) := by decide +kernel
theorem dX11_isLive_20 : decode cX11_isLive 20 = .ok (.aload_n 0, 1) := by decide +kernel
theorem dX11_isLive_21 : decode cX11_isLive 21 = .ok (.getfield 121, 3) := by decide +kernel
theorem dX11_isLive_24 : decode cX11_isLive 24 = .ok (.iload_n 3, 1) := by decide +kernel
theorem dX11_isLive_25 : decode cX11_isLive 25 = .ok (.iaload, 1) := by decide +kernel
theorem dX11_isLive_26 : decode cX11_isLive 26 = .ok (.iload_n 1, 1) := by decide +kernel
theorem dX11_isLive_27 : decode cX11_isLive 27 = .ok (.if_icmp .ne 5, 3) := by decide +kernel
theorem dX11_isLive_30 : decode cX11_isLive 30 = .ok (.iconst 0, 1) := by decide +kernel
theorem dX11_isLive_31 : decode cX11_isLive 31 = .ok (.ireturn, 1) := by decide +kernel
theorem dX11_isLive_32 : decode cX11_isLive 32 = .ok (.iinc 3 1, 3) := by decide +kernel
theorem dX11_isLive_35 : decode cX11_isLive 35 = .ok (.goto (-31), 3) := by decide +kernel
theorem dX11_isLive_38 : decode cX11_isLive 38 = .ok (.iconst 1, 1) := by decide +kernel
theorem dX11_isLive_39 : decode cX11_isLive 39 = .ok (.ireturn, 1) := by decide +kernel
theorem dX11_force_0 : decode cX11_force 0 = .ok (.iload_n 1, 1) := by decide +kernel
theorem dX11_force_1 : decode cX11_force 1 = .ok (.iconst 0, 1) := by decide +kernel
theorem dX11_force_2 : decode cX11_force 2 = .ok (.sipush 364, 3) := by decide +kernel
theorem dX11_force_5 : decode cX11_force 5 = .ok (.invokestatic 449, 3) := by decide +kernel
theorem dX11_force_8 : decode cX11_force 8 = .ok (.ifCond .ne 5, 3) := by decide +kernel
theorem dX11_force_11 : decode cX11_force 11 = .ok (.iconst (-1), 1) := by decide +kernel
theorem dX11_force_12 : decode cX11_force 12 = .ok (.ireturn, 1) := by decide +kernel
theorem dX11_force_13 : decode cX11_force 13 = .ok (.aload_n 0, 1) := by decide +kernel
theorem dX11_force_14 : decode cX11_force 14 = .ok (.getfield 431, 3) := by decide +kernel
theorem dX11_force_17 : decode cX11_force 17 = .ok (.iconst 1, 1) := by decide +kernel
theorem dX11_force_18 : decode cX11_force 18 = .ok (.isub, 1) := by decide +kernel
theorem dX11_force_19 : decode cX11_force 19 = .ok (.istore_n 2, 1) := by decide +kernel
theorem dX11_force_20 : decode cX11_force 20 = .ok (.iload_n 2, 1) := by decide +kernel
theorem dX11_force_21 : decode cX11_force 21 = .ok (.ifCond .lt 21, 3) := by decide +kernel
theorem dX11_force_24 : decode cX11_force 24 = .ok (.aload_n 0, 1) := by decide +kernel
theorem dX11_force_25 : decode cX11_force 25 = .ok (.getfield 30, 3) := by decide +kernel
theorem dX11_force_28 : decode cX11_force 28 = .ok (.iload_n 2, 1) := by decide +kernel
theorem dX11_force_29 : decode cX11_force 29 = .ok (.iaload, 1) := by decide +kernel
theorem dX11_force_30 : decode cX11_force 30 = .ok (.iload_n 1, 1) := by decide +kernel
theorem dX11_force_31 : decode cX11_force 31 = .ok (.if_icmp .gt 5, 3) := by decide +kernel
theorem dX11_force_34 : decode cX11_force 34 = .ok (.iload_n 2, 1) := by decide +kernel
theorem dX11_force_35 : decode cX11_force 35 = .ok (.ireturn, 1) := by decide +kernel
theorem dX11_force_36 : decode cX11_force 36 = .ok (.iinc 2 (-1), 3) := by decide +kernel
theorem dX11_force_39 : decode cX11_force 39 = .ok (.goto (-19), 3) := by decide +kernel
theorem dX11_force_42 : decode cX11_force 42 = .ok (.iconst (-1), 1) := by decide +kernel
theorem dX11_force_43 : decode cX11_force 43 = .ok (.ireturn, 1) := by decide +kernel
theorem dX11_isKnownChild_0 : decode cX11_isKnownChild 0 = .ok (.aload_n 0, 1) := by decide +kernel
theorem dX11_isKnownChild_1 : decode cX11_isKnownChild 1 = .ok (.iload_n 1, 1) := by decide +kernel
theorem dX11_isKnownChild_2 : decode cX11_isKnownChild 2 = .ok (.invokevirtual 457, 3) := by decide +kernel
theorem dX11_isKnownChild_5 : decode cX11_isKnownChild 5 = .ok (.ifCond .eq 17, 3) := by decide +kernel
theorem dX11_isKnownChild_8 : decode cX11_isKnownChild 8 = .ok (.aload_n 0, 1) := by decide +kernel
theorem dX11_isKnownChild_9 : decode cX11_isKnownChild 9 = .ok (.getfield 133, 3) := by decide +kernel
theorem dX11_isKnownChild_12 : decode cX11_isKnownChild 12 = .ok (.iload_n 1, 1) := by decide +kernel
theorem dX11_isKnownChild_13 : decode cX11_isKnownChild 13 = .ok (.iaload, 1) := by decide +kernel
theorem dX11_isKnownChild_14 : decode cX11_isKnownChild 14 = .ok (.iload_n 2, 1) := by decide +kernel
theorem dX11_isKnownChild_15 : decode cX11_isKnownChild 15 = .ok (.if_icmp .ge 7, 3) := by decide +kernel
theorem dX11_isKnownChild_18 : decode cX11_isKnownChild 18 = .ok (.iconst 1, 1) := by decide +kernel
theorem dX11_isKnownChild_19 : decode cX11_isKnownChild 19 = .ok (.goto 4, 3) := by decide +kernel
theorem dX11_isKnownChild_22 : decode cX11_isKnownChild 22 = .ok (.iconst 0, 1) := by decide +kernel
theorem dX11_isKnownChild_23 : decode cX11_isKnownChild 23 = .ok (.ireturn, 1) := by decide +kernel
theorem dX11_homeOf_0 : decode cX11_homeOf 0 = .ok (.iconst 1, 1) := by decide +kernel
theorem dX11_homeOf_1 : decode cX11_homeOf 1 = .ok (.istore 4, 2) := by decide +kernel
theorem dX11_homeOf_3 : decode cX11_homeOf 3 = .ok (.iconst (-1), 1) := by decide +kernel
theorem dX11_homeOf_4 : decode cX11_homeOf 4 = .ok (.istore 5, 2) := by decide +kernel
theorem dX11_homeOf_6 : decode cX11_homeOf 6 = .ok (.iload_n 2, 1) := by decide +kernel
theorem dX11_homeOf_7 : decode cX11_homeOf 7 = .ok (.bipush 7, 2) := by decide +kernel
theorem dX11_homeOf_9 : decode cX11_homeOf 9 = .ok (.idiv, 1) := by decide +kernel
theorem dX11_homeOf_10 : decode cX11_homeOf 10 = .ok (.iconst 2, 1) := by decide +kernel
theorem dX11_homeOf_11 : decode cX11_homeOf 11 = .ok (.irem, 1) := by decide +kernel
theorem dX11_homeOf_12 : decode cX11_homeOf 12 = .ok (.iconst 1, 1) := by decide +kernel
theorem dX11_homeOf_13 : decode cX11_homeOf 13 = .ok (.if_icmp .ne 26, 3) := by decide +kernel
theorem dX11_homeOf_16 : decode cX11_homeOf 16 = .ok (.aload_n 0, 1) := by decide +kernel
theorem dX11_homeOf_17 : decode cX11_homeOf 17 = .ok (.iload_n 1, 1) := by decide +kernel
theorem dX11_homeOf_18 : decode cX11_homeOf 18 = .ok (.iload_n 2, 1) := by decide +kernel
theorem dX11_homeOf_19 : decode cX11_homeOf 19 = .ok (.iload_n 3, 1) := by decide +kernel
theorem dX11_homeOf_20 : decode cX11_homeOf 20 = .ok (.iconst 2, 1) := by decide +kernel
theorem dX11_homeOf_21 : decode cX11_homeOf 21 = .ok (.invokevirtual 460, 3) := by decide +kernel
theorem dX11_homeOf_24 : decode cX11_homeOf 24 = .ok (.istore 5, 2) := by decide +kernel
theorem dX11_homeOf_26 : decode cX11_homeOf 26 = .ok (.iload 5, 2) := by decide +kernel
theorem dX11_homeOf_28 : decode cX11_homeOf 28 = .ok (.ifCond .lt 11, 3) := by decide +kernel
theorem dX11_homeOf_31 : decode cX11_homeOf 31 = .ok (.aload_n 0, 1) := by decide +kernel
theorem dX11_homeOf_32 : decode cX11_homeOf 32 = .ok (.getfield 124, 3) := by decide +kernel
theorem dX11_homeOf_35 : decode cX11_homeOf 35 = .ok (.iload 5, 2) := by decide +kernel
theorem dX11_homeOf_37 : decode cX11_homeOf 37 = .ok (.iaload, 1) := by decide +kernel
theorem dX11_homeOf_38 : decode cX11_homeOf 38 = .ok (.ireturn, 1) := by decide +kernel
theorem dX11_homeOf_39 : decode cX11_homeOf 39 = .ok (.aload_n 0, 1) := by decide +kernel
theorem dX11_homeOf_40 : decode cX11_homeOf 40 = .ok (.iload_n 1, 1) := by decide +kernel
theorem dX11_homeOf_41 : decode cX11_homeOf 41 = .ok (.iload_n 2, 1) := by decide +kernel
theorem dX11_homeOf_42 : decode cX11_homeOf 42 = .ok (.iload_n 3, 1) := by decide +kernel
theorem dX11_homeOf_43 : decode cX11_homeOf 43 = .ok (.iload 4, 2) := by decide +kernel
theorem dX11_homeOf_45 : decode cX11_homeOf 45 = .ok (.invokevirtual 460, 3) := by decide +kernel
theorem dX11_homeOf_48 : decode cX11_homeOf 48 = .ok (.istore 5, 2) := by decide +kernel
theorem dX11_homeOf_50 : decode cX11_homeOf 50 = .ok (.iload 5, 2) := by decide +kernel
theorem dX11_homeOf_52 : decode cX11_homeOf 52 = .ok (.ifCond .lt 13, 3) := by decide +kernel
theorem dX11_homeOf_55 : decode cX11_homeOf 55 = .ok (.aload_n 0, 1) := by decide +kernel
theorem dX11_homeOf_56 : decode cX11_homeOf 56 = .ok (.getfield 124, 3) := by decide +kernel
theorem dX11_homeOf_59 : decode cX11_homeOf 59 = .ok (.iload 5, 2) := by decide +kernel
theorem dX11_homeOf_61 : decode cX11_homeOf 61 = .ok (.iaload, 1) := by decide +kernel
theorem dX11_homeOf_62 : decode cX11_homeOf 62 = .ok (.goto 14, 3) := by decide +kernel
theorem dX11_homeOf_65 : decode cX11_homeOf 65 = .ok (.aload_n 0, 1) := by decide +kernel
theorem dX11_homeOf_66 : decode cX11_homeOf 66 = .ok (.getfield 121, 3) := by decide +kernel
theorem dX11_homeOf_69 : decode cX11_homeOf 69 = .ok (.aload_n 0, 1) := by decide +kernel
theorem dX11_homeOf_70 : decode cX11_homeOf 70 = .ok (.getfield 133, 3) := by decide +kernel
theorem dX11_homeOf_73 : decode cX11_homeOf 73 = .ok (.iload_n 1, 1) := by decide +kernel
theorem dX11_homeOf_74 : decode cX11_homeOf 74 = .ok (.iaload, 1) := by decide +kernel
theorem dX11_homeOf_75 : decode cX11_homeOf 75 = .ok (.iaload, 1) := by decide +kernel
theorem dX11_homeOf_76 : decode cX11_homeOf 76 = .ok (.ireturn, 1) := by decide +kernel
theorem dX11_lastHome_0 : decode cX11_lastHome 0 = .ok (.iconst (-1), 1) := by decide +kernel
theorem dX11_lastHome_1 : decode cX11_lastHome 1 = .ok (.istore 5, 2) := by decide +kernel
theorem dX11_lastHome_3 : decode cX11_lastHome 3 = .ok (.iconst 0, 1) := by decide +kernel
theorem dX11_lastHome_4 : decode cX11_lastHome 4 = .ok (.istore 6, 2) := by decide +kernel
theorem dX11_lastHome_6 : decode cX11_lastHome 6 = .ok (.iload 6, 2) := by decide +kernel
theorem dX11_lastHome_8 : decode cX11_lastHome 8 = .ok (.iload_n 3, 1) := by decide +kernel
theorem dX11_lastHome_9 : decode cX11_lastHome 9 = .ok (.if_icmp .ge 82, 3) := by decide +kernel
theorem dX11_lastHome_12 : decode cX11_lastHome 12 = .ok (.aload_n 0, 1) := by decide +kernel
theorem dX11_lastHome_13 : decode cX11_lastHome 13 = .ok (.getfield 118, 3) := by decide +kernel
theorem dX11_lastHome_16 : decode cX11_lastHome 16 = .ok (.iload 6, 2) := by decide +kernel
theorem dX11_lastHome_18 : decode cX11_lastHome 18 = .ok (.iaload, 1) := by decide +kernel
theorem dX11_lastHome_19 : decode cX11_lastHome 19 = .ok (.iload 4, 2) := by decide +kernel
theorem dX11_lastHome_21 : decode cX11_lastHome 21 = .ok (.if_icmp .ne 64, 3) := by decide +kernel
theorem dX11_lastHome_24 : decode cX11_lastHome 24 = .ok (.aload_n 0, 1) := by decide +kernel
theorem dX11_lastHome_25 : decode cX11_lastHome 25 = .ok (.getfield 121, 3) := by decide +kernel
theorem dX11_lastHome_28 : decode cX11_lastHome 28 = .ok (.iload 6, 2) := by decide +kernel
theorem dX11_lastHome_30 : decode cX11_lastHome 30 = .ok (.iaload, 1) := by decide +kernel
theorem dX11_lastHome_31 : decode cX11_lastHome 31 = .ok (.iload_n 1, 1) := by decide +kernel
theorem dX11_lastHome_32 : decode cX11_lastHome 32 = .ok (.if_icmp .ne 53, 3) := by decide +kernel
theorem dX11_lastHome_35 : decode cX11_lastHome 35 = .ok (.aload_n 0, 1) := by decide +kernel
theorem dX11_lastHome_36 : decode cX11_lastHome 36 = .ok (.getfield 127, 3) := by decide +kernel
theorem dX11_lastHome_39 : decode cX11_lastHome 39 = .ok (.iload 6, 2) := by decide +kernel
theorem dX11_lastHome_41 : decode cX11_lastHome 41 = .ok (.iaload, 1) := by decide +kernel
theorem dX11_lastHome_42 : decode cX11_lastHome 42 = .ok (.iload_n 2, 1) := by decide +kernel
theorem dX11_lastHome_43 : decode cX11_lastHome 43 = .ok (.if_icmp .gt 42, 3) := by decide +kernel
theorem dX11_lastHome_46 : decode cX11_lastHome 46 = .ok (.aload_n 0, 1) := by decide +kernel
theorem dX11_lastHome_47 : decode cX11_lastHome 47 = .ok (.iload 6, 2) := by decide +kernel
theorem dX11_lastHome_49 : decode cX11_lastHome 49 = .ok (.iload_n 3, 1) := by decide +kernel
theorem dX11_lastHome_50 : decode cX11_lastHome 50 = .ok (.invokevirtual 464, 3) := by decide +kernel
theorem dX11_lastHome_53 : decode cX11_lastHome 53 = .ok (.ifCond .ne 6, 3) := by decide +kernel
theorem dX11_lastHome_56 : decode cX11_lastHome 56 = .ok (.goto 29, 3) := by decide +kernel
theorem dX11_lastHome_59 : decode cX11_lastHome 59 = .ok (.iload 5, 2) := by decide +kernel
theorem dX11_lastHome_61 : decode cX11_lastHome 61 = .ok (.ifCond .lt 20, 3) := by decide +kernel
theorem dX11_lastHome_64 : decode cX11_lastHome 64 = .ok (.aload_n 0, 1) := by decide +kernel
theorem dX11_lastHome_65 : decode cX11_lastHome 65 = .ok (.getfield 127, 3) := by decide +kernel
theorem dX11_lastHome_68 : decode cX11_lastHome 68 = .ok (.iload 6, 2) := by decide +kernel
theorem dX11_lastHome_70 : decode cX11_lastHome 70 = .ok (.iaload, 1) := by decide +kernel
theorem dX11_lastHome_71 : decode cX11_lastHome 71 = .ok (.aload_n 0, 1) := by decide +kernel
theorem dX11_lastHome_72 : decode cX11_lastHome 72 = .ok (.getfield 127, 3) := by decide +kernel
theorem dX11_lastHome_75 : decode cX11_lastHome 75 = .ok (.iload 5, 2) := by decide +kernel
theorem dX11_lastHome_77 : decode cX11_lastHome 77 = .ok (.iaload, 1) := by decide +kernel
theorem dX11_lastHome_78 : decode cX11_lastHome 78 = .ok (.if_icmp .lt 7, 3) := by decide +kernel
theorem dX11_lastHome_81 : decode cX11_lastHome 81 = .ok (.iload 6, 2) := by decide +kernel
theorem dX11_lastHome_83 : decode cX11_lastHome 83 = .ok (.istore 5, 2) := by decide +kernel
theorem dX11_lastHome_85 : decode cX11_lastHome 85 = .ok (.iinc 6 1, 3) := by decide +kernel
theorem dX11_lastHome_88 : decode cX11_lastHome 88 = .ok (.goto (-82), 3) := by decide +kernel
theorem dX11_lastHome_91 : decode cX11_lastHome 91 = .ok (.iload 5, 2) := by decide +kernel
theorem dX11_lastHome_93 : decode cX11_lastHome 93 = .ok (.ireturn, 1) := by decide +kernel
theorem dX11_home_0 : decode cX11_home 0 = .ok (.aload_n 0, 1) := by decide +kernel
theorem dX11_home_1 : decode cX11_home 1 = .ok (.iload_n 3, 1) := by decide +kernel
theorem dX11_home_2 : decode cX11_home 2 = .ok (.invokevirtual 467, 3) := by decide +kernel
theorem dX11_home_5 : decode cX11_home 5 = .ok (.ifCond .eq 33, 3) := by decide +kernel
theorem dX11_home_8 : decode cX11_home 8 = .ok (.aload_n 0, 1) := by decide +kernel
theorem dX11_home_9 : decode cX11_home 9 = .ok (.iload_n 1, 1) := by decide +kernel
theorem dX11_home_10 : decode cX11_home 10 = .ok (.iload_n 3, 1) := by decide +kernel
theorem dX11_home_11 : decode cX11_home 11 = .ok (.invokevirtual 470, 3) := by decide +kernel
theorem dX11_home_14 : decode cX11_home 14 = .ok (.ifCond .eq 24, 3) := by decide +kernel
theorem dX11_home_17 : decode cX11_home 17 = .ok (.iload_n 2, 1) := by decide +kernel
theorem dX11_home_18 : decode cX11_home 18 = .ok (.iconst 0, 1) := by decide +kernel
theorem dX11_home_19 : decode cX11_home 19 = .ok (.sipush 364, 3) := by decide +kernel
theorem dX11_home_22 : decode cX11_home 22 = .ok (.invokestatic 449, 3) := by decide +kernel
theorem dX11_home_25 : decode cX11_home 25 = .ok (.ifCond .eq 13, 3) := by decide +kernel
theorem dX11_home_28 : decode cX11_home 28 = .ok (.aload_n 0, 1) := by decide +kernel
theorem dX11_home_29 : decode cX11_home 29 = .ok (.iload_n 1, 1) := by decide +kernel
theorem dX11_home_30 : decode cX11_home 30 = .ok (.iload_n 2, 1) := by decide +kernel
theorem dX11_home_31 : decode cX11_home 31 = .ok (.iload_n 3, 1) := by decide +kernel
theorem dX11_home_32 : decode cX11_home 32 = .ok (.invokevirtual 473, 3) := by decide +kernel
theorem dX11_home_35 : decode cX11_home 35 = .ok (.goto 4, 3) := by decide +kernel
theorem dX11_home_38 : decode cX11_home 38 = .ok (.iconst (-1), 1) := by decide +kernel
theorem dX11_home_39 : decode cX11_home 39 = .ok (.ireturn, 1) := by decide +kernel
theorem dX11_weightOf_0 : decode cX11_weightOf 0 = .ok (.iload_n 2, 1) := by decide +kernel
theorem dX11_weightOf_1 : decode cX11_weightOf 1 = .ok (.iconst 2, 1) := by decide +kernel
theorem dX11_weightOf_2 : decode cX11_weightOf 2 = .ok (.if_icmp .ne 20, 3) := by decide +kernel
theorem dX11_weightOf_5 : decode cX11_weightOf 5 = .ok (.aload_n 0, 1) := by decide +kernel
theorem dX11_weightOf_6 : decode cX11_weightOf 6 = .ok (.getfield 51, 3) := by decide +kernel
theorem dX11_weightOf_9 : decode cX11_weightOf 9 = .ok (.bipush 24, 2) := by decide +kernel
theorem dX11_weightOf_11 : decode cX11_weightOf 11 = .ok (.aload_n 0, 1) := by decide +kernel
theorem dX11_weightOf_12 : decode cX11_weightOf 12 = .ok (.getfield 477, 3) := by decide +kernel
theorem dX11_weightOf_15 : decode cX11_weightOf 15 = .ok (.imul, 1) := by decide +kernel
theorem dX11_weightOf_16 : decode cX11_weightOf 16 = .ok (.iload_n 1, 1) := by decide +kernel
theorem dX11_weightOf_17 : decode cX11_weightOf 17 = .ok (.iadd, 1) := by decide +kernel
theorem dX11_weightOf_18 : decode cX11_weightOf 18 = .ok (.iaload, 1) := by decide +kernel
theorem dX11_weightOf_19 : decode cX11_weightOf 19 = .ok (.goto 17, 3) := by decide +kernel
theorem dX11_weightOf_22 : decode cX11_weightOf 22 = .ok (.aload_n 0, 1) := by decide +kernel
theorem dX11_weightOf_23 : decode cX11_weightOf 23 = .ok (.getfield 48, 3) := by decide +kernel
theorem dX11_weightOf_26 : decode cX11_weightOf 26 = .ok (.bipush 24, 2) := by decide +kernel
theorem dX11_weightOf_28 : decode cX11_weightOf 28 = .ok (.aload_n 0, 1) := by decide +kernel
theorem dX11_weightOf_29 : decode cX11_weightOf 29 = .ok (.getfield 477, 3) := by decide +kernel
theorem dX11_weightOf_32 : decode cX11_weightOf 32 = .ok (.imul, 1) := by decide +kernel
theorem dX11_weightOf_33 : decode cX11_weightOf 33 = .ok (.iload_n 1, 1) := by decide +kernel
theorem dX11_weightOf_34 : decode cX11_weightOf 34 = .ok (.iadd, 1) := by decide +kernel
theorem dX11_weightOf_35 : decode cX11_weightOf 35 = .ok (.iaload, 1) := by decide +kernel
theorem dX11_weightOf_36 : decode cX11_weightOf 36 = .ok (.ireturn, 1) := by decide +kernel
theorem dX11_isOpen_0 : decode cX11_isOpen 0 = .ok (.aload_n 0, 1) := by decide +kernel
theorem dX11_isOpen_1 : decode cX11_isOpen 1 = .ok (.getfield 166, 3) := by decide +kernel
theorem dX11_isOpen_4 : decode cX11_isOpen 4 = .ok (.iload_n 1, 1) := by decide +kernel
theorem dX11_isOpen_5 : decode cX11_isOpen 5 = .ok (.baload, 1) := by decide +kernel
theorem dX11_isOpen_6 : decode cX11_isOpen 6 = .ok (.ifCond .ne 29, 3) := by decide +kernel
theorem dX11_isOpen_9 : decode cX11_isOpen 9 = .ok (.iload_n 2, 1) := by decide +kernel
theorem dX11_isOpen_10 : decode cX11_isOpen 10 = .ok (.iconst 1, 1) := by decide +kernel
theorem dX11_isOpen_11 : decode cX11_isOpen 11 = .ok (.if_icmp .ne 20, 3) := by decide +kernel
theorem dX11_isOpen_14 : decode cX11_isOpen 14 = .ok (.aload_n 0, 1) := by decide +kernel
theorem dX11_isOpen_15 : decode cX11_isOpen 15 = .ok (.getfield 54, 3) := by decide +kernel
theorem dX11_isOpen_18 : decode cX11_isOpen 18 = .ok (.bipush 24, 2) := by decide +kernel
theorem dX11_isOpen_20 : decode cX11_isOpen 20 = .ok (.aload_n 0, 1) := by decide +kernel
theorem dX11_isOpen_21 : decode cX11_isOpen 21 = .ok (.getfield 477, 3) := by decide +kernel
theorem dX11_isOpen_24 : decode cX11_isOpen 24 = .ok (.imul, 1) := by decide +kernel
theorem dX11_isOpen_25 : decode cX11_isOpen 25 = .ok (.iload_n 1, 1) := by decide +kernel
theorem dX11_isOpen_26 : decode cX11_isOpen 26 = .ok (.iadd, 1) := by decide +kernel
theorem dX11_isOpen_27 : decode cX11_isOpen 27 = .ok (.baload, 1) := by decide +kernel
theorem dX11_isOpen_28 : decode cX11_isOpen 28 = .ok (.ifCond .ne 7, 3) := by decide +kernel
theorem dX11_isOpen_31 : decode cX11_isOpen 31 = .ok (.iconst 1, 1) := by decide +kernel
theorem dX11_isOpen_32 : decode cX11_isOpen 32 = .ok (.goto 4, 3) := by decide +kernel
theorem dX11_isOpen_35 : decode cX11_isOpen 35 = .ok (.iconst 0, 1) := by decide +kernel
theorem dX11_isOpen_36 : decode cX11_isOpen 36 = .ok (.ireturn, 1) := by decide +kernel
theorem dX11_lay_0 : decode cX11_lay 0 = .ok (.aload_n 0, 1) := by decide +kernel
theorem dX11_lay_1 : decode cX11_lay 1 = .ok (.aload_n 0, 1) := by decide +kernel
theorem dX11_lay_2 : decode cX11_lay 2 = .ok (.iload_n 1, 1) := by decide +kernel
theorem dX11_lay_3 : decode cX11_lay 3 = .ok (.invokevirtual 480, 3) := by decide +kernel
theorem dX11_lay_6 : decode cX11_lay 6 = .ok (.putfield 477, 3) := by decide +kernel
theorem dX11_lay_9 : decode cX11_lay 9 = .ok (.iconst 0, 1) := by decide +kernel
theorem dX11_lay_10 : decode cX11_lay 10 = .ok (.istore_n 3, 1) := by decide +kernel
theorem dX11_lay_11 : decode cX11_lay 11 = .ok (.iload_n 3, 1) := by decide +kernel
theorem dX11_lay_12 : decode cX11_lay 12 = .ok (.bipush 24, 2) := by decide +kernel
theorem dX11_lay_14 : decode cX11_lay 14 = .ok (.if_icmp .ge 16, 3) := by decide +kernel
theorem dX11_lay_17 : decode cX11_lay 17 = .ok (.aload_n 0, 1) := by decide +kernel
theorem dX11_lay_18 : decode cX11_lay 18 = .ok (.getfield 166, 3) := by decide +kernel
theorem dX11_lay_21 : decode cX11_lay 21 = .ok (.iload_n 3, 1) := by decide +kernel
theorem dX11_lay_22 : decode cX11_lay 22 = .ok (.iconst 0, 1) := by decide +kernel
theorem dX11_lay_23 : decode cX11_lay 23 = .ok (.bastore, 1) := by decide +kernel
theorem dX11_lay_24 : decode cX11_lay 24 = .ok (.iinc 3 1, 3) := by decide +kernel
theorem dX11_lay_27 : decode cX11_lay 27 = .ok (.goto (-16), 3) := by decide +kernel
theorem dX11_lay_30 : decode cX11_lay 30 = .ok (.iconst 0, 1) := by decide +kernel
theorem dX11_lay_31 : decode cX11_lay 31 = .ok (.istore_n 3, 1) := by decide +kernel
theorem dX11_lay_32 : decode cX11_lay 32 = .ok (.iload_n 3, 1) := by decide +kernel
theorem dX11_lay_33 : decode cX11_lay 33 = .ok (.iload_n 2, 1) := by decide +kernel
theorem dX11_lay_34 : decode cX11_lay 34 = .ok (.if_icmp .ge 59, 3) := by decide +kernel
theorem dX11_lay_37 : decode cX11_lay 37 = .ok (.aload_n 0, 1) := by decide +kernel
theorem dX11_lay_38 : decode cX11_lay 38 = .ok (.getfield 118, 3) := by decide +kernel
theorem dX11_lay_41 : decode cX11_lay 41 = .ok (.iload_n 3, 1) := by decide +kernel
theorem dX11_lay_42 : decode cX11_lay 42 = .ok (.iaload, 1) := by decide +kernel
theorem dX11_lay_43 : decode cX11_lay 43 = .ok (.iconst 3, 1) := by decide +kernel
theorem dX11_lay_44 : decode cX11_lay 44 = .ok (.if_icmp .ne 43, 3) := by decide +kernel
theorem dX11_lay_47 : decode cX11_lay 47 = .ok (.iload_n 1, 1) := by decide +kernel
theorem dX11_lay_48 : decode cX11_lay 48 = .ok (.aload_n 0, 1) := by decide +kernel
theorem dX11_lay_49 : decode cX11_lay 49 = .ok (.getfield 124, 3) := by decide +kernel
theorem dX11_lay_52 : decode cX11_lay 52 = .ok (.iload_n 3, 1) := by decide +kernel
theorem dX11_lay_53 : decode cX11_lay 53 = .ok (.iaload, 1) := by decide +kernel
theorem dX11_lay_54 : decode cX11_lay 54 = .ok (.aload_n 0, 1) := by decide +kernel
theorem dX11_lay_55 : decode cX11_lay 55 = .ok (.getfield 127, 3) := by decide +kernel
theorem dX11_lay_58 : decode cX11_lay 58 = .ok (.iload_n 3, 1) := by decide +kernel
theorem dX11_lay_59 : decode cX11_lay 59 = .ok (.iaload, 1) := by decide +kernel
theorem dX11_lay_60 : decode cX11_lay 60 = .ok (.invokestatic 449, 3) := by decide +kernel
theorem dX11_lay_63 : decode cX11_lay 63 = .ok (.ifCond .eq 24, 3) := by decide +kernel
theorem dX11_lay_66 : decode cX11_lay 66 = .ok (.aload_n 0, 1) := by decide +kernel
theorem dX11_lay_67 : decode cX11_lay 67 = .ok (.iload_n 3, 1) := by decide +kernel
theorem dX11_lay_68 : decode cX11_lay 68 = .ok (.iload_n 2, 1) := by decide +kernel
theorem dX11_lay_69 : decode cX11_lay 69 = .ok (.invokevirtual 464, 3) := by decide +kernel
theorem dX11_lay_72 : decode cX11_lay 72 = .ok (.ifCond .eq 15, 3) := by decide +kernel
theorem dX11_lay_75 : decode cX11_lay 75 = .ok (.aload_n 0, 1) := by decide +kernel
theorem dX11_lay_76 : decode cX11_lay 76 = .ok (.getfield 166, 3) := by decide +kernel
theorem dX11_lay_79 : decode cX11_lay 79 = .ok (.aload_n 0, 1) := by decide +kernel
theorem dX11_lay_80 : decode cX11_lay 80 = .ok (.getfield 121, 3) := by decide +kernel
theorem dX11_lay_83 : decode cX11_lay 83 = .ok (.iload_n 3, 1) := by decide +kernel
theorem dX11_lay_84 : decode cX11_lay 84 = .ok (.iaload, 1) := by decide +kernel
theorem dX11_lay_85 : decode cX11_lay 85 = .ok (.iconst 1, 1) := by decide +kernel
theorem dX11_lay_86 : decode cX11_lay 86 = .ok (.bastore, 1) := by decide +kernel
theorem dX11_lay_87 : decode cX11_lay 87 = .ok (.iinc 3 1, 3) := by decide +kernel
theorem dX11_lay_90 : decode cX11_lay 90 = .ok (.goto (-58), 3) := by decide +kernel
theorem dX11_lay_93 : decode cX11_lay 93 = .ok (.iconst 0, 1) := by decide +kernel
theorem dX11_lay_94 : decode cX11_lay 94 = .ok (.istore_n 3, 1) := by decide +kernel
theorem dX11_lay_95 : decode cX11_lay 95 = .ok (.iload_n 3, 1) := by decide +kernel
theorem dX11_lay_96 : decode cX11_lay 96 = .ok (.iconst 3, 1) := by decide +kernel
theorem dX11_lay_97 : decode cX11_lay 97 = .ok (.if_icmp .ge 308, 3) := by decide +kernel
theorem dX11_lay_100 : decode cX11_lay 100 = .ok (.iconst 0, 1) := by decide +kernel
theorem dX11_lay_101 : decode cX11_lay 101 = .ok (.istore 4, 2) := by decide +kernel
theorem dX11_lay_103 : decode cX11_lay 103 = .ok (.iload 4, 2) := by decide +kernel
theorem dX11_lay_105 : decode cX11_lay 105 = .ok (.sipush 144, 3) := by decide +kernel
theorem dX11_lay_108 : decode cX11_lay 108 = .ok (.if_icmp .ge 57, 3) := by decide +kernel
theorem dX11_lay_111 : decode cX11_lay 111 = .ok (.aload_n 0, 1) := by decide +kernel
theorem dX11_lay_112 : decode cX11_lay 112 = .ok (.getfield 169, 3) := by decide +kernel
theorem dX11_lay_115 : decode cX11_lay 115 = .ok (.sipush 144, 3) := by decide +kernel
theorem dX11_lay_118 : decode cX11_lay 118 = .ok (.iload_n 3, 1) := by decide +kernel
theorem dX11_lay_119 : decode cX11_lay 119 = .ok (.imul, 1) := by decide +kernel
theorem dX11_lay_120 : decode cX11_lay 120 = .ok (.iload 4, 2) := by decide +kernel
theorem dX11_lay_122 : decode cX11_lay 122 = .ok (.iadd, 1) := by decide +kernel
theorem dX11_lay_123 : decode cX11_lay 123 = .ok (.iload 4, 2) := by decide +kernel
theorem dX11_lay_125 : decode cX11_lay 125 = .ok (.bipush 12, 2) := by decide +kernel
theorem dX11_lay_127 : decode cX11_lay 127 = .ok (.idiv, 1) := by decide +kernel
theorem dX11_lay_128 : decode cX11_lay 128 = .ok (.iload 4, 2) := by decide +kernel
theorem dX11_lay_130 : decode cX11_lay 130 = .ok (.bipush 12, 2) := by decide +kernel
theorem dX11_lay_132 : decode cX11_lay 132 = .ok (.irem, 1) := by decide +kernel
theorem dX11_lay_133 : decode cX11_lay 133 = .ok (.if_icmp .ne 24, 3) := by decide +kernel
theorem dX11_lay_136 : decode cX11_lay 136 = .ok (.iload 4, 2) := by decide +kernel
theorem dX11_lay_138 : decode cX11_lay 138 = .ok (.bipush 12, 2) := by decide +kernel
theorem dX11_lay_140 : decode cX11_lay 140 = .ok (.idiv, 1) := by decide +kernel
theorem dX11_lay_141 : decode cX11_lay 141 = .ok (.aload_n 0, 1) := by decide +kernel
theorem dX11_lay_142 : decode cX11_lay 142 = .ok (.getfield 36, 3) := by decide +kernel
theorem dX11_lay_145 : decode cX11_lay 145 = .ok (.aload_n 0, 1) := by decide +kernel
theorem dX11_lay_146 : decode cX11_lay 146 = .ok (.getfield 477, 3) := by decide +kernel
theorem dX11_lay_149 : decode cX11_lay 149 = .ok (.iaload, 1) := by decide +kernel
theorem dX11_lay_150 : decode cX11_lay 150 = .ok (.if_icmp .ge 7, 3) := by decide +kernel
theorem dX11_lay_153 : decode cX11_lay 153 = .ok (.iconst 0, 1) := by decide +kernel
theorem dX11_lay_154 : decode cX11_lay 154 = .ok (.goto 4, 3) := by decide +kernel
theorem dX11_lay_157 : decode cX11_lay 157 = .ok (.iconst (-1), 1) := by decide +kernel
theorem dX11_lay_158 : decode cX11_lay 158 = .ok (.iastore, 1) := by decide +kernel
theorem dX11_lay_159 : decode cX11_lay 159 = .ok (.iinc 4 1, 3) := by decide +kernel
theorem dX11_lay_162 : decode cX11_lay 162 = .ok (.goto (-59), 3) := by decide +kernel
theorem dX11_lay_165 : decode cX11_lay 165 = .ok (.iconst 0, 1) := by decide +kernel
theorem dX11_lay_166 : decode cX11_lay 166 = .ok (.istore 4, 2) := by decide +kernel
theorem dX11_lay_168 : decode cX11_lay 168 = .ok (.iload 4, 2) := by decide +kernel
theorem dX11_lay_170 : decode cX11_lay 170 = .ok (.aload_n 0, 1) := by decide +kernel
theorem dX11_lay_171 : decode cX11_lay 171 = .ok (.getfield 39, 3) := by decide +kernel
theorem dX11_lay_174 : decode cX11_lay 174 = .ok (.aload_n 0, 1) := by decide +kernel
theorem dX11_lay_175 : decode cX11_lay 175 = .ok (.getfield 477, 3) := by decide +kernel
theorem dX11_lay_178 : decode cX11_lay 178 = .ok (.iaload, 1) := by decide +kernel
theorem dX11_lay_179 : decode cX11_lay 179 = .ok (.if_icmp .ge 106, 3) := by decide +kernel
theorem dX11_lay_182 : decode cX11_lay 182 = .ok (.aload_n 0, 1) := by decide +kernel
theorem dX11_lay_183 : decode cX11_lay 183 = .ok (.iload 4, 2) := by decide +kernel
theorem dX11_lay_185 : decode cX11_lay 185 = .ok (.iload_n 3, 1) := by decide +kernel
theorem dX11_lay_186 : decode cX11_lay 186 = .ok (.invokevirtual 483, 3) := by decide +kernel
theorem dX11_lay_189 : decode cX11_lay 189 = .ok (.ifCond .ne 6, 3) := by decide +kernel
theorem dX11_lay_192 : decode cX11_lay 192 = .ok (.goto 87, 3) := by decide +kernel
theorem dX11_lay_195 : decode cX11_lay 195 = .ok (.aload_n 0, 1) := by decide +kernel
theorem dX11_lay_196 : decode cX11_lay 196 = .ok (.iload_n 3, 1) := by decide +kernel
theorem dX11_lay_197 : decode cX11_lay 197 = .ok (.aload_n 0, 1) := by decide +kernel
theorem dX11_lay_198 : decode cX11_lay 198 = .ok (.getfield 42, 3) := by decide +kernel
theorem dX11_lay_201 : decode cX11_lay 201 = .ok (.bipush 24, 2) := by decide +kernel
theorem dX11_lay_203 : decode cX11_lay 203 = .ok (.aload_n 0, 1) := by decide +kernel
theorem dX11_lay_204 : decode cX11_lay 204 = .ok (.getfield 477, 3) := by decide +kernel
theorem dX11_lay_207 : decode cX11_lay 207 = .ok (.imul, 1) := by decide +kernel
theorem dX11_lay_208 : decode cX11_lay 208 = .ok (.iload 4, 2) := by decide +kernel
theorem dX11_lay_210 : decode cX11_lay 210 = .ok (.iadd, 1) := by decide +kernel
theorem dX11_lay_211 : decode cX11_lay 211 = .ok (.iaload, 1) := by decide +kernel
theorem dX11_lay_212 : decode cX11_lay 212 = .ok (.aload_n 0, 1) := by decide +kernel
theorem dX11_lay_213 : decode cX11_lay 213 = .ok (.getfield 45, 3) := by decide +kernel
theorem dX11_lay_216 : decode cX11_lay 216 = .ok (.bipush 24, 2) := by decide +kernel
theorem dX11_lay_218 : decode cX11_lay 218 = .ok (.aload_n 0, 1) := by decide +kernel
theorem dX11_lay_219 : decode cX11_lay 219 = .ok (.getfield 477, 3) := by decide +kernel
theorem dX11_lay_222 : decode cX11_lay 222 = .ok (.imul, 1) := by decide +kernel
theorem dX11_lay_223 : decode cX11_lay 223 = .ok (.iload 4, 2) := by decide +kernel
theorem dX11_lay_225 : decode cX11_lay 225 = .ok (.iadd, 1) := by decide +kernel
theorem dX11_lay_226 : decode cX11_lay 226 = .ok (.iaload, 1) := by decide +kernel
theorem dX11_lay_227 : decode cX11_lay 227 = .ok (.aload_n 0, 1) := by decide +kernel
theorem dX11_lay_228 : decode cX11_lay 228 = .ok (.iload 4, 2) := by decide +kernel
theorem dX11_lay_230 : decode cX11_lay 230 = .ok (.iload_n 3, 1) := by decide +kernel
theorem dX11_lay_231 : decode cX11_lay 231 = .ok (.invokevirtual 486, 3) := by decide +kernel
theorem dX11_lay_234 : decode cX11_lay 234 = .ok (.invokevirtual 490, 3) := by decide +kernel
theorem dX11_lay_237 : decode cX11_lay 237 = .ok (.aload_n 0, 1) := by decide +kernel
theorem dX11_lay_238 : decode cX11_lay 238 = .ok (.iload_n 3, 1) := by decide +kernel
theorem dX11_lay_239 : decode cX11_lay 239 = .ok (.aload_n 0, 1) := by decide +kernel
theorem dX11_lay_240 : decode cX11_lay 240 = .ok (.getfield 45, 3) := by decide +kernel
theorem dX11_lay_243 : decode cX11_lay 243 = .ok (.bipush 24, 2) := by decide +kernel
theorem dX11_lay_245 : decode cX11_lay 245 = .ok (.aload_n 0, 1) := by decide +kernel
theorem dX11_lay_246 : decode cX11_lay 246 = .ok (.getfield 477, 3) := by decide +kernel
theorem dX11_lay_249 : decode cX11_lay 249 = .ok (.imul, 1) := by decide +kernel
theorem dX11_lay_250 : decode cX11_lay 250 = .ok (.iload 4, 2) := by decide +kernel
theorem dX11_lay_252 : decode cX11_lay 252 = .ok (.iadd, 1) := by decide +kernel
theorem dX11_lay_253 : decode cX11_lay 253 = .ok (.iaload, 1) := by decide +kernel
theorem dX11_lay_254 : decode cX11_lay 254 = .ok (.aload_n 0, 1) := by decide +kernel
theorem dX11_lay_255 : decode cX11_lay 255 = .ok (.getfield 42, 3) := by decide +kernel
theorem dX11_lay_258 : decode cX11_lay 258 = .ok (.bipush 24, 2) := by decide +kernel
theorem dX11_lay_260 : decode cX11_lay 260 = .ok (.aload_n 0, 1) := by decide +kernel
theorem dX11_lay_261 : decode cX11_lay 261 = .ok (.getfield 477, 3) := by decide +kernel
theorem dX11_lay_264 : decode cX11_lay 264 = .ok (.imul, 1) := by decide +kernel
theorem dX11_lay_265 : decode cX11_lay 265 = .ok (.iload 4, 2) := by decide +kernel
theorem dX11_lay_267 : decode cX11_lay 267 = .ok (.iadd, 1) := by decide +kernel
theorem dX11_lay_268 : decode cX11_lay 268 = .ok (.iaload, 1) := by decide +kernel
theorem dX11_lay_269 : decode cX11_lay 269 = .ok (.aload_n 0, 1) := by decide +kernel
theorem dX11_lay_270 : decode cX11_lay 270 = .ok (.iload 4, 2) := by decide +kernel
theorem dX11_lay_272 : decode cX11_lay 272 = .ok (.iload_n 3, 1) := by decide +kernel
theorem dX11_lay_273 : decode cX11_lay 273 = .ok (.invokevirtual 486, 3) := by decide +kernel
theorem dX11_lay_276 : decode cX11_lay 276 = .ok (.invokevirtual 490, 3) := by decide +kernel
theorem dX11_lay_279 : decode cX11_lay 279 = .ok (.iinc 4 1, 3) := by decide +kernel
theorem dX11_lay_282 : decode cX11_lay 282 = .ok (.goto (-114), 3) := by decide +kernel
theorem dX11_lay_285 : decode cX11_lay 285 = .ok (.iconst 0, 1) := by decide +kernel
theorem dX11_lay_286 : decode cX11_lay 286 = .ok (.istore 4, 2) := by decide +kernel
theorem dX11_lay_288 : decode cX11_lay 288 = .ok (.iload 4, 2) := by decide +kernel
theorem dX11_lay_290 : decode cX11_lay 290 = .ok (.bipush 12, 2) := by decide +kernel
theorem dX11_lay_292 : decode cX11_lay 292 = .ok (.if_icmp .ge 107, 3) := by decide +kernel
theorem dX11_lay_295 : decode cX11_lay 295 = .ok (.iconst 0, 1) := by decide +kernel
theorem dX11_lay_296 : decode cX11_lay 296 = .ok (.istore 5, 2) := by decide +kernel
theorem dX11_lay_298 : decode cX11_lay 298 = .ok (.iload 5, 2) := by decide +kernel
theorem dX11_lay_300 : decode cX11_lay 300 = .ok (.bipush 12, 2) := by decide +kernel
theorem dX11_lay_302 : decode cX11_lay 302 = .ok (.if_icmp .ge 91, 3) := by decide +kernel
theorem dX11_lay_305 : decode cX11_lay 305 = .ok (.iconst 0, 1) := by decide +kernel
theorem dX11_lay_306 : decode cX11_lay 306 = .ok (.istore 6, 2) := by decide +kernel
theorem dX11_lay_308 : decode cX11_lay 308 = .ok (.iload 6, 2) := by decide +kernel
theorem dX11_lay_310 : decode cX11_lay 310 = .ok (.bipush 12, 2) := by decide +kernel
theorem dX11_lay_312 : decode cX11_lay 312 = .ok (.if_icmp .ge 75, 3) := by decide +kernel
theorem dX11_lay_315 : decode cX11_lay 315 = .ok (.aload_n 0, 1) := by decide +kernel
theorem dX11_lay_316 : decode cX11_lay 316 = .ok (.getfield 169, 3) := by decide +kernel
theorem dX11_lay_319 : decode cX11_lay 319 = .ok (.sipush 144, 3) := by decide +kernel
theorem dX11_lay_322 : decode cX11_lay 322 = .ok (.iload_n 3, 1) := by decide +kernel
theorem dX11_lay_323 : decode cX11_lay 323 = .ok (.imul, 1) := by decide +kernel
theorem dX11_lay_324 : decode cX11_lay 324 = .ok (.bipush 12, 2) := by decide +kernel
theorem dX11_lay_326 : decode cX11_lay 326 = .ok (.iload 5, 2) := by decide +kernel
theorem dX11_lay_328 : decode cX11_lay 328 = .ok (.imul, 1) := by decide +kernel
theorem dX11_lay_329 : decode cX11_lay 329 = .ok (.iadd, 1) := by decide +kernel
theorem dX11_lay_330 : decode cX11_lay 330 = .ok (.iload 4, 2) := by decide +kernel
theorem dX11_lay_332 : decode cX11_lay 332 = .ok (.iadd, 1) := by decide +kernel
theorem dX11_lay_333 : decode cX11_lay 333 = .ok (.iaload, 1) := by decide +kernel
theorem dX11_lay_334 : decode cX11_lay 334 = .ok (.istore 7, 2) := by decide +kernel
theorem dX11_lay_336 : decode cX11_lay 336 = .ok (.aload_n 0, 1) := by decide +kernel
theorem dX11_lay_337 : decode cX11_lay 337 = .ok (.getfield 169, 3) := by decide +kernel
theorem dX11_lay_340 : decode cX11_lay 340 = .ok (.sipush 144, 3) := by decide +kernel
theorem dX11_lay_343 : decode cX11_lay 343 = .ok (.iload_n 3, 1) := by decide +kernel
theorem dX11_lay_344 : decode cX11_lay 344 = .ok (.imul, 1) := by decide +kernel
theorem dX11_lay_345 : decode cX11_lay 345 = .ok (.bipush 12, 2) := by decide +kernel
theorem dX11_lay_347 : decode cX11_lay 347 = .ok (.iload 4, 2) := by decide +kernel
theorem dX11_lay_349 : decode cX11_lay 349 = .ok (.imul, 1) := by decide +kernel
theorem dX11_lay_350 : decode cX11_lay 350 = .ok (.iadd, 1) := by decide +kernel
theorem dX11_lay_351 : decode cX11_lay 351 = .ok (.iload 6, 2) := by decide +kernel
theorem dX11_lay_353 : decode cX11_lay 353 = .ok (.iadd, 1) := by decide +kernel
theorem dX11_lay_354 : decode cX11_lay 354 = .ok (.iaload, 1) := by decide +kernel
theorem dX11_lay_355 : decode cX11_lay 355 = .ok (.istore 8, 2) := by decide +kernel
theorem dX11_lay_357 : decode cX11_lay 357 = .ok (.iload 7, 2) := by decide +kernel
theorem dX11_lay_359 : decode cX11_lay 359 = .ok (.ifCond .lt 22, 3) := by decide +kernel
theorem dX11_lay_362 : decode cX11_lay 362 = .ok (.iload 8, 2) := by decide +kernel
theorem dX11_lay_364 : decode cX11_lay 364 = .ok (.ifCond .lt 17, 3) := by decide +kernel
theorem dX11_lay_367 : decode cX11_lay 367 = .ok (.aload_n 0, 1) := by decide +kernel
theorem dX11_lay_368 : decode cX11_lay 368 = .ok (.iload_n 3, 1) := by decide +kernel
theorem dX11_lay_369 : decode cX11_lay 369 = .ok (.iload 5, 2) := by decide +kernel
theorem dX11_lay_371 : decode cX11_lay 371 = .ok (.iload 6, 2) := by decide +kernel
theorem dX11_lay_373 : decode cX11_lay 373 = .ok (.iload 7, 2) := by decide +kernel
theorem dX11_lay_375 : decode cX11_lay 375 = .ok (.iload 8, 2) := by decide +kernel
theorem dX11_lay_377 : decode cX11_lay 377 = .ok (.iadd, 1) := by decide +kernel
theorem dX11_lay_378 : decode cX11_lay 378 = .ok (.invokevirtual 490, 3) := by decide +kernel
theorem dX11_lay_381 : decode cX11_lay 381 = .ok (.iinc 6 1, 3) := by decide +kernel
theorem dX11_lay_384 : decode cX11_lay 384 = .ok (.goto (-76), 3) := by decide +kernel
theorem dX11_lay_387 : decode cX11_lay 387 = .ok (.iinc 5 1, 3) := by decide +kernel
theorem dX11_lay_390 : decode cX11_lay 390 = .ok (.goto (-92), 3) := by decide +kernel
theorem dX11_lay_393 : decode cX11_lay 393 = .ok (.iinc 4 1, 3) := by decide +kernel
theorem dX11_lay_396 : decode cX11_lay 396 = .ok (.goto (-108), 3) := by decide +kernel
theorem dX11_lay_399 : decode cX11_lay 399 = .ok (.iinc 3 1, 3) := by decide +kernel
theorem dX11_lay_402 : decode cX11_lay 402 = .ok (.goto (-307), 3) := by decide +kernel
theorem dX11_lay_405 : decode cX11_lay 405 = .ok (.return_, 1) := by decide +kernel
theorem dX11_join_0 : decode cX11_join 0 = .ok (.sipush 144, 3) := by decide +kernel
theorem dX11_join_3 : decode cX11_join 3 = .ok (.iload_n 1, 1) := by decide +kernel
theorem dX11_join_4 : decode cX11_join 4 = .ok (.imul, 1) := by decide +kernel
theorem dX11_join_5 : decode cX11_join 5 = .ok (.bipush 12, 2) := by decide +kernel
theorem dX11_join_7 : decode cX11_join 7 = .ok (.iload_n 2, 1) := by decide +kernel
theorem dX11_join_8 : decode cX11_join 8 = .ok (.imul, 1) := by decide +kernel
theorem dX11_join_9 : decode cX11_join 9 = .ok (.iadd, 1) := by decide +kernel
theorem dX11_join_10 : decode cX11_join 10 = .ok (.iload_n 3, 1) := by decide +kernel
theorem dX11_join_11 : decode cX11_join 11 = .ok (.iadd, 1) := by decide +kernel
theorem dX11_join_12 : decode cX11_join 12 = .ok (.istore 5, 2) := by decide +kernel
theorem dX11_join_14 : decode cX11_join 14 = .ok (.aload_n 0, 1) := by decide +kernel
theorem dX11_join_15 : decode cX11_join 15 = .ok (.getfield 169, 3) := by decide +kernel
theorem dX11_join_18 : decode cX11_join 18 = .ok (.iload 5, 2) := by decide +kernel
theorem dX11_join_20 : decode cX11_join 20 = .ok (.iaload, 1) := by decide +kernel
theorem dX11_join_21 : decode cX11_join 21 = .ok (.ifCond .lt 15, 3) := by decide +kernel
theorem dX11_join_24 : decode cX11_join 24 = .ok (.iload 4, 2) := by decide +kernel
theorem dX11_join_26 : decode cX11_join 26 = .ok (.aload_n 0, 1) := by decide +kernel
theorem dX11_join_27 : decode cX11_join 27 = .ok (.getfield 169, 3) := by decide +kernel
theorem dX11_join_30 : decode cX11_join 30 = .ok (.iload 5, 2) := by decide +kernel
theorem dX11_join_32 : decode cX11_join 32 = .ok (.iaload, 1) := by decide +kernel
theorem dX11_join_33 : decode cX11_join 33 = .ok (.if_icmp .ge 12, 3) := by decide +kernel
theorem dX11_join_36 : decode cX11_join 36 = .ok (.aload_n 0, 1) := by decide +kernel
theorem dX11_join_37 : decode cX11_join 37 = .ok (.getfield 169, 3) := by decide +kernel
theorem dX11_join_40 : decode cX11_join 40 = .ok (.iload 5, 2) := by decide +kernel
theorem dX11_join_42 : decode cX11_join 42 = .ok (.iload 4, 2) := by decide +kernel
theorem dX11_join_44 : decode cX11_join 44 = .ok (.iastore, 1) := by decide +kernel
theorem dX11_join_45 : decode cX11_join 45 = .ok (.return_, 1) := by decide +kernel
theorem dX11_isDay_0 : decode cX11_isDay 0 = .ok (.aload_n 0, 1) := by decide +kernel
theorem dX11_isDay_1 : decode cX11_isDay 1 = .ok (.iload_n 1, 1) := by decide +kernel
theorem dX11_isDay_2 : decode cX11_isDay 2 = .ok (.invokevirtual 480, 3) := by decide +kernel
theorem dX11_isDay_5 : decode cX11_isDay 5 = .ok (.ifCond .lt 15, 3) := by decide +kernel
theorem dX11_isDay_8 : decode cX11_isDay 8 = .ok (.aload_n 0, 1) := by decide +kernel
theorem dX11_isDay_9 : decode cX11_isDay 9 = .ok (.iload_n 2, 1) := by decide +kernel
theorem dX11_isDay_10 : decode cX11_isDay 10 = .ok (.invokevirtual 467, 3) := by decide +kernel
theorem dX11_isDay_13 : decode cX11_isDay 13 = .ok (.ifCond .eq 7, 3) := by decide +kernel
theorem dX11_isDay_16 : decode cX11_isDay 16 = .ok (.iconst 1, 1) := by decide +kernel
theorem dX11_isDay_17 : decode cX11_isDay 17 = .ok (.goto 4, 3) := by decide +kernel
theorem dX11_isDay_20 : decode cX11_isDay 20 = .ok (.iconst 0, 1) := by decide +kernel
theorem dX11_isDay_21 : decode cX11_isDay 21 = .ok (.ireturn, 1) := by decide +kernel
theorem dX11_isDist_0 : decode cX11_isDist 0 = .ok (.aload_n 0, 1) := by decide +kernel
theorem dX11_isDist_1 : decode cX11_isDist 1 = .ok (.iload 4, 2) := by decide +kernel
theorem dX11_isDist_3 : decode cX11_isDist 3 = .ok (.iload 5, 2) := by decide +kernel
theorem dX11_isDist_5 : decode cX11_isDist 5 = .ok (.invokevirtual 494, 3) := by decide +kernel
theorem dX11_isDist_8 : decode cX11_isDist 8 = .ok (.ifCond .eq 36, 3) := by decide +kernel
theorem dX11_isDist_11 : decode cX11_isDist 11 = .ok (.iload_n 3, 1) := by decide +kernel
theorem dX11_isDist_12 : decode cX11_isDist 12 = .ok (.iconst 0, 1) := by decide +kernel
theorem dX11_isDist_13 : decode cX11_isDist 13 = .ok (.iconst 2, 1) := by decide +kernel
theorem dX11_isDist_14 : decode cX11_isDist 14 = .ok (.invokestatic 449, 3) := by decide +kernel
theorem dX11_isDist_17 : decode cX11_isDist 17 = .ok (.ifCond .eq 27, 3) := by decide +kernel
theorem dX11_isDist_20 : decode cX11_isDist 20 = .ok (.iload_n 1, 1) := by decide +kernel
theorem dX11_isDist_21 : decode cX11_isDist 21 = .ok (.iconst 0, 1) := by decide +kernel
theorem dX11_isDist_22 : decode cX11_isDist 22 = .ok (.bipush 11, 2) := by decide +kernel
theorem dX11_isDist_24 : decode cX11_isDist 24 = .ok (.invokestatic 449, 3) := by decide +kernel
theorem dX11_isDist_27 : decode cX11_isDist 27 = .ok (.ifCond .eq 17, 3) := by decide +kernel
theorem dX11_isDist_30 : decode cX11_isDist 30 = .ok (.iload_n 2, 1) := by decide +kernel
theorem dX11_isDist_31 : decode cX11_isDist 31 = .ok (.iconst 0, 1) := by decide +kernel
theorem dX11_isDist_32 : decode cX11_isDist 32 = .ok (.bipush 11, 2) := by decide +kernel
theorem dX11_isDist_34 : decode cX11_isDist 34 = .ok (.invokestatic 449, 3) := by decide +kernel
theorem dX11_isDist_37 : decode cX11_isDist 37 = .ok (.ifCond .eq 7, 3) := by decide +kernel
theorem dX11_isDist_40 : decode cX11_isDist 40 = .ok (.iconst 1, 1) := by decide +kernel
theorem dX11_isDist_41 : decode cX11_isDist 41 = .ok (.goto 4, 3) := by decide +kernel
theorem dX11_isDist_44 : decode cX11_isDist 44 = .ok (.iconst 0, 1) := by decide +kernel
theorem dX11_isDist_45 : decode cX11_isDist 45 = .ok (.ireturn, 1) := by decide +kernel
theorem dX11_leastOf_0 : decode cX11_leastOf 0 = .ok (.aload_n 0, 1) := by decide +kernel
theorem dX11_leastOf_1 : decode cX11_leastOf 1 = .ok (.getfield 169, 3) := by decide +kernel
theorem dX11_leastOf_4 : decode cX11_leastOf 4 = .ok (.sipush 144, 3) := by decide +kernel
theorem dX11_leastOf_7 : decode cX11_leastOf 7 = .ok (.iload_n 1, 1) := by decide +kernel
theorem dX11_leastOf_8 : decode cX11_leastOf 8 = .ok (.imul, 1) := by decide +kernel
theorem dX11_leastOf_9 : decode cX11_leastOf 9 = .ok (.bipush 12, 2) := by decide +kernel
theorem dX11_leastOf_11 : decode cX11_leastOf 11 = .ok (.iload_n 2, 1) := by decide +kernel
theorem dX11_leastOf_12 : decode cX11_leastOf 12 = .ok (.imul, 1) := by decide +kernel
theorem dX11_leastOf_13 : decode cX11_leastOf 13 = .ok (.iadd, 1) := by decide +kernel
theorem dX11_leastOf_14 : decode cX11_leastOf 14 = .ok (.iload_n 3, 1) := by decide +kernel
theorem dX11_leastOf_15 : decode cX11_leastOf 15 = .ok (.iadd, 1) := by decide +kernel
theorem dX11_leastOf_16 : decode cX11_leastOf 16 = .ok (.iaload, 1) := by decide +kernel
theorem dX11_leastOf_17 : decode cX11_leastOf 17 = .ok (.ireturn, 1) := by decide +kernel
theorem dX11_dist_0 : decode cX11_dist 0 = .ok (.aload_n 0, 1) := by decide +kernel
theorem dX11_dist_1 : decode cX11_dist 1 = .ok (.iload_n 1, 1) := by decide +kernel
theorem dX11_dist_2 : decode cX11_dist 2 = .ok (.iload_n 2, 1) := by decide +kernel
theorem dX11_dist_3 : decode cX11_dist 3 = .ok (.iload_n 3, 1) := by decide +kernel
theorem dX11_dist_4 : decode cX11_dist 4 = .ok (.iload 4, 2) := by decide +kernel
theorem dX11_dist_6 : decode cX11_dist 6 = .ok (.iload 5, 2) := by decide +kernel
theorem dX11_dist_8 : decode cX11_dist 8 = .ok (.invokevirtual 497, 3) := by decide +kernel
theorem dX11_dist_11 : decode cX11_dist 11 = .ok (.ifCond .ne 5, 3) := by decide +kernel
theorem dX11_dist_14 : decode cX11_dist 14 = .ok (.iconst (-1), 1) := by decide +kernel
theorem dX11_dist_15 : decode cX11_dist 15 = .ok (.ireturn, 1) := by decide +kernel
theorem dX11_dist_16 : decode cX11_dist 16 = .ok (.aload_n 0, 1) := by decide +kernel
theorem dX11_dist_17 : decode cX11_dist 17 = .ok (.iload 4, 2) := by decide +kernel
theorem dX11_dist_19 : decode cX11_dist 19 = .ok (.iload 5, 2) := by decide +kernel
theorem dX11_dist_21 : decode cX11_dist 21 = .ok (.invokevirtual 501, 3) := by decide +kernel
theorem dX11_dist_24 : decode cX11_dist 24 = .ok (.aload_n 0, 1) := by decide +kernel
theorem dX11_dist_25 : decode cX11_dist 25 = .ok (.iload_n 3, 1) := by decide +kernel
theorem dX11_dist_26 : decode cX11_dist 26 = .ok (.iload_n 1, 1) := by decide +kernel
theorem dX11_dist_27 : decode cX11_dist 27 = .ok (.iload_n 2, 1) := by decide +kernel
theorem dX11_dist_28 : decode cX11_dist 28 = .ok (.invokevirtual 504, 3) := by decide +kernel
theorem dX11_dist_31 : decode cX11_dist 31 = .ok (.ifCond .ge 8, 3) := by decide +kernel
theorem dX11_dist_34 : decode cX11_dist 34 = .ok (.bipush (-2), 2) := by decide +kernel
theorem dX11_dist_36 : decode cX11_dist 36 = .ok (.goto 10, 3) := by decide +kernel
theorem dX11_dist_39 : decode cX11_dist 39 = .ok (.aload_n 0, 1) := by decide +kernel
theorem dX11_dist_40 : decode cX11_dist 40 = .ok (.iload_n 3, 1) := by decide +kernel
theorem dX11_dist_41 : decode cX11_dist 41 = .ok (.iload_n 1, 1) := by decide +kernel
theorem dX11_dist_42 : decode cX11_dist 42 = .ok (.iload_n 2, 1) := by decide +kernel
theorem dX11_dist_43 : decode cX11_dist 43 = .ok (.invokevirtual 504, 3) := by decide +kernel
theorem dX11_dist_46 : decode cX11_dist 46 = .ok (.ireturn, 1) := by decide +kernel
theorem dX11_onward_0 : decode cX11_onward 0 = .ok (.iconst (-1), 1) := by decide +kernel
theorem dX11_onward_1 : decode cX11_onward 1 = .ok (.istore 4, 2) := by decide +kernel
theorem dX11_onward_3 : decode cX11_onward 3 = .ok (.iconst 0, 1) := by decide +kernel
theorem dX11_onward_4 : decode cX11_onward 4 = .ok (.istore 5, 2) := by decide +kernel
theorem dX11_onward_6 : decode cX11_onward 6 = .ok (.iload 5, 2) := by decide +kernel
theorem dX11_onward_8 : decode cX11_onward 8 = .ok (.aload_n 0, 1) := by decide +kernel
theorem dX11_onward_9 : decode cX11_onward 9 = .ok (.getfield 39, 3) := by decide +kernel
theorem dX11_onward_12 : decode cX11_onward 12 = .ok (.aload_n 0, 1) := by decide +kernel
theorem dX11_onward_13 : decode cX11_onward 13 = .ok (.getfield 477, 3) := by decide +kernel
theorem dX11_onward_16 : decode cX11_onward 16 = .ok (.iaload, 1) := by decide +kernel
theorem dX11_onward_17 : decode cX11_onward 17 = .ok (.if_icmp .ge 142, 3) := by decide +kernel
theorem dX11_onward_20 : decode cX11_onward 20 = .ok (.aload_n 0, 1) := by decide +kernel
theorem dX11_onward_21 : decode cX11_onward 21 = .ok (.iload 5, 2) := by decide +kernel
theorem dX11_onward_23 : decode cX11_onward 23 = .ok (.iload_n 1, 1) := by decide +kernel
theorem dX11_onward_24 : decode cX11_onward 24 = .ok (.invokevirtual 483, 3) := by decide +kernel
theorem dX11_onward_27 : decode cX11_onward 27 = .ok (.ifCond .ne 6, 3) := by decide +kernel
theorem dX11_onward_30 : decode cX11_onward 30 = .ok (.goto 123, 3) := by decide +kernel
theorem dX11_onward_33 : decode cX11_onward 33 = .ok (.aload_n 0, 1) := by decide +kernel
theorem dX11_onward_34 : decode cX11_onward 34 = .ok (.getfield 42, 3) := by decide +kernel
theorem dX11_onward_37 : decode cX11_onward 37 = .ok (.bipush 24, 2) := by decide +kernel
theorem dX11_onward_39 : decode cX11_onward 39 = .ok (.aload_n 0, 1) := by decide +kernel
theorem dX11_onward_40 : decode cX11_onward 40 = .ok (.getfield 477, 3) := by decide +kernel
theorem dX11_onward_43 : decode cX11_onward 43 = .ok (.imul, 1) := by decide +kernel
theorem dX11_onward_44 : decode cX11_onward 44 = .ok (.iload 5, 2) := by decide +kernel
theorem dX11_onward_46 : decode cX11_onward 46 = .ok (.iadd, 1) := by decide +kernel
theorem dX11_onward_47 : decode cX11_onward 47 = .ok (.iaload, 1) := by decide +kernel
theorem dX11_onward_48 : decode cX11_onward 48 = .ok (.istore 6, 2) := by decide +kernel
theorem dX11_onward_50 : decode cX11_onward 50 = .ok (.aload_n 0, 1) := by decide +kernel
theorem dX11_onward_51 : decode cX11_onward 51 = .ok (.getfield 45, 3) := by decide +kernel
theorem dX11_onward_54 : decode cX11_onward 54 = .ok (.bipush 24, 2) := by decide +kernel
theorem dX11_onward_56 : decode cX11_onward 56 = .ok (.aload_n 0, 1) := by decide +kernel
theorem dX11_onward_57 : decode cX11_onward 57 = .ok (.getfield 477, 3) := by decide +kernel
theorem dX11_onward_60 : decode cX11_onward 60 = .ok (.imul, 1) := by decide +kernel
theorem dX11_onward_61 : decode cX11_onward 61 = .ok (.iload 5, 2) := by decide +kernel
theorem dX11_onward_63 : decode cX11_onward 63 = .ok (.iadd, 1) := by decide +kernel
theorem dX11_onward_64 : decode cX11_onward 64 = .ok (.iaload, 1) := by decide +kernel
theorem dX11_onward_65 : decode cX11_onward 65 = .ok (.istore 7, 2) := by decide +kernel
theorem dX11_onward_67 : decode cX11_onward 67 = .ok (.iload 6, 2) := by decide +kernel
theorem dX11_onward_69 : decode cX11_onward 69 = .ok (.iload_n 2, 1) := by decide +kernel
theorem dX11_onward_70 : decode cX11_onward 70 = .ok (.if_icmp .ne 8, 3) := by decide +kernel
theorem dX11_onward_73 : decode cX11_onward 73 = .ok (.iload 7, 2) := by decide +kernel
theorem dX11_onward_75 : decode cX11_onward 75 = .ok (.goto 15, 3) := by decide +kernel
theorem dX11_onward_78 : decode cX11_onward 78 = .ok (.iload 7, 2) := by decide +kernel
theorem dX11_onward_80 : decode cX11_onward 80 = .ok (.iload_n 2, 1) := by decide +kernel
theorem dX11_onward_81 : decode cX11_onward 81 = .ok (.if_icmp .ne 8, 3) := by decide +kernel
theorem dX11_onward_84 : decode cX11_onward 84 = .ok (.iload 6, 2) := by decide +kernel
theorem dX11_onward_86 : decode cX11_onward 86 = .ok (.goto 4, 3) := by decide +kernel
theorem dX11_onward_89 : decode cX11_onward 89 = .ok (.iconst (-1), 1) := by decide +kernel
theorem dX11_onward_90 : decode cX11_onward 90 = .ok (.istore 8, 2) := by decide +kernel
theorem dX11_onward_92 : decode cX11_onward 92 = .ok (.iload 8, 2) := by decide +kernel
theorem dX11_onward_94 : decode cX11_onward 94 = .ok (.ifCond .lt 59, 3) := by decide +kernel
theorem dX11_onward_97 : decode cX11_onward 97 = .ok (.aload_n 0, 1) := by decide +kernel
theorem dX11_onward_98 : decode cX11_onward 98 = .ok (.iload_n 1, 1) := by decide +kernel
theorem dX11_onward_99 : decode cX11_onward 99 = .ok (.iload 8, 2) := by decide +kernel
theorem dX11_onward_101 : decode cX11_onward 101 = .ok (.iload_n 3, 1) := by decide +kernel
theorem dX11_onward_102 : decode cX11_onward 102 = .ok (.invokevirtual 504, 3) := by decide +kernel
theorem dX11_onward_105 : decode cX11_onward 105 = .ok (.ifCond .lt 48, 3) := by decide +kernel
theorem dX11_onward_108 : decode cX11_onward 108 = .ok (.aload_n 0, 1) := by decide +kernel
theorem dX11_onward_109 : decode cX11_onward 109 = .ok (.iload 5, 2) := by decide +kernel
theorem dX11_onward_111 : decode cX11_onward 111 = .ok (.iload_n 1, 1) := by decide +kernel
theorem dX11_onward_112 : decode cX11_onward 112 = .ok (.invokevirtual 486, 3) := by decide +kernel
theorem dX11_onward_115 : decode cX11_onward 115 = .ok (.aload_n 0, 1) := by decide +kernel
theorem dX11_onward_116 : decode cX11_onward 116 = .ok (.iload_n 1, 1) := by decide +kernel
theorem dX11_onward_117 : decode cX11_onward 117 = .ok (.iload 8, 2) := by decide +kernel
theorem dX11_onward_119 : decode cX11_onward 119 = .ok (.iload_n 3, 1) := by decide +kernel
theorem dX11_onward_120 : decode cX11_onward 120 = .ok (.invokevirtual 504, 3) := by decide +kernel
theorem dX11_onward_123 : decode cX11_onward 123 = .ok (.iadd, 1) := by decide +kernel
theorem dX11_onward_124 : decode cX11_onward 124 = .ok (.aload_n 0, 1) := by decide +kernel
theorem dX11_onward_125 : decode cX11_onward 125 = .ok (.iload_n 1, 1) := by decide +kernel
theorem dX11_onward_126 : decode cX11_onward 126 = .ok (.iload_n 2, 1) := by decide +kernel
theorem dX11_onward_127 : decode cX11_onward 127 = .ok (.iload_n 3, 1) := by decide +kernel
theorem dX11_onward_128 : decode cX11_onward 128 = .ok (.invokevirtual 504, 3) := by decide +kernel
theorem dX11_onward_131 : decode cX11_onward 131 = .ok (.if_icmp .eq 6, 3) := by decide +kernel
theorem dX11_onward_134 : decode cX11_onward 134 = .ok (.goto 19, 3) := by decide +kernel
theorem dX11_onward_137 : decode cX11_onward 137 = .ok (.iload 4, 2) := by decide +kernel
theorem dX11_onward_139 : decode cX11_onward 139 = .ok (.ifCond .lt 10, 3) := by decide +kernel
theorem dX11_onward_142 : decode cX11_onward 142 = .ok (.iload 8, 2) := by decide +kernel
theorem dX11_onward_144 : decode cX11_onward 144 = .ok (.iload 4, 2) := by decide +kernel
theorem dX11_onward_146 : decode cX11_onward 146 = .ok (.if_icmp .ge 7, 3) := by decide +kernel
theorem dX11_onward_149 : decode cX11_onward 149 = .ok (.iload 8, 2) := by decide +kernel
theorem dX11_onward_151 : decode cX11_onward 151 = .ok (.istore 4, 2) := by decide +kernel
theorem dX11_onward_153 : decode cX11_onward 153 = .ok (.iinc 5 1, 3) := by decide +kernel
theorem dX11_onward_156 : decode cX11_onward 156 = .ok (.goto (-150), 3) := by decide +kernel
theorem dX11_onward_159 : decode cX11_onward 159 = .ok (.iload 4, 2) := by decide +kernel
theorem dX11_onward_161 : decode cX11_onward 161 = .ok (.ireturn, 1) := by decide +kernel
theorem dX11_row_0 : decode cX11_row 0 = .ok (.aload_n 0, 1) := by decide +kernel
theorem dX11_row_1 : decode cX11_row 1 = .ok (.iload_n 1, 1) := by decide +kernel
theorem dX11_row_2 : decode cX11_row 2 = .ok (.iload_n 2, 1) := by decide +kernel
theorem dX11_row_3 : decode cX11_row 3 = .ok (.iload_n 3, 1) := by decide +kernel
theorem dX11_row_4 : decode cX11_row 4 = .ok (.iload 4, 2) := by decide +kernel
theorem dX11_row_6 : decode cX11_row 6 = .ok (.iload 5, 2) := by decide +kernel
theorem dX11_row_8 : decode cX11_row 8 = .ok (.invokevirtual 497, 3) := by decide +kernel
theorem dX11_row_11 : decode cX11_row 11 = .ok (.ifCond .eq 8, 3) := by decide +kernel
theorem dX11_row_14 : decode cX11_row 14 = .ok (.iload 6, 2) := by decide +kernel
theorem dX11_row_16 : decode cX11_row 16 = .ok (.ifCond .ge 5, 3) := by decide +kernel
theorem dX11_row_19 : decode cX11_row 19 = .ok (.iconst (-1), 1) := by decide +kernel
theorem dX11_row_20 : decode cX11_row 20 = .ok (.ireturn, 1) := by decide +kernel
theorem dX11_row_21 : decode cX11_row 21 = .ok (.aload_n 0, 1) := by decide +kernel
theorem dX11_row_22 : decode cX11_row 22 = .ok (.iload 4, 2) := by decide +kernel
theorem dX11_row_24 : decode cX11_row 24 = .ok (.iload 5, 2) := by decide +kernel
theorem dX11_row_26 : decode cX11_row 26 = .ok (.invokevirtual 501, 3) := by decide +kernel
theorem dX11_row_29 : decode cX11_row 29 = .ok (.aload_n 0, 1) := by decide +kernel
theorem dX11_row_30 : decode cX11_row 30 = .ok (.iload_n 3, 1) := by decide +kernel
theorem dX11_row_31 : decode cX11_row 31 = .ok (.iload_n 1, 1) := by decide +kernel
theorem dX11_row_32 : decode cX11_row 32 = .ok (.iload_n 2, 1) := by decide +kernel
theorem dX11_row_33 : decode cX11_row 33 = .ok (.invokevirtual 504, 3) := by decide +kernel
theorem dX11_row_36 : decode cX11_row 36 = .ok (.ifCond .ge 5, 3) := by decide +kernel
theorem dX11_row_39 : decode cX11_row 39 = .ok (.iconst (-1), 1) := by decide +kernel
theorem dX11_row_40 : decode cX11_row 40 = .ok (.ireturn, 1) := by decide +kernel
theorem dX11_row_41 : decode cX11_row 41 = .ok (.iload_n 1, 1) := by decide +kernel
theorem dX11_row_42 : decode cX11_row 42 = .ok (.istore 7, 2) := by decide +kernel
theorem dX11_row_44 : decode cX11_row 44 = .ok (.iconst 0, 1) := by decide +kernel
theorem dX11_row_45 : decode cX11_row 45 = .ok (.istore 8, 2) := by decide +kernel
theorem dX11_row_47 : decode cX11_row 47 = .ok (.iload 8, 2) := by decide +kernel
theorem dX11_row_49 : decode cX11_row 49 = .ok (.iload 6, 2) := by decide +kernel
theorem dX11_row_51 : decode cX11_row 51 = .ok (.if_icmp .ge 27, 3) := by decide +kernel
theorem dX11_row_54 : decode cX11_row 54 = .ok (.iload 7, 2) := by decide +kernel
theorem dX11_row_56 : decode cX11_row 56 = .ok (.iload_n 2, 1) := by decide +kernel
theorem dX11_row_57 : decode cX11_row 57 = .ok (.if_icmp .ne 5, 3) := by decide +kernel
theorem dX11_row_60 : decode cX11_row 60 = .ok (.iconst (-1), 1) := by decide +kernel
theorem dX11_row_61 : decode cX11_row 61 = .ok (.ireturn, 1) := by decide +kernel
theorem dX11_row_62 : decode cX11_row 62 = .ok (.aload_n 0, 1) := by decide +kernel
theorem dX11_row_63 : decode cX11_row 63 = .ok (.iload_n 3, 1) := by decide +kernel
theorem dX11_row_64 : decode cX11_row 64 = .ok (.iload 7, 2) := by decide +kernel
theorem dX11_row_66 : decode cX11_row 66 = .ok (.iload_n 2, 1) := by decide +kernel
theorem dX11_row_67 : decode cX11_row 67 = .ok (.invokevirtual 507, 3) := by decide +kernel
theorem dX11_row_70 : decode cX11_row 70 = .ok (.istore 7, 2) := by decide +kernel
theorem dX11_row_72 : decode cX11_row 72 = .ok (.iinc 8 1, 3) := by decide +kernel
theorem dX11_row_75 : decode cX11_row 75 = .ok (.goto (-28), 3) := by decide +kernel
theorem dX11_row_78 : decode cX11_row 78 = .ok (.iload 7, 2) := by decide +kernel
theorem dX11_row_80 : decode cX11_row 80 = .ok (.ireturn, 1) := by decide +kernel
theorem dX11_sum_0 : decode cX11_sum 0 = .ok (.iconst 0, 1) := by decide +kernel
theorem dX11_sum_1 : decode cX11_sum 1 = .ok (.istore_n 3, 1) := by decide +kernel
theorem dX11_sum_2 : decode cX11_sum 2 = .ok (.iload_n 1, 1) := by decide +kernel
theorem dX11_sum_3 : decode cX11_sum 3 = .ok (.istore 4, 2) := by decide +kernel
theorem dX11_sum_5 : decode cX11_sum 5 = .ok (.iload 4, 2) := by decide +kernel
theorem dX11_sum_7 : decode cX11_sum 7 = .ok (.iload_n 2, 1) := by decide +kernel
theorem dX11_sum_8 : decode cX11_sum 8 = .ok (.if_icmp .ge 127, 3) := by decide +kernel
theorem dX11_sum_11 : decode cX11_sum 11 = .ok (.aload_n 0, 1) := by decide +kernel
theorem dX11_sum_12 : decode cX11_sum 12 = .ok (.getfield 85, 3) := by decide +kernel
theorem dX11_sum_15 : decode cX11_sum 15 = .ok (.iload 4, 2) := by decide +kernel
theorem dX11_sum_17 : decode cX11_sum 17 = .ok (.iaload, 1) := by decide +kernel
theorem dX11_sum_18 : decode cX11_sum 18 = .ok (.istore 5, 2) := by decide +kernel
theorem dX11_sum_20 : decode cX11_sum 20 = .ok (.iload 5, 2) := by decide +kernel
theorem dX11_sum_22 : decode cX11_sum 22 = .ok (.iconst 2, 1) := by decide +kernel
theorem dX11_sum_23 : decode cX11_sum 23 = .ok (.if_icmp .ge 42, 3) := by decide +kernel
theorem dX11_sum_26 : decode cX11_sum 26 = .ok (.aload_n 0, 1) := by decide +kernel
theorem dX11_sum_27 : decode cX11_sum 27 = .ok (.getfield 175, 3) := by decide +kernel
theorem dX11_sum_30 : decode cX11_sum 30 = .ok (.iload_n 3, 1) := by decide +kernel
theorem dX11_sum_31 : decode cX11_sum 31 = .ok (.iload 5, 2) := by decide +kernel
theorem dX11_sum_33 : decode cX11_sum 33 = .ok (.ifCond .ne 13, 3) := by decide +kernel
theorem dX11_sum_36 : decode cX11_sum 36 = .ok (.aload_n 0, 1) := by decide +kernel
theorem dX11_sum_37 : decode cX11_sum 37 = .ok (.getfield 88, 3) := by decide +kernel
theorem dX11_sum_40 : decode cX11_sum 40 = .ok (.iload 4, 2) := by decide +kernel
theorem dX11_sum_42 : decode cX11_sum 42 = .ok (.iaload, 1) := by decide +kernel
theorem dX11_sum_43 : decode cX11_sum 43 = .ok (.goto 15, 3) := by decide +kernel
theorem dX11_sum_46 : decode cX11_sum 46 = .ok (.aload_n 0, 1) := by decide +kernel
theorem dX11_sum_47 : decode cX11_sum 47 = .ok (.getfield 172, 3) := by decide +kernel
theorem dX11_sum_50 : decode cX11_sum 50 = .ok (.aload_n 0, 1) := by decide +kernel
theorem dX11_sum_51 : decode cX11_sum 51 = .ok (.getfield 88, 3) := by decide +kernel
theorem dX11_sum_54 : decode cX11_sum 54 = .ok (.iload 4, 2) := by decide +kernel
theorem dX11_sum_56 : decode cX11_sum 56 = .ok (.iaload, 1) := by decide +kernel
theorem dX11_sum_57 : decode cX11_sum 57 = .ok (.iaload, 1) := by decide +kernel
theorem dX11_sum_58 : decode cX11_sum 58 = .ok (.iastore, 1) := by decide +kernel
theorem dX11_sum_59 : decode cX11_sum 59 = .ok (.iinc 3 1, 3) := by decide +kernel
theorem dX11_sum_62 : decode cX11_sum 62 = .ok (.goto 67, 3) := by decide +kernel
theorem dX11_sum_65 : decode cX11_sum 65 = .ok (.aload_n 0, 1) := by decide +kernel
theorem dX11_sum_66 : decode cX11_sum 66 = .ok (.getfield 175, 3) := by decide +kernel
theorem dX11_sum_69 : decode cX11_sum 69 = .ok (.iload_n 3, 1) := by decide +kernel
theorem dX11_sum_70 : decode cX11_sum 70 = .ok (.iconst 1, 1) := by decide +kernel
theorem dX11_sum_71 : decode cX11_sum 71 = .ok (.isub, 1) := by decide +kernel
theorem dX11_sum_72 : decode cX11_sum 72 = .ok (.iaload, 1) := by decide +kernel
theorem dX11_sum_73 : decode cX11_sum 73 = .ok (.istore 6, 2) := by decide +kernel
theorem dX11_sum_75 : decode cX11_sum 75 = .ok (.aload_n 0, 1) := by decide +kernel
theorem dX11_sum_76 : decode cX11_sum 76 = .ok (.getfield 175, 3) := by decide +kernel
theorem dX11_sum_79 : decode cX11_sum 79 = .ok (.iload_n 3, 1) := by decide +kernel
theorem dX11_sum_80 : decode cX11_sum 80 = .ok (.iconst 2, 1) := by decide +kernel
theorem dX11_sum_81 : decode cX11_sum 81 = .ok (.isub, 1) := by decide +kernel
theorem dX11_sum_82 : decode cX11_sum 82 = .ok (.iaload, 1) := by decide +kernel
theorem dX11_sum_83 : decode cX11_sum 83 = .ok (.istore 7, 2) := by decide +kernel
theorem dX11_sum_85 : decode cX11_sum 85 = .ok (.iinc 3 (-1), 3) := by decide +kernel
theorem dX11_sum_88 : decode cX11_sum 88 = .ok (.aload_n 0, 1) := by decide +kernel
theorem dX11_sum_89 : decode cX11_sum 89 = .ok (.getfield 175, 3) := by decide +kernel
theorem dX11_sum_92 : decode cX11_sum 92 = .ok (.iload_n 3, 1) := by decide +kernel
theorem dX11_sum_93 : decode cX11_sum 93 = .ok (.iconst 1, 1) := by decide +kernel
theorem dX11_sum_94 : decode cX11_sum 94 = .ok (.isub, 1) := by decide +kernel
theorem dX11_sum_95 : decode cX11_sum 95 = .ok (.iload 5, 2) := by decide +kernel
theorem dX11_sum_97 : decode cX11_sum 97 = .ok (.iconst 2, 1) := by decide +kernel
theorem dX11_sum_98 : decode cX11_sum 98 = .ok (.if_icmp .ne 11, 3) := by decide +kernel
theorem dX11_sum_101 : decode cX11_sum 101 = .ok (.iload 7, 2) := by decide +kernel
theorem dX11_sum_103 : decode cX11_sum 103 = .ok (.iload 6, 2) := by decide +kernel
theorem dX11_sum_105 : decode cX11_sum 105 = .ok (.iadd, 1) := by decide +kernel
theorem dX11_sum_106 : decode cX11_sum 106 = .ok (.goto 22, 3) := by decide +kernel
theorem dX11_sum_109 : decode cX11_sum 109 = .ok (.iload 5, 2) := by decide +kernel
theorem dX11_sum_111 : decode cX11_sum 111 = .ok (.iconst 3, 1) := by decide +kernel
theorem dX11_sum_112 : decode cX11_sum 112 = .ok (.if_icmp .ne 11, 3) := by decide +kernel
theorem dX11_sum_115 : decode cX11_sum 115 = .ok (.iload 7, 2) := by decide +kernel
theorem dX11_sum_117 : decode cX11_sum 117 = .ok (.iload 6, 2) := by decide +kernel
theorem dX11_sum_119 : decode cX11_sum 119 = .ok (.isub, 1) := by decide +kernel
theorem dX11_sum_120 : decode cX11_sum 120 = .ok (.goto 8, 3) := by decide +kernel
theorem dX11_sum_123 : decode cX11_sum 123 = .ok (.iload 7, 2) := by decide +kernel
theorem dX11_sum_125 : decode cX11_sum 125 = .ok (.iload 6, 2) := by decide +kernel
theorem dX11_sum_127 : decode cX11_sum 127 = .ok (.imul, 1) := by decide +kernel
theorem dX11_sum_128 : decode cX11_sum 128 = .ok (.iastore, 1) := by decide +kernel
theorem dX11_sum_129 : decode cX11_sum 129 = .ok (.iinc 4 1, 3) := by decide +kernel
theorem dX11_sum_132 : decode cX11_sum 132 = .ok (.goto (-127), 3) := by decide +kernel
theorem dX11_sum_135 : decode cX11_sum 135 = .ok (.aload_n 0, 1) := by decide +kernel
theorem dX11_sum_136 : decode cX11_sum 136 = .ok (.getfield 175, 3) := by decide +kernel
theorem dX11_sum_139 : decode cX11_sum 139 = .ok (.iconst 0, 1) := by decide +kernel
theorem dX11_sum_140 : decode cX11_sum 140 = .ok (.iaload, 1) := by decide +kernel
theorem dX11_sum_141 : decode cX11_sum 141 = .ok (.ireturn, 1) := by decide +kernel
theorem dX11_isLit_0 : decode cX11_isLit 0 = .ok (.aload_n 0, 1) := by decide +kernel
theorem dX11_isLit_1 : decode cX11_isLit 1 = .ok (.aload_n 0, 1) := by decide +kernel
theorem dX11_isLit_2 : decode cX11_isLit 2 = .ok (.getfield 100, 3) := by decide +kernel
theorem dX11_isLit_5 : decode cX11_isLit 5 = .ok (.iload_n 1, 1) := by decide +kernel
theorem dX11_isLit_6 : decode cX11_isLit 6 = .ok (.iaload, 1) := by decide +kernel
theorem dX11_isLit_7 : decode cX11_isLit 7 = .ok (.aload_n 0, 1) := by decide +kernel
theorem dX11_isLit_8 : decode cX11_isLit 8 = .ok (.getfield 103, 3) := by decide +kernel
theorem dX11_isLit_11 : decode cX11_isLit 11 = .ok (.iload_n 1, 1) := by decide +kernel
theorem dX11_isLit_12 : decode cX11_isLit 12 = .ok (.iaload, 1) := by decide +kernel
theorem dX11_isLit_13 : decode cX11_isLit 13 = .ok (.invokevirtual 510, 3) := by decide +kernel
theorem dX11_isLit_16 : decode cX11_isLit 16 = .ok (.istore_n 2, 1) := by decide +kernel
theorem dX11_isLit_17 : decode cX11_isLit 17 = .ok (.aload_n 0, 1) := by decide +kernel
theorem dX11_isLit_18 : decode cX11_isLit 18 = .ok (.aload_n 0, 1) := by decide +kernel
theorem dX11_isLit_19 : decode cX11_isLit 19 = .ok (.getfield 103, 3) := by decide +kernel
theorem dX11_isLit_22 : decode cX11_isLit 22 = .ok (.iload_n 1, 1) := by decide +kernel
theorem dX11_isLit_23 : decode cX11_isLit 23 = .ok (.iaload, 1) := by decide +kernel
theorem dX11_isLit_24 : decode cX11_isLit 24 = .ok (.aload_n 0, 1) := by decide +kernel
theorem dX11_isLit_25 : decode cX11_isLit 25 = .ok (.getfield 106, 3) := by decide +kernel
theorem dX11_isLit_28 : decode cX11_isLit 28 = .ok (.iload_n 1, 1) := by decide +kernel
theorem dX11_isLit_29 : decode cX11_isLit 29 = .ok (.iaload, 1) := by decide +kernel
theorem dX11_isLit_30 : decode cX11_isLit 30 = .ok (.invokevirtual 510, 3) := by decide +kernel
theorem dX11_isLit_33 : decode cX11_isLit 33 = .ok (.istore_n 3, 1) := by decide +kernel
theorem dX11_isLit_34 : decode cX11_isLit 34 = .ok (.aload_n 0, 1) := by decide +kernel
theorem dX11_isLit_35 : decode cX11_isLit 35 = .ok (.getfield 97, 3) := by decide +kernel
theorem dX11_isLit_38 : decode cX11_isLit 38 = .ok (.iload_n 1, 1) := by decide +kernel
theorem dX11_isLit_39 : decode cX11_isLit 39 = .ok (.iaload, 1) := by decide +kernel
theorem dX11_isLit_40 : decode cX11_isLit 40 = .ok (.sipush 300, 3) := by decide +kernel
theorem dX11_isLit_43 : decode cX11_isLit 43 = .ok (.if_icmp .ne 16, 3) := by decide +kernel
theorem dX11_isLit_46 : decode cX11_isLit 46 = .ok (.iload_n 2, 1) := by decide +kernel
theorem dX11_isLit_47 : decode cX11_isLit 47 = .ok (.iload_n 3, 1) := by decide +kernel
theorem dX11_isLit_48 : decode cX11_isLit 48 = .ok (.if_icmp .ne 7, 3) := by decide +kernel
theorem dX11_isLit_51 : decode cX11_isLit 51 = .ok (.iconst 1, 1) := by decide +kernel
theorem dX11_isLit_52 : decode cX11_isLit 52 = .ok (.goto 67, 3) := by decide +kernel
theorem dX11_isLit_55 : decode cX11_isLit 55 = .ok (.iconst 0, 1) := by decide +kernel
theorem dX11_isLit_56 : decode cX11_isLit 56 = .ok (.goto 63, 3) := by decide +kernel
theorem dX11_isLit_59 : decode cX11_isLit 59 = .ok (.aload_n 0, 1) := by decide +kernel
theorem dX11_isLit_60 : decode cX11_isLit 60 = .ok (.getfield 97, 3) := by decide +kernel
theorem dX11_isLit_63 : decode cX11_isLit 63 = .ok (.iload_n 1, 1) := by decide +kernel
theorem dX11_isLit_64 : decode cX11_isLit 64 = .ok (.iaload, 1) := by decide +kernel
theorem dX11_isLit_65 : decode cX11_isLit 65 = .ok (.sipush 301, 3) := by decide +kernel
theorem dX11_isLit_68 : decode cX11_isLit 68 = .ok (.if_icmp .ne 16, 3) := by decide +kernel
theorem dX11_isLit_71 : decode cX11_isLit 71 = .ok (.iload_n 2, 1) := by decide +kernel
theorem dX11_isLit_72 : decode cX11_isLit 72 = .ok (.iload_n 3, 1) := by decide +kernel
theorem dX11_isLit_73 : decode cX11_isLit 73 = .ok (.if_icmp .eq 7, 3) := by decide +kernel
theorem dX11_isLit_76 : decode cX11_isLit 76 = .ok (.iconst 1, 1) := by decide +kernel
theorem dX11_isLit_77 : decode cX11_isLit 77 = .ok (.goto 42, 3) := by decide +kernel
theorem dX11_isLit_80 : decode cX11_isLit 80 = .ok (.iconst 0, 1) := by decide +kernel
theorem dX11_isLit_81 : decode cX11_isLit 81 = .ok (.goto 38, 3) := by decide +kernel
theorem dX11_isLit_84 : decode cX11_isLit 84 = .ok (.aload_n 0, 1) := by decide +kernel
theorem dX11_isLit_85 : decode cX11_isLit 85 = .ok (.getfield 97, 3) := by decide +kernel
theorem dX11_isLit_88 : decode cX11_isLit 88 = .ok (.iload_n 1, 1) := by decide +kernel
theorem dX11_isLit_89 : decode cX11_isLit 89 = .ok (.iaload, 1) := by decide +kernel
theorem dX11_isLit_90 : decode cX11_isLit 90 = .ok (.sipush 302, 3) := by decide +kernel
theorem dX11_isLit_93 : decode cX11_isLit 93 = .ok (.if_icmp .ne 16, 3) := by decide +kernel
theorem dX11_isLit_96 : decode cX11_isLit 96 = .ok (.iload_n 2, 1) := by decide +kernel
theorem dX11_isLit_97 : decode cX11_isLit 97 = .ok (.iload_n 3, 1) := by decide +kernel
theorem dX11_isLit_98 : decode cX11_isLit 98 = .ok (.if_icmp .gt 7, 3) := by decide +kernel
theorem dX11_isLit_101 : decode cX11_isLit 101 = .ok (.iconst 1, 1) := by decide +kernel
theorem dX11_isLit_102 : decode cX11_isLit 102 = .ok (.goto 17, 3) := by decide +kernel
theorem dX11_isLit_105 : decode cX11_isLit 105 = .ok (.iconst 0, 1) := by decide +kernel
theorem dX11_isLit_106 : decode cX11_isLit 106 = .ok (.goto 13, 3) := by decide +kernel
theorem dX11_isLit_109 : decode cX11_isLit 109 = .ok (.iload_n 2, 1) := by decide +kernel
theorem dX11_isLit_110 : decode cX11_isLit 110 = .ok (.iload_n 3, 1) := by decide +kernel
theorem dX11_isLit_111 : decode cX11_isLit 111 = .ok (.if_icmp .ge 7, 3) := by decide +kernel
theorem dX11_isLit_114 : decode cX11_isLit 114 = .ok (.iconst 1, 1) := by decide +kernel
theorem dX11_isLit_115 : decode cX11_isLit 115 = .ok (.goto 4, 3) := by decide +kernel
theorem dX11_isLit_118 : decode cX11_isLit 118 = .ok (.iconst 0, 1) := by decide +kernel
theorem dX11_isLit_119 : decode cX11_isLit 119 = .ok (.istore 4, 2) := by decide +kernel
theorem dX11_isLit_121 : decode cX11_isLit 121 = .ok (.iload 4, 2) := by decide +kernel
theorem dX11_isLit_123 : decode cX11_isLit 123 = .ok (.aload_n 0, 1) := by decide +kernel
theorem dX11_isLit_124 : decode cX11_isLit 124 = .ok (.getfield 94, 3) := by decide +kernel
theorem dX11_isLit_127 : decode cX11_isLit 127 = .ok (.iload_n 1, 1) := by decide +kernel
theorem dX11_isLit_128 : decode cX11_isLit 128 = .ok (.baload, 1) := by decide +kernel
theorem dX11_isLit_129 : decode cX11_isLit 129 = .ok (.if_icmp .eq 7, 3) := by decide +kernel
theorem dX11_isLit_132 : decode cX11_isLit 132 = .ok (.iconst 1, 1) := by decide +kernel
theorem dX11_isLit_133 : decode cX11_isLit 133 = .ok (.goto 4, 3) := by decide +kernel
theorem dX11_isLit_136 : decode cX11_isLit 136 = .ok (.iconst 0, 1) := by decide +kernel
theorem dX11_isLit_137 : decode cX11_isLit 137 = .ok (.ireturn, 1) := by decide +kernel
theorem dX11_isHeld_0 : decode cX11_isHeld 0 = .ok (.iload_n 1, 1) := by decide +kernel
theorem dX11_isHeld_1 : decode cX11_isHeld 1 = .ok (.istore_n 3, 1) := by decide +kernel
theorem dX11_isHeld_2 : decode cX11_isHeld 2 = .ok (.iload_n 3, 1) := by decide +kernel
theorem dX11_isHeld_3 : decode cX11_isHeld 3 = .ok (.iload_n 2, 1) := by decide +kernel
theorem dX11_isHeld_4 : decode cX11_isHeld 4 = .ok (.if_icmp .ge 58, 3) := by decide +kernel
theorem dX11_isHeld_7 : decode cX11_isHeld 7 = .ok (.aload_n 0, 1) := by decide +kernel
theorem dX11_isHeld_8 : decode cX11_isHeld 8 = .ok (.getfield 109, 3) := by decide +kernel
theorem dX11_isHeld_11 : decode cX11_isHeld 11 = .ok (.iload_n 3, 1) := by decide +kernel
theorem dX11_isHeld_12 : decode cX11_isHeld 12 = .ok (.iaload, 1) := by decide +kernel
theorem dX11_isHeld_13 : decode cX11_isHeld 13 = .ok (.istore 4, 2) := by decide +kernel
theorem dX11_isHeld_15 : decode cX11_isHeld 15 = .ok (.iconst 1, 1) := by decide +kernel
theorem dX11_isHeld_16 : decode cX11_isHeld 16 = .ok (.istore 5, 2) := by decide +kernel
theorem dX11_isHeld_18 : decode cX11_isHeld 18 = .ok (.iload_n 3, 1) := by decide +kernel
theorem dX11_isHeld_19 : decode cX11_isHeld 19 = .ok (.iload_n 2, 1) := by decide +kernel
theorem dX11_isHeld_20 : decode cX11_isHeld 20 = .ok (.if_icmp .ge 32, 3) := by decide +kernel
theorem dX11_isHeld_23 : decode cX11_isHeld 23 = .ok (.aload_n 0, 1) := by decide +kernel
theorem dX11_isHeld_24 : decode cX11_isHeld 24 = .ok (.getfield 109, 3) := by decide +kernel
theorem dX11_isHeld_27 : decode cX11_isHeld 27 = .ok (.iload_n 3, 1) := by decide +kernel
theorem dX11_isHeld_28 : decode cX11_isHeld 28 = .ok (.iaload, 1) := by decide +kernel
theorem dX11_isHeld_29 : decode cX11_isHeld 29 = .ok (.iload 4, 2) := by decide +kernel
theorem dX11_isHeld_31 : decode cX11_isHeld 31 = .ok (.if_icmp .ne 21, 3) := by decide +kernel
theorem dX11_isHeld_34 : decode cX11_isHeld 34 = .ok (.iload 5, 2) := by decide +kernel
theorem dX11_isHeld_36 : decode cX11_isHeld 36 = .ok (.ifCond .eq 10, 3) := by decide +kernel
theorem dX11_isHeld_39 : decode cX11_isHeld 39 = .ok (.aload_n 0, 1) := by decide +kernel
theorem dX11_isHeld_40 : decode cX11_isHeld 40 = .ok (.iload_n 3, 1) := by decide +kernel
theorem dX11_isHeld_41 : decode cX11_isHeld 41 = .ok (.invokevirtual 513, 3) := by decide +kernel
theorem dX11_isHeld_44 : decode cX11_isHeld 44 = .ok (.istore 5, 2) := by decide +kernel
theorem dX11_isHeld_46 : decode cX11_isHeld 46 = .ok (.iinc 3 1, 3) := by decide +kernel
theorem dX11_isHeld_49 : decode cX11_isHeld 49 = .ok (.goto (-31), 3) := by decide +kernel
theorem dX11_isHeld_52 : decode cX11_isHeld 52 = .ok (.iload 5, 2) := by decide +kernel
theorem dX11_isHeld_54 : decode cX11_isHeld 54 = .ok (.ifCond .eq 5, 3) := by decide +kernel
theorem dX11_isHeld_57 : decode cX11_isHeld 57 = .ok (.iconst 1, 1) := by decide +kernel
theorem dX11_isHeld_58 : decode cX11_isHeld 58 = .ok (.ireturn, 1) := by decide +kernel
theorem dX11_isHeld_59 : decode cX11_isHeld 59 = .ok (.goto (-57), 3) := by decide +kernel
theorem dX11_isHeld_62 : decode cX11_isHeld 62 = .ok (.iconst 0, 1) := by decide +kernel
theorem dX11_isHeld_63 : decode cX11_isHeld 63 = .ok (.ireturn, 1) := by decide +kernel
theorem dX11_rightOf_0 : decode cX11_rightOf 0 = .ok (.aload_n 0, 1) := by decide +kernel
theorem dX11_rightOf_1 : decode cX11_rightOf 1 = .ok (.getfield 133, 3) := by decide +kernel
theorem dX11_rightOf_4 : decode cX11_rightOf 4 = .ok (.iload_n 1, 1) := by decide +kernel
theorem dX11_rightOf_5 : decode cX11_rightOf 5 = .ok (.iaload, 1) := by decide +kernel
theorem dX11_rightOf_6 : decode cX11_rightOf 6 = .ok (.istore 4, 2) := by decide +kernel
theorem dX11_rightOf_8 : decode cX11_rightOf 8 = .ok (.aload_n 0, 1) := by decide +kernel
theorem dX11_rightOf_9 : decode cX11_rightOf 9 = .ok (.iload_n 1, 1) := by decide +kernel
theorem dX11_rightOf_10 : decode cX11_rightOf 10 = .ok (.iload_n 2, 1) := by decide +kernel
theorem dX11_rightOf_11 : decode cX11_rightOf 11 = .ok (.iload_n 3, 1) := by decide +kernel
theorem dX11_rightOf_12 : decode cX11_rightOf 12 = .ok (.invokevirtual 473, 3) := by decide +kernel
theorem dX11_rightOf_15 : decode cX11_rightOf 15 = .ok (.istore 5, 2) := by decide +kernel
theorem dX11_rightOf_17 : decode cX11_rightOf 17 = .ok (.aload_n 0, 1) := by decide +kernel
theorem dX11_rightOf_18 : decode cX11_rightOf 18 = .ok (.getfield 124, 3) := by decide +kernel
theorem dX11_rightOf_21 : decode cX11_rightOf 21 = .ok (.iload 4, 2) := by decide +kernel
theorem dX11_rightOf_23 : decode cX11_rightOf 23 = .ok (.iaload, 1) := by decide +kernel
theorem dX11_rightOf_24 : decode cX11_rightOf 24 = .ok (.istore 6, 2) := by decide +kernel
theorem dX11_rightOf_26 : decode cX11_rightOf 26 = .ok (.iload 6, 2) := by decide +kernel
theorem dX11_rightOf_28 : decode cX11_rightOf 28 = .ok (.aload_n 0, 1) := by decide +kernel
theorem dX11_rightOf_29 : decode cX11_rightOf 29 = .ok (.getfield 58, 3) := by decide +kernel
theorem dX11_rightOf_32 : decode cX11_rightOf 32 = .ok (.aload_n 0, 1) := by decide +kernel
theorem dX11_rightOf_33 : decode cX11_rightOf 33 = .ok (.getfield 477, 3) := by decide +kernel
theorem dX11_rightOf_36 : decode cX11_rightOf 36 = .ok (.iaload, 1) := by decide +kernel
theorem dX11_rightOf_37 : decode cX11_rightOf 37 = .ok (.if_icmp .ge 20, 3) := by decide +kernel
theorem dX11_rightOf_40 : decode cX11_rightOf 40 = .ok (.aload_n 0, 1) := by decide +kernel
theorem dX11_rightOf_41 : decode cX11_rightOf 41 = .ok (.getfield 61, 3) := by decide +kernel
theorem dX11_rightOf_44 : decode cX11_rightOf 44 = .ok (.iconst 3, 1) := by decide +kernel
theorem dX11_rightOf_45 : decode cX11_rightOf 45 = .ok (.aload_n 0, 1) := by decide +kernel
theorem dX11_rightOf_46 : decode cX11_rightOf 46 = .ok (.getfield 477, 3) := by decide +kernel
theorem dX11_rightOf_49 : decode cX11_rightOf 49 = .ok (.imul, 1) := by decide +kernel
theorem dX11_rightOf_50 : decode cX11_rightOf 50 = .ok (.iload 6, 2) := by decide +kernel
theorem dX11_rightOf_52 : decode cX11_rightOf 52 = .ok (.iadd, 1) := by decide +kernel
theorem dX11_rightOf_53 : decode cX11_rightOf 53 = .ok (.iaload, 1) := by decide +kernel
theorem dX11_rightOf_54 : decode cX11_rightOf 54 = .ok (.goto 4, 3) := by decide +kernel
theorem dX11_rightOf_57 : decode cX11_rightOf 57 = .ok (.iconst (-1), 1) := by decide +kernel
theorem dX11_rightOf_58 : decode cX11_rightOf 58 = .ok (.istore 7, 2) := by decide +kernel
theorem dX11_rightOf_60 : decode cX11_rightOf 60 = .ok (.aload_n 0, 1) := by decide +kernel
theorem dX11_rightOf_61 : decode cX11_rightOf 61 = .ok (.getfield 172, 3) := by decide +kernel
theorem dX11_rightOf_64 : decode cX11_rightOf 64 = .ok (.iconst 0, 1) := by decide +kernel
theorem dX11_rightOf_65 : decode cX11_rightOf 65 = .ok (.aload_n 0, 1) := by decide +kernel
theorem dX11_rightOf_66 : decode cX11_rightOf 66 = .ok (.getfield 127, 3) := by decide +kernel
theorem dX11_rightOf_69 : decode cX11_rightOf 69 = .ok (.iload 4, 2) := by decide +kernel
theorem dX11_rightOf_71 : decode cX11_rightOf 71 = .ok (.iaload, 1) := by decide +kernel
theorem dX11_rightOf_72 : decode cX11_rightOf 72 = .ok (.iastore, 1) := by decide +kernel
theorem dX11_rightOf_73 : decode cX11_rightOf 73 = .ok (.aload_n 0, 1) := by decide +kernel
theorem dX11_rightOf_74 : decode cX11_rightOf 74 = .ok (.getfield 172, 3) := by decide +kernel
theorem dX11_rightOf_77 : decode cX11_rightOf 77 = .ok (.iconst 1, 1) := by decide +kernel
theorem dX11_rightOf_78 : decode cX11_rightOf 78 = .ok (.aload_n 0, 1) := by decide +kernel
theorem dX11_rightOf_79 : decode cX11_rightOf 79 = .ok (.getfield 130, 3) := by decide +kernel
theorem dX11_rightOf_82 : decode cX11_rightOf 82 = .ok (.iload 4, 2) := by decide +kernel
theorem dX11_rightOf_84 : decode cX11_rightOf 84 = .ok (.iaload, 1) := by decide +kernel
theorem dX11_rightOf_85 : decode cX11_rightOf 85 = .ok (.iastore, 1) := by decide +kernel
theorem dX11_rightOf_86 : decode cX11_rightOf 86 = .ok (.iconst 0, 1) := by decide +kernel
theorem dX11_rightOf_87 : decode cX11_rightOf 87 = .ok (.istore 8, 2) := by decide +kernel
theorem dX11_rightOf_89 : decode cX11_rightOf 89 = .ok (.iload 8, 2) := by decide +kernel
theorem dX11_rightOf_91 : decode cX11_rightOf 91 = .ok (.iconst 2, 1) := by decide +kernel
theorem dX11_rightOf_92 : decode cX11_rightOf 92 = .ok (.if_icmp .ge 52, 3) := by decide +kernel
theorem dX11_rightOf_95 : decode cX11_rightOf 95 = .ok (.aload_n 0, 1) := by decide +kernel
theorem dX11_rightOf_96 : decode cX11_rightOf 96 = .ok (.getfield 172, 3) := by decide +kernel
theorem dX11_rightOf_99 : decode cX11_rightOf 99 = .ok (.iconst 2, 1) := by decide +kernel
theorem dX11_rightOf_100 : decode cX11_rightOf 100 = .ok (.iload 8, 2) := by decide +kernel
theorem dX11_rightOf_102 : decode cX11_rightOf 102 = .ok (.iadd, 1) := by decide +kernel
theorem dX11_rightOf_103 : decode cX11_rightOf 103 = .ok (.iload 7, 2) := by decide +kernel
theorem dX11_rightOf_105 : decode cX11_rightOf 105 = .ok (.ifCond .lt 16, 3) := by decide +kernel
theorem dX11_rightOf_108 : decode cX11_rightOf 108 = .ok (.aload_n 0, 1) := by decide +kernel
theorem dX11_rightOf_109 : decode cX11_rightOf 109 = .ok (.iload 8, 2) := by decide +kernel
theorem dX11_rightOf_111 : decode cX11_rightOf 111 = .ok (.iload 5, 2) := by decide +kernel
theorem dX11_rightOf_113 : decode cX11_rightOf 113 = .ok (.iload 7, 2) := by decide +kernel
theorem dX11_rightOf_115 : decode cX11_rightOf 115 = .ok (.invokevirtual 504, 3) := by decide +kernel
theorem dX11_rightOf_118 : decode cX11_rightOf 118 = .ok (.ifCond .ge 9, 3) := by decide +kernel
theorem dX11_rightOf_121 : decode cX11_rightOf 121 = .ok (.sipush 9999, 3) := by decide +kernel
theorem dX11_rightOf_124 : decode cX11_rightOf 124 = .ok (.goto 13, 3) := by decide +kernel
theorem dX11_rightOf_127 : decode cX11_rightOf 127 = .ok (.aload_n 0, 1) := by decide +kernel
theorem dX11_rightOf_128 : decode cX11_rightOf 128 = .ok (.iload 8, 2) := by decide +kernel
theorem dX11_rightOf_130 : decode cX11_rightOf 130 = .ok (.iload 5, 2) := by decide +kernel
theorem dX11_rightOf_132 : decode cX11_rightOf 132 = .ok (.iload 7, 2) := by decide +kernel
theorem dX11_rightOf_134 : decode cX11_rightOf 134 = .ok (.invokevirtual 504, 3) := by decide +kernel
theorem dX11_rightOf_137 : decode cX11_rightOf 137 = .ok (.iastore, 1) := by decide +kernel
theorem dX11_rightOf_138 : decode cX11_rightOf 138 = .ok (.iinc 8 1, 3) := by decide +kernel
theorem dX11_rightOf_141 : decode cX11_rightOf 141 = .ok (.goto (-52), 3) := by decide +kernel
theorem dX11_rightOf_144 : decode cX11_rightOf 144 = .ok (.aload_n 0, 1) := by decide +kernel
theorem dX11_rightOf_145 : decode cX11_rightOf 145 = .ok (.getfield 172, 3) := by decide +kernel
theorem dX11_rightOf_148 : decode cX11_rightOf 148 = .ok (.iconst 4, 1) := by decide +kernel
theorem dX11_rightOf_149 : decode cX11_rightOf 149 = .ok (.iload_n 2, 1) := by decide +kernel
theorem dX11_rightOf_150 : decode cX11_rightOf 150 = .ok (.iastore, 1) := by decide +kernel
theorem dX11_rightOf_151 : decode cX11_rightOf 151 = .ok (.iconst 0, 1) := by decide +kernel
theorem dX11_rightOf_152 : decode cX11_rightOf 152 = .ok (.istore 8, 2) := by decide +kernel
theorem dX11_rightOf_154 : decode cX11_rightOf 154 = .ok (.iload 8, 2) := by decide +kernel
theorem dX11_rightOf_156 : decode cX11_rightOf 156 = .ok (.aload_n 0, 1) := by decide +kernel
theorem dX11_rightOf_157 : decode cX11_rightOf 157 = .ok (.getfield 73, 3) := by decide +kernel
theorem dX11_rightOf_160 : decode cX11_rightOf 160 = .ok (.aload_n 0, 1) := by decide +kernel
theorem dX11_rightOf_161 : decode cX11_rightOf 161 = .ok (.getfield 477, 3) := by decide +kernel
theorem dX11_rightOf_164 : decode cX11_rightOf 164 = .ok (.iaload, 1) := by decide +kernel
theorem dX11_rightOf_165 : decode cX11_rightOf 165 = .ok (.if_icmp .ge 49, 3) := by decide +kernel
theorem dX11_rightOf_168 : decode cX11_rightOf 168 = .ok (.aload_n 0, 1) := by decide +kernel
theorem dX11_rightOf_169 : decode cX11_rightOf 169 = .ok (.aload_n 0, 1) := by decide +kernel
theorem dX11_rightOf_170 : decode cX11_rightOf 170 = .ok (.getfield 76, 3) := by decide +kernel
theorem dX11_rightOf_173 : decode cX11_rightOf 173 = .ok (.bipush 8, 2) := by decide +kernel
theorem dX11_rightOf_175 : decode cX11_rightOf 175 = .ok (.aload_n 0, 1) := by decide +kernel
theorem dX11_rightOf_176 : decode cX11_rightOf 176 = .ok (.getfield 477, 3) := by decide +kernel
theorem dX11_rightOf_179 : decode cX11_rightOf 179 = .ok (.imul, 1) := by decide +kernel
theorem dX11_rightOf_180 : decode cX11_rightOf 180 = .ok (.iload 8, 2) := by decide +kernel
theorem dX11_rightOf_182 : decode cX11_rightOf 182 = .ok (.iadd, 1) := by decide +kernel
theorem dX11_rightOf_183 : decode cX11_rightOf 183 = .ok (.iaload, 1) := by decide +kernel
theorem dX11_rightOf_184 : decode cX11_rightOf 184 = .ok (.aload_n 0, 1) := by decide +kernel
theorem dX11_rightOf_185 : decode cX11_rightOf 185 = .ok (.getfield 79, 3) := by decide +kernel
theorem dX11_rightOf_188 : decode cX11_rightOf 188 = .ok (.bipush 8, 2) := by decide +kernel
theorem dX11_rightOf_190 : decode cX11_rightOf 190 = .ok (.aload_n 0, 1) := by decide +kernel
theorem dX11_rightOf_191 : decode cX11_rightOf 191 = .ok (.getfield 477, 3) := by decide +kernel
theorem dX11_rightOf_194 : decode cX11_rightOf 194 = .ok (.imul, 1) := by decide +kernel
theorem dX11_rightOf_195 : decode cX11_rightOf 195 = .ok (.iload 8, 2) := by decide +kernel
theorem dX11_rightOf_197 : decode cX11_rightOf 197 = .ok (.iadd, 1) := by decide +kernel
theorem dX11_rightOf_198 : decode cX11_rightOf 198 = .ok (.iaload, 1) := by decide +kernel
theorem dX11_rightOf_199 : decode cX11_rightOf 199 = .ok (.invokevirtual 516, 3) := by decide +kernel
theorem dX11_rightOf_202 : decode cX11_rightOf 202 = .ok (.ifCond .eq 6, 3) := by decide +kernel
theorem dX11_rightOf_205 : decode cX11_rightOf 205 = .ok (.iload 8, 2) := by decide +kernel
theorem dX11_rightOf_207 : decode cX11_rightOf 207 = .ok (.ireturn, 1) := by decide +kernel
theorem dX11_rightOf_208 : decode cX11_rightOf 208 = .ok (.iinc 8 1, 3) := by decide +kernel
theorem dX11_rightOf_211 : decode cX11_rightOf 211 = .ok (.goto (-57), 3) := by decide +kernel
theorem dX11_rightOf_214 : decode cX11_rightOf 214 = .ok (.bipush (-2), 2) := by decide +kernel
theorem dX11_rightOf_216 : decode cX11_rightOf 216 = .ok (.ireturn, 1) := by decide +kernel
theorem dX11_right_0 : decode cX11_right 0 = .ok (.aload_n 0, 1) := by decide +kernel
theorem dX11_right_1 : decode cX11_right 1 = .ok (.iload_n 2, 1) := by decide +kernel
theorem dX11_right_2 : decode cX11_right 2 = .ok (.iload_n 3, 1) := by decide +kernel
theorem dX11_right_3 : decode cX11_right 3 = .ok (.invokevirtual 494, 3) := by decide +kernel
theorem dX11_right_6 : decode cX11_right 6 = .ok (.ifCond .eq 12, 3) := by decide +kernel
theorem dX11_right_9 : decode cX11_right 9 = .ok (.aload_n 0, 1) := by decide +kernel
theorem dX11_right_10 : decode cX11_right 10 = .ok (.iload_n 1, 1) := by decide +kernel
theorem dX11_right_11 : decode cX11_right 11 = .ok (.iload_n 3, 1) := by decide +kernel
theorem dX11_right_12 : decode cX11_right 12 = .ok (.invokevirtual 470, 3) := by decide +kernel
theorem dX11_right_15 : decode cX11_right 15 = .ok (.ifCond .ne 5, 3) := by decide +kernel
theorem dX11_right_18 : decode cX11_right 18 = .ok (.iconst (-1), 1) := by decide +kernel
theorem dX11_right_19 : decode cX11_right 19 = .ok (.ireturn, 1) := by decide +kernel
theorem dX11_right_20 : decode cX11_right 20 = .ok (.aload_n 0, 1) := by decide +kernel
theorem dX11_right_21 : decode cX11_right 21 = .ok (.iload_n 2, 1) := by decide +kernel
theorem dX11_right_22 : decode cX11_right 22 = .ok (.iload_n 3, 1) := by decide +kernel
theorem dX11_right_23 : decode cX11_right 23 = .ok (.invokevirtual 501, 3) := by decide +kernel
theorem dX11_right_26 : decode cX11_right 26 = .ok (.aload_n 0, 1) := by decide +kernel
theorem dX11_right_27 : decode cX11_right 27 = .ok (.iload_n 1, 1) := by decide +kernel
theorem dX11_right_28 : decode cX11_right 28 = .ok (.iload_n 2, 1) := by decide +kernel
theorem dX11_right_29 : decode cX11_right 29 = .ok (.iload_n 3, 1) := by decide +kernel
theorem dX11_right_30 : decode cX11_right 30 = .ok (.invokevirtual 519, 3) := by decide +kernel
theorem dX11_right_33 : decode cX11_right 33 = .ok (.ireturn, 1) := by decide +kernel
theorem dX11_altered_0 : decode cX11_altered 0 = .ok (.aload_n 0, 1) := by decide +kernel
theorem dX11_altered_1 : decode cX11_altered 1 = .ok (.iload_n 1, 1) := by decide +kernel
theorem dX11_altered_2 : decode cX11_altered 2 = .ok (.iload_n 3, 1) := by decide +kernel
theorem dX11_altered_3 : decode cX11_altered 3 = .ok (.invokevirtual 494, 3) := by decide +kernel
theorem dX11_altered_6 : decode cX11_altered 6 = .ok (.ifCond .eq 12, 3) := by decide +kernel
theorem dX11_altered_9 : decode cX11_altered 9 = .ok (.aload_n 0, 1) := by decide +kernel
theorem dX11_altered_10 : decode cX11_altered 10 = .ok (.iload_n 2, 1) := by decide +kernel
theorem dX11_altered_11 : decode cX11_altered 11 = .ok (.iload_n 3, 1) := by decide +kernel
theorem dX11_altered_12 : decode cX11_altered 12 = .ok (.invokevirtual 494, 3) := by decide +kernel
theorem dX11_altered_15 : decode cX11_altered 15 = .ok (.ifCond .ne 5, 3) := by decide +kernel
theorem dX11_altered_18 : decode cX11_altered 18 = .ok (.iconst (-1), 1) := by decide +kernel
theorem dX11_altered_19 : decode cX11_altered 19 = .ok (.ireturn, 1) := by decide +kernel
theorem dX11_altered_20 : decode cX11_altered 20 = .ok (.aload_n 0, 1) := by decide +kernel
theorem dX11_altered_21 : decode cX11_altered 21 = .ok (.iload_n 1, 1) := by decide +kernel
theorem dX11_altered_22 : decode cX11_altered 22 = .ok (.iload_n 3, 1) := by decide +kernel
theorem dX11_altered_23 : decode cX11_altered 23 = .ok (.invokevirtual 501, 3) := by decide +kernel
theorem dX11_altered_26 : decode cX11_altered 26 = .ok (.iconst 0, 1) := by decide +kernel
theorem dX11_altered_27 : decode cX11_altered 27 = .ok (.istore 4, 2) := by decide +kernel
theorem dX11_altered_29 : decode cX11_altered 29 = .ok (.iload 4, 2) := by decide +kernel
theorem dX11_altered_31 : decode cX11_altered 31 = .ok (.aload_n 0, 1) := by decide +kernel
theorem dX11_altered_32 : decode cX11_altered 32 = .ok (.getfield 446, 3) := by decide +kernel
theorem dX11_altered_35 : decode cX11_altered 35 = .ok (.if_icmp .ge 42, 3) := by decide +kernel
theorem dX11_altered_38 : decode cX11_altered 38 = .ok (.aload_n 0, 1) := by decide +kernel
theorem dX11_altered_39 : decode cX11_altered 39 = .ok (.getfield 178, 3) := by decide +kernel
theorem dX11_altered_42 : decode cX11_altered 42 = .ok (.iload 4, 2) := by decide +kernel
theorem dX11_altered_44 : decode cX11_altered 44 = .ok (.aload_n 0, 1) := by decide +kernel
theorem dX11_altered_45 : decode cX11_altered 45 = .ok (.iload 4, 2) := by decide +kernel
theorem dX11_altered_47 : decode cX11_altered 47 = .ok (.iload_n 3, 1) := by decide +kernel
theorem dX11_altered_48 : decode cX11_altered 48 = .ok (.invokevirtual 470, 3) := by decide +kernel
theorem dX11_altered_51 : decode cX11_altered 51 = .ok (.ifCond .eq 18, 3) := by decide +kernel
theorem dX11_altered_54 : decode cX11_altered 54 = .ok (.aload_n 0, 1) := by decide +kernel
theorem dX11_altered_55 : decode cX11_altered 55 = .ok (.iload 4, 2) := by decide +kernel
theorem dX11_altered_57 : decode cX11_altered 57 = .ok (.iload_n 1, 1) := by decide +kernel
theorem dX11_altered_58 : decode cX11_altered 58 = .ok (.iload_n 3, 1) := by decide +kernel
theorem dX11_altered_59 : decode cX11_altered 59 = .ok (.invokevirtual 519, 3) := by decide +kernel
theorem dX11_altered_62 : decode cX11_altered 62 = .ok (.ifCond .lt 7, 3) := by decide +kernel
theorem dX11_altered_65 : decode cX11_altered 65 = .ok (.iconst 1, 1) := by decide +kernel
theorem dX11_altered_66 : decode cX11_altered 66 = .ok (.goto 4, 3) := by decide +kernel
theorem dX11_altered_69 : decode cX11_altered 69 = .ok (.iconst 0, 1) := by decide +kernel
theorem dX11_altered_70 : decode cX11_altered 70 = .ok (.bastore, 1) := by decide +kernel
theorem dX11_altered_71 : decode cX11_altered 71 = .ok (.iinc 4 1, 3) := by decide +kernel
theorem dX11_altered_74 : decode cX11_altered 74 = .ok (.goto (-45), 3) := by decide +kernel
theorem dX11_altered_77 : decode cX11_altered 77 = .ok (.aload_n 0, 1) := by decide +kernel
theorem dX11_altered_78 : decode cX11_altered 78 = .ok (.iload_n 2, 1) := by decide +kernel
theorem dX11_altered_79 : decode cX11_altered 79 = .ok (.iload_n 3, 1) := by decide +kernel
theorem dX11_altered_80 : decode cX11_altered 80 = .ok (.invokevirtual 501, 3) := by decide +kernel
theorem dX11_altered_83 : decode cX11_altered 83 = .ok (.iconst 0, 1) := by decide +kernel
theorem dX11_altered_84 : decode cX11_altered 84 = .ok (.istore 4, 2) := by decide +kernel
theorem dX11_altered_86 : decode cX11_altered 86 = .ok (.iconst 0, 1) := by decide +kernel
theorem dX11_altered_87 : decode cX11_altered 87 = .ok (.istore 5, 2) := by decide +kernel
theorem dX11_altered_89 : decode cX11_altered 89 = .ok (.iload 5, 2) := by decide +kernel
theorem dX11_altered_91 : decode cX11_altered 91 = .ok (.aload_n 0, 1) := by decide +kernel
theorem dX11_altered_92 : decode cX11_altered 92 = .ok (.getfield 446, 3) := by decide +kernel
theorem dX11_altered_95 : decode cX11_altered 95 = .ok (.if_icmp .ge 48, 3) := by decide +kernel
theorem dX11_altered_98 : decode cX11_altered 98 = .ok (.aload_n 0, 1) := by decide +kernel
theorem dX11_altered_99 : decode cX11_altered 99 = .ok (.iload 5, 2) := by decide +kernel
theorem dX11_altered_101 : decode cX11_altered 101 = .ok (.iload_n 3, 1) := by decide +kernel
theorem dX11_altered_102 : decode cX11_altered 102 = .ok (.invokevirtual 470, 3) := by decide +kernel
theorem dX11_altered_105 : decode cX11_altered 105 = .ok (.ifCond .eq 32, 3) := by decide +kernel
theorem dX11_altered_108 : decode cX11_altered 108 = .ok (.aload_n 0, 1) := by decide +kernel
theorem dX11_altered_109 : decode cX11_altered 109 = .ok (.getfield 178, 3) := by decide +kernel
theorem dX11_altered_112 : decode cX11_altered 112 = .ok (.iload 5, 2) := by decide +kernel
theorem dX11_altered_114 : decode cX11_altered 114 = .ok (.baload, 1) := by decide +kernel
theorem dX11_altered_115 : decode cX11_altered 115 = .ok (.aload_n 0, 1) := by decide +kernel
theorem dX11_altered_116 : decode cX11_altered 116 = .ok (.iload 5, 2) := by decide +kernel
theorem dX11_altered_118 : decode cX11_altered 118 = .ok (.iload_n 2, 1) := by decide +kernel
theorem dX11_altered_119 : decode cX11_altered 119 = .ok (.iload_n 3, 1) := by decide +kernel
theorem dX11_altered_120 : decode cX11_altered 120 = .ok (.invokevirtual 519, 3) := by decide +kernel
theorem dX11_altered_123 : decode cX11_altered 123 = .ok (.ifCond .lt 7, 3) := by decide +kernel
theorem dX11_altered_126 : decode cX11_altered 126 = .ok (.iconst 1, 1) := by decide +kernel
theorem dX11_altered_127 : decode cX11_altered 127 = .ok (.goto 4, 3) := by decide +kernel
theorem dX11_altered_130 : decode cX11_altered 130 = .ok (.iconst 0, 1) := by decide +kernel
theorem dX11_altered_131 : decode cX11_altered 131 = .ok (.if_icmp .eq 6, 3) := by decide +kernel
theorem dX11_altered_134 : decode cX11_altered 134 = .ok (.iinc 4 1, 3) := by decide +kernel
theorem dX11_altered_137 : decode cX11_altered 137 = .ok (.iinc 5 1, 3) := by decide +kernel
theorem dX11_altered_140 : decode cX11_altered 140 = .ok (.goto (-51), 3) := by decide +kernel
theorem dX11_altered_143 : decode cX11_altered 143 = .ok (.iload 4, 2) := by decide +kernel
theorem dX11_altered_145 : decode cX11_altered 145 = .ok (.ireturn, 1) := by decide +kernel
theorem dX11_stopOf_0 : decode cX11_stopOf 0 = .ok (.aload_n 0, 1) := by decide +kernel
theorem dX11_stopOf_1 : decode cX11_stopOf 1 = .ok (.getfield 124, 3) := by decide +kernel
theorem dX11_stopOf_4 : decode cX11_stopOf 4 = .ok (.aload_n 0, 1) := by decide +kernel
theorem dX11_stopOf_5 : decode cX11_stopOf 5 = .ok (.getfield 133, 3) := by decide +kernel
theorem dX11_stopOf_8 : decode cX11_stopOf 8 = .ok (.iload_n 1, 1) := by decide +kernel
theorem dX11_stopOf_9 : decode cX11_stopOf 9 = .ok (.iaload, 1) := by decide +kernel
theorem dX11_stopOf_10 : decode cX11_stopOf 10 = .ok (.iaload, 1) := by decide +kernel
theorem dX11_stopOf_11 : decode cX11_stopOf 11 = .ok (.aload_n 0, 1) := by decide +kernel
theorem dX11_stopOf_12 : decode cX11_stopOf 12 = .ok (.getfield 58, 3) := by decide +kernel
theorem dX11_stopOf_15 : decode cX11_stopOf 15 = .ok (.aload_n 0, 1) := by decide +kernel
theorem dX11_stopOf_16 : decode cX11_stopOf 16 = .ok (.getfield 477, 3) := by decide +kernel
theorem dX11_stopOf_19 : decode cX11_stopOf 19 = .ok (.iaload, 1) := by decide +kernel
theorem dX11_stopOf_20 : decode cX11_stopOf 20 = .ok (.if_icmp .ge 13, 3) := by decide +kernel
theorem dX11_stopOf_23 : decode cX11_stopOf 23 = .ok (.aload_n 0, 1) := by decide +kernel
theorem dX11_stopOf_24 : decode cX11_stopOf 24 = .ok (.iload_n 1, 1) := by decide +kernel
theorem dX11_stopOf_25 : decode cX11_stopOf 25 = .ok (.iload_n 2, 1) := by decide +kernel
theorem dX11_stopOf_26 : decode cX11_stopOf 26 = .ok (.iload_n 3, 1) := by decide +kernel
theorem dX11_stopOf_27 : decode cX11_stopOf 27 = .ok (.invokevirtual 519, 3) := by decide +kernel
theorem dX11_stopOf_30 : decode cX11_stopOf 30 = .ok (.ifCond .ge 6, 3) := by decide +kernel
theorem dX11_stopOf_33 : decode cX11_stopOf 33 = .ok (.bipush (-2), 2) := by decide +kernel
theorem dX11_stopOf_35 : decode cX11_stopOf 35 = .ok (.ireturn, 1) := by decide +kernel
theorem dX11_stopOf_36 : decode cX11_stopOf 36 = .ok (.aload_n 0, 1) := by decide +kernel
theorem dX11_stopOf_37 : decode cX11_stopOf 37 = .ok (.iload_n 1, 1) := by decide +kernel
theorem dX11_stopOf_38 : decode cX11_stopOf 38 = .ok (.iload_n 2, 1) := by decide +kernel
theorem dX11_stopOf_39 : decode cX11_stopOf 39 = .ok (.iload_n 3, 1) := by decide +kernel
theorem dX11_stopOf_40 : decode cX11_stopOf 40 = .ok (.invokevirtual 473, 3) := by decide +kernel
theorem dX11_stopOf_43 : decode cX11_stopOf 43 = .ok (.istore 4, 2) := by decide +kernel
theorem dX11_stopOf_45 : decode cX11_stopOf 45 = .ok (.bipush (-2), 2) := by decide +kernel
theorem dX11_stopOf_47 : decode cX11_stopOf 47 = .ok (.istore 5, 2) := by decide +kernel
theorem dX11_stopOf_49 : decode cX11_stopOf 49 = .ok (.iconst 0, 1) := by decide +kernel
theorem dX11_stopOf_50 : decode cX11_stopOf 50 = .ok (.istore 6, 2) := by decide +kernel
theorem dX11_stopOf_52 : decode cX11_stopOf 52 = .ok (.iconst 0, 1) := by decide +kernel
theorem dX11_stopOf_53 : decode cX11_stopOf 53 = .ok (.istore 7, 2) := by decide +kernel
theorem dX11_stopOf_55 : decode cX11_stopOf 55 = .ok (.iload 7, 2) := by decide +kernel
theorem dX11_stopOf_57 : decode cX11_stopOf 57 = .ok (.aload_n 0, 1) := by decide +kernel
theorem dX11_stopOf_58 : decode cX11_stopOf 58 = .ok (.getfield 67, 3) := by decide +kernel
theorem dX11_stopOf_61 : decode cX11_stopOf 61 = .ok (.aload_n 0, 1) := by decide +kernel
theorem dX11_stopOf_62 : decode cX11_stopOf 62 = .ok (.getfield 477, 3) := by decide +kernel
theorem dX11_stopOf_65 : decode cX11_stopOf 65 = .ok (.iaload, 1) := by decide +kernel
theorem dX11_stopOf_66 : decode cX11_stopOf 66 = .ok (.if_icmp .ge 80, 3) := by decide +kernel
theorem dX11_stopOf_69 : decode cX11_stopOf 69 = .ok (.aload_n 0, 1) := by decide +kernel
theorem dX11_stopOf_70 : decode cX11_stopOf 70 = .ok (.iconst 1, 1) := by decide +kernel
theorem dX11_stopOf_71 : decode cX11_stopOf 71 = .ok (.iload 4, 2) := by decide +kernel
theorem dX11_stopOf_73 : decode cX11_stopOf 73 = .ok (.aload_n 0, 1) := by decide +kernel
theorem dX11_stopOf_74 : decode cX11_stopOf 74 = .ok (.getfield 70, 3) := by decide +kernel
theorem dX11_stopOf_77 : decode cX11_stopOf 77 = .ok (.bipush 6, 2) := by decide +kernel
theorem dX11_stopOf_79 : decode cX11_stopOf 79 = .ok (.aload_n 0, 1) := by decide +kernel
theorem dX11_stopOf_80 : decode cX11_stopOf 80 = .ok (.getfield 477, 3) := by decide +kernel
theorem dX11_stopOf_83 : decode cX11_stopOf 83 = .ok (.imul, 1) := by decide +kernel
theorem dX11_stopOf_84 : decode cX11_stopOf 84 = .ok (.iload 7, 2) := by decide +kernel
theorem dX11_stopOf_86 : decode cX11_stopOf 86 = .ok (.iadd, 1) := by decide +kernel
theorem dX11_stopOf_87 : decode cX11_stopOf 87 = .ok (.iaload, 1) := by decide +kernel
theorem dX11_stopOf_88 : decode cX11_stopOf 88 = .ok (.invokevirtual 504, 3) := by decide +kernel
theorem dX11_stopOf_91 : decode cX11_stopOf 91 = .ok (.istore 8, 2) := by decide +kernel
theorem dX11_stopOf_93 : decode cX11_stopOf 93 = .ok (.iload 8, 2) := by decide +kernel
theorem dX11_stopOf_95 : decode cX11_stopOf 95 = .ok (.ifCond .lt 45, 3) := by decide +kernel
theorem dX11_stopOf_98 : decode cX11_stopOf 98 = .ok (.iload 8, 2) := by decide +kernel
theorem dX11_stopOf_100 : decode cX11_stopOf 100 = .ok (.aload_n 0, 1) := by decide +kernel
theorem dX11_stopOf_101 : decode cX11_stopOf 101 = .ok (.getfield 33, 3) := by decide +kernel
theorem dX11_stopOf_104 : decode cX11_stopOf 104 = .ok (.bipush 7, 2) := by decide +kernel
theorem dX11_stopOf_106 : decode cX11_stopOf 106 = .ok (.aload_n 0, 1) := by decide +kernel
theorem dX11_stopOf_107 : decode cX11_stopOf 107 = .ok (.getfield 477, 3) := by decide +kernel
theorem dX11_stopOf_110 : decode cX11_stopOf 110 = .ok (.imul, 1) := by decide +kernel
theorem dX11_stopOf_111 : decode cX11_stopOf 111 = .ok (.iconst 2, 1) := by decide +kernel
theorem dX11_stopOf_112 : decode cX11_stopOf 112 = .ok (.iadd, 1) := by decide +kernel
theorem dX11_stopOf_113 : decode cX11_stopOf 113 = .ok (.iaload, 1) := by decide +kernel
theorem dX11_stopOf_114 : decode cX11_stopOf 114 = .ok (.if_icmp .gt 26, 3) := by decide +kernel
theorem dX11_stopOf_117 : decode cX11_stopOf 117 = .ok (.iload 5, 2) := by decide +kernel
theorem dX11_stopOf_119 : decode cX11_stopOf 119 = .ok (.ifCond .lt 13, 3) := by decide +kernel
theorem dX11_stopOf_122 : decode cX11_stopOf 122 = .ok (.iload 8, 2) := by decide +kernel
theorem dX11_stopOf_124 : decode cX11_stopOf 124 = .ok (.iload 6, 2) := by decide +kernel
theorem dX11_stopOf_126 : decode cX11_stopOf 126 = .ok (.if_icmp .lt 6, 3) := by decide +kernel
theorem dX11_stopOf_129 : decode cX11_stopOf 129 = .ok (.goto 11, 3) := by decide +kernel
theorem dX11_stopOf_132 : decode cX11_stopOf 132 = .ok (.iload 7, 2) := by decide +kernel
theorem dX11_stopOf_134 : decode cX11_stopOf 134 = .ok (.istore 5, 2) := by decide +kernel
theorem dX11_stopOf_136 : decode cX11_stopOf 136 = .ok (.iload 8, 2) := by decide +kernel
theorem dX11_stopOf_138 : decode cX11_stopOf 138 = .ok (.istore 6, 2) := by decide +kernel
theorem dX11_stopOf_140 : decode cX11_stopOf 140 = .ok (.iinc 7 1, 3) := by decide +kernel
theorem dX11_stopOf_143 : decode cX11_stopOf 143 = .ok (.goto (-88), 3) := by decide +kernel
theorem dX11_stopOf_146 : decode cX11_stopOf 146 = .ok (.iload 5, 2) := by decide +kernel
theorem dX11_stopOf_148 : decode cX11_stopOf 148 = .ok (.ireturn, 1) := by decide +kernel
theorem dX11_stop_0 : decode cX11_stop 0 = .ok (.aload_n 0, 1) := by decide +kernel
theorem dX11_stop_1 : decode cX11_stop 1 = .ok (.iload_n 2, 1) := by decide +kernel
theorem dX11_stop_2 : decode cX11_stop 2 = .ok (.iload_n 3, 1) := by decide +kernel
theorem dX11_stop_3 : decode cX11_stop 3 = .ok (.invokevirtual 494, 3) := by decide +kernel
theorem dX11_stop_6 : decode cX11_stop 6 = .ok (.ifCond .eq 12, 3) := by decide +kernel
theorem dX11_stop_9 : decode cX11_stop 9 = .ok (.aload_n 0, 1) := by decide +kernel
theorem dX11_stop_10 : decode cX11_stop 10 = .ok (.iload_n 1, 1) := by decide +kernel
theorem dX11_stop_11 : decode cX11_stop 11 = .ok (.iload_n 3, 1) := by decide +kernel
theorem dX11_stop_12 : decode cX11_stop 12 = .ok (.invokevirtual 470, 3) := by decide +kernel
theorem dX11_stop_15 : decode cX11_stop 15 = .ok (.ifCond .ne 5, 3) := by decide +kernel
theorem dX11_stop_18 : decode cX11_stop 18 = .ok (.iconst (-1), 1) := by decide +kernel
theorem dX11_stop_19 : decode cX11_stop 19 = .ok (.ireturn, 1) := by decide +kernel
theorem dX11_stop_20 : decode cX11_stop 20 = .ok (.aload_n 0, 1) := by decide +kernel
theorem dX11_stop_21 : decode cX11_stop 21 = .ok (.iload_n 2, 1) := by decide +kernel
theorem dX11_stop_22 : decode cX11_stop 22 = .ok (.iload_n 3, 1) := by decide +kernel
theorem dX11_stop_23 : decode cX11_stop 23 = .ok (.invokevirtual 501, 3) := by decide +kernel
theorem dX11_stop_26 : decode cX11_stop 26 = .ok (.aload_n 0, 1) := by decide +kernel
theorem dX11_stop_27 : decode cX11_stop 27 = .ok (.iload_n 1, 1) := by decide +kernel
theorem dX11_stop_28 : decode cX11_stop 28 = .ok (.iload_n 2, 1) := by decide +kernel
theorem dX11_stop_29 : decode cX11_stop 29 = .ok (.iload_n 3, 1) := by decide +kernel
theorem dX11_stop_30 : decode cX11_stop 30 = .ok (.invokevirtual 522, 3) := by decide +kernel
theorem dX11_stop_33 : decode cX11_stop 33 = .ok (.ireturn, 1) := by decide +kernel
theorem dX11_riders_0 : decode cX11_riders 0 = .ok (.aload_n 0, 1) := by decide +kernel
theorem dX11_riders_1 : decode cX11_riders 1 = .ok (.iload_n 1, 1) := by decide +kernel
theorem dX11_riders_2 : decode cX11_riders 2 = .ok (.putfield 525, 3) := by decide +kernel
theorem dX11_riders_5 : decode cX11_riders 5 = .ok (.iconst 0, 1) := by decide +kernel
theorem dX11_riders_6 : decode cX11_riders 6 = .ok (.istore 4, 2) := by decide +kernel
theorem dX11_riders_8 : decode cX11_riders 8 = .ok (.iload 4, 2) := by decide +kernel
theorem dX11_riders_10 : decode cX11_riders 10 = .ok (.bipush 6, 2) := by decide +kernel
theorem dX11_riders_12 : decode cX11_riders 12 = .ok (.if_icmp .ge 25, 3) := by decide +kernel
theorem dX11_riders_15 : decode cX11_riders 15 = .ok (.aload_n 0, 1) := by decide +kernel
theorem dX11_riders_16 : decode cX11_riders 16 = .ok (.getfield 181, 3) := by decide +kernel
theorem dX11_riders_19 : decode cX11_riders 19 = .ok (.iload 4, 2) := by decide +kernel
theorem dX11_riders_21 : decode cX11_riders 21 = .ok (.iconst 0, 1) := by decide +kernel
theorem dX11_riders_22 : decode cX11_riders 22 = .ok (.iastore, 1) := by decide +kernel
theorem dX11_riders_23 : decode cX11_riders 23 = .ok (.aload_n 0, 1) := by decide +kernel
theorem dX11_riders_24 : decode cX11_riders 24 = .ok (.getfield 184, 3) := by decide +kernel
theorem dX11_riders_27 : decode cX11_riders 27 = .ok (.iload 4, 2) := by decide +kernel
theorem dX11_riders_29 : decode cX11_riders 29 = .ok (.iconst 0, 1) := by decide +kernel
theorem dX11_riders_30 : decode cX11_riders 30 = .ok (.iastore, 1) := by decide +kernel
theorem dX11_riders_31 : decode cX11_riders 31 = .ok (.iinc 4 1, 3) := by decide +kernel
theorem dX11_riders_34 : decode cX11_riders 34 = .ok (.goto (-26), 3) := by decide +kernel
theorem dX11_riders_37 : decode cX11_riders 37 = .ok (.iconst 0, 1) := by decide +kernel
theorem dX11_riders_38 : decode cX11_riders 38 = .ok (.istore 4, 2) := by decide +kernel
theorem dX11_riders_40 : decode cX11_riders 40 = .ok (.iload 4, 2) := by decide +kernel
theorem dX11_riders_42 : decode cX11_riders 42 = .ok (.aload_n 0, 1) := by decide +kernel
theorem dX11_riders_43 : decode cX11_riders 43 = .ok (.getfield 446, 3) := by decide +kernel
theorem dX11_riders_46 : decode cX11_riders 46 = .ok (.if_icmp .ge 102, 3) := by decide +kernel
theorem dX11_riders_49 : decode cX11_riders 49 = .ok (.aload_n 0, 1) := by decide +kernel
theorem dX11_riders_50 : decode cX11_riders 50 = .ok (.iload 4, 2) := by decide +kernel
theorem dX11_riders_52 : decode cX11_riders 52 = .ok (.iload_n 3, 1) := by decide +kernel
theorem dX11_riders_53 : decode cX11_riders 53 = .ok (.invokevirtual 470, 3) := by decide +kernel
theorem dX11_riders_56 : decode cX11_riders 56 = .ok (.ifCond .eq 86, 3) := by decide +kernel
theorem dX11_riders_59 : decode cX11_riders 59 = .ok (.aload_n 0, 1) := by decide +kernel
theorem dX11_riders_60 : decode cX11_riders 60 = .ok (.getfield 124, 3) := by decide +kernel
theorem dX11_riders_63 : decode cX11_riders 63 = .ok (.aload_n 0, 1) := by decide +kernel
theorem dX11_riders_64 : decode cX11_riders 64 = .ok (.getfield 133, 3) := by decide +kernel
theorem dX11_riders_67 : decode cX11_riders 67 = .ok (.iload 4, 2) := by decide +kernel
theorem dX11_riders_69 : decode cX11_riders 69 = .ok (.iaload, 1) := by decide +kernel
theorem dX11_riders_70 : decode cX11_riders 70 = .ok (.iaload, 1) := by decide +kernel
theorem dX11_riders_71 : decode cX11_riders 71 = .ok (.iload_n 1, 1) := by decide +kernel
theorem dX11_riders_72 : decode cX11_riders 72 = .ok (.if_icmp .eq 6, 3) := by decide +kernel
theorem dX11_riders_75 : decode cX11_riders 75 = .ok (.goto 67, 3) := by decide +kernel
theorem dX11_riders_78 : decode cX11_riders 78 = .ok (.aload_n 0, 1) := by decide +kernel
theorem dX11_riders_79 : decode cX11_riders 79 = .ok (.iload 4, 2) := by decide +kernel
theorem dX11_riders_81 : decode cX11_riders 81 = .ok (.iload_n 2, 1) := by decide +kernel
theorem dX11_riders_82 : decode cX11_riders 82 = .ok (.iload_n 3, 1) := by decide +kernel
theorem dX11_riders_83 : decode cX11_riders 83 = .ok (.invokevirtual 522, 3) := by decide +kernel
theorem dX11_riders_86 : decode cX11_riders 86 = .ok (.istore 5, 2) := by decide +kernel
theorem dX11_riders_88 : decode cX11_riders 88 = .ok (.iload 5, 2) := by decide +kernel
theorem dX11_riders_90 : decode cX11_riders 90 = .ok (.ifCond .ge 6, 3) := by decide +kernel
theorem dX11_riders_93 : decode cX11_riders 93 = .ok (.goto 49, 3) := by decide +kernel
theorem dX11_riders_96 : decode cX11_riders 96 = .ok (.aload_n 0, 1) := by decide +kernel
theorem dX11_riders_97 : decode cX11_riders 97 = .ok (.getfield 181, 3) := by decide +kernel
theorem dX11_riders_100 : decode cX11_riders 100 = .ok (.iload 5, 2) := by decide +kernel
theorem dX11_riders_102 : decode cX11_riders 102 = .ok (.dup2, 1) := by decide +kernel
theorem dX11_riders_103 : decode cX11_riders 103 = .ok (.iaload, 1) := by decide +kernel
theorem dX11_riders_104 : decode cX11_riders 104 = .ok (.iconst 1, 1) := by decide +kernel
theorem dX11_riders_105 : decode cX11_riders 105 = .ok (.iload 4, 2) := by decide +kernel
theorem dX11_riders_107 : decode cX11_riders 107 = .ok (.ishl, 1) := by decide +kernel
theorem dX11_riders_108 : decode cX11_riders 108 = .ok (.ior, 1) := by decide +kernel
theorem dX11_riders_109 : decode cX11_riders 109 = .ok (.iastore, 1) := by decide +kernel
theorem dX11_riders_110 : decode cX11_riders 110 = .ok (.aload_n 0, 1) := by decide +kernel
theorem dX11_riders_111 : decode cX11_riders 111 = .ok (.getfield 184, 3) := by decide +kernel
theorem dX11_riders_114 : decode cX11_riders 114 = .ok (.iload 5, 2) := by decide +kernel
theorem dX11_riders_116 : decode cX11_riders 116 = .ok (.dup2, 1) := by decide +kernel
theorem dX11_riders_117 : decode cX11_riders 117 = .ok (.iaload, 1) := by decide +kernel
theorem dX11_riders_118 : decode cX11_riders 118 = .ok (.aload_n 0, 1) := by decide +kernel
theorem dX11_riders_119 : decode cX11_riders 119 = .ok (.getfield 130, 3) := by decide +kernel
theorem dX11_riders_122 : decode cX11_riders 122 = .ok (.aload_n 0, 1) := by decide +kernel
theorem dX11_riders_123 : decode cX11_riders 123 = .ok (.getfield 133, 3) := by decide +kernel
theorem dX11_riders_126 : decode cX11_riders 126 = .ok (.iload 4, 2) := by decide +kernel
theorem dX11_riders_128 : decode cX11_riders 128 = .ok (.iaload, 1) := by decide +kernel
theorem dX11_riders_129 : decode cX11_riders 129 = .ok (.iaload, 1) := by decide +kernel
theorem dX11_riders_130 : decode cX11_riders 130 = .ok (.iconst 2, 1) := by decide +kernel
theorem dX11_riders_131 : decode cX11_riders 131 = .ok (.iand, 1) := by decide +kernel
theorem dX11_riders_132 : decode cX11_riders 132 = .ok (.ifCond .eq 7, 3) := by decide +kernel
theorem dX11_riders_135 : decode cX11_riders 135 = .ok (.iconst 2, 1) := by decide +kernel
theorem dX11_riders_136 : decode cX11_riders 136 = .ok (.goto 4, 3) := by decide +kernel
theorem dX11_riders_139 : decode cX11_riders 139 = .ok (.iconst 1, 1) := by decide +kernel
theorem dX11_riders_140 : decode cX11_riders 140 = .ok (.iadd, 1) := by decide +kernel
theorem dX11_riders_141 : decode cX11_riders 141 = .ok (.iastore, 1) := by decide +kernel
theorem dX11_riders_142 : decode cX11_riders 142 = .ok (.iinc 4 1, 3) := by decide +kernel
theorem dX11_riders_145 : decode cX11_riders 145 = .ok (.goto (-105), 3) := by decide +kernel
theorem dX11_riders_148 : decode cX11_riders 148 = .ok (.iconst 0, 1) := by decide +kernel
theorem dX11_riders_149 : decode cX11_riders 149 = .ok (.istore 4, 2) := by decide +kernel
theorem dX11_riders_151 : decode cX11_riders 151 = .ok (.iload 4, 2) := by decide +kernel
theorem dX11_riders_153 : decode cX11_riders 153 = .ok (.bipush 20, 2) := by decide +kernel
theorem dX11_riders_155 : decode cX11_riders 155 = .ok (.if_icmp .ge 17, 3) := by decide +kernel
theorem dX11_riders_158 : decode cX11_riders 158 = .ok (.aload_n 0, 1) := by decide +kernel
theorem dX11_riders_159 : decode cX11_riders 159 = .ok (.getfield 199, 3) := by decide +kernel
theorem dX11_riders_162 : decode cX11_riders 162 = .ok (.iload 4, 2) := by decide +kernel
theorem dX11_riders_164 : decode cX11_riders 164 = .ok (.iconst 0, 1) := by decide +kernel
theorem dX11_riders_165 : decode cX11_riders 165 = .ok (.iastore, 1) := by decide +kernel
theorem dX11_riders_166 : decode cX11_riders 166 = .ok (.iinc 4 1, 3) := by decide +kernel
theorem dX11_riders_169 : decode cX11_riders 169 = .ok (.goto (-18), 3) := by decide +kernel
theorem dX11_riders_172 : decode cX11_riders 172 = .ok (.iconst 0, 1) := by decide +kernel
theorem dX11_riders_173 : decode cX11_riders 173 = .ok (.istore 4, 2) := by decide +kernel
theorem dX11_riders_175 : decode cX11_riders 175 = .ok (.iload 4, 2) := by decide +kernel
theorem dX11_riders_177 : decode cX11_riders 177 = .ok (.iload_n 3, 1) := by decide +kernel
theorem dX11_riders_178 : decode cX11_riders 178 = .ok (.if_icmp .ge 81, 3) := by decide +kernel
theorem dX11_riders_181 : decode cX11_riders 181 = .ok (.aload_n 0, 1) := by decide +kernel
theorem dX11_riders_182 : decode cX11_riders 182 = .ok (.getfield 118, 3) := by decide +kernel
theorem dX11_riders_185 : decode cX11_riders 185 = .ok (.iload 4, 2) := by decide +kernel
theorem dX11_riders_187 : decode cX11_riders 187 = .ok (.iaload, 1) := by decide +kernel
theorem dX11_riders_188 : decode cX11_riders 188 = .ok (.iconst 4, 1) := by decide +kernel
theorem dX11_riders_189 : decode cX11_riders 189 = .ok (.if_icmp .ne 64, 3) := by decide +kernel
theorem dX11_riders_192 : decode cX11_riders 192 = .ok (.aload_n 0, 1) := by decide +kernel
theorem dX11_riders_193 : decode cX11_riders 193 = .ok (.iload 4, 2) := by decide +kernel
theorem dX11_riders_195 : decode cX11_riders 195 = .ok (.iload_n 3, 1) := by decide +kernel
theorem dX11_riders_196 : decode cX11_riders 196 = .ok (.invokevirtual 464, 3) := by decide +kernel
theorem dX11_riders_199 : decode cX11_riders 199 = .ok (.ifCond .ne 6, 3) := by decide +kernel
theorem dX11_riders_202 : decode cX11_riders 202 = .ok (.goto 51, 3) := by decide +kernel
theorem dX11_riders_205 : decode cX11_riders 205 = .ok (.aload_n 0, 1) := by decide +kernel
theorem dX11_riders_206 : decode cX11_riders 206 = .ok (.getfield 199, 3) := by decide +kernel
theorem dX11_riders_209 : decode cX11_riders 209 = .ok (.aload_n 0, 1) := by decide +kernel
theorem dX11_riders_210 : decode cX11_riders 210 = .ok (.getfield 121, 3) := by decide +kernel
theorem dX11_riders_213 : decode cX11_riders 213 = .ok (.iload 4, 2) := by decide +kernel
theorem dX11_riders_215 : decode cX11_riders 215 = .ok (.iaload, 1) := by decide +kernel
theorem dX11_riders_216 : decode cX11_riders 216 = .ok (.dup2, 1) := by decide +kernel
theorem dX11_riders_217 : decode cX11_riders 217 = .ok (.iaload, 1) := by decide +kernel
theorem dX11_riders_218 : decode cX11_riders 218 = .ok (.iconst 1, 1) := by decide +kernel
theorem dX11_riders_219 : decode cX11_riders 219 = .ok (.aload_n 0, 1) := by decide +kernel
theorem dX11_riders_220 : decode cX11_riders 220 = .ok (.getfield 124, 3) := by decide +kernel
theorem dX11_riders_223 : decode cX11_riders 223 = .ok (.iload 4, 2) := by decide +kernel
theorem dX11_riders_225 : decode cX11_riders 225 = .ok (.iaload, 1) := by decide +kernel
theorem dX11_riders_226 : decode cX11_riders 226 = .ok (.ishl, 1) := by decide +kernel
theorem dX11_riders_227 : decode cX11_riders 227 = .ok (.ior, 1) := by decide +kernel
theorem dX11_riders_228 : decode cX11_riders 228 = .ok (.iastore, 1) := by decide +kernel
theorem dX11_riders_229 : decode cX11_riders 229 = .ok (.aload_n 0, 1) := by decide +kernel
theorem dX11_riders_230 : decode cX11_riders 230 = .ok (.getfield 199, 3) := by decide +kernel
theorem dX11_riders_233 : decode cX11_riders 233 = .ok (.aload_n 0, 1) := by decide +kernel
theorem dX11_riders_234 : decode cX11_riders 234 = .ok (.getfield 124, 3) := by decide +kernel
theorem dX11_riders_237 : decode cX11_riders 237 = .ok (.iload 4, 2) := by decide +kernel
theorem dX11_riders_239 : decode cX11_riders 239 = .ok (.iaload, 1) := by decide +kernel
theorem dX11_riders_240 : decode cX11_riders 240 = .ok (.dup2, 1) := by decide +kernel
theorem dX11_riders_241 : decode cX11_riders 241 = .ok (.iaload, 1) := by decide +kernel
theorem dX11_riders_242 : decode cX11_riders 242 = .ok (.iconst 1, 1) := by decide +kernel
theorem dX11_riders_243 : decode cX11_riders 243 = .ok (.aload_n 0, 1) := by decide +kernel
theorem dX11_riders_244 : decode cX11_riders 244 = .ok (.getfield 121, 3) := by decide +kernel
theorem dX11_riders_247 : decode cX11_riders 247 = .ok (.iload 4, 2) := by decide +kernel
theorem dX11_riders_249 : decode cX11_riders 249 = .ok (.iaload, 1) := by decide +kernel
theorem dX11_riders_250 : decode cX11_riders 250 = .ok (.ishl, 1) := by decide +kernel
theorem dX11_riders_251 : decode cX11_riders 251 = .ok (.ior, 1) := by decide +kernel
theorem dX11_riders_252 : decode cX11_riders 252 = .ok (.iastore, 1) := by decide +kernel
theorem dX11_riders_253 : decode cX11_riders 253 = .ok (.iinc 4 1, 3) := by decide +kernel
theorem dX11_riders_256 : decode cX11_riders 256 = .ok (.goto (-81), 3) := by decide +kernel
theorem dX11_riders_259 : decode cX11_riders 259 = .ok (.return_, 1) := by decide +kernel
theorem dX11_isSchool_0 : decode cX11_isSchool 0 = .ok (.aload_n 0, 1) := by decide +kernel
theorem dX11_isSchool_1 : decode cX11_isSchool 1 = .ok (.iload_n 2, 1) := by decide +kernel
theorem dX11_isSchool_2 : decode cX11_isSchool 2 = .ok (.iload_n 3, 1) := by decide +kernel
theorem dX11_isSchool_3 : decode cX11_isSchool 3 = .ok (.invokevirtual 494, 3) := by decide +kernel
theorem dX11_isSchool_6 : decode cX11_isSchool 6 = .ok (.ifCond .eq 25, 3) := by decide +kernel
theorem dX11_isSchool_9 : decode cX11_isSchool 9 = .ok (.iload_n 1, 1) := by decide +kernel
theorem dX11_isSchool_10 : decode cX11_isSchool 10 = .ok (.ifCond .lt 21, 3) := by decide +kernel
theorem dX11_isSchool_13 : decode cX11_isSchool 13 = .ok (.iload_n 1, 1) := by decide +kernel
theorem dX11_isSchool_14 : decode cX11_isSchool 14 = .ok (.aload_n 0, 1) := by decide +kernel
theorem dX11_isSchool_15 : decode cX11_isSchool 15 = .ok (.getfield 58, 3) := by decide +kernel
theorem dX11_isSchool_18 : decode cX11_isSchool 18 = .ok (.aload_n 0, 1) := by decide +kernel
theorem dX11_isSchool_19 : decode cX11_isSchool 19 = .ok (.iload_n 2, 1) := by decide +kernel
theorem dX11_isSchool_20 : decode cX11_isSchool 20 = .ok (.invokevirtual 480, 3) := by decide +kernel
theorem dX11_isSchool_23 : decode cX11_isSchool 23 = .ok (.iaload, 1) := by decide +kernel
theorem dX11_isSchool_24 : decode cX11_isSchool 24 = .ok (.if_icmp .ge 7, 3) := by decide +kernel
theorem dX11_isSchool_27 : decode cX11_isSchool 27 = .ok (.iconst 1, 1) := by decide +kernel
theorem dX11_isSchool_28 : decode cX11_isSchool 28 = .ok (.goto 4, 3) := by decide +kernel
theorem dX11_isSchool_31 : decode cX11_isSchool 31 = .ok (.iconst 0, 1) := by decide +kernel
theorem dX11_isSchool_32 : decode cX11_isSchool 32 = .ok (.ireturn, 1) := by decide +kernel
theorem dX11_load_0 : decode cX11_load 0 = .ok (.aload_n 0, 1) := by decide +kernel
theorem dX11_load_1 : decode cX11_load 1 = .ok (.iload_n 1, 1) := by decide +kernel
theorem dX11_load_2 : decode cX11_load 2 = .ok (.iload_n 3, 1) := by decide +kernel
theorem dX11_load_3 : decode cX11_load 3 = .ok (.iload 4, 2) := by decide +kernel
theorem dX11_load_5 : decode cX11_load 5 = .ok (.invokevirtual 528, 3) := by decide +kernel
theorem dX11_load_8 : decode cX11_load 8 = .ok (.ifCond .eq 21, 3) := by decide +kernel
theorem dX11_load_11 : decode cX11_load 11 = .ok (.iload_n 2, 1) := by decide +kernel
theorem dX11_load_12 : decode cX11_load 12 = .ok (.ifCond .lt 17, 3) := by decide +kernel
theorem dX11_load_15 : decode cX11_load 15 = .ok (.iload_n 2, 1) := by decide +kernel
theorem dX11_load_16 : decode cX11_load 16 = .ok (.aload_n 0, 1) := by decide +kernel
theorem dX11_load_17 : decode cX11_load 17 = .ok (.getfield 67, 3) := by decide +kernel
theorem dX11_load_20 : decode cX11_load 20 = .ok (.aload_n 0, 1) := by decide +kernel
theorem dX11_load_21 : decode cX11_load 21 = .ok (.iload_n 3, 1) := by decide +kernel
theorem dX11_load_22 : decode cX11_load 22 = .ok (.invokevirtual 480, 3) := by decide +kernel
theorem dX11_load_25 : decode cX11_load 25 = .ok (.iaload, 1) := by decide +kernel
theorem dX11_load_26 : decode cX11_load 26 = .ok (.if_icmp .lt 5, 3) := by decide +kernel
theorem dX11_load_29 : decode cX11_load 29 = .ok (.iconst (-1), 1) := by decide +kernel
theorem dX11_load_30 : decode cX11_load 30 = .ok (.ireturn, 1) := by decide +kernel
theorem dX11_load_31 : decode cX11_load 31 = .ok (.aload_n 0, 1) := by decide +kernel
theorem dX11_load_32 : decode cX11_load 32 = .ok (.iload_n 3, 1) := by decide +kernel
theorem dX11_load_33 : decode cX11_load 33 = .ok (.iload 4, 2) := by decide +kernel
theorem dX11_load_35 : decode cX11_load 35 = .ok (.invokevirtual 501, 3) := by decide +kernel
theorem dX11_load_38 : decode cX11_load 38 = .ok (.aload_n 0, 1) := by decide +kernel
theorem dX11_load_39 : decode cX11_load 39 = .ok (.iload_n 1, 1) := by decide +kernel
theorem dX11_load_40 : decode cX11_load 40 = .ok (.iload_n 3, 1) := by decide +kernel
theorem dX11_load_41 : decode cX11_load 41 = .ok (.iload 4, 2) := by decide +kernel
theorem dX11_load_43 : decode cX11_load 43 = .ok (.invokevirtual 531, 3) := by decide +kernel
theorem dX11_load_46 : decode cX11_load 46 = .ok (.aload_n 0, 1) := by decide +kernel
theorem dX11_load_47 : decode cX11_load 47 = .ok (.getfield 184, 3) := by decide +kernel
theorem dX11_load_50 : decode cX11_load 50 = .ok (.iload_n 2, 1) := by decide +kernel
theorem dX11_load_51 : decode cX11_load 51 = .ok (.iaload, 1) := by decide +kernel
theorem dX11_load_52 : decode cX11_load 52 = .ok (.ireturn, 1) := by decide +kernel
theorem dX11_placeOfStop_0 : decode cX11_placeOfStop 0 = .ok (.aload_n 0, 1) := by decide +kernel
theorem dX11_placeOfStop_1 : decode cX11_placeOfStop 1 = .ok (.getfield 70, 3) := by decide +kernel
theorem dX11_placeOfStop_4 : decode cX11_placeOfStop 4 = .ok (.bipush 6, 2) := by decide +kernel
theorem dX11_placeOfStop_6 : decode cX11_placeOfStop 6 = .ok (.aload_n 0, 1) := by decide +kernel
theorem dX11_placeOfStop_7 : decode cX11_placeOfStop 7 = .ok (.getfield 477, 3) := by decide +kernel
theorem dX11_placeOfStop_10 : decode cX11_placeOfStop 10 = .ok (.imul, 1) := by decide +kernel
theorem dX11_placeOfStop_11 : decode cX11_placeOfStop 11 = .ok (.iload_n 1, 1) := by decide +kernel
theorem dX11_placeOfStop_12 : decode cX11_placeOfStop 12 = .ok (.iadd, 1) := by decide +kernel
theorem dX11_placeOfStop_13 : decode cX11_placeOfStop 13 = .ok (.iaload, 1) := by decide +kernel
theorem dX11_placeOfStop_14 : decode cX11_placeOfStop 14 = .ok (.ireturn, 1) := by decide +kernel
theorem dX11_placeOfSchool_0 : decode cX11_placeOfSchool 0 = .ok (.aload_n 0, 1) := by decide +kernel
theorem dX11_placeOfSchool_1 : decode cX11_placeOfSchool 1 = .ok (.getfield 61, 3) := by decide +kernel
theorem dX11_placeOfSchool_4 : decode cX11_placeOfSchool 4 = .ok (.iconst 3, 1) := by decide +kernel
theorem dX11_placeOfSchool_5 : decode cX11_placeOfSchool 5 = .ok (.aload_n 0, 1) := by decide +kernel
theorem dX11_placeOfSchool_6 : decode cX11_placeOfSchool 6 = .ok (.getfield 477, 3) := by decide +kernel
theorem dX11_placeOfSchool_9 : decode cX11_placeOfSchool 9 = .ok (.imul, 1) := by decide +kernel
theorem dX11_placeOfSchool_10 : decode cX11_placeOfSchool 10 = .ok (.iload_n 1, 1) := by decide +kernel
theorem dX11_placeOfSchool_11 : decode cX11_placeOfSchool 11 = .ok (.iadd, 1) := by decide +kernel
theorem dX11_placeOfSchool_12 : decode cX11_placeOfSchool 12 = .ok (.iaload, 1) := by decide +kernel
theorem dX11_placeOfSchool_13 : decode cX11_placeOfSchool 13 = .ok (.ireturn, 1) := by decide +kernel
theorem dX11_driven_0 : decode cX11_driven 0 = .ok (.iconst 0, 1) := by decide +kernel
theorem dX11_driven_1 : decode cX11_driven 1 = .ok (.istore_n 2, 1) := by decide +kernel
theorem dX11_driven_2 : decode cX11_driven 2 = .ok (.iconst 0, 1) := by decide +kernel
theorem dX11_driven_3 : decode cX11_driven 3 = .ok (.istore_n 3, 1) := by decide +kernel
theorem dX11_driven_4 : decode cX11_driven 4 = .ok (.iload_n 3, 1) := by decide +kernel
theorem dX11_driven_5 : decode cX11_driven 5 = .ok (.iload_n 1, 1) := by decide +kernel
theorem dX11_driven_6 : decode cX11_driven 6 = .ok (.if_icmp .ge 72, 3) := by decide +kernel
theorem dX11_driven_9 : decode cX11_driven 9 = .ok (.iload_n 3, 1) := by decide +kernel
theorem dX11_driven_10 : decode cX11_driven 10 = .ok (.iconst 1, 1) := by decide +kernel
theorem dX11_driven_11 : decode cX11_driven 11 = .ok (.iadd, 1) := by decide +kernel
theorem dX11_driven_12 : decode cX11_driven 12 = .ok (.iload_n 1, 1) := by decide +kernel
theorem dX11_driven_13 : decode cX11_driven 13 = .ok (.if_icmp .ge 18, 3) := by decide +kernel
theorem dX11_driven_16 : decode cX11_driven 16 = .ok (.aload_n 0, 1) := by decide +kernel
theorem dX11_driven_17 : decode cX11_driven 17 = .ok (.aload_n 0, 1) := by decide +kernel
theorem dX11_driven_18 : decode cX11_driven 18 = .ok (.getfield 202, 3) := by decide +kernel
theorem dX11_driven_21 : decode cX11_driven 21 = .ok (.iload_n 3, 1) := by decide +kernel
theorem dX11_driven_22 : decode cX11_driven 22 = .ok (.iconst 1, 1) := by decide +kernel
theorem dX11_driven_23 : decode cX11_driven 23 = .ok (.iadd, 1) := by decide +kernel
theorem dX11_driven_24 : decode cX11_driven 24 = .ok (.iaload, 1) := by decide +kernel
theorem dX11_driven_25 : decode cX11_driven 25 = .ok (.invokevirtual 534, 3) := by decide +kernel
theorem dX11_driven_28 : decode cX11_driven 28 = .ok (.goto 11, 3) := by decide +kernel
theorem dX11_driven_31 : decode cX11_driven 31 = .ok (.aload_n 0, 1) := by decide +kernel
theorem dX11_driven_32 : decode cX11_driven 32 = .ok (.aload_n 0, 1) := by decide +kernel
theorem dX11_driven_33 : decode cX11_driven 33 = .ok (.getfield 525, 3) := by decide +kernel
theorem dX11_driven_36 : decode cX11_driven 36 = .ok (.invokevirtual 537, 3) := by decide +kernel
theorem dX11_driven_39 : decode cX11_driven 39 = .ok (.istore 4, 2) := by decide +kernel
theorem dX11_driven_41 : decode cX11_driven 41 = .ok (.aload_n 0, 1) := by decide +kernel
theorem dX11_driven_42 : decode cX11_driven 42 = .ok (.iconst 2, 1) := by decide +kernel
theorem dX11_driven_43 : decode cX11_driven 43 = .ok (.aload_n 0, 1) := by decide +kernel
theorem dX11_driven_44 : decode cX11_driven 44 = .ok (.aload_n 0, 1) := by decide +kernel
theorem dX11_driven_45 : decode cX11_driven 45 = .ok (.getfield 202, 3) := by decide +kernel
theorem dX11_driven_48 : decode cX11_driven 48 = .ok (.iload_n 3, 1) := by decide +kernel
theorem dX11_driven_49 : decode cX11_driven 49 = .ok (.iaload, 1) := by decide +kernel
theorem dX11_driven_50 : decode cX11_driven 50 = .ok (.invokevirtual 534, 3) := by decide +kernel
theorem dX11_driven_53 : decode cX11_driven 53 = .ok (.iload 4, 2) := by decide +kernel
theorem dX11_driven_55 : decode cX11_driven 55 = .ok (.invokevirtual 504, 3) := by decide +kernel
theorem dX11_driven_58 : decode cX11_driven 58 = .ok (.istore 5, 2) := by decide +kernel
theorem dX11_driven_60 : decode cX11_driven 60 = .ok (.iload 5, 2) := by decide +kernel
theorem dX11_driven_62 : decode cX11_driven 62 = .ok (.ifCond .ge 5, 3) := by decide +kernel
theorem dX11_driven_65 : decode cX11_driven 65 = .ok (.iconst (-1), 1) := by decide +kernel
theorem dX11_driven_66 : decode cX11_driven 66 = .ok (.ireturn, 1) := by decide +kernel
theorem dX11_driven_67 : decode cX11_driven 67 = .ok (.iload_n 2, 1) := by decide +kernel
theorem dX11_driven_68 : decode cX11_driven 68 = .ok (.iload 5, 2) := by decide +kernel
theorem dX11_driven_70 : decode cX11_driven 70 = .ok (.iadd, 1) := by decide +kernel
theorem dX11_driven_71 : decode cX11_driven 71 = .ok (.istore_n 2, 1) := by decide +kernel
theorem dX11_driven_72 : decode cX11_driven 72 = .ok (.iinc 3 1, 3) := by decide +kernel
theorem dX11_driven_75 : decode cX11_driven 75 = .ok (.goto (-71), 3) := by decide +kernel
theorem dX11_driven_78 : decode cX11_driven 78 = .ok (.iload_n 2, 1) := by decide +kernel
theorem dX11_driven_79 : decode cX11_driven 79 = .ok (.ireturn, 1) := by decide +kernel
theorem dX11_reorders_0 : decode cX11_reorders 0 = .ok (.iload_n 1, 1) := by decide +kernel
theorem dX11_reorders_1 : decode cX11_reorders 1 = .ok (.iconst 2, 1) := by decide +kernel
theorem dX11_reorders_2 : decode cX11_reorders 2 = .ok (.isub, 1) := by decide +kernel
theorem dX11_reorders_3 : decode cX11_reorders 3 = .ok (.istore_n 2, 1) := by decide +kernel
theorem dX11_reorders_4 : decode cX11_reorders 4 = .ok (.iload_n 2, 1) := by decide +kernel
theorem dX11_reorders_5 : decode cX11_reorders 5 = .ok (.ifCond .lt 26, 3) := by decide +kernel
theorem dX11_reorders_8 : decode cX11_reorders 8 = .ok (.aload_n 0, 1) := by decide +kernel
theorem dX11_reorders_9 : decode cX11_reorders 9 = .ok (.getfield 202, 3) := by decide +kernel
theorem dX11_reorders_12 : decode cX11_reorders 12 = .ok (.iload_n 2, 1) := by decide +kernel
theorem dX11_reorders_13 : decode cX11_reorders 13 = .ok (.iaload, 1) := by decide +kernel
theorem dX11_reorders_14 : decode cX11_reorders 14 = .ok (.aload_n 0, 1) := by decide +kernel
theorem dX11_reorders_15 : decode cX11_reorders 15 = .ok (.getfield 202, 3) := by decide +kernel
theorem dX11_reorders_18 : decode cX11_reorders 18 = .ok (.iload_n 2, 1) := by decide +kernel
theorem dX11_reorders_19 : decode cX11_reorders 19 = .ok (.iconst 1, 1) := by decide +kernel
theorem dX11_reorders_20 : decode cX11_reorders 20 = .ok (.iadd, 1) := by decide +kernel
theorem dX11_reorders_21 : decode cX11_reorders 21 = .ok (.iaload, 1) := by decide +kernel
theorem dX11_reorders_22 : decode cX11_reorders 22 = .ok (.if_icmp .le 9, 3) := by decide +kernel
theorem dX11_reorders_25 : decode cX11_reorders 25 = .ok (.iinc 2 (-1), 3) := by decide +kernel
theorem dX11_reorders_28 : decode cX11_reorders 28 = .ok (.goto (-24), 3) := by decide +kernel
theorem dX11_reorders_31 : decode cX11_reorders 31 = .ok (.iload_n 2, 1) := by decide +kernel
theorem dX11_reorders_32 : decode cX11_reorders 32 = .ok (.ifCond .ge 5, 3) := by decide +kernel
theorem dX11_reorders_35 : decode cX11_reorders 35 = .ok (.iconst 0, 1) := by decide +kernel
theorem dX11_reorders_36 : decode cX11_reorders 36 = .ok (.ireturn, 1) := by decide +kernel
theorem dX11_reorders_37 : decode cX11_reorders 37 = .ok (.iload_n 1, 1) := by decide +kernel
theorem dX11_reorders_38 : decode cX11_reorders 38 = .ok (.iconst 1, 1) := by decide +kernel
theorem dX11_reorders_39 : decode cX11_reorders 39 = .ok (.isub, 1) := by decide +kernel
theorem dX11_reorders_40 : decode cX11_reorders 40 = .ok (.istore_n 3, 1) := by decide +kernel
theorem dX11_reorders_41 : decode cX11_reorders 41 = .ok (.aload_n 0, 1) := by decide +kernel
theorem dX11_reorders_42 : decode cX11_reorders 42 = .ok (.getfield 202, 3) := by decide +kernel
theorem dX11_reorders_45 : decode cX11_reorders 45 = .ok (.iload_n 3, 1) := by decide +kernel
theorem dX11_reorders_46 : decode cX11_reorders 46 = .ok (.iaload, 1) := by decide +kernel
theorem dX11_reorders_47 : decode cX11_reorders 47 = .ok (.aload_n 0, 1) := by decide +kernel
theorem dX11_reorders_48 : decode cX11_reorders 48 = .ok (.getfield 202, 3) := by decide +kernel
theorem dX11_reorders_51 : decode cX11_reorders 51 = .ok (.iload_n 2, 1) := by decide +kernel
theorem dX11_reorders_52 : decode cX11_reorders 52 = .ok (.iaload, 1) := by decide +kernel
theorem dX11_reorders_53 : decode cX11_reorders 53 = .ok (.if_icmp .ge 9, 3) := by decide +kernel
theorem dX11_reorders_56 : decode cX11_reorders 56 = .ok (.iinc 3 (-1), 3) := by decide +kernel
theorem dX11_reorders_59 : decode cX11_reorders 59 = .ok (.goto (-18), 3) := by decide +kernel
theorem dX11_reorders_62 : decode cX11_reorders 62 = .ok (.aload_n 0, 1) := by decide +kernel
theorem dX11_reorders_63 : decode cX11_reorders 63 = .ok (.iload_n 2, 1) := by decide +kernel
theorem dX11_reorders_64 : decode cX11_reorders 64 = .ok (.iload_n 3, 1) := by decide +kernel
theorem dX11_reorders_65 : decode cX11_reorders 65 = .ok (.invokevirtual 540, 3) := by decide +kernel
theorem dX11_reorders_68 : decode cX11_reorders 68 = .ok (.iload_n 2, 1) := by decide +kernel
theorem dX11_reorders_69 : decode cX11_reorders 69 = .ok (.iconst 1, 1) := by decide +kernel
theorem dX11_reorders_70 : decode cX11_reorders 70 = .ok (.iadd, 1) := by decide +kernel
theorem dX11_reorders_71 : decode cX11_reorders 71 = .ok (.istore 4, 2) := by decide +kernel
theorem dX11_reorders_73 : decode cX11_reorders 73 = .ok (.iload_n 1, 1) := by decide +kernel
theorem dX11_reorders_74 : decode cX11_reorders 74 = .ok (.iconst 1, 1) := by decide +kernel
theorem dX11_reorders_75 : decode cX11_reorders 75 = .ok (.isub, 1) := by decide +kernel
theorem dX11_reorders_76 : decode cX11_reorders 76 = .ok (.istore 5, 2) := by decide +kernel
theorem dX11_reorders_78 : decode cX11_reorders 78 = .ok (.iload 4, 2) := by decide +kernel
theorem dX11_reorders_80 : decode cX11_reorders 80 = .ok (.iload 5, 2) := by decide +kernel
theorem dX11_reorders_82 : decode cX11_reorders 82 = .ok (.if_icmp .ge 20, 3) := by decide +kernel
theorem dX11_reorders_85 : decode cX11_reorders 85 = .ok (.aload_n 0, 1) := by decide +kernel
theorem dX11_reorders_86 : decode cX11_reorders 86 = .ok (.iload 4, 2) := by decide +kernel
theorem dX11_reorders_88 : decode cX11_reorders 88 = .ok (.iload 5, 2) := by decide +kernel
theorem dX11_reorders_90 : decode cX11_reorders 90 = .ok (.invokevirtual 540, 3) := by decide +kernel
theorem dX11_reorders_93 : decode cX11_reorders 93 = .ok (.iinc 4 1, 3) := by decide +kernel
theorem dX11_reorders_96 : decode cX11_reorders 96 = .ok (.iinc 5 (-1), 3) := by decide +kernel
theorem dX11_reorders_99 : decode cX11_reorders 99 = .ok (.goto (-21), 3) := by decide +kernel
theorem dX11_reorders_102 : decode cX11_reorders 102 = .ok (.iconst 1, 1) := by decide +kernel
theorem dX11_reorders_103 : decode cX11_reorders 103 = .ok (.ireturn, 1) := by decide +kernel
theorem dX11_turn_0 : decode cX11_turn 0 = .ok (.aload_n 0, 1) := by decide +kernel
theorem dX11_turn_1 : decode cX11_turn 1 = .ok (.getfield 202, 3) := by decide +kernel
theorem dX11_turn_4 : decode cX11_turn 4 = .ok (.iload_n 1, 1) := by decide +kernel
theorem dX11_turn_5 : decode cX11_turn 5 = .ok (.iaload, 1) := by decide +kernel
theorem dX11_turn_6 : decode cX11_turn 6 = .ok (.istore_n 3, 1) := by decide +kernel
theorem dX11_turn_7 : decode cX11_turn 7 = .ok (.aload_n 0, 1) := by decide +kernel
theorem dX11_turn_8 : decode cX11_turn 8 = .ok (.getfield 202, 3) := by decide +kernel
theorem dX11_turn_11 : decode cX11_turn 11 = .ok (.iload_n 1, 1) := by decide +kernel
theorem dX11_turn_12 : decode cX11_turn 12 = .ok (.aload_n 0, 1) := by decide +kernel
theorem dX11_turn_13 : decode cX11_turn 13 = .ok (.getfield 202, 3) := by decide +kernel
theorem dX11_turn_16 : decode cX11_turn 16 = .ok (.iload_n 2, 1) := by decide +kernel
theorem dX11_turn_17 : decode cX11_turn 17 = .ok (.iaload, 1) := by decide +kernel
theorem dX11_turn_18 : decode cX11_turn 18 = .ok (.iastore, 1) := by decide +kernel
theorem dX11_turn_19 : decode cX11_turn 19 = .ok (.aload_n 0, 1) := by decide +kernel
theorem dX11_turn_20 : decode cX11_turn 20 = .ok (.getfield 202, 3) := by decide +kernel
theorem dX11_turn_23 : decode cX11_turn 23 = .ok (.iload_n 2, 1) := by decide +kernel
theorem dX11_turn_24 : decode cX11_turn 24 = .ok (.iload_n 3, 1) := by decide +kernel
theorem dX11_turn_25 : decode cX11_turn 25 = .ok (.iastore, 1) := by decide +kernel
theorem dX11_turn_26 : decode cX11_turn 26 = .ok (.return_, 1) := by decide +kernel
theorem dX11_manyOf_0 : decode cX11_manyOf 0 = .ok (.iconst 0, 1) := by decide +kernel
theorem dX11_manyOf_1 : decode cX11_manyOf 1 = .ok (.istore_n 1, 1) := by decide +kernel
theorem dX11_manyOf_2 : decode cX11_manyOf 2 = .ok (.iconst 0, 1) := by decide +kernel
theorem dX11_manyOf_3 : decode cX11_manyOf 3 = .ok (.istore_n 2, 1) := by decide +kernel
theorem dX11_manyOf_4 : decode cX11_manyOf 4 = .ok (.iload_n 2, 1) := by decide +kernel
theorem dX11_manyOf_5 : decode cX11_manyOf 5 = .ok (.bipush 20, 2) := by decide +kernel
theorem dX11_manyOf_7 : decode cX11_manyOf 7 = .ok (.if_icmp .ge 17, 3) := by decide +kernel
theorem dX11_manyOf_10 : decode cX11_manyOf 10 = .ok (.iload_n 1, 1) := by decide +kernel
theorem dX11_manyOf_11 : decode cX11_manyOf 11 = .ok (.iload_n 0, 1) := by decide +kernel
theorem dX11_manyOf_12 : decode cX11_manyOf 12 = .ok (.iload_n 2, 1) := by decide +kernel
theorem dX11_manyOf_13 : decode cX11_manyOf 13 = .ok (.ishr, 1) := by decide +kernel
theorem dX11_manyOf_14 : decode cX11_manyOf 14 = .ok (.iconst 1, 1) := by decide +kernel
theorem dX11_manyOf_15 : decode cX11_manyOf 15 = .ok (.iand, 1) := by decide +kernel
theorem dX11_manyOf_16 : decode cX11_manyOf 16 = .ok (.iadd, 1) := by decide +kernel
theorem dX11_manyOf_17 : decode cX11_manyOf 17 = .ok (.istore_n 1, 1) := by decide +kernel
theorem dX11_manyOf_18 : decode cX11_manyOf 18 = .ok (.iinc 2 1, 3) := by decide +kernel
theorem dX11_manyOf_21 : decode cX11_manyOf 21 = .ok (.goto (-17), 3) := by decide +kernel
theorem dX11_manyOf_24 : decode cX11_manyOf 24 = .ok (.iload_n 1, 1) := by decide +kernel
theorem dX11_manyOf_25 : decode cX11_manyOf 25 = .ok (.ireturn, 1) := by decide +kernel
theorem dX11_laid_0 : decode cX11_laid 0 = .ok (.iconst 0, 1) := by decide +kernel
theorem dX11_laid_1 : decode cX11_laid 1 = .ok (.istore_n 2, 1) := by decide +kernel
theorem dX11_laid_2 : decode cX11_laid 2 = .ok (.aload_n 0, 1) := by decide +kernel
theorem dX11_laid_3 : decode cX11_laid 3 = .ok (.getfield 187, 3) := by decide +kernel
theorem dX11_laid_6 : decode cX11_laid 6 = .ok (.iload_n 1, 1) := by decide +kernel
theorem dX11_laid_7 : decode cX11_laid 7 = .ok (.iconst (-1), 1) := by decide +kernel
theorem dX11_laid_8 : decode cX11_laid 8 = .ok (.iastore, 1) := by decide +kernel
theorem dX11_laid_9 : decode cX11_laid 9 = .ok (.iconst 0, 1) := by decide +kernel
theorem dX11_laid_10 : decode cX11_laid 10 = .ok (.istore_n 3, 1) := by decide +kernel
theorem dX11_laid_11 : decode cX11_laid 11 = .ok (.iload_n 3, 1) := by decide +kernel
theorem dX11_laid_12 : decode cX11_laid 12 = .ok (.bipush 6, 2) := by decide +kernel
theorem dX11_laid_14 : decode cX11_laid 14 = .ok (.if_icmp .ge 40, 3) := by decide +kernel
theorem dX11_laid_17 : decode cX11_laid 17 = .ok (.iload_n 1, 1) := by decide +kernel
theorem dX11_laid_18 : decode cX11_laid 18 = .ok (.iload_n 3, 1) := by decide +kernel
theorem dX11_laid_19 : decode cX11_laid 19 = .ok (.ishr, 1) := by decide +kernel
theorem dX11_laid_20 : decode cX11_laid 20 = .ok (.iconst 1, 1) := by decide +kernel
theorem dX11_laid_21 : decode cX11_laid 21 = .ok (.iand, 1) := by decide +kernel
theorem dX11_laid_22 : decode cX11_laid 22 = .ok (.ifCond .ne 6, 3) := by decide +kernel
theorem dX11_laid_25 : decode cX11_laid 25 = .ok (.goto 23, 3) := by decide +kernel
theorem dX11_laid_28 : decode cX11_laid 28 = .ok (.aload_n 0, 1) := by decide +kernel
theorem dX11_laid_29 : decode cX11_laid 29 = .ok (.getfield 181, 3) := by decide +kernel
theorem dX11_laid_32 : decode cX11_laid 32 = .ok (.iload_n 3, 1) := by decide +kernel
theorem dX11_laid_33 : decode cX11_laid 33 = .ok (.iaload, 1) := by decide +kernel
theorem dX11_laid_34 : decode cX11_laid 34 = .ok (.ifCond .ne 4, 3) := by decide +kernel
theorem dX11_laid_37 : decode cX11_laid 37 = .ok (.return_, 1) := by decide +kernel
theorem dX11_laid_38 : decode cX11_laid 38 = .ok (.aload_n 0, 1) := by decide +kernel
theorem dX11_laid_39 : decode cX11_laid 39 = .ok (.getfield 202, 3) := by decide +kernel
theorem dX11_laid_42 : decode cX11_laid 42 = .ok (.iload_n 2, 1) := by decide +kernel
theorem dX11_laid_43 : decode cX11_laid 43 = .ok (.iload_n 3, 1) := by decide +kernel
theorem dX11_laid_44 : decode cX11_laid 44 = .ok (.iastore, 1) := by decide +kernel
theorem dX11_laid_45 : decode cX11_laid 45 = .ok (.iinc 2 1, 3) := by decide +kernel
theorem dX11_laid_48 : decode cX11_laid 48 = .ok (.iinc 3 1, 3) := by decide +kernel
theorem dX11_laid_51 : decode cX11_laid 51 = .ok (.goto (-40), 3) := by decide +kernel
theorem dX11_laid_54 : decode cX11_laid 54 = .ok (.iconst 1, 1) := by decide +kernel
theorem dX11_laid_55 : decode cX11_laid 55 = .ok (.istore_n 3, 1) := by decide +kernel
theorem dX11_laid_56 : decode cX11_laid 56 = .ok (.iload_n 3, 1) := by decide +kernel
theorem dX11_laid_57 : decode cX11_laid 57 = .ok (.ifCond .eq 86, 3) := by decide +kernel
theorem dX11_laid_60 : decode cX11_laid 60 = .ok (.aload_n 0, 1) := by decide +kernel
theorem dX11_laid_61 : decode cX11_laid 61 = .ok (.iload_n 2, 1) := by decide +kernel
theorem dX11_laid_62 : decode cX11_laid 62 = .ok (.invokevirtual 543, 3) := by decide +kernel
theorem dX11_laid_65 : decode cX11_laid 65 = .ok (.istore 4, 2) := by decide +kernel
theorem dX11_laid_67 : decode cX11_laid 67 = .ok (.iload 4, 2) := by decide +kernel
theorem dX11_laid_69 : decode cX11_laid 69 = .ok (.ifCond .lt 65, 3) := by decide +kernel
theorem dX11_laid_72 : decode cX11_laid 72 = .ok (.aload_n 0, 1) := by decide +kernel
theorem dX11_laid_73 : decode cX11_laid 73 = .ok (.getfield 187, 3) := by decide +kernel
theorem dX11_laid_76 : decode cX11_laid 76 = .ok (.iload_n 1, 1) := by decide +kernel
theorem dX11_laid_77 : decode cX11_laid 77 = .ok (.iaload, 1) := by decide +kernel
theorem dX11_laid_78 : decode cX11_laid 78 = .ok (.ifCond .lt 14, 3) := by decide +kernel
theorem dX11_laid_81 : decode cX11_laid 81 = .ok (.iload 4, 2) := by decide +kernel
theorem dX11_laid_83 : decode cX11_laid 83 = .ok (.aload_n 0, 1) := by decide +kernel
theorem dX11_laid_84 : decode cX11_laid 84 = .ok (.getfield 187, 3) := by decide +kernel
theorem dX11_laid_87 : decode cX11_laid 87 = .ok (.iload_n 1, 1) := by decide +kernel
theorem dX11_laid_88 : decode cX11_laid 88 = .ok (.iaload, 1) := by decide +kernel
theorem dX11_laid_89 : decode cX11_laid 89 = .ok (.if_icmp .ge 45, 3) := by decide +kernel
theorem dX11_laid_92 : decode cX11_laid 92 = .ok (.aload_n 0, 1) := by decide +kernel
theorem dX11_laid_93 : decode cX11_laid 93 = .ok (.getfield 187, 3) := by decide +kernel
theorem dX11_laid_96 : decode cX11_laid 96 = .ok (.iload_n 1, 1) := by decide +kernel
theorem dX11_laid_97 : decode cX11_laid 97 = .ok (.iload 4, 2) := by decide +kernel
theorem dX11_laid_99 : decode cX11_laid 99 = .ok (.iastore, 1) := by decide +kernel
theorem dX11_laid_100 : decode cX11_laid 100 = .ok (.iconst 0, 1) := by decide +kernel
theorem dX11_laid_101 : decode cX11_laid 101 = .ok (.istore 5, 2) := by decide +kernel
theorem dX11_laid_103 : decode cX11_laid 103 = .ok (.iload 5, 2) := by decide +kernel
theorem dX11_laid_105 : decode cX11_laid 105 = .ok (.iload_n 2, 1) := by decide +kernel
theorem dX11_laid_106 : decode cX11_laid 106 = .ok (.if_icmp .ge 28, 3) := by decide +kernel
theorem dX11_laid_109 : decode cX11_laid 109 = .ok (.aload_n 0, 1) := by decide +kernel
theorem dX11_laid_110 : decode cX11_laid 110 = .ok (.getfield 190, 3) := by decide +kernel
theorem dX11_laid_113 : decode cX11_laid 113 = .ok (.bipush 6, 2) := by decide +kernel
theorem dX11_laid_115 : decode cX11_laid 115 = .ok (.iload_n 1, 1) := by decide +kernel
theorem dX11_laid_116 : decode cX11_laid 116 = .ok (.imul, 1) := by decide +kernel
theorem dX11_laid_117 : decode cX11_laid 117 = .ok (.iload 5, 2) := by decide +kernel
theorem dX11_laid_119 : decode cX11_laid 119 = .ok (.iadd, 1) := by decide +kernel
theorem dX11_laid_120 : decode cX11_laid 120 = .ok (.aload_n 0, 1) := by decide +kernel
theorem dX11_laid_121 : decode cX11_laid 121 = .ok (.getfield 202, 3) := by decide +kernel
theorem dX11_laid_124 : decode cX11_laid 124 = .ok (.iload 5, 2) := by decide +kernel
theorem dX11_laid_126 : decode cX11_laid 126 = .ok (.iaload, 1) := by decide +kernel
theorem dX11_laid_127 : decode cX11_laid 127 = .ok (.iastore, 1) := by decide +kernel
theorem dX11_laid_128 : decode cX11_laid 128 = .ok (.iinc 5 1, 3) := by decide +kernel
theorem dX11_laid_131 : decode cX11_laid 131 = .ok (.goto (-28), 3) := by decide +kernel
theorem dX11_laid_134 : decode cX11_laid 134 = .ok (.aload_n 0, 1) := by decide +kernel
theorem dX11_laid_135 : decode cX11_laid 135 = .ok (.iload_n 2, 1) := by decide +kernel
theorem dX11_laid_136 : decode cX11_laid 136 = .ok (.invokevirtual 546, 3) := by decide +kernel
theorem dX11_laid_139 : decode cX11_laid 139 = .ok (.istore_n 3, 1) := by decide +kernel
theorem dX11_laid_140 : decode cX11_laid 140 = .ok (.goto (-84), 3) := by decide +kernel
theorem dX11_laid_143 : decode cX11_laid 143 = .ok (.return_, 1) := by decide +kernel
theorem dX11_judge_0 : decode cX11_judge 0 = .ok (.iconst 0, 1) := by decide +kernel
theorem dX11_judge_1 : decode cX11_judge 1 = .ok (.istore_n 2, 1) := by decide +kernel
theorem dX11_judge_2 : decode cX11_judge 2 = .ok (.iconst 0, 1) := by decide +kernel
theorem dX11_judge_3 : decode cX11_judge 3 = .ok (.istore_n 3, 1) := by decide +kernel
theorem dX11_judge_4 : decode cX11_judge 4 = .ok (.iconst 0, 1) := by decide +kernel
theorem dX11_judge_5 : decode cX11_judge 5 = .ok (.istore 4, 2) := by decide +kernel
theorem dX11_judge_7 : decode cX11_judge 7 = .ok (.iload 4, 2) := by decide +kernel
theorem dX11_judge_9 : decode cX11_judge 9 = .ok (.bipush 6, 2) := by decide +kernel
theorem dX11_judge_11 : decode cX11_judge 11 = .ok (.if_icmp .ge 41, 3) := by decide +kernel
theorem dX11_judge_14 : decode cX11_judge 14 = .ok (.iload_n 1, 1) := by decide +kernel
theorem dX11_judge_15 : decode cX11_judge 15 = .ok (.iload 4, 2) := by decide +kernel
theorem dX11_judge_17 : decode cX11_judge 17 = .ok (.ishr, 1) := by decide +kernel
theorem dX11_judge_18 : decode cX11_judge 18 = .ok (.iconst 1, 1) := by decide +kernel
theorem dX11_judge_19 : decode cX11_judge 19 = .ok (.iand, 1) := by decide +kernel
theorem dX11_judge_20 : decode cX11_judge 20 = .ok (.ifCond .ne 6, 3) := by decide +kernel
theorem dX11_judge_23 : decode cX11_judge 23 = .ok (.goto 23, 3) := by decide +kernel
theorem dX11_judge_26 : decode cX11_judge 26 = .ok (.iload_n 2, 1) := by decide +kernel
theorem dX11_judge_27 : decode cX11_judge 27 = .ok (.aload_n 0, 1) := by decide +kernel
theorem dX11_judge_28 : decode cX11_judge 28 = .ok (.getfield 181, 3) := by decide +kernel
theorem dX11_judge_31 : decode cX11_judge 31 = .ok (.iload 4, 2) := by decide +kernel
theorem dX11_judge_33 : decode cX11_judge 33 = .ok (.iaload, 1) := by decide +kernel
theorem dX11_judge_34 : decode cX11_judge 34 = .ok (.ior, 1) := by decide +kernel
theorem dX11_judge_35 : decode cX11_judge 35 = .ok (.istore_n 2, 1) := by decide +kernel
theorem dX11_judge_36 : decode cX11_judge 36 = .ok (.iload_n 3, 1) := by decide +kernel
theorem dX11_judge_37 : decode cX11_judge 37 = .ok (.aload_n 0, 1) := by decide +kernel
theorem dX11_judge_38 : decode cX11_judge 38 = .ok (.getfield 184, 3) := by decide +kernel
theorem dX11_judge_41 : decode cX11_judge 41 = .ok (.iload 4, 2) := by decide +kernel
theorem dX11_judge_43 : decode cX11_judge 43 = .ok (.iaload, 1) := by decide +kernel
theorem dX11_judge_44 : decode cX11_judge 44 = .ok (.iadd, 1) := by decide +kernel
theorem dX11_judge_45 : decode cX11_judge 45 = .ok (.istore_n 3, 1) := by decide +kernel
theorem dX11_judge_46 : decode cX11_judge 46 = .ok (.iinc 4 1, 3) := by decide +kernel
theorem dX11_judge_49 : decode cX11_judge 49 = .ok (.goto (-42), 3) := by decide +kernel
theorem dX11_judge_52 : decode cX11_judge 52 = .ok (.iconst 0, 1) := by decide +kernel
theorem dX11_judge_53 : decode cX11_judge 53 = .ok (.istore 4, 2) := by decide +kernel
theorem dX11_judge_55 : decode cX11_judge 55 = .ok (.iconst 0, 1) := by decide +kernel
theorem dX11_judge_56 : decode cX11_judge 56 = .ok (.istore 5, 2) := by decide +kernel
theorem dX11_judge_58 : decode cX11_judge 58 = .ok (.iconst 0, 1) := by decide +kernel
theorem dX11_judge_59 : decode cX11_judge 59 = .ok (.istore 6, 2) := by decide +kernel
theorem dX11_judge_61 : decode cX11_judge 61 = .ok (.iload 6, 2) := by decide +kernel
theorem dX11_judge_63 : decode cX11_judge 63 = .ok (.bipush 20, 2) := by decide +kernel
theorem dX11_judge_65 : decode cX11_judge 65 = .ok (.if_icmp .ge 56, 3) := by decide +kernel
theorem dX11_judge_68 : decode cX11_judge 68 = .ok (.iload_n 2, 1) := by decide +kernel
theorem dX11_judge_69 : decode cX11_judge 69 = .ok (.iload 6, 2) := by decide +kernel
theorem dX11_judge_71 : decode cX11_judge 71 = .ok (.ishr, 1) := by decide +kernel
theorem dX11_judge_72 : decode cX11_judge 72 = .ok (.iconst 1, 1) := by decide +kernel
theorem dX11_judge_73 : decode cX11_judge 73 = .ok (.iand, 1) := by decide +kernel
theorem dX11_judge_74 : decode cX11_judge 74 = .ok (.ifCond .ne 6, 3) := by decide +kernel
theorem dX11_judge_77 : decode cX11_judge 77 = .ok (.goto 38, 3) := by decide +kernel
theorem dX11_judge_80 : decode cX11_judge 80 = .ok (.aload_n 0, 1) := by decide +kernel
theorem dX11_judge_81 : decode cX11_judge 81 = .ok (.getfield 130, 3) := by decide +kernel
theorem dX11_judge_84 : decode cX11_judge 84 = .ok (.aload_n 0, 1) := by decide +kernel
theorem dX11_judge_85 : decode cX11_judge 85 = .ok (.getfield 133, 3) := by decide +kernel
theorem dX11_judge_88 : decode cX11_judge 88 = .ok (.iload 6, 2) := by decide +kernel
theorem dX11_judge_90 : decode cX11_judge 90 = .ok (.iaload, 1) := by decide +kernel
theorem dX11_judge_91 : decode cX11_judge 91 = .ok (.iaload, 1) := by decide +kernel
theorem dX11_judge_92 : decode cX11_judge 92 = .ok (.iconst 1, 1) := by decide +kernel
theorem dX11_judge_93 : decode cX11_judge 93 = .ok (.iand, 1) := by decide +kernel
theorem dX11_judge_94 : decode cX11_judge 94 = .ok (.ifCond .eq 6, 3) := by decide +kernel
theorem dX11_judge_97 : decode cX11_judge 97 = .ok (.iconst 1, 1) := by decide +kernel
theorem dX11_judge_98 : decode cX11_judge 98 = .ok (.istore 4, 2) := by decide +kernel
theorem dX11_judge_100 : decode cX11_judge 100 = .ok (.aload_n 0, 1) := by decide +kernel
theorem dX11_judge_101 : decode cX11_judge 101 = .ok (.getfield 199, 3) := by decide +kernel
theorem dX11_judge_104 : decode cX11_judge 104 = .ok (.iload 6, 2) := by decide +kernel
theorem dX11_judge_106 : decode cX11_judge 106 = .ok (.iaload, 1) := by decide +kernel
theorem dX11_judge_107 : decode cX11_judge 107 = .ok (.iload_n 2, 1) := by decide +kernel
theorem dX11_judge_108 : decode cX11_judge 108 = .ok (.iand, 1) := by decide +kernel
theorem dX11_judge_109 : decode cX11_judge 109 = .ok (.ifCond .eq 6, 3) := by decide +kernel
theorem dX11_judge_112 : decode cX11_judge 112 = .ok (.iconst 1, 1) := by decide +kernel
theorem dX11_judge_113 : decode cX11_judge 113 = .ok (.istore 5, 2) := by decide +kernel
theorem dX11_judge_115 : decode cX11_judge 115 = .ok (.iinc 6 1, 3) := by decide +kernel
theorem dX11_judge_118 : decode cX11_judge 118 = .ok (.goto (-57), 3) := by decide +kernel
theorem dX11_judge_121 : decode cX11_judge 121 = .ok (.aload_n 0, 1) := by decide +kernel
theorem dX11_judge_122 : decode cX11_judge 122 = .ok (.getfield 193, 3) := by decide +kernel
theorem dX11_judge_125 : decode cX11_judge 125 = .ok (.iload_n 1, 1) := by decide +kernel
theorem dX11_judge_126 : decode cX11_judge 126 = .ok (.aload_n 0, 1) := by decide +kernel
theorem dX11_judge_127 : decode cX11_judge 127 = .ok (.getfield 187, 3) := by decide +kernel
theorem dX11_judge_130 : decode cX11_judge 130 = .ok (.iload_n 1, 1) := by decide +kernel
theorem dX11_judge_131 : decode cX11_judge 131 = .ok (.iaload, 1) := by decide +kernel
theorem dX11_judge_132 : decode cX11_judge 132 = .ok (.ifCond .lt 51, 3) := by decide +kernel
theorem dX11_judge_135 : decode cX11_judge 135 = .ok (.aload_n 0, 1) := by decide +kernel
theorem dX11_judge_136 : decode cX11_judge 136 = .ok (.getfield 187, 3) := by decide +kernel
theorem dX11_judge_139 : decode cX11_judge 139 = .ok (.iload_n 1, 1) := by decide +kernel
theorem dX11_judge_140 : decode cX11_judge 140 = .ok (.iaload, 1) := by decide +kernel
theorem dX11_judge_141 : decode cX11_judge 141 = .ok (.aload_n 0, 1) := by decide +kernel
theorem dX11_judge_142 : decode cX11_judge 142 = .ok (.getfield 33, 3) := by decide +kernel
theorem dX11_judge_145 : decode cX11_judge 145 = .ok (.bipush 7, 2) := by decide +kernel
theorem dX11_judge_147 : decode cX11_judge 147 = .ok (.aload_n 0, 1) := by decide +kernel
theorem dX11_judge_148 : decode cX11_judge 148 = .ok (.getfield 477, 3) := by decide +kernel
theorem dX11_judge_151 : decode cX11_judge 151 = .ok (.imul, 1) := by decide +kernel
theorem dX11_judge_152 : decode cX11_judge 152 = .ok (.iconst 1, 1) := by decide +kernel
theorem dX11_judge_153 : decode cX11_judge 153 = .ok (.iadd, 1) := by decide +kernel
theorem dX11_judge_154 : decode cX11_judge 154 = .ok (.iaload, 1) := by decide +kernel
theorem dX11_judge_155 : decode cX11_judge 155 = .ok (.if_icmp .gt 28, 3) := by decide +kernel
theorem dX11_judge_158 : decode cX11_judge 158 = .ok (.iload_n 3, 1) := by decide +kernel
theorem dX11_judge_159 : decode cX11_judge 159 = .ok (.aload_n 0, 1) := by decide +kernel
theorem dX11_judge_160 : decode cX11_judge 160 = .ok (.getfield 33, 3) := by decide +kernel
theorem dX11_judge_163 : decode cX11_judge 163 = .ok (.bipush 7, 2) := by decide +kernel
theorem dX11_judge_165 : decode cX11_judge 165 = .ok (.aload_n 0, 1) := by decide +kernel
theorem dX11_judge_166 : decode cX11_judge 166 = .ok (.getfield 477, 3) := by decide +kernel
theorem dX11_judge_169 : decode cX11_judge 169 = .ok (.imul, 1) := by decide +kernel
theorem dX11_judge_170 : decode cX11_judge 170 = .ok (.iaload, 1) := by decide +kernel
theorem dX11_judge_171 : decode cX11_judge 171 = .ok (.if_icmp .gt 12, 3) := by decide +kernel
theorem dX11_judge_174 : decode cX11_judge 174 = .ok (.iload 5, 2) := by decide +kernel
theorem dX11_judge_176 : decode cX11_judge 176 = .ok (.ifCond .ne 7, 3) := by decide +kernel
theorem dX11_judge_179 : decode cX11_judge 179 = .ok (.iconst 1, 1) := by decide +kernel
theorem dX11_judge_180 : decode cX11_judge 180 = .ok (.goto 4, 3) := by decide +kernel
theorem dX11_judge_183 : decode cX11_judge 183 = .ok (.iconst 0, 1) := by decide +kernel
theorem dX11_judge_184 : decode cX11_judge 184 = .ok (.bastore, 1) := by decide +kernel
theorem dX11_judge_185 : decode cX11_judge 185 = .ok (.aload_n 0, 1) := by decide +kernel
theorem dX11_judge_186 : decode cX11_judge 186 = .ok (.getfield 196, 3) := by decide +kernel
theorem dX11_judge_189 : decode cX11_judge 189 = .ok (.iload_n 1, 1) := by decide +kernel
theorem dX11_judge_190 : decode cX11_judge 190 = .ok (.aload_n 0, 1) := by decide +kernel
theorem dX11_judge_191 : decode cX11_judge 191 = .ok (.getfield 33, 3) := by decide +kernel
theorem dX11_judge_194 : decode cX11_judge 194 = .ok (.bipush 7, 2) := by decide +kernel
theorem dX11_judge_196 : decode cX11_judge 196 = .ok (.aload_n 0, 1) := by decide +kernel
theorem dX11_judge_197 : decode cX11_judge 197 = .ok (.getfield 477, 3) := by decide +kernel
theorem dX11_judge_200 : decode cX11_judge 200 = .ok (.imul, 1) := by decide +kernel
theorem dX11_judge_201 : decode cX11_judge 201 = .ok (.iconst 5, 1) := by decide +kernel
theorem dX11_judge_202 : decode cX11_judge 202 = .ok (.iadd, 1) := by decide +kernel
theorem dX11_judge_203 : decode cX11_judge 203 = .ok (.iaload, 1) := by decide +kernel
theorem dX11_judge_204 : decode cX11_judge 204 = .ok (.aload_n 0, 1) := by decide +kernel
theorem dX11_judge_205 : decode cX11_judge 205 = .ok (.getfield 33, 3) := by decide +kernel
theorem dX11_judge_208 : decode cX11_judge 208 = .ok (.bipush 7, 2) := by decide +kernel
theorem dX11_judge_210 : decode cX11_judge 210 = .ok (.aload_n 0, 1) := by decide +kernel
theorem dX11_judge_211 : decode cX11_judge 211 = .ok (.getfield 477, 3) := by decide +kernel
theorem dX11_judge_214 : decode cX11_judge 214 = .ok (.imul, 1) := by decide +kernel
theorem dX11_judge_215 : decode cX11_judge 215 = .ok (.bipush 6, 2) := by decide +kernel
theorem dX11_judge_217 : decode cX11_judge 217 = .ok (.iadd, 1) := by decide +kernel
theorem dX11_judge_218 : decode cX11_judge 218 = .ok (.iaload, 1) := by decide +kernel
theorem dX11_judge_219 : decode cX11_judge 219 = .ok (.aload_n 0, 1) := by decide +kernel
theorem dX11_judge_220 : decode cX11_judge 220 = .ok (.getfield 187, 3) := by decide +kernel
theorem dX11_judge_223 : decode cX11_judge 223 = .ok (.iload_n 1, 1) := by decide +kernel
theorem dX11_judge_224 : decode cX11_judge 224 = .ok (.iaload, 1) := by decide +kernel
theorem dX11_judge_225 : decode cX11_judge 225 = .ok (.imul, 1) := by decide +kernel
theorem dX11_judge_226 : decode cX11_judge 226 = .ok (.iadd, 1) := by decide +kernel
theorem dX11_judge_227 : decode cX11_judge 227 = .ok (.iload 4, 2) := by decide +kernel
theorem dX11_judge_229 : decode cX11_judge 229 = .ok (.ifCond .eq 20, 3) := by decide +kernel
theorem dX11_judge_232 : decode cX11_judge 232 = .ok (.aload_n 0, 1) := by decide +kernel
theorem dX11_judge_233 : decode cX11_judge 233 = .ok (.getfield 33, 3) := by decide +kernel
theorem dX11_judge_236 : decode cX11_judge 236 = .ok (.bipush 7, 2) := by decide +kernel
theorem dX11_judge_238 : decode cX11_judge 238 = .ok (.aload_n 0, 1) := by decide +kernel
theorem dX11_judge_239 : decode cX11_judge 239 = .ok (.getfield 477, 3) := by decide +kernel
theorem dX11_judge_242 : decode cX11_judge 242 = .ok (.imul, 1) := by decide +kernel
theorem dX11_judge_243 : decode cX11_judge 243 = .ok (.iconst 4, 1) := by decide +kernel
theorem dX11_judge_244 : decode cX11_judge 244 = .ok (.iadd, 1) := by decide +kernel
theorem dX11_judge_245 : decode cX11_judge 245 = .ok (.iaload, 1) := by decide +kernel
theorem dX11_judge_246 : decode cX11_judge 246 = .ok (.goto 4, 3) := by decide +kernel
theorem dX11_judge_249 : decode cX11_judge 249 = .ok (.iconst 0, 1) := by decide +kernel
theorem dX11_judge_250 : decode cX11_judge 250 = .ok (.iadd, 1) := by decide +kernel
theorem dX11_judge_251 : decode cX11_judge 251 = .ok (.iastore, 1) := by decide +kernel
theorem dX11_judge_252 : decode cX11_judge 252 = .ok (.return_, 1) := by decide +kernel
theorem dX11_allRoutes_0 : decode cX11_allRoutes 0 = .ok (.aload_n 0, 1) := by decide +kernel
theorem dX11_allRoutes_1 : decode cX11_allRoutes 1 = .ok (.iload_n 1, 1) := by decide +kernel
theorem dX11_allRoutes_2 : decode cX11_allRoutes 2 = .ok (.iload_n 2, 1) := by decide +kernel
theorem dX11_allRoutes_3 : decode cX11_allRoutes 3 = .ok (.iload_n 3, 1) := by decide +kernel
theorem dX11_allRoutes_4 : decode cX11_allRoutes 4 = .ok (.invokevirtual 531, 3) := by decide +kernel
theorem dX11_allRoutes_7 : decode cX11_allRoutes 7 = .ok (.iconst 1, 1) := by decide +kernel
theorem dX11_allRoutes_8 : decode cX11_allRoutes 8 = .ok (.istore 4, 2) := by decide +kernel
theorem dX11_allRoutes_10 : decode cX11_allRoutes 10 = .ok (.iload 4, 2) := by decide +kernel
theorem dX11_allRoutes_12 : decode cX11_allRoutes 12 = .ok (.iconst 1, 1) := by decide +kernel
theorem dX11_allRoutes_13 : decode cX11_allRoutes 13 = .ok (.aload_n 0, 1) := by decide +kernel
theorem dX11_allRoutes_14 : decode cX11_allRoutes 14 = .ok (.getfield 67, 3) := by decide +kernel
theorem dX11_allRoutes_17 : decode cX11_allRoutes 17 = .ok (.aload_n 0, 1) := by decide +kernel
theorem dX11_allRoutes_18 : decode cX11_allRoutes 18 = .ok (.getfield 477, 3) := by decide +kernel
theorem dX11_allRoutes_21 : decode cX11_allRoutes 21 = .ok (.iaload, 1) := by decide +kernel
theorem dX11_allRoutes_22 : decode cX11_allRoutes 22 = .ok (.ishl, 1) := by decide +kernel
theorem dX11_allRoutes_23 : decode cX11_allRoutes 23 = .ok (.if_icmp .ge 21, 3) := by decide +kernel
theorem dX11_allRoutes_26 : decode cX11_allRoutes 26 = .ok (.aload_n 0, 1) := by decide +kernel
theorem dX11_allRoutes_27 : decode cX11_allRoutes 27 = .ok (.iload 4, 2) := by decide +kernel
theorem dX11_allRoutes_29 : decode cX11_allRoutes 29 = .ok (.invokevirtual 549, 3) := by decide +kernel
theorem dX11_allRoutes_32 : decode cX11_allRoutes 32 = .ok (.aload_n 0, 1) := by decide +kernel
theorem dX11_allRoutes_33 : decode cX11_allRoutes 33 = .ok (.iload 4, 2) := by decide +kernel
theorem dX11_allRoutes_35 : decode cX11_allRoutes 35 = .ok (.invokevirtual 552, 3) := by decide +kernel
theorem dX11_allRoutes_38 : decode cX11_allRoutes 38 = .ok (.iinc 4 1, 3) := by decide +kernel
theorem dX11_allRoutes_41 : decode cX11_allRoutes 41 = .ok (.goto (-31), 3) := by decide +kernel
theorem dX11_allRoutes_44 : decode cX11_allRoutes 44 = .ok (.return_, 1) := by decide +kernel
theorem dX11_isSet_0 : decode cX11_isSet 0 = .ok (.aload_n 0, 1) := by decide +kernel
theorem dX11_isSet_1 : decode cX11_isSet 1 = .ok (.iload_n 1, 1) := by decide +kernel
theorem dX11_isSet_2 : decode cX11_isSet 2 = .ok (.iload_n 3, 1) := by decide +kernel
theorem dX11_isSet_3 : decode cX11_isSet 3 = .ok (.iload 4, 2) := by decide +kernel
theorem dX11_isSet_5 : decode cX11_isSet 5 = .ok (.invokevirtual 528, 3) := by decide +kernel
theorem dX11_isSet_8 : decode cX11_isSet 8 = .ok (.ifCond .eq 27, 3) := by decide +kernel
theorem dX11_isSet_11 : decode cX11_isSet 11 = .ok (.iload_n 2, 1) := by decide +kernel
theorem dX11_isSet_12 : decode cX11_isSet 12 = .ok (.ifCond .le 23, 3) := by decide +kernel
theorem dX11_isSet_15 : decode cX11_isSet 15 = .ok (.iload_n 2, 1) := by decide +kernel
theorem dX11_isSet_16 : decode cX11_isSet 16 = .ok (.iconst 1, 1) := by decide +kernel
theorem dX11_isSet_17 : decode cX11_isSet 17 = .ok (.aload_n 0, 1) := by decide +kernel
theorem dX11_isSet_18 : decode cX11_isSet 18 = .ok (.getfield 67, 3) := by decide +kernel
theorem dX11_isSet_21 : decode cX11_isSet 21 = .ok (.aload_n 0, 1) := by decide +kernel
theorem dX11_isSet_22 : decode cX11_isSet 22 = .ok (.iload_n 3, 1) := by decide +kernel
theorem dX11_isSet_23 : decode cX11_isSet 23 = .ok (.invokevirtual 480, 3) := by decide +kernel
theorem dX11_isSet_26 : decode cX11_isSet 26 = .ok (.iaload, 1) := by decide +kernel
theorem dX11_isSet_27 : decode cX11_isSet 27 = .ok (.ishl, 1) := by decide +kernel
theorem dX11_isSet_28 : decode cX11_isSet 28 = .ok (.if_icmp .ge 7, 3) := by decide +kernel
theorem dX11_isSet_31 : decode cX11_isSet 31 = .ok (.iconst 1, 1) := by decide +kernel
theorem dX11_isSet_32 : decode cX11_isSet 32 = .ok (.goto 4, 3) := by decide +kernel
theorem dX11_isSet_35 : decode cX11_isSet 35 = .ok (.iconst 0, 1) := by decide +kernel
theorem dX11_isSet_36 : decode cX11_isSet 36 = .ok (.ireturn, 1) := by decide +kernel
theorem dX11_route_0 : decode cX11_route 0 = .ok (.aload_n 0, 1) := by decide +kernel
theorem dX11_route_1 : decode cX11_route 1 = .ok (.iload_n 1, 1) := by decide +kernel
theorem dX11_route_2 : decode cX11_route 2 = .ok (.iload_n 2, 1) := by decide +kernel
theorem dX11_route_3 : decode cX11_route 3 = .ok (.iload_n 3, 1) := by decide +kernel
theorem dX11_route_4 : decode cX11_route 4 = .ok (.iload 4, 2) := by decide +kernel
theorem dX11_route_6 : decode cX11_route 6 = .ok (.invokevirtual 555, 3) := by decide +kernel
theorem dX11_route_9 : decode cX11_route 9 = .ok (.ifCond .ne 5, 3) := by decide +kernel
theorem dX11_route_12 : decode cX11_route 12 = .ok (.iconst (-1), 1) := by decide +kernel
theorem dX11_route_13 : decode cX11_route 13 = .ok (.ireturn, 1) := by decide +kernel
theorem dX11_route_14 : decode cX11_route 14 = .ok (.aload_n 0, 1) := by decide +kernel
theorem dX11_route_15 : decode cX11_route 15 = .ok (.iload_n 3, 1) := by decide +kernel
theorem dX11_route_16 : decode cX11_route 16 = .ok (.iload 4, 2) := by decide +kernel
theorem dX11_route_18 : decode cX11_route 18 = .ok (.invokevirtual 501, 3) := by decide +kernel
theorem dX11_route_21 : decode cX11_route 21 = .ok (.aload_n 0, 1) := by decide +kernel
theorem dX11_route_22 : decode cX11_route 22 = .ok (.iload_n 1, 1) := by decide +kernel
theorem dX11_route_23 : decode cX11_route 23 = .ok (.iload_n 3, 1) := by decide +kernel
theorem dX11_route_24 : decode cX11_route 24 = .ok (.iload 4, 2) := by decide +kernel
theorem dX11_route_26 : decode cX11_route 26 = .ok (.invokevirtual 531, 3) := by decide +kernel
theorem dX11_route_29 : decode cX11_route 29 = .ok (.aload_n 0, 1) := by decide +kernel
theorem dX11_route_30 : decode cX11_route 30 = .ok (.iload_n 2, 1) := by decide +kernel
theorem dX11_route_31 : decode cX11_route 31 = .ok (.invokevirtual 549, 3) := by decide +kernel
theorem dX11_route_34 : decode cX11_route 34 = .ok (.aload_n 0, 1) := by decide +kernel
theorem dX11_route_35 : decode cX11_route 35 = .ok (.getfield 187, 3) := by decide +kernel
theorem dX11_route_38 : decode cX11_route 38 = .ok (.iload_n 2, 1) := by decide +kernel
theorem dX11_route_39 : decode cX11_route 39 = .ok (.iaload, 1) := by decide +kernel
theorem dX11_route_40 : decode cX11_route 40 = .ok (.ifCond .ge 8, 3) := by decide +kernel
theorem dX11_route_43 : decode cX11_route 43 = .ok (.bipush (-2), 2) := by decide +kernel
theorem dX11_route_45 : decode cX11_route 45 = .ok (.goto 9, 3) := by decide +kernel
theorem dX11_route_48 : decode cX11_route 48 = .ok (.aload_n 0, 1) := by decide +kernel
theorem dX11_route_49 : decode cX11_route 49 = .ok (.getfield 187, 3) := by decide +kernel
theorem dX11_route_52 : decode cX11_route 52 = .ok (.iload_n 2, 1) := by decide +kernel
theorem dX11_route_53 : decode cX11_route 53 = .ok (.iaload, 1) := by decide +kernel
theorem dX11_route_54 : decode cX11_route 54 = .ok (.ireturn, 1) := by decide +kernel
theorem dX11_routeStop_0 : decode cX11_routeStop 0 = .ok (.aload_n 0, 1) := by decide +kernel
theorem dX11_routeStop_1 : decode cX11_routeStop 1 = .ok (.iload_n 1, 1) := by decide +kernel
theorem dX11_routeStop_2 : decode cX11_routeStop 2 = .ok (.iload_n 2, 1) := by decide +kernel
theorem dX11_routeStop_3 : decode cX11_routeStop 3 = .ok (.iload_n 3, 1) := by decide +kernel
theorem dX11_routeStop_4 : decode cX11_routeStop 4 = .ok (.iload 4, 2) := by decide +kernel
theorem dX11_routeStop_6 : decode cX11_routeStop 6 = .ok (.invokevirtual 559, 3) := by decide +kernel
theorem dX11_routeStop_9 : decode cX11_routeStop 9 = .ok (.istore 6, 2) := by decide +kernel
theorem dX11_routeStop_11 : decode cX11_routeStop 11 = .ok (.iload 6, 2) := by decide +kernel
theorem dX11_routeStop_13 : decode cX11_routeStop 13 = .ok (.ifCond .lt 17, 3) := by decide +kernel
theorem dX11_routeStop_16 : decode cX11_routeStop 16 = .ok (.iload 5, 2) := by decide +kernel
theorem dX11_routeStop_18 : decode cX11_routeStop 18 = .ok (.ifCond .lt 12, 3) := by decide +kernel
theorem dX11_routeStop_21 : decode cX11_routeStop 21 = .ok (.iload 5, 2) := by decide +kernel
theorem dX11_routeStop_23 : decode cX11_routeStop 23 = .ok (.iload_n 2, 1) := by decide +kernel
theorem dX11_routeStop_24 : decode cX11_routeStop 24 = .ok (.invokestatic 562, 3) := by decide +kernel
theorem dX11_routeStop_27 : decode cX11_routeStop 27 = .ok (.if_icmp .lt 7, 3) := by decide +kernel
theorem dX11_routeStop_30 : decode cX11_routeStop 30 = .ok (.iconst (-1), 1) := by decide +kernel
theorem dX11_routeStop_31 : decode cX11_routeStop 31 = .ok (.goto 15, 3) := by decide +kernel
theorem dX11_routeStop_34 : decode cX11_routeStop 34 = .ok (.aload_n 0, 1) := by decide +kernel
theorem dX11_routeStop_35 : decode cX11_routeStop 35 = .ok (.getfield 190, 3) := by decide +kernel
theorem dX11_routeStop_38 : decode cX11_routeStop 38 = .ok (.bipush 6, 2) := by decide +kernel
theorem dX11_routeStop_40 : decode cX11_routeStop 40 = .ok (.iload_n 2, 1) := by decide +kernel
theorem dX11_routeStop_41 : decode cX11_routeStop 41 = .ok (.imul, 1) := by decide +kernel
theorem dX11_routeStop_42 : decode cX11_routeStop 42 = .ok (.iload 5, 2) := by decide +kernel
theorem dX11_routeStop_44 : decode cX11_routeStop 44 = .ok (.iadd, 1) := by decide +kernel
theorem dX11_routeStop_45 : decode cX11_routeStop 45 = .ok (.iaload, 1) := by decide +kernel
theorem dX11_routeStop_46 : decode cX11_routeStop 46 = .ok (.ireturn, 1) := by decide +kernel
theorem dX11_good_0 : decode cX11_good 0 = .ok (.aload_n 0, 1) := by decide +kernel
theorem dX11_good_1 : decode cX11_good 1 = .ok (.iload_n 1, 1) := by decide +kernel
theorem dX11_good_2 : decode cX11_good 2 = .ok (.iload_n 2, 1) := by decide +kernel
theorem dX11_good_3 : decode cX11_good 3 = .ok (.iload_n 3, 1) := by decide +kernel
theorem dX11_good_4 : decode cX11_good 4 = .ok (.iload 4, 2) := by decide +kernel
theorem dX11_good_6 : decode cX11_good 6 = .ok (.invokevirtual 559, 3) := by decide +kernel
theorem dX11_good_9 : decode cX11_good 9 = .ok (.istore 5, 2) := by decide +kernel
theorem dX11_good_11 : decode cX11_good 11 = .ok (.iload 5, 2) := by decide +kernel
theorem dX11_good_13 : decode cX11_good 13 = .ok (.ifCond .ge 6, 3) := by decide +kernel
theorem dX11_good_16 : decode cX11_good 16 = .ok (.iload 5, 2) := by decide +kernel
theorem dX11_good_18 : decode cX11_good 18 = .ok (.ireturn, 1) := by decide +kernel
theorem dX11_good_19 : decode cX11_good 19 = .ok (.aload_n 0, 1) := by decide +kernel
theorem dX11_good_20 : decode cX11_good 20 = .ok (.iload_n 2, 1) := by decide +kernel
theorem dX11_good_21 : decode cX11_good 21 = .ok (.invokevirtual 552, 3) := by decide +kernel
theorem dX11_good_24 : decode cX11_good 24 = .ok (.aload_n 0, 1) := by decide +kernel
theorem dX11_good_25 : decode cX11_good 25 = .ok (.getfield 193, 3) := by decide +kernel
theorem dX11_good_28 : decode cX11_good 28 = .ok (.iload_n 2, 1) := by decide +kernel
theorem dX11_good_29 : decode cX11_good 29 = .ok (.baload, 1) := by decide +kernel
theorem dX11_good_30 : decode cX11_good 30 = .ok (.ifCond .eq 7, 3) := by decide +kernel
theorem dX11_good_33 : decode cX11_good 33 = .ok (.iconst 1, 1) := by decide +kernel
theorem dX11_good_34 : decode cX11_good 34 = .ok (.goto 4, 3) := by decide +kernel
theorem dX11_good_37 : decode cX11_good 37 = .ok (.iconst 0, 1) := by decide +kernel
theorem dX11_good_38 : decode cX11_good 38 = .ok (.ireturn, 1) := by decide +kernel
theorem dX11_taxi_0 : decode cX11_taxi 0 = .ok (.aload_n 0, 1) := by decide +kernel
theorem dX11_taxi_1 : decode cX11_taxi 1 = .ok (.iconst 2, 1) := by decide +kernel
theorem dX11_taxi_2 : decode cX11_taxi 2 = .ok (.aload_n 0, 1) := by decide +kernel
theorem dX11_taxi_3 : decode cX11_taxi 3 = .ok (.iload_n 1, 1) := by decide +kernel
theorem dX11_taxi_4 : decode cX11_taxi 4 = .ok (.invokevirtual 534, 3) := by decide +kernel
theorem dX11_taxi_7 : decode cX11_taxi 7 = .ok (.aload_n 0, 1) := by decide +kernel
theorem dX11_taxi_8 : decode cX11_taxi 8 = .ok (.aload_n 0, 1) := by decide +kernel
theorem dX11_taxi_9 : decode cX11_taxi 9 = .ok (.getfield 525, 3) := by decide +kernel
theorem dX11_taxi_12 : decode cX11_taxi 12 = .ok (.invokevirtual 537, 3) := by decide +kernel
theorem dX11_taxi_15 : decode cX11_taxi 15 = .ok (.invokevirtual 504, 3) := by decide +kernel
theorem dX11_taxi_18 : decode cX11_taxi 18 = .ok (.istore_n 2, 1) := by decide +kernel
theorem dX11_taxi_19 : decode cX11_taxi 19 = .ok (.iload_n 2, 1) := by decide +kernel
theorem dX11_taxi_20 : decode cX11_taxi 20 = .ok (.ifCond .ge 7, 3) := by decide +kernel
theorem dX11_taxi_23 : decode cX11_taxi 23 = .ok (.iconst (-1), 1) := by decide +kernel
theorem dX11_taxi_24 : decode cX11_taxi 24 = .ok (.goto 29, 3) := by decide +kernel
theorem dX11_taxi_27 : decode cX11_taxi 27 = .ok (.aload_n 0, 1) := by decide +kernel
theorem dX11_taxi_28 : decode cX11_taxi 28 = .ok (.getfield 33, 3) := by decide +kernel
theorem dX11_taxi_31 : decode cX11_taxi 31 = .ok (.bipush 7, 2) := by decide +kernel
theorem dX11_taxi_33 : decode cX11_taxi 33 = .ok (.aload_n 0, 1) := by decide +kernel
theorem dX11_taxi_34 : decode cX11_taxi 34 = .ok (.getfield 477, 3) := by decide +kernel
theorem dX11_taxi_37 : decode cX11_taxi 37 = .ok (.imul, 1) := by decide +kernel
theorem dX11_taxi_38 : decode cX11_taxi 38 = .ok (.iconst 3, 1) := by decide +kernel
theorem dX11_taxi_39 : decode cX11_taxi 39 = .ok (.iadd, 1) := by decide +kernel
theorem dX11_taxi_40 : decode cX11_taxi 40 = .ok (.iaload, 1) := by decide +kernel
theorem dX11_taxi_41 : decode cX11_taxi 41 = .ok (.aload_n 0, 1) := by decide +kernel
theorem dX11_taxi_42 : decode cX11_taxi 42 = .ok (.getfield 181, 3) := by decide +kernel
theorem dX11_taxi_45 : decode cX11_taxi 45 = .ok (.iload_n 1, 1) := by decide +kernel
theorem dX11_taxi_46 : decode cX11_taxi 46 = .ok (.iaload, 1) := by decide +kernel
theorem dX11_taxi_47 : decode cX11_taxi 47 = .ok (.invokestatic 562, 3) := by decide +kernel
theorem dX11_taxi_50 : decode cX11_taxi 50 = .ok (.imul, 1) := by decide +kernel
theorem dX11_taxi_51 : decode cX11_taxi 51 = .ok (.iload_n 2, 1) := by decide +kernel
theorem dX11_taxi_52 : decode cX11_taxi 52 = .ok (.imul, 1) := by decide +kernel
theorem dX11_taxi_53 : decode cX11_taxi 53 = .ok (.ireturn, 1) := by decide +kernel
theorem dX11_ridden_0 : decode cX11_ridden 0 = .ok (.iconst 0, 1) := by decide +kernel
theorem dX11_ridden_1 : decode cX11_ridden 1 = .ok (.istore_n 1, 1) := by decide +kernel
theorem dX11_ridden_2 : decode cX11_ridden 2 = .ok (.iconst 0, 1) := by decide +kernel
theorem dX11_ridden_3 : decode cX11_ridden 3 = .ok (.istore_n 2, 1) := by decide +kernel
theorem dX11_ridden_4 : decode cX11_ridden 4 = .ok (.iload_n 2, 1) := by decide +kernel
theorem dX11_ridden_5 : decode cX11_ridden 5 = .ok (.aload_n 0, 1) := by decide +kernel
theorem dX11_ridden_6 : decode cX11_ridden 6 = .ok (.getfield 67, 3) := by decide +kernel
theorem dX11_ridden_9 : decode cX11_ridden 9 = .ok (.aload_n 0, 1) := by decide +kernel
theorem dX11_ridden_10 : decode cX11_ridden 10 = .ok (.getfield 477, 3) := by decide +kernel
theorem dX11_ridden_13 : decode cX11_ridden 13 = .ok (.iaload, 1) := by decide +kernel
theorem dX11_ridden_14 : decode cX11_ridden 14 = .ok (.if_icmp .ge 24, 3) := by decide +kernel
theorem dX11_ridden_17 : decode cX11_ridden 17 = .ok (.aload_n 0, 1) := by decide +kernel
theorem dX11_ridden_18 : decode cX11_ridden 18 = .ok (.getfield 181, 3) := by decide +kernel
theorem dX11_ridden_21 : decode cX11_ridden 21 = .ok (.iload_n 2, 1) := by decide +kernel
theorem dX11_ridden_22 : decode cX11_ridden 22 = .ok (.iaload, 1) := by decide +kernel
theorem dX11_ridden_23 : decode cX11_ridden 23 = .ok (.ifCond .eq 9, 3) := by decide +kernel
theorem dX11_ridden_26 : decode cX11_ridden 26 = .ok (.iload_n 1, 1) := by decide +kernel
theorem dX11_ridden_27 : decode cX11_ridden 27 = .ok (.iconst 1, 1) := by decide +kernel
theorem dX11_ridden_28 : decode cX11_ridden 28 = .ok (.iload_n 2, 1) := by decide +kernel
theorem dX11_ridden_29 : decode cX11_ridden 29 = .ok (.ishl, 1) := by decide +kernel
theorem dX11_ridden_30 : decode cX11_ridden 30 = .ok (.ior, 1) := by decide +kernel
theorem dX11_ridden_31 : decode cX11_ridden 31 = .ok (.istore_n 1, 1) := by decide +kernel
theorem dX11_ridden_32 : decode cX11_ridden 32 = .ok (.iinc 2 1, 3) := by decide +kernel
theorem dX11_ridden_35 : decode cX11_ridden 35 = .ok (.goto (-31), 3) := by decide +kernel
theorem dX11_ridden_38 : decode cX11_ridden 38 = .ok (.iload_n 1, 1) := by decide +kernel
theorem dX11_ridden_39 : decode cX11_ridden 39 = .ok (.ireturn, 1) := by decide +kernel
theorem dX11_firstOf_0 : decode cX11_firstOf 0 = .ok (.iconst 0, 1) := by decide +kernel
theorem dX11_firstOf_1 : decode cX11_firstOf 1 = .ok (.istore_n 1, 1) := by decide +kernel
theorem dX11_firstOf_2 : decode cX11_firstOf 2 = .ok (.iload_n 0, 1) := by decide +kernel
theorem dX11_firstOf_3 : decode cX11_firstOf 3 = .ok (.iload_n 1, 1) := by decide +kernel
theorem dX11_firstOf_4 : decode cX11_firstOf 4 = .ok (.ishr, 1) := by decide +kernel
theorem dX11_firstOf_5 : decode cX11_firstOf 5 = .ok (.iconst 1, 1) := by decide +kernel
theorem dX11_firstOf_6 : decode cX11_firstOf 6 = .ok (.iand, 1) := by decide +kernel
theorem dX11_firstOf_7 : decode cX11_firstOf 7 = .ok (.ifCond .ne 9, 3) := by decide +kernel
theorem dX11_firstOf_10 : decode cX11_firstOf 10 = .ok (.iinc 1 1, 3) := by decide +kernel
theorem dX11_firstOf_13 : decode cX11_firstOf 13 = .ok (.goto (-11), 3) := by decide +kernel
theorem dX11_firstOf_16 : decode cX11_firstOf 16 = .ok (.iload_n 1, 1) := by decide +kernel
theorem dX11_firstOf_17 : decode cX11_firstOf 17 = .ok (.ireturn, 1) := by decide +kernel
theorem dX11_offer_0 : decode cX11_offer 0 = .ok (.aload_n 0, 1) := by decide +kernel
theorem dX11_offer_1 : decode cX11_offer 1 = .ok (.getfield 205, 3) := by decide +kernel
theorem dX11_offer_4 : decode cX11_offer 4 = .ok (.iload_n 2, 1) := by decide +kernel
theorem dX11_offer_5 : decode cX11_offer 5 = .ok (.iaload, 1) := by decide +kernel
theorem dX11_offer_6 : decode cX11_offer 6 = .ok (.ifCond .ge 4, 3) := by decide +kernel
theorem dX11_offer_9 : decode cX11_offer 9 = .ok (.return_, 1) := by decide +kernel
theorem dX11_offer_10 : decode cX11_offer 10 = .ok (.aload_n 0, 1) := by decide +kernel
theorem dX11_offer_11 : decode cX11_offer 11 = .ok (.getfield 205, 3) := by decide +kernel
theorem dX11_offer_14 : decode cX11_offer 14 = .ok (.iload_n 2, 1) := by decide +kernel
theorem dX11_offer_15 : decode cX11_offer 15 = .ok (.iaload, 1) := by decide +kernel
theorem dX11_offer_16 : decode cX11_offer 16 = .ok (.iload_n 3, 1) := by decide +kernel
theorem dX11_offer_17 : decode cX11_offer 17 = .ok (.iadd, 1) := by decide +kernel
theorem dX11_offer_18 : decode cX11_offer 18 = .ok (.istore 5, 2) := by decide +kernel
theorem dX11_offer_20 : decode cX11_offer 20 = .ok (.aload_n 0, 1) := by decide +kernel
theorem dX11_offer_21 : decode cX11_offer 21 = .ok (.getfield 208, 3) := by decide +kernel
theorem dX11_offer_24 : decode cX11_offer 24 = .ok (.iload_n 2, 1) := by decide +kernel
theorem dX11_offer_25 : decode cX11_offer 25 = .ok (.iaload, 1) := by decide +kernel
theorem dX11_offer_26 : decode cX11_offer 26 = .ok (.iload 4, 2) := by decide +kernel
theorem dX11_offer_28 : decode cX11_offer 28 = .ok (.iadd, 1) := by decide +kernel
theorem dX11_offer_29 : decode cX11_offer 29 = .ok (.istore 6, 2) := by decide +kernel
theorem dX11_offer_31 : decode cX11_offer 31 = .ok (.aload_n 0, 1) := by decide +kernel
theorem dX11_offer_32 : decode cX11_offer 32 = .ok (.getfield 205, 3) := by decide +kernel
theorem dX11_offer_35 : decode cX11_offer 35 = .ok (.iload_n 1, 1) := by decide +kernel
theorem dX11_offer_36 : decode cX11_offer 36 = .ok (.iaload, 1) := by decide +kernel
theorem dX11_offer_37 : decode cX11_offer 37 = .ok (.ifCond .lt 37, 3) := by decide +kernel
theorem dX11_offer_40 : decode cX11_offer 40 = .ok (.iload 5, 2) := by decide +kernel
theorem dX11_offer_42 : decode cX11_offer 42 = .ok (.aload_n 0, 1) := by decide +kernel
theorem dX11_offer_43 : decode cX11_offer 43 = .ok (.getfield 205, 3) := by decide +kernel
