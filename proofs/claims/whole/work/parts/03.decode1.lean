theorem dX7_init_50 : decode cX7_init 50 = .ok (.newarray .boolean, 2) := by decide +kernel
theorem dX7_init_52 : decode cX7_init 52 = .ok (.putfield 27, 3) := by decide +kernel
theorem dX7_init_55 : decode cX7_init 55 = .ok (.return_, 1) := by decide +kernel
theorem dX7_add_0 : decode cX7_add 0 = .ok (.aload_n 0, 1) := by decide +kernel
theorem dX7_add_1 : decode cX7_add 1 = .ok (.getfield 31, 3) := by decide +kernel
theorem dX7_add_4 : decode cX7_add 4 = .ok (.bipush 20, 2) := by decide +kernel
theorem dX7_add_6 : decode cX7_add 6 = .ok (.if_icmp .lt 5, 3) := by decide +kernel
theorem dX7_add_9 : decode cX7_add 9 = .ok (.iconst (-1), 1) := by decide +kernel
theorem dX7_add_10 : decode cX7_add 10 = .ok (.ireturn, 1) := by decide +kernel
theorem dX7_add_11 : decode cX7_add 11 = .ok (.aload_n 0, 1) := by decide +kernel
theorem dX7_add_12 : decode cX7_add 12 = .ok (.getfield 15, 3) := by decide +kernel
theorem dX7_add_15 : decode cX7_add 15 = .ok (.aload_n 0, 1) := by decide +kernel
theorem dX7_add_16 : decode cX7_add 16 = .ok (.getfield 31, 3) := by decide +kernel
theorem dX7_add_19 : decode cX7_add 19 = .ok (.iload_n 1, 1) := by decide +kernel
theorem dX7_add_20 : decode cX7_add 20 = .ok (.iastore, 1) := by decide +kernel
theorem dX7_add_21 : decode cX7_add 21 = .ok (.aload_n 0, 1) := by decide +kernel
theorem dX7_add_22 : decode cX7_add 22 = .ok (.getfield 18, 3) := by decide +kernel
theorem dX7_add_25 : decode cX7_add 25 = .ok (.aload_n 0, 1) := by decide +kernel
theorem dX7_add_26 : decode cX7_add 26 = .ok (.getfield 31, 3) := by decide +kernel
theorem dX7_add_29 : decode cX7_add 29 = .ok (.iload_n 2, 1) := by decide +kernel
theorem dX7_add_30 : decode cX7_add 30 = .ok (.iastore, 1) := by decide +kernel
theorem dX7_add_31 : decode cX7_add 31 = .ok (.aload_n 0, 1) := by decide +kernel
theorem dX7_add_32 : decode cX7_add 32 = .ok (.getfield 21, 3) := by decide +kernel
theorem dX7_add_35 : decode cX7_add 35 = .ok (.aload_n 0, 1) := by decide +kernel
theorem dX7_add_36 : decode cX7_add 36 = .ok (.getfield 31, 3) := by decide +kernel
theorem dX7_add_39 : decode cX7_add 39 = .ok (.iload_n 3, 1) := by decide +kernel
theorem dX7_add_40 : decode cX7_add 40 = .ok (.iastore, 1) := by decide +kernel
theorem dX7_add_41 : decode cX7_add 41 = .ok (.aload_n 0, 1) := by decide +kernel
theorem dX7_add_42 : decode cX7_add 42 = .ok (.dup, 1) := by decide +kernel
theorem dX7_add_43 : decode cX7_add 43 = .ok (.getfield 31, 3) := by decide +kernel
theorem dX7_add_46 : decode cX7_add 46 = .ok (.iconst 1, 1) := by decide +kernel
theorem dX7_add_47 : decode cX7_add 47 = .ok (.iadd, 1) := by decide +kernel
theorem dX7_add_48 : decode cX7_add 48 = .ok (.putfield 31, 3) := by decide +kernel
theorem dX7_add_51 : decode cX7_add 51 = .ok (.aload_n 0, 1) := by decide +kernel
theorem dX7_add_52 : decode cX7_add 52 = .ok (.iconst 0, 1) := by decide +kernel
theorem dX7_add_53 : decode cX7_add 53 = .ok (.putfield 35, 3) := by decide +kernel
theorem dX7_add_56 : decode cX7_add 56 = .ok (.aload_n 0, 1) := by decide +kernel
theorem dX7_add_57 : decode cX7_add 57 = .ok (.getfield 31, 3) := by decide +kernel
theorem dX7_add_60 : decode cX7_add 60 = .ok (.iconst 1, 1) := by decide +kernel
theorem dX7_add_61 : decode cX7_add 61 = .ok (.isub, 1) := by decide +kernel
theorem dX7_add_62 : decode cX7_add 62 = .ok (.ireturn, 1) := by decide +kernel
theorem dX7_solve_0 : decode cX7_solve 0 = .ok (.iload_n 1, 1) := by decide +kernel
theorem dX7_solve_1 : decode cX7_solve 1 = .ok (.aload_n 0, 1) := by decide +kernel
theorem dX7_solve_2 : decode cX7_solve 2 = .ok (.getfield 35, 3) := by decide +kernel
theorem dX7_solve_5 : decode cX7_solve 5 = .ok (.if_icmp .ne 12, 3) := by decide +kernel
theorem dX7_solve_8 : decode cX7_solve 8 = .ok (.iload_n 2, 1) := by decide +kernel
theorem dX7_solve_9 : decode cX7_solve 9 = .ok (.aload_n 0, 1) := by decide +kernel
theorem dX7_solve_10 : decode cX7_solve 10 = .ok (.getfield 38, 3) := by decide +kernel
theorem dX7_solve_13 : decode cX7_solve 13 = .ok (.if_icmp .ne 4, 3) := by decide +kernel
theorem dX7_solve_16 : decode cX7_solve 16 = .ok (.return_, 1) := by decide +kernel
theorem dX7_solve_17 : decode cX7_solve 17 = .ok (.aload_n 0, 1) := by decide +kernel
theorem dX7_solve_18 : decode cX7_solve 18 = .ok (.iload_n 1, 1) := by decide +kernel
theorem dX7_solve_19 : decode cX7_solve 19 = .ok (.putfield 35, 3) := by decide +kernel
theorem dX7_solve_22 : decode cX7_solve 22 = .ok (.aload_n 0, 1) := by decide +kernel
theorem dX7_solve_23 : decode cX7_solve 23 = .ok (.iload_n 2, 1) := by decide +kernel
theorem dX7_solve_24 : decode cX7_solve 24 = .ok (.putfield 38, 3) := by decide +kernel
theorem dX7_solve_27 : decode cX7_solve 27 = .ok (.iconst 1, 1) := by decide +kernel
theorem dX7_solve_28 : decode cX7_solve 28 = .ok (.iload_n 1, 1) := by decide +kernel
theorem dX7_solve_29 : decode cX7_solve 29 = .ok (.ishl, 1) := by decide +kernel
theorem dX7_solve_30 : decode cX7_solve 30 = .ok (.iconst 1, 1) := by decide +kernel
theorem dX7_solve_31 : decode cX7_solve 31 = .ok (.isub, 1) := by decide +kernel
theorem dX7_solve_32 : decode cX7_solve 32 = .ok (.istore_n 3, 1) := by decide +kernel
theorem dX7_solve_33 : decode cX7_solve 33 = .ok (.aload_n 0, 1) := by decide +kernel
theorem dX7_solve_34 : decode cX7_solve 34 = .ok (.iload_n 3, 1) := by decide +kernel
theorem dX7_solve_35 : decode cX7_solve 35 = .ok (.iload_n 2, 1) := by decide +kernel
theorem dX7_solve_36 : decode cX7_solve 36 = .ok (.invokevirtual 41, 3) := by decide +kernel
theorem dX7_solve_39 : decode cX7_solve 39 = .ok (.aload_n 0, 1) := by decide +kernel
theorem dX7_solve_40 : decode cX7_solve 40 = .ok (.getfield 11, 3) := by decide +kernel
theorem dX7_solve_43 : decode cX7_solve 43 = .ok (.iconst 0, 1) := by decide +kernel
theorem dX7_solve_44 : decode cX7_solve 44 = .ok (.iconst 0, 1) := by decide +kernel
theorem dX7_solve_45 : decode cX7_solve 45 = .ok (.iastore, 1) := by decide +kernel
theorem dX7_solve_46 : decode cX7_solve 46 = .ok (.iconst 1, 1) := by decide +kernel
theorem dX7_solve_47 : decode cX7_solve 47 = .ok (.istore 4, 2) := by decide +kernel
theorem dX7_solve_49 : decode cX7_solve 49 = .ok (.iload 4, 2) := by decide +kernel
theorem dX7_solve_51 : decode cX7_solve 51 = .ok (.iload_n 3, 1) := by decide +kernel
theorem dX7_solve_52 : decode cX7_solve 52 = .ok (.if_icmp .gt 26, 3) := by decide +kernel
theorem dX7_solve_55 : decode cX7_solve 55 = .ok (.aload_n 0, 1) := by decide +kernel
theorem dX7_solve_56 : decode cX7_solve 56 = .ok (.getfield 27, 3) := by decide +kernel
theorem dX7_solve_59 : decode cX7_solve 59 = .ok (.iload 4, 2) := by decide +kernel
theorem dX7_solve_61 : decode cX7_solve 61 = .ok (.baload, 1) := by decide +kernel
theorem dX7_solve_62 : decode cX7_solve 62 = .ok (.ifCond .eq 10, 3) := by decide +kernel
theorem dX7_solve_65 : decode cX7_solve 65 = .ok (.aload_n 0, 1) := by decide +kernel
theorem dX7_solve_66 : decode cX7_solve 66 = .ok (.iload 4, 2) := by decide +kernel
theorem dX7_solve_68 : decode cX7_solve 68 = .ok (.iload_n 2, 1) := by decide +kernel
theorem dX7_solve_69 : decode cX7_solve 69 = .ok (.invokevirtual 45, 3) := by decide +kernel
theorem dX7_solve_72 : decode cX7_solve 72 = .ok (.iinc 4 1, 3) := by decide +kernel
theorem dX7_solve_75 : decode cX7_solve 75 = .ok (.goto (-26), 3) := by decide +kernel
theorem dX7_solve_78 : decode cX7_solve 78 = .ok (.return_, 1) := by decide +kernel
theorem dX7_markReached_0 : decode cX7_markReached 0 = .ok (.iconst 0, 1) := by decide +kernel
theorem dX7_markReached_1 : decode cX7_markReached 1 = .ok (.istore_n 3, 1) := by decide +kernel
theorem dX7_markReached_2 : decode cX7_markReached 2 = .ok (.iload_n 3, 1) := by decide +kernel
theorem dX7_markReached_3 : decode cX7_markReached 3 = .ok (.iload_n 1, 1) := by decide +kernel
theorem dX7_markReached_4 : decode cX7_markReached 4 = .ok (.if_icmp .ge 16, 3) := by decide +kernel
theorem dX7_markReached_7 : decode cX7_markReached 7 = .ok (.aload_n 0, 1) := by decide +kernel
theorem dX7_markReached_8 : decode cX7_markReached 8 = .ok (.getfield 27, 3) := by decide +kernel
theorem dX7_markReached_11 : decode cX7_markReached 11 = .ok (.iload_n 3, 1) := by decide +kernel
theorem dX7_markReached_12 : decode cX7_markReached 12 = .ok (.iconst 0, 1) := by decide +kernel
theorem dX7_markReached_13 : decode cX7_markReached 13 = .ok (.bastore, 1) := by decide +kernel
theorem dX7_markReached_14 : decode cX7_markReached 14 = .ok (.iinc 3 1, 3) := by decide +kernel
theorem dX7_markReached_17 : decode cX7_markReached 17 = .ok (.goto (-15), 3) := by decide +kernel
theorem dX7_markReached_20 : decode cX7_markReached 20 = .ok (.aload_n 0, 1) := by decide +kernel
theorem dX7_markReached_21 : decode cX7_markReached 21 = .ok (.getfield 27, 3) := by decide +kernel
theorem dX7_markReached_24 : decode cX7_markReached 24 = .ok (.iload_n 1, 1) := by decide +kernel
theorem dX7_markReached_25 : decode cX7_markReached 25 = .ok (.iconst 1, 1) := by decide +kernel
theorem dX7_markReached_26 : decode cX7_markReached 26 = .ok (.bastore, 1) := by decide +kernel
theorem dX7_markReached_27 : decode cX7_markReached 27 = .ok (.iload_n 1, 1) := by decide +kernel
theorem dX7_markReached_28 : decode cX7_markReached 28 = .ok (.istore_n 3, 1) := by decide +kernel
theorem dX7_markReached_29 : decode cX7_markReached 29 = .ok (.iload_n 3, 1) := by decide +kernel
theorem dX7_markReached_30 : decode cX7_markReached 30 = .ok (.ifCond .le 62, 3) := by decide +kernel
theorem dX7_markReached_33 : decode cX7_markReached 33 = .ok (.iconst 0, 1) := by decide +kernel
theorem dX7_markReached_34 : decode cX7_markReached 34 = .ok (.istore 4, 2) := by decide +kernel
theorem dX7_markReached_36 : decode cX7_markReached 36 = .ok (.iload 4, 2) := by decide +kernel
theorem dX7_markReached_38 : decode cX7_markReached 38 = .ok (.aload_n 0, 1) := by decide +kernel
theorem dX7_markReached_39 : decode cX7_markReached 39 = .ok (.getfield 31, 3) := by decide +kernel
theorem dX7_markReached_42 : decode cX7_markReached 42 = .ok (.if_icmp .ge 44, 3) := by decide +kernel
theorem dX7_markReached_45 : decode cX7_markReached 45 = .ok (.aload_n 0, 1) := by decide +kernel
theorem dX7_markReached_46 : decode cX7_markReached 46 = .ok (.getfield 27, 3) := by decide +kernel
theorem dX7_markReached_49 : decode cX7_markReached 49 = .ok (.iload_n 3, 1) := by decide +kernel
theorem dX7_markReached_50 : decode cX7_markReached 50 = .ok (.baload, 1) := by decide +kernel
theorem dX7_markReached_51 : decode cX7_markReached 51 = .ok (.ifCond .eq 35, 3) := by decide +kernel
theorem dX7_markReached_54 : decode cX7_markReached 54 = .ok (.aload_n 0, 1) := by decide +kernel
theorem dX7_markReached_55 : decode cX7_markReached 55 = .ok (.iload 4, 2) := by decide +kernel
theorem dX7_markReached_57 : decode cX7_markReached 57 = .ok (.iload_n 3, 1) := by decide +kernel
theorem dX7_markReached_58 : decode cX7_markReached 58 = .ok (.iload_n 2, 1) := by decide +kernel
theorem dX7_markReached_59 : decode cX7_markReached 59 = .ok (.invokevirtual 48, 3) := by decide +kernel
theorem dX7_markReached_62 : decode cX7_markReached 62 = .ok (.ifCond .eq 18, 3) := by decide +kernel
theorem dX7_markReached_65 : decode cX7_markReached 65 = .ok (.aload_n 0, 1) := by decide +kernel
theorem dX7_markReached_66 : decode cX7_markReached 66 = .ok (.getfield 27, 3) := by decide +kernel
theorem dX7_markReached_69 : decode cX7_markReached 69 = .ok (.iload_n 3, 1) := by decide +kernel
theorem dX7_markReached_70 : decode cX7_markReached 70 = .ok (.aload_n 0, 1) := by decide +kernel
theorem dX7_markReached_71 : decode cX7_markReached 71 = .ok (.getfield 18, 3) := by decide +kernel
theorem dX7_markReached_74 : decode cX7_markReached 74 = .ok (.iload 4, 2) := by decide +kernel
theorem dX7_markReached_76 : decode cX7_markReached 76 = .ok (.iaload, 1) := by decide +kernel
theorem dX7_markReached_77 : decode cX7_markReached 77 = .ok (.ixor, 1) := by decide +kernel
theorem dX7_markReached_78 : decode cX7_markReached 78 = .ok (.iconst 1, 1) := by decide +kernel
theorem dX7_markReached_79 : decode cX7_markReached 79 = .ok (.bastore, 1) := by decide +kernel
theorem dX7_markReached_80 : decode cX7_markReached 80 = .ok (.iinc 4 1, 3) := by decide +kernel
theorem dX7_markReached_83 : decode cX7_markReached 83 = .ok (.goto (-47), 3) := by decide +kernel
theorem dX7_markReached_86 : decode cX7_markReached 86 = .ok (.iinc 3 (-1), 3) := by decide +kernel
theorem dX7_markReached_89 : decode cX7_markReached 89 = .ok (.goto (-60), 3) := by decide +kernel
theorem dX7_markReached_92 : decode cX7_markReached 92 = .ok (.return_, 1) := by decide +kernel
theorem dX7_fits_0 : decode cX7_fits 0 = .ok (.aload_n 0, 1) := by decide +kernel
theorem dX7_fits_1 : decode cX7_fits 1 = .ok (.getfield 18, 3) := by decide +kernel
theorem dX7_fits_4 : decode cX7_fits 4 = .ok (.iload_n 1, 1) := by decide +kernel
theorem dX7_fits_5 : decode cX7_fits 5 = .ok (.iaload, 1) := by decide +kernel
theorem dX7_fits_6 : decode cX7_fits 6 = .ok (.iload_n 2, 1) := by decide +kernel
theorem dX7_fits_7 : decode cX7_fits 7 = .ok (.iand, 1) := by decide +kernel
theorem dX7_fits_8 : decode cX7_fits 8 = .ok (.iload_n 2, 1) := by decide +kernel
theorem dX7_fits_9 : decode cX7_fits 9 = .ok (.ineg, 1) := by decide +kernel
theorem dX7_fits_10 : decode cX7_fits 10 = .ok (.iand, 1) := by decide +kernel
theorem dX7_fits_11 : decode cX7_fits 11 = .ok (.ifCond .eq 30, 3) := by decide +kernel
theorem dX7_fits_14 : decode cX7_fits 14 = .ok (.aload_n 0, 1) := by decide +kernel
theorem dX7_fits_15 : decode cX7_fits 15 = .ok (.getfield 18, 3) := by decide +kernel
theorem dX7_fits_18 : decode cX7_fits 18 = .ok (.iload_n 1, 1) := by decide +kernel
theorem dX7_fits_19 : decode cX7_fits 19 = .ok (.iaload, 1) := by decide +kernel
theorem dX7_fits_20 : decode cX7_fits 20 = .ok (.iload_n 2, 1) := by decide +kernel
theorem dX7_fits_21 : decode cX7_fits 21 = .ok (.iconst (-1), 1) := by decide +kernel
theorem dX7_fits_22 : decode cX7_fits 22 = .ok (.ixor, 1) := by decide +kernel
theorem dX7_fits_23 : decode cX7_fits 23 = .ok (.iand, 1) := by decide +kernel
theorem dX7_fits_24 : decode cX7_fits 24 = .ok (.ifCond .ne 17, 3) := by decide +kernel
theorem dX7_fits_27 : decode cX7_fits 27 = .ok (.aload_n 0, 1) := by decide +kernel
theorem dX7_fits_28 : decode cX7_fits 28 = .ok (.getfield 15, 3) := by decide +kernel
theorem dX7_fits_31 : decode cX7_fits 31 = .ok (.iload_n 1, 1) := by decide +kernel
theorem dX7_fits_32 : decode cX7_fits 32 = .ok (.iaload, 1) := by decide +kernel
theorem dX7_fits_33 : decode cX7_fits 33 = .ok (.iload_n 3, 1) := by decide +kernel
theorem dX7_fits_34 : decode cX7_fits 34 = .ok (.if_icmp .eq 7, 3) := by decide +kernel
theorem dX7_fits_37 : decode cX7_fits 37 = .ok (.iconst 1, 1) := by decide +kernel
theorem dX7_fits_38 : decode cX7_fits 38 = .ok (.goto 4, 3) := by decide +kernel
theorem dX7_fits_41 : decode cX7_fits 41 = .ok (.iconst 0, 1) := by decide +kernel
theorem dX7_fits_42 : decode cX7_fits 42 = .ok (.ireturn, 1) := by decide +kernel
theorem dX7_choose_0 : decode cX7_choose 0 = .ok (.aload_n 0, 1) := by decide +kernel
theorem dX7_choose_1 : decode cX7_choose 1 = .ok (.getfield 11, 3) := by decide +kernel
theorem dX7_choose_4 : decode cX7_choose 4 = .ok (.iload_n 1, 1) := by decide +kernel
theorem dX7_choose_5 : decode cX7_choose 5 = .ok (.ldc 52, 2) := by decide +kernel
theorem dX7_choose_7 : decode cX7_choose 7 = .ok (.iastore, 1) := by decide +kernel
theorem dX7_choose_8 : decode cX7_choose 8 = .ok (.aload_n 0, 1) := by decide +kernel
theorem dX7_choose_9 : decode cX7_choose 9 = .ok (.getfield 24, 3) := by decide +kernel
theorem dX7_choose_12 : decode cX7_choose 12 = .ok (.iload_n 1, 1) := by decide +kernel
theorem dX7_choose_13 : decode cX7_choose 13 = .ok (.iconst (-1), 1) := by decide +kernel
theorem dX7_choose_14 : decode cX7_choose 14 = .ok (.iastore, 1) := by decide +kernel
theorem dX7_choose_15 : decode cX7_choose 15 = .ok (.iconst 0, 1) := by decide +kernel
theorem dX7_choose_16 : decode cX7_choose 16 = .ok (.istore_n 3, 1) := by decide +kernel
theorem dX7_choose_17 : decode cX7_choose 17 = .ok (.iload_n 3, 1) := by decide +kernel
theorem dX7_choose_18 : decode cX7_choose 18 = .ok (.aload_n 0, 1) := by decide +kernel
theorem dX7_choose_19 : decode cX7_choose 19 = .ok (.getfield 31, 3) := by decide +kernel
theorem dX7_choose_22 : decode cX7_choose 22 = .ok (.if_icmp .ge 81, 3) := by decide +kernel
theorem dX7_choose_25 : decode cX7_choose 25 = .ok (.aload_n 0, 1) := by decide +kernel
theorem dX7_choose_26 : decode cX7_choose 26 = .ok (.iload_n 3, 1) := by decide +kernel
theorem dX7_choose_27 : decode cX7_choose 27 = .ok (.iload_n 1, 1) := by decide +kernel
theorem dX7_choose_28 : decode cX7_choose 28 = .ok (.iload_n 2, 1) := by decide +kernel
theorem dX7_choose_29 : decode cX7_choose 29 = .ok (.invokevirtual 48, 3) := by decide +kernel
theorem dX7_choose_32 : decode cX7_choose 32 = .ok (.ifCond .eq 65, 3) := by decide +kernel
theorem dX7_choose_35 : decode cX7_choose 35 = .ok (.aload_n 0, 1) := by decide +kernel
theorem dX7_choose_36 : decode cX7_choose 36 = .ok (.getfield 21, 3) := by decide +kernel
theorem dX7_choose_39 : decode cX7_choose 39 = .ok (.iload_n 3, 1) := by decide +kernel
theorem dX7_choose_40 : decode cX7_choose 40 = .ok (.iaload, 1) := by decide +kernel
theorem dX7_choose_41 : decode cX7_choose 41 = .ok (.aload_n 0, 1) := by decide +kernel
theorem dX7_choose_42 : decode cX7_choose 42 = .ok (.getfield 11, 3) := by decide +kernel
theorem dX7_choose_45 : decode cX7_choose 45 = .ok (.iload_n 1, 1) := by decide +kernel
theorem dX7_choose_46 : decode cX7_choose 46 = .ok (.aload_n 0, 1) := by decide +kernel
theorem dX7_choose_47 : decode cX7_choose 47 = .ok (.getfield 18, 3) := by decide +kernel
theorem dX7_choose_50 : decode cX7_choose 50 = .ok (.iload_n 3, 1) := by decide +kernel
theorem dX7_choose_51 : decode cX7_choose 51 = .ok (.iaload, 1) := by decide +kernel
theorem dX7_choose_52 : decode cX7_choose 52 = .ok (.ixor, 1) := by decide +kernel
theorem dX7_choose_53 : decode cX7_choose 53 = .ok (.iaload, 1) := by decide +kernel
theorem dX7_choose_54 : decode cX7_choose 54 = .ok (.iadd, 1) := by decide +kernel
theorem dX7_choose_55 : decode cX7_choose 55 = .ok (.aload_n 0, 1) := by decide +kernel
theorem dX7_choose_56 : decode cX7_choose 56 = .ok (.getfield 11, 3) := by decide +kernel
theorem dX7_choose_59 : decode cX7_choose 59 = .ok (.iload_n 1, 1) := by decide +kernel
theorem dX7_choose_60 : decode cX7_choose 60 = .ok (.iaload, 1) := by decide +kernel
theorem dX7_choose_61 : decode cX7_choose 61 = .ok (.if_icmp .ge 36, 3) := by decide +kernel
theorem dX7_choose_64 : decode cX7_choose 64 = .ok (.aload_n 0, 1) := by decide +kernel
theorem dX7_choose_65 : decode cX7_choose 65 = .ok (.getfield 11, 3) := by decide +kernel
theorem dX7_choose_68 : decode cX7_choose 68 = .ok (.iload_n 1, 1) := by decide +kernel
theorem dX7_choose_69 : decode cX7_choose 69 = .ok (.aload_n 0, 1) := by decide +kernel
theorem dX7_choose_70 : decode cX7_choose 70 = .ok (.getfield 21, 3) := by decide +kernel
theorem dX7_choose_73 : decode cX7_choose 73 = .ok (.iload_n 3, 1) := by decide +kernel
theorem dX7_choose_74 : decode cX7_choose 74 = .ok (.iaload, 1) := by decide +kernel
theorem dX7_choose_75 : decode cX7_choose 75 = .ok (.aload_n 0, 1) := by decide +kernel
theorem dX7_choose_76 : decode cX7_choose 76 = .ok (.getfield 11, 3) := by decide +kernel
theorem dX7_choose_79 : decode cX7_choose 79 = .ok (.iload_n 1, 1) := by decide +kernel
theorem dX7_choose_80 : decode cX7_choose 80 = .ok (.aload_n 0, 1) := by decide +kernel
theorem dX7_choose_81 : decode cX7_choose 81 = .ok (.getfield 18, 3) := by decide +kernel
theorem dX7_choose_84 : decode cX7_choose 84 = .ok (.iload_n 3, 1) := by decide +kernel
theorem dX7_choose_85 : decode cX7_choose 85 = .ok (.iaload, 1) := by decide +kernel
theorem dX7_choose_86 : decode cX7_choose 86 = .ok (.ixor, 1) := by decide +kernel
theorem dX7_choose_87 : decode cX7_choose 87 = .ok (.iaload, 1) := by decide +kernel
theorem dX7_choose_88 : decode cX7_choose 88 = .ok (.iadd, 1) := by decide +kernel
theorem dX7_choose_89 : decode cX7_choose 89 = .ok (.iastore, 1) := by decide +kernel
theorem dX7_choose_90 : decode cX7_choose 90 = .ok (.aload_n 0, 1) := by decide +kernel
theorem dX7_choose_91 : decode cX7_choose 91 = .ok (.getfield 24, 3) := by decide +kernel
theorem dX7_choose_94 : decode cX7_choose 94 = .ok (.iload_n 1, 1) := by decide +kernel
theorem dX7_choose_95 : decode cX7_choose 95 = .ok (.iload_n 3, 1) := by decide +kernel
theorem dX7_choose_96 : decode cX7_choose 96 = .ok (.iastore, 1) := by decide +kernel
theorem dX7_choose_97 : decode cX7_choose 97 = .ok (.iinc 3 1, 3) := by decide +kernel
theorem dX7_choose_100 : decode cX7_choose 100 = .ok (.goto (-83), 3) := by decide +kernel
theorem dX7_choose_103 : decode cX7_choose 103 = .ok (.return_, 1) := by decide +kernel
theorem dX7_bidOn_0 : decode cX7_bidOn 0 = .ok (.iconst 1, 1) := by decide +kernel
theorem dX7_bidOn_1 : decode cX7_bidOn 1 = .ok (.iload_n 2, 1) := by decide +kernel
theorem dX7_bidOn_2 : decode cX7_bidOn 2 = .ok (.ishl, 1) := by decide +kernel
theorem dX7_bidOn_3 : decode cX7_bidOn 3 = .ok (.iconst 1, 1) := by decide +kernel
theorem dX7_bidOn_4 : decode cX7_bidOn 4 = .ok (.isub, 1) := by decide +kernel
theorem dX7_bidOn_5 : decode cX7_bidOn 5 = .ok (.istore_n 3, 1) := by decide +kernel
theorem dX7_bidOn_6 : decode cX7_bidOn 6 = .ok (.iconst 0, 1) := by decide +kernel
theorem dX7_bidOn_7 : decode cX7_bidOn 7 = .ok (.istore 4, 2) := by decide +kernel
theorem dX7_bidOn_9 : decode cX7_bidOn 9 = .ok (.iload 4, 2) := by decide +kernel
theorem dX7_bidOn_11 : decode cX7_bidOn 11 = .ok (.iload_n 2, 1) := by decide +kernel
theorem dX7_bidOn_12 : decode cX7_bidOn 12 = .ok (.if_icmp .ge 54, 3) := by decide +kernel
theorem dX7_bidOn_15 : decode cX7_bidOn 15 = .ok (.iload_n 3, 1) := by decide +kernel
theorem dX7_bidOn_16 : decode cX7_bidOn 16 = .ok (.ifCond .eq 50, 3) := by decide +kernel
theorem dX7_bidOn_19 : decode cX7_bidOn 19 = .ok (.aload_n 0, 1) := by decide +kernel
theorem dX7_bidOn_20 : decode cX7_bidOn 20 = .ok (.getfield 24, 3) := by decide +kernel
theorem dX7_bidOn_23 : decode cX7_bidOn 23 = .ok (.iload_n 3, 1) := by decide +kernel
theorem dX7_bidOn_24 : decode cX7_bidOn 24 = .ok (.iaload, 1) := by decide +kernel
theorem dX7_bidOn_25 : decode cX7_bidOn 25 = .ok (.istore 5, 2) := by decide +kernel
theorem dX7_bidOn_27 : decode cX7_bidOn 27 = .ok (.iload 5, 2) := by decide +kernel
theorem dX7_bidOn_29 : decode cX7_bidOn 29 = .ok (.iconst (-1), 1) := by decide +kernel
theorem dX7_bidOn_30 : decode cX7_bidOn 30 = .ok (.if_icmp .eq 17, 3) := by decide +kernel
theorem dX7_bidOn_33 : decode cX7_bidOn 33 = .ok (.aload_n 0, 1) := by decide +kernel
theorem dX7_bidOn_34 : decode cX7_bidOn 34 = .ok (.getfield 18, 3) := by decide +kernel
theorem dX7_bidOn_37 : decode cX7_bidOn 37 = .ok (.iload 5, 2) := by decide +kernel
theorem dX7_bidOn_39 : decode cX7_bidOn 39 = .ok (.iaload, 1) := by decide +kernel
theorem dX7_bidOn_40 : decode cX7_bidOn 40 = .ok (.iload_n 1, 1) := by decide +kernel
theorem dX7_bidOn_41 : decode cX7_bidOn 41 = .ok (.ishr, 1) := by decide +kernel
theorem dX7_bidOn_42 : decode cX7_bidOn 42 = .ok (.iconst 1, 1) := by decide +kernel
theorem dX7_bidOn_43 : decode cX7_bidOn 43 = .ok (.iand, 1) := by decide +kernel
theorem dX7_bidOn_44 : decode cX7_bidOn 44 = .ok (.ifCond .eq 6, 3) := by decide +kernel
theorem dX7_bidOn_47 : decode cX7_bidOn 47 = .ok (.iload 5, 2) := by decide +kernel
theorem dX7_bidOn_49 : decode cX7_bidOn 49 = .ok (.ireturn, 1) := by decide +kernel
theorem dX7_bidOn_50 : decode cX7_bidOn 50 = .ok (.iload_n 3, 1) := by decide +kernel
theorem dX7_bidOn_51 : decode cX7_bidOn 51 = .ok (.aload_n 0, 1) := by decide +kernel
theorem dX7_bidOn_52 : decode cX7_bidOn 52 = .ok (.getfield 18, 3) := by decide +kernel
theorem dX7_bidOn_55 : decode cX7_bidOn 55 = .ok (.iload 5, 2) := by decide +kernel
theorem dX7_bidOn_57 : decode cX7_bidOn 57 = .ok (.iaload, 1) := by decide +kernel
theorem dX7_bidOn_58 : decode cX7_bidOn 58 = .ok (.ixor, 1) := by decide +kernel
theorem dX7_bidOn_59 : decode cX7_bidOn 59 = .ok (.istore_n 3, 1) := by decide +kernel
theorem dX7_bidOn_60 : decode cX7_bidOn 60 = .ok (.iinc 4 1, 3) := by decide +kernel
theorem dX7_bidOn_63 : decode cX7_bidOn 63 = .ok (.goto (-54), 3) := by decide +kernel
theorem dX7_bidOn_66 : decode cX7_bidOn 66 = .ok (.iconst (-1), 1) := by decide +kernel
theorem dX7_bidOn_67 : decode cX7_bidOn 67 = .ok (.ireturn, 1) := by decide +kernel
theorem dX8_init_0 : decode cX8_init 0 = .ok (.aload_n 0, 1) := by decide +kernel
theorem dX8_init_1 : decode cX8_init 1 = .ok (.invokespecial 3, 3) := by decide +kernel
theorem dX8_init_4 : decode cX8_init 4 = .ok (.aload_n 0, 1) := by decide +kernel
theorem dX8_init_5 : decode cX8_init 5 = .ok (.bipush 24, 2) := by decide +kernel
theorem dX8_init_7 : decode cX8_init 7 = .ok (.newarray .int, 2) := by decide +kernel
theorem dX8_init_9 : decode cX8_init 9 = .ok (.putfield 9, 3) := by decide +kernel
theorem dX8_init_12 : decode cX8_init 12 = .ok (.aload_n 0, 1) := by decide +kernel
theorem dX8_init_13 : decode cX8_init 13 = .ok (.bipush 24, 2) := by decide +kernel
theorem dX8_init_15 : decode cX8_init 15 = .ok (.newarray .int, 2) := by decide +kernel
theorem dX8_init_17 : decode cX8_init 17 = .ok (.putfield 15, 3) := by decide +kernel
theorem dX8_init_20 : decode cX8_init 20 = .ok (.aload_n 0, 1) := by decide +kernel
theorem dX8_init_21 : decode cX8_init 21 = .ok (.bipush 24, 2) := by decide +kernel
theorem dX8_init_23 : decode cX8_init 23 = .ok (.newarray .int, 2) := by decide +kernel
theorem dX8_init_25 : decode cX8_init 25 = .ok (.putfield 18, 3) := by decide +kernel
theorem dX8_init_28 : decode cX8_init 28 = .ok (.aload_n 0, 1) := by decide +kernel
theorem dX8_init_29 : decode cX8_init 29 = .ok (.bipush 24, 2) := by decide +kernel
theorem dX8_init_31 : decode cX8_init 31 = .ok (.newarray .int, 2) := by decide +kernel
theorem dX8_init_33 : decode cX8_init 33 = .ok (.putfield 21, 3) := by decide +kernel
theorem dX8_init_36 : decode cX8_init 36 = .ok (.aload_n 0, 1) := by decide +kernel
theorem dX8_init_37 : decode cX8_init 37 = .ok (.iconst 3, 1) := by decide +kernel
theorem dX8_init_38 : decode cX8_init 38 = .ok (.newarray .int, 2) := by decide +kernel
theorem dX8_init_40 : decode cX8_init 40 = .ok (.putfield 24, 3) := by decide +kernel
theorem dX8_init_43 : decode cX8_init 43 = .ok (.aload_n 0, 1) := by decide +kernel
theorem dX8_init_44 : decode cX8_init 44 = .ok (.iconst 3, 1) := by decide +kernel
theorem dX8_init_45 : decode cX8_init 45 = .ok (.newarray .int, 2) := by decide +kernel
theorem dX8_init_47 : decode cX8_init 47 = .ok (.putfield 27, 3) := by decide +kernel
theorem dX8_init_50 : decode cX8_init 50 = .ok (.aload_n 0, 1) := by decide +kernel
theorem dX8_init_51 : decode cX8_init 51 = .ok (.bipush 6, 2) := by decide +kernel
theorem dX8_init_53 : decode cX8_init 53 = .ok (.newarray .int, 2) := by decide +kernel
theorem dX8_init_55 : decode cX8_init 55 = .ok (.putfield 30, 3) := by decide +kernel
theorem dX8_init_58 : decode cX8_init 58 = .ok (.aload_n 0, 1) := by decide +kernel
theorem dX8_init_59 : decode cX8_init 59 = .ok (.bipush 8, 2) := by decide +kernel
theorem dX8_init_61 : decode cX8_init 61 = .ok (.newarray .int, 2) := by decide +kernel
theorem dX8_init_63 : decode cX8_init 63 = .ok (.putfield 33, 3) := by decide +kernel
theorem dX8_init_66 : decode cX8_init 66 = .ok (.aload_n 0, 1) := by decide +kernel
theorem dX8_init_67 : decode cX8_init 67 = .ok (.sipush 400, 3) := by decide +kernel
theorem dX8_init_70 : decode cX8_init 70 = .ok (.newarray .int, 2) := by decide +kernel
theorem dX8_init_72 : decode cX8_init 72 = .ok (.putfield 38, 3) := by decide +kernel
theorem dX8_init_75 : decode cX8_init 75 = .ok (.aload_n 0, 1) := by decide +kernel
theorem dX8_init_76 : decode cX8_init 76 = .ok (.getstatic 41, 3) := by decide +kernel
theorem dX8_init_79 : decode cX8_init 79 = .ok (.arraylength, 1) := by decide +kernel
theorem dX8_init_80 : decode cX8_init 80 = .ok (.newarray .int, 2) := by decide +kernel
theorem dX8_init_82 : decode cX8_init 82 = .ok (.putfield 44, 3) := by decide +kernel
theorem dX8_init_85 : decode cX8_init 85 = .ok (.aload_n 0, 1) := by decide +kernel
theorem dX8_init_86 : decode cX8_init 86 = .ok (.bipush 32, 2) := by decide +kernel
theorem dX8_init_88 : decode cX8_init 88 = .ok (.newarray .int, 2) := by decide +kernel
theorem dX8_init_90 : decode cX8_init 90 = .ok (.putfield 47, 3) := by decide +kernel
theorem dX8_init_93 : decode cX8_init 93 = .ok (.return_, 1) := by decide +kernel
theorem dX8_clear_0 : decode cX8_clear 0 = .ok (.aload_n 0, 1) := by decide +kernel
theorem dX8_clear_1 : decode cX8_clear 1 = .ok (.iconst 0, 1) := by decide +kernel
theorem dX8_clear_2 : decode cX8_clear 2 = .ok (.putfield 50, 3) := by decide +kernel
theorem dX8_clear_5 : decode cX8_clear 5 = .ok (.aload_n 0, 1) := by decide +kernel
theorem dX8_clear_6 : decode cX8_clear 6 = .ok (.iconst 0, 1) := by decide +kernel
theorem dX8_clear_7 : decode cX8_clear 7 = .ok (.putfield 54, 3) := by decide +kernel
theorem dX8_clear_10 : decode cX8_clear 10 = .ok (.aload_n 0, 1) := by decide +kernel
theorem dX8_clear_11 : decode cX8_clear 11 = .ok (.iconst 0, 1) := by decide +kernel
theorem dX8_clear_12 : decode cX8_clear 12 = .ok (.putfield 57, 3) := by decide +kernel
theorem dX8_clear_15 : decode cX8_clear 15 = .ok (.aload_n 0, 1) := by decide +kernel
theorem dX8_clear_16 : decode cX8_clear 16 = .ok (.iconst 0, 1) := by decide +kernel
theorem dX8_clear_17 : decode cX8_clear 17 = .ok (.putfield 60, 3) := by decide +kernel
theorem dX8_clear_20 : decode cX8_clear 20 = .ok (.aload_n 0, 1) := by decide +kernel
theorem dX8_clear_21 : decode cX8_clear 21 = .ok (.iconst 0, 1) := by decide +kernel
theorem dX8_clear_22 : decode cX8_clear 22 = .ok (.putfield 63, 3) := by decide +kernel
theorem dX8_clear_25 : decode cX8_clear 25 = .ok (.aload_n 0, 1) := by decide +kernel
theorem dX8_clear_26 : decode cX8_clear 26 = .ok (.iconst 0, 1) := by decide +kernel
theorem dX8_clear_27 : decode cX8_clear 27 = .ok (.putfield 66, 3) := by decide +kernel
theorem dX8_clear_30 : decode cX8_clear 30 = .ok (.aload_n 0, 1) := by decide +kernel
theorem dX8_clear_31 : decode cX8_clear 31 = .ok (.iconst 0, 1) := by decide +kernel
theorem dX8_clear_32 : decode cX8_clear 32 = .ok (.putfield 69, 3) := by decide +kernel
theorem dX8_clear_35 : decode cX8_clear 35 = .ok (.getstatic 41, 3) := by decide +kernel
theorem dX8_clear_38 : decode cX8_clear 38 = .ok (.iconst 0, 1) := by decide +kernel
theorem dX8_clear_39 : decode cX8_clear 39 = .ok (.aload_n 0, 1) := by decide +kernel
theorem dX8_clear_40 : decode cX8_clear 40 = .ok (.getfield 44, 3) := by decide +kernel
theorem dX8_clear_43 : decode cX8_clear 43 = .ok (.iconst 0, 1) := by decide +kernel
theorem dX8_clear_44 : decode cX8_clear 44 = .ok (.getstatic 41, 3) := by decide +kernel
theorem dX8_clear_47 : decode cX8_clear 47 = .ok (.arraylength, 1) := by decide +kernel
theorem dX8_clear_48 : decode cX8_clear 48 = .ok (.invokestatic 72, 3) := by decide +kernel
theorem dX8_clear_51 : decode cX8_clear 51 = .ok (.return_, 1) := by decide +kernel
theorem dX8_addWay_0 : decode cX8_addWay 0 = .ok (.aload_n 0, 1) := by decide +kernel
theorem dX8_addWay_1 : decode cX8_addWay 1 = .ok (.getfield 54, 3) := by decide +kernel
theorem dX8_addWay_4 : decode cX8_addWay 4 = .ok (.bipush 24, 2) := by decide +kernel
theorem dX8_addWay_6 : decode cX8_addWay 6 = .ok (.if_icmp .lt 4, 3) := by decide +kernel
theorem dX8_addWay_9 : decode cX8_addWay 9 = .ok (.return_, 1) := by decide +kernel
theorem dX8_addWay_10 : decode cX8_addWay 10 = .ok (.aload_n 0, 1) := by decide +kernel
theorem dX8_addWay_11 : decode cX8_addWay 11 = .ok (.getfield 9, 3) := by decide +kernel
theorem dX8_addWay_14 : decode cX8_addWay 14 = .ok (.aload_n 0, 1) := by decide +kernel
theorem dX8_addWay_15 : decode cX8_addWay 15 = .ok (.getfield 54, 3) := by decide +kernel
theorem dX8_addWay_18 : decode cX8_addWay 18 = .ok (.iload_n 1, 1) := by decide +kernel
theorem dX8_addWay_19 : decode cX8_addWay 19 = .ok (.iastore, 1) := by decide +kernel
theorem dX8_addWay_20 : decode cX8_addWay 20 = .ok (.aload_n 0, 1) := by decide +kernel
theorem dX8_addWay_21 : decode cX8_addWay 21 = .ok (.getfield 15, 3) := by decide +kernel
theorem dX8_addWay_24 : decode cX8_addWay 24 = .ok (.aload_n 0, 1) := by decide +kernel
theorem dX8_addWay_25 : decode cX8_addWay 25 = .ok (.getfield 54, 3) := by decide +kernel
theorem dX8_addWay_28 : decode cX8_addWay 28 = .ok (.iload_n 2, 1) := by decide +kernel
theorem dX8_addWay_29 : decode cX8_addWay 29 = .ok (.iastore, 1) := by decide +kernel
theorem dX8_addWay_30 : decode cX8_addWay 30 = .ok (.aload_n 0, 1) := by decide +kernel
theorem dX8_addWay_31 : decode cX8_addWay 31 = .ok (.getfield 18, 3) := by decide +kernel
theorem dX8_addWay_34 : decode cX8_addWay 34 = .ok (.aload_n 0, 1) := by decide +kernel
theorem dX8_addWay_35 : decode cX8_addWay 35 = .ok (.getfield 54, 3) := by decide +kernel
theorem dX8_addWay_38 : decode cX8_addWay 38 = .ok (.iload_n 3, 1) := by decide +kernel
theorem dX8_addWay_39 : decode cX8_addWay 39 = .ok (.iastore, 1) := by decide +kernel
theorem dX8_addWay_40 : decode cX8_addWay 40 = .ok (.aload_n 0, 1) := by decide +kernel
theorem dX8_addWay_41 : decode cX8_addWay 41 = .ok (.getfield 21, 3) := by decide +kernel
theorem dX8_addWay_44 : decode cX8_addWay 44 = .ok (.aload_n 0, 1) := by decide +kernel
theorem dX8_addWay_45 : decode cX8_addWay 45 = .ok (.getfield 54, 3) := by decide +kernel
theorem dX8_addWay_48 : decode cX8_addWay 48 = .ok (.iload 4, 2) := by decide +kernel
theorem dX8_addWay_50 : decode cX8_addWay 50 = .ok (.iastore, 1) := by decide +kernel
theorem dX8_addWay_51 : decode cX8_addWay 51 = .ok (.aload_n 0, 1) := by decide +kernel
theorem dX8_addWay_52 : decode cX8_addWay 52 = .ok (.dup, 1) := by decide +kernel
theorem dX8_addWay_53 : decode cX8_addWay 53 = .ok (.getfield 57, 3) := by decide +kernel
theorem dX8_addWay_56 : decode cX8_addWay 56 = .ok (.iload 5, 2) := by decide +kernel
theorem dX8_addWay_58 : decode cX8_addWay 58 = .ok (.ifCond .eq 12, 3) := by decide +kernel
theorem dX8_addWay_61 : decode cX8_addWay 61 = .ok (.iconst 1, 1) := by decide +kernel
theorem dX8_addWay_62 : decode cX8_addWay 62 = .ok (.aload_n 0, 1) := by decide +kernel
theorem dX8_addWay_63 : decode cX8_addWay 63 = .ok (.getfield 54, 3) := by decide +kernel
theorem dX8_addWay_66 : decode cX8_addWay 66 = .ok (.ishl, 1) := by decide +kernel
theorem dX8_addWay_67 : decode cX8_addWay 67 = .ok (.goto 4, 3) := by decide +kernel
theorem dX8_addWay_70 : decode cX8_addWay 70 = .ok (.iconst 0, 1) := by decide +kernel
theorem dX8_addWay_71 : decode cX8_addWay 71 = .ok (.ior, 1) := by decide +kernel
theorem dX8_addWay_72 : decode cX8_addWay 72 = .ok (.putfield 57, 3) := by decide +kernel
theorem dX8_addWay_75 : decode cX8_addWay 75 = .ok (.aload_n 0, 1) := by decide +kernel
theorem dX8_addWay_76 : decode cX8_addWay 76 = .ok (.dup, 1) := by decide +kernel
theorem dX8_addWay_77 : decode cX8_addWay 77 = .ok (.getfield 54, 3) := by decide +kernel
theorem dX8_addWay_80 : decode cX8_addWay 80 = .ok (.iconst 1, 1) := by decide +kernel
theorem dX8_addWay_81 : decode cX8_addWay 81 = .ok (.iadd, 1) := by decide +kernel
theorem dX8_addWay_82 : decode cX8_addWay 82 = .ok (.putfield 54, 3) := by decide +kernel
theorem dX8_addWay_85 : decode cX8_addWay 85 = .ok (.return_, 1) := by decide +kernel
theorem dX8_addSchool_0 : decode cX8_addSchool 0 = .ok (.aload_n 0, 1) := by decide +kernel
theorem dX8_addSchool_1 : decode cX8_addSchool 1 = .ok (.getfield 60, 3) := by decide +kernel
theorem dX8_addSchool_4 : decode cX8_addSchool 4 = .ok (.iconst 3, 1) := by decide +kernel
theorem dX8_addSchool_5 : decode cX8_addSchool 5 = .ok (.if_icmp .lt 4, 3) := by decide +kernel
theorem dX8_addSchool_8 : decode cX8_addSchool 8 = .ok (.return_, 1) := by decide +kernel
theorem dX8_addSchool_9 : decode cX8_addSchool 9 = .ok (.aload_n 0, 1) := by decide +kernel
theorem dX8_addSchool_10 : decode cX8_addSchool 10 = .ok (.getfield 24, 3) := by decide +kernel
theorem dX8_addSchool_13 : decode cX8_addSchool 13 = .ok (.aload_n 0, 1) := by decide +kernel
theorem dX8_addSchool_14 : decode cX8_addSchool 14 = .ok (.getfield 60, 3) := by decide +kernel
theorem dX8_addSchool_17 : decode cX8_addSchool 17 = .ok (.iload_n 1, 1) := by decide +kernel
theorem dX8_addSchool_18 : decode cX8_addSchool 18 = .ok (.iastore, 1) := by decide +kernel
theorem dX8_addSchool_19 : decode cX8_addSchool 19 = .ok (.aload_n 0, 1) := by decide +kernel
theorem dX8_addSchool_20 : decode cX8_addSchool 20 = .ok (.getfield 27, 3) := by decide +kernel
theorem dX8_addSchool_23 : decode cX8_addSchool 23 = .ok (.aload_n 0, 1) := by decide +kernel
theorem dX8_addSchool_24 : decode cX8_addSchool 24 = .ok (.getfield 60, 3) := by decide +kernel
theorem dX8_addSchool_27 : decode cX8_addSchool 27 = .ok (.iload_n 2, 1) := by decide +kernel
theorem dX8_addSchool_28 : decode cX8_addSchool 28 = .ok (.iastore, 1) := by decide +kernel
theorem dX8_addSchool_29 : decode cX8_addSchool 29 = .ok (.aload_n 0, 1) := by decide +kernel
theorem dX8_addSchool_30 : decode cX8_addSchool 30 = .ok (.dup, 1) := by decide +kernel
theorem dX8_addSchool_31 : decode cX8_addSchool 31 = .ok (.getfield 60, 3) := by decide +kernel
theorem dX8_addSchool_34 : decode cX8_addSchool 34 = .ok (.iconst 1, 1) := by decide +kernel
theorem dX8_addSchool_35 : decode cX8_addSchool 35 = .ok (.iadd, 1) := by decide +kernel
theorem dX8_addSchool_36 : decode cX8_addSchool 36 = .ok (.putfield 60, 3) := by decide +kernel
theorem dX8_addSchool_39 : decode cX8_addSchool 39 = .ok (.return_, 1) := by decide +kernel
theorem dX8_addStop_0 : decode cX8_addStop 0 = .ok (.aload_n 0, 1) := by decide +kernel
theorem dX8_addStop_1 : decode cX8_addStop 1 = .ok (.getfield 63, 3) := by decide +kernel
theorem dX8_addStop_4 : decode cX8_addStop 4 = .ok (.bipush 6, 2) := by decide +kernel
theorem dX8_addStop_6 : decode cX8_addStop 6 = .ok (.if_icmp .lt 4, 3) := by decide +kernel
theorem dX8_addStop_9 : decode cX8_addStop 9 = .ok (.return_, 1) := by decide +kernel
theorem dX8_addStop_10 : decode cX8_addStop 10 = .ok (.aload_n 0, 1) := by decide +kernel
theorem dX8_addStop_11 : decode cX8_addStop 11 = .ok (.getfield 30, 3) := by decide +kernel
theorem dX8_addStop_14 : decode cX8_addStop 14 = .ok (.aload_n 0, 1) := by decide +kernel
theorem dX8_addStop_15 : decode cX8_addStop 15 = .ok (.getfield 63, 3) := by decide +kernel
theorem dX8_addStop_18 : decode cX8_addStop 18 = .ok (.iload_n 1, 1) := by decide +kernel
theorem dX8_addStop_19 : decode cX8_addStop 19 = .ok (.iastore, 1) := by decide +kernel
theorem dX8_addStop_20 : decode cX8_addStop 20 = .ok (.aload_n 0, 1) := by decide +kernel
theorem dX8_addStop_21 : decode cX8_addStop 21 = .ok (.dup, 1) := by decide +kernel
theorem dX8_addStop_22 : decode cX8_addStop 22 = .ok (.getfield 63, 3) := by decide +kernel
theorem dX8_addStop_25 : decode cX8_addStop 25 = .ok (.iconst 1, 1) := by decide +kernel
theorem dX8_addStop_26 : decode cX8_addStop 26 = .ok (.iadd, 1) := by decide +kernel
theorem dX8_addStop_27 : decode cX8_addStop 27 = .ok (.putfield 63, 3) := by decide +kernel
theorem dX8_addStop_30 : decode cX8_addStop 30 = .ok (.return_, 1) := by decide +kernel
theorem dX8_addCode_0 : decode cX8_addCode 0 = .ok (.aload_n 0, 1) := by decide +kernel
theorem dX8_addCode_1 : decode cX8_addCode 1 = .ok (.getfield 69, 3) := by decide +kernel
theorem dX8_addCode_4 : decode cX8_addCode 4 = .ok (.aload_n 0, 1) := by decide +kernel
theorem dX8_addCode_5 : decode cX8_addCode 5 = .ok (.getfield 38, 3) := by decide +kernel
theorem dX8_addCode_8 : decode cX8_addCode 8 = .ok (.arraylength, 1) := by decide +kernel
theorem dX8_addCode_9 : decode cX8_addCode 9 = .ok (.if_icmp .ge 23, 3) := by decide +kernel
theorem dX8_addCode_12 : decode cX8_addCode 12 = .ok (.aload_n 0, 1) := by decide +kernel
theorem dX8_addCode_13 : decode cX8_addCode 13 = .ok (.getfield 38, 3) := by decide +kernel
theorem dX8_addCode_16 : decode cX8_addCode 16 = .ok (.aload_n 0, 1) := by decide +kernel
theorem dX8_addCode_17 : decode cX8_addCode 17 = .ok (.getfield 69, 3) := by decide +kernel
theorem dX8_addCode_20 : decode cX8_addCode 20 = .ok (.iload_n 1, 1) := by decide +kernel
theorem dX8_addCode_21 : decode cX8_addCode 21 = .ok (.iastore, 1) := by decide +kernel
theorem dX8_addCode_22 : decode cX8_addCode 22 = .ok (.aload_n 0, 1) := by decide +kernel
theorem dX8_addCode_23 : decode cX8_addCode 23 = .ok (.dup, 1) := by decide +kernel
theorem dX8_addCode_24 : decode cX8_addCode 24 = .ok (.getfield 69, 3) := by decide +kernel
theorem dX8_addCode_27 : decode cX8_addCode 27 = .ok (.iconst 1, 1) := by decide +kernel
theorem dX8_addCode_28 : decode cX8_addCode 28 = .ok (.iadd, 1) := by decide +kernel
theorem dX8_addCode_29 : decode cX8_addCode 29 = .ok (.putfield 69, 3) := by decide +kernel
theorem dX8_addCode_32 : decode cX8_addCode 32 = .ok (.return_, 1) := by decide +kernel
theorem dX8_endRight_0 : decode cX8_endRight 0 = .ok (.aload_n 0, 1) := by decide +kernel
theorem dX8_endRight_1 : decode cX8_endRight 1 = .ok (.getfield 66, 3) := by decide +kernel
theorem dX8_endRight_4 : decode cX8_endRight 4 = .ok (.bipush 8, 2) := by decide +kernel
theorem dX8_endRight_6 : decode cX8_endRight 6 = .ok (.if_icmp .ge 26, 3) := by decide +kernel
theorem dX8_endRight_9 : decode cX8_endRight 9 = .ok (.aload_n 0, 1) := by decide +kernel
theorem dX8_endRight_10 : decode cX8_endRight 10 = .ok (.getfield 33, 3) := by decide +kernel
theorem dX8_endRight_13 : decode cX8_endRight 13 = .ok (.aload_n 0, 1) := by decide +kernel
theorem dX8_endRight_14 : decode cX8_endRight 14 = .ok (.getfield 66, 3) := by decide +kernel
theorem dX8_endRight_17 : decode cX8_endRight 17 = .ok (.aload_n 0, 1) := by decide +kernel
theorem dX8_endRight_18 : decode cX8_endRight 18 = .ok (.getfield 69, 3) := by decide +kernel
theorem dX8_endRight_21 : decode cX8_endRight 21 = .ok (.iastore, 1) := by decide +kernel
theorem dX8_endRight_22 : decode cX8_endRight 22 = .ok (.aload_n 0, 1) := by decide +kernel
theorem dX8_endRight_23 : decode cX8_endRight 23 = .ok (.dup, 1) := by decide +kernel
theorem dX8_endRight_24 : decode cX8_endRight 24 = .ok (.getfield 66, 3) := by decide +kernel
theorem dX8_endRight_27 : decode cX8_endRight 27 = .ok (.iconst 1, 1) := by decide +kernel
theorem dX8_endRight_28 : decode cX8_endRight 28 = .ok (.iadd, 1) := by decide +kernel
theorem dX8_endRight_29 : decode cX8_endRight 29 = .ok (.putfield 66, 3) := by decide +kernel
theorem dX8_endRight_32 : decode cX8_endRight 32 = .ok (.return_, 1) := by decide +kernel
theorem dX8_firstRight_0 : decode cX8_firstRight 0 = .ok (.iconst 0, 1) := by decide +kernel
theorem dX8_firstRight_1 : decode cX8_firstRight 1 = .ok (.istore_n 2, 1) := by decide +kernel
theorem dX8_firstRight_2 : decode cX8_firstRight 2 = .ok (.iconst 0, 1) := by decide +kernel
theorem dX8_firstRight_3 : decode cX8_firstRight 3 = .ok (.istore_n 3, 1) := by decide +kernel
theorem dX8_firstRight_4 : decode cX8_firstRight 4 = .ok (.iload_n 3, 1) := by decide +kernel
theorem dX8_firstRight_5 : decode cX8_firstRight 5 = .ok (.aload_n 0, 1) := by decide +kernel
theorem dX8_firstRight_6 : decode cX8_firstRight 6 = .ok (.getfield 66, 3) := by decide +kernel
theorem dX8_firstRight_9 : decode cX8_firstRight 9 = .ok (.if_icmp .ge 33, 3) := by decide +kernel
theorem dX8_firstRight_12 : decode cX8_firstRight 12 = .ok (.aload_n 0, 1) := by decide +kernel
theorem dX8_firstRight_13 : decode cX8_firstRight 13 = .ok (.iload_n 2, 1) := by decide +kernel
theorem dX8_firstRight_14 : decode cX8_firstRight 14 = .ok (.aload_n 0, 1) := by decide +kernel
theorem dX8_firstRight_15 : decode cX8_firstRight 15 = .ok (.getfield 33, 3) := by decide +kernel
theorem dX8_firstRight_18 : decode cX8_firstRight 18 = .ok (.iload_n 3, 1) := by decide +kernel
theorem dX8_firstRight_19 : decode cX8_firstRight 19 = .ok (.iaload, 1) := by decide +kernel
theorem dX8_firstRight_20 : decode cX8_firstRight 20 = .ok (.aload_n 1, 1) := by decide +kernel
theorem dX8_firstRight_21 : decode cX8_firstRight 21 = .ok (.invokevirtual 78, 3) := by decide +kernel
theorem dX8_firstRight_24 : decode cX8_firstRight 24 = .ok (.ifCond .eq 5, 3) := by decide +kernel
theorem dX8_firstRight_27 : decode cX8_firstRight 27 = .ok (.iload_n 3, 1) := by decide +kernel
theorem dX8_firstRight_28 : decode cX8_firstRight 28 = .ok (.ireturn, 1) := by decide +kernel
theorem dX8_firstRight_29 : decode cX8_firstRight 29 = .ok (.aload_n 0, 1) := by decide +kernel
theorem dX8_firstRight_30 : decode cX8_firstRight 30 = .ok (.getfield 33, 3) := by decide +kernel
theorem dX8_firstRight_33 : decode cX8_firstRight 33 = .ok (.iload_n 3, 1) := by decide +kernel
theorem dX8_firstRight_34 : decode cX8_firstRight 34 = .ok (.iaload, 1) := by decide +kernel
theorem dX8_firstRight_35 : decode cX8_firstRight 35 = .ok (.istore_n 2, 1) := by decide +kernel
theorem dX8_firstRight_36 : decode cX8_firstRight 36 = .ok (.iinc 3 1, 3) := by decide +kernel
theorem dX8_firstRight_39 : decode cX8_firstRight 39 = .ok (.goto (-35), 3) := by decide +kernel
theorem dX8_firstRight_42 : decode cX8_firstRight 42 = .ok (.iconst (-1), 1) := by decide +kernel
theorem dX8_firstRight_43 : decode cX8_firstRight 43 = .ok (.ireturn, 1) := by decide +kernel
theorem dX8_holds_0 : decode cX8_holds 0 = .ok (.iconst 0, 1) := by decide +kernel
theorem dX8_holds_1 : decode cX8_holds 1 = .ok (.istore 4, 2) := by decide +kernel
theorem dX8_holds_3 : decode cX8_holds 3 = .ok (.iload_n 1, 1) := by decide +kernel
theorem dX8_holds_4 : decode cX8_holds 4 = .ok (.istore 5, 2) := by decide +kernel
theorem dX8_holds_6 : decode cX8_holds 6 = .ok (.iload 5, 2) := by decide +kernel
theorem dX8_holds_8 : decode cX8_holds 8 = .ok (.iload_n 2, 1) := by decide +kernel
theorem dX8_holds_9 : decode cX8_holds 9 = .ok (.if_icmp .ge 169, 3) := by decide +kernel
theorem dX8_holds_12 : decode cX8_holds 12 = .ok (.aload_n 0, 1) := by decide +kernel
theorem dX8_holds_13 : decode cX8_holds 13 = .ok (.getfield 38, 3) := by decide +kernel
theorem dX8_holds_16 : decode cX8_holds 16 = .ok (.iload 5, 2) := by decide +kernel
theorem dX8_holds_18 : decode cX8_holds 18 = .ok (.iaload, 1) := by decide +kernel
theorem dX8_holds_19 : decode cX8_holds 19 = .ok (.iconst (-1), 1) := by decide +kernel
theorem dX8_holds_20 : decode cX8_holds 20 = .ok (.ixor, 1) := by decide +kernel
theorem dX8_holds_21 : decode cX8_holds 21 = .ok (.istore 6, 2) := by decide +kernel
theorem dX8_holds_23 : decode cX8_holds 23 = .ok (.iload 6, 2) := by decide +kernel
theorem dX8_holds_25 : decode cX8_holds 25 = .ok (.bipush 17, 2) := by decide +kernel
theorem dX8_holds_27 : decode cX8_holds 27 = .ok (.if_icmp .lt 10, 3) := by decide +kernel
theorem dX8_holds_30 : decode cX8_holds 30 = .ok (.iload 6, 2) := by decide +kernel
theorem dX8_holds_32 : decode cX8_holds 32 = .ok (.bipush 21, 2) := by decide +kernel
theorem dX8_holds_34 : decode cX8_holds 34 = .ok (.if_icmp .le 13, 3) := by decide +kernel
theorem dX8_holds_37 : decode cX8_holds 37 = .ok (.aload_n 0, 1) := by decide +kernel
theorem dX8_holds_38 : decode cX8_holds 38 = .ok (.getfield 38, 3) := by decide +kernel
theorem dX8_holds_41 : decode cX8_holds 41 = .ok (.iload 5, 2) := by decide +kernel
theorem dX8_holds_43 : decode cX8_holds 43 = .ok (.iaload, 1) := by decide +kernel
theorem dX8_holds_44 : decode cX8_holds 44 = .ok (.ifCond .lt 53, 3) := by decide +kernel
theorem dX8_holds_47 : decode cX8_holds 47 = .ok (.iload 4, 2) := by decide +kernel
theorem dX8_holds_49 : decode cX8_holds 49 = .ok (.aload_n 0, 1) := by decide +kernel
theorem dX8_holds_50 : decode cX8_holds 50 = .ok (.getfield 47, 3) := by decide +kernel
theorem dX8_holds_53 : decode cX8_holds 53 = .ok (.arraylength, 1) := by decide +kernel
theorem dX8_holds_54 : decode cX8_holds 54 = .ok (.if_icmp .ge 118, 3) := by decide +kernel
theorem dX8_holds_57 : decode cX8_holds 57 = .ok (.aload_n 0, 1) := by decide +kernel
theorem dX8_holds_58 : decode cX8_holds 58 = .ok (.getfield 47, 3) := by decide +kernel
theorem dX8_holds_61 : decode cX8_holds 61 = .ok (.iload 4, 2) := by decide +kernel
theorem dX8_holds_63 : decode cX8_holds 63 = .ok (.aload_n 0, 1) := by decide +kernel
theorem dX8_holds_64 : decode cX8_holds 64 = .ok (.getfield 38, 3) := by decide +kernel
theorem dX8_holds_67 : decode cX8_holds 67 = .ok (.iload 5, 2) := by decide +kernel
theorem dX8_holds_69 : decode cX8_holds 69 = .ok (.iaload, 1) := by decide +kernel
theorem dX8_holds_70 : decode cX8_holds 70 = .ok (.ifCond .lt 13, 3) := by decide +kernel
theorem dX8_holds_73 : decode cX8_holds 73 = .ok (.aload_n 0, 1) := by decide +kernel
theorem dX8_holds_74 : decode cX8_holds 74 = .ok (.getfield 38, 3) := by decide +kernel
theorem dX8_holds_77 : decode cX8_holds 77 = .ok (.iload 5, 2) := by decide +kernel
theorem dX8_holds_79 : decode cX8_holds 79 = .ok (.iaload, 1) := by decide +kernel
theorem dX8_holds_80 : decode cX8_holds 80 = .ok (.goto 10, 3) := by decide +kernel
theorem dX8_holds_83 : decode cX8_holds 83 = .ok (.aload_n 3, 1) := by decide +kernel
theorem dX8_holds_84 : decode cX8_holds 84 = .ok (.iload 6, 2) := by decide +kernel
theorem dX8_holds_86 : decode cX8_holds 86 = .ok (.bipush 17, 2) := by decide +kernel
theorem dX8_holds_88 : decode cX8_holds 88 = .ok (.isub, 1) := by decide +kernel
theorem dX8_holds_89 : decode cX8_holds 89 = .ok (.iaload, 1) := by decide +kernel
theorem dX8_holds_90 : decode cX8_holds 90 = .ok (.iastore, 1) := by decide +kernel
theorem dX8_holds_91 : decode cX8_holds 91 = .ok (.iinc 4 1, 3) := by decide +kernel
theorem dX8_holds_94 : decode cX8_holds 94 = .ok (.goto 78, 3) := by decide +kernel
theorem dX8_holds_97 : decode cX8_holds 97 = .ok (.iload 6, 2) := by decide +kernel
theorem dX8_holds_99 : decode cX8_holds 99 = .ok (.bipush 16, 2) := by decide +kernel
theorem dX8_holds_101 : decode cX8_holds 101 = .ok (.if_icmp .ne 32, 3) := by decide +kernel
theorem dX8_holds_104 : decode cX8_holds 104 = .ok (.iload 4, 2) := by decide +kernel
theorem dX8_holds_106 : decode cX8_holds 106 = .ok (.iconst 1, 1) := by decide +kernel
theorem dX8_holds_107 : decode cX8_holds 107 = .ok (.if_icmp .lt 26, 3) := by decide +kernel
theorem dX8_holds_110 : decode cX8_holds 110 = .ok (.aload_n 0, 1) := by decide +kernel
theorem dX8_holds_111 : decode cX8_holds 111 = .ok (.getfield 47, 3) := by decide +kernel
theorem dX8_holds_114 : decode cX8_holds 114 = .ok (.iload 4, 2) := by decide +kernel
theorem dX8_holds_116 : decode cX8_holds 116 = .ok (.iconst 1, 1) := by decide +kernel
theorem dX8_holds_117 : decode cX8_holds 117 = .ok (.isub, 1) := by decide +kernel
theorem dX8_holds_118 : decode cX8_holds 118 = .ok (.iconst 1, 1) := by decide +kernel
theorem dX8_holds_119 : decode cX8_holds 119 = .ok (.aload_n 0, 1) := by decide +kernel
theorem dX8_holds_120 : decode cX8_holds 120 = .ok (.getfield 47, 3) := by decide +kernel
theorem dX8_holds_123 : decode cX8_holds 123 = .ok (.iload 4, 2) := by decide +kernel
theorem dX8_holds_125 : decode cX8_holds 125 = .ok (.iconst 1, 1) := by decide +kernel
theorem dX8_holds_126 : decode cX8_holds 126 = .ok (.isub, 1) := by decide +kernel
theorem dX8_holds_127 : decode cX8_holds 127 = .ok (.iaload, 1) := by decide +kernel
theorem dX8_holds_128 : decode cX8_holds 128 = .ok (.isub, 1) := by decide +kernel
theorem dX8_holds_129 : decode cX8_holds 129 = .ok (.iastore, 1) := by decide +kernel
theorem dX8_holds_130 : decode cX8_holds 130 = .ok (.goto 42, 3) := by decide +kernel
theorem dX8_holds_133 : decode cX8_holds 133 = .ok (.iload 4, 2) := by decide +kernel
theorem dX8_holds_135 : decode cX8_holds 135 = .ok (.iconst 2, 1) := by decide +kernel
theorem dX8_holds_136 : decode cX8_holds 136 = .ok (.if_icmp .lt 36, 3) := by decide +kernel
theorem dX8_holds_139 : decode cX8_holds 139 = .ok (.iinc 4 (-1), 3) := by decide +kernel
theorem dX8_holds_142 : decode cX8_holds 142 = .ok (.aload_n 0, 1) := by decide +kernel
theorem dX8_holds_143 : decode cX8_holds 143 = .ok (.getfield 47, 3) := by decide +kernel
theorem dX8_holds_146 : decode cX8_holds 146 = .ok (.iload 4, 2) := by decide +kernel
theorem dX8_holds_148 : decode cX8_holds 148 = .ok (.iconst 1, 1) := by decide +kernel
theorem dX8_holds_149 : decode cX8_holds 149 = .ok (.isub, 1) := by decide +kernel
theorem dX8_holds_150 : decode cX8_holds 150 = .ok (.iload 6, 2) := by decide +kernel
theorem dX8_holds_152 : decode cX8_holds 152 = .ok (.aload_n 0, 1) := by decide +kernel
theorem dX8_holds_153 : decode cX8_holds 153 = .ok (.getfield 47, 3) := by decide +kernel
theorem dX8_holds_156 : decode cX8_holds 156 = .ok (.iload 4, 2) := by decide +kernel
theorem dX8_holds_158 : decode cX8_holds 158 = .ok (.iconst 1, 1) := by decide +kernel
theorem dX8_holds_159 : decode cX8_holds 159 = .ok (.isub, 1) := by decide +kernel
theorem dX8_holds_160 : decode cX8_holds 160 = .ok (.iaload, 1) := by decide +kernel
theorem dX8_holds_161 : decode cX8_holds 161 = .ok (.aload_n 0, 1) := by decide +kernel
theorem dX8_holds_162 : decode cX8_holds 162 = .ok (.getfield 47, 3) := by decide +kernel
theorem dX8_holds_165 : decode cX8_holds 165 = .ok (.iload 4, 2) := by decide +kernel
theorem dX8_holds_167 : decode cX8_holds 167 = .ok (.iaload, 1) := by decide +kernel
theorem dX8_holds_168 : decode cX8_holds 168 = .ok (.invokestatic 82, 3) := by decide +kernel
theorem dX8_holds_171 : decode cX8_holds 171 = .ok (.iastore, 1) := by decide +kernel
theorem dX8_holds_172 : decode cX8_holds 172 = .ok (.iinc 5 1, 3) := by decide +kernel
theorem dX8_holds_175 : decode cX8_holds 175 = .ok (.goto (-169), 3) := by decide +kernel
theorem dX8_holds_178 : decode cX8_holds 178 = .ok (.iload 4, 2) := by decide +kernel
theorem dX8_holds_180 : decode cX8_holds 180 = .ok (.ifCond .le 16, 3) := by decide +kernel
theorem dX8_holds_183 : decode cX8_holds 183 = .ok (.aload_n 0, 1) := by decide +kernel
theorem dX8_holds_184 : decode cX8_holds 184 = .ok (.getfield 47, 3) := by decide +kernel
theorem dX8_holds_187 : decode cX8_holds 187 = .ok (.iconst 0, 1) := by decide +kernel
theorem dX8_holds_188 : decode cX8_holds 188 = .ok (.iaload, 1) := by decide +kernel
theorem dX8_holds_189 : decode cX8_holds 189 = .ok (.ifCond .eq 7, 3) := by decide +kernel
theorem dX8_holds_192 : decode cX8_holds 192 = .ok (.iconst 1, 1) := by decide +kernel
theorem dX8_holds_193 : decode cX8_holds 193 = .ok (.goto 4, 3) := by decide +kernel
theorem dX8_holds_196 : decode cX8_holds 196 = .ok (.iconst 0, 1) := by decide +kernel
theorem dX8_holds_197 : decode cX8_holds 197 = .ok (.ireturn, 1) := by decide +kernel
theorem dX8_combine_0 : decode cX8_combine 0 = .ok (.iload_n 0, 1) := by decide +kernel
theorem dX8_combine_1 : decode cX8_combine 1 = .ok (.tableswitch 143 15 31 #[139, 143, 143, 143, 143, 143, 143, 143, 143, 143, 83, 87, 91, 95, 106, 117, 128], 83) := by decide +kernel
theorem dX8_combine_84 : decode cX8_combine 84 = .ok (.iload_n 1, 1) := by decide +kernel
theorem dX8_combine_85 : decode cX8_combine 85 = .ok (.iload_n 2, 1) := by decide +kernel
theorem dX8_combine_86 : decode cX8_combine 86 = .ok (.iadd, 1) := by decide +kernel
theorem dX8_combine_87 : decode cX8_combine 87 = .ok (.ireturn, 1) := by decide +kernel
theorem dX8_combine_88 : decode cX8_combine 88 = .ok (.iload_n 1, 1) := by decide +kernel
theorem dX8_combine_89 : decode cX8_combine 89 = .ok (.iload_n 2, 1) := by decide +kernel
theorem dX8_combine_90 : decode cX8_combine 90 = .ok (.isub, 1) := by decide +kernel
theorem dX8_combine_91 : decode cX8_combine 91 = .ok (.ireturn, 1) := by decide +kernel
theorem dX8_combine_92 : decode cX8_combine 92 = .ok (.iload_n 1, 1) := by decide +kernel
theorem dX8_combine_93 : decode cX8_combine 93 = .ok (.iload_n 2, 1) := by decide +kernel
theorem dX8_combine_94 : decode cX8_combine 94 = .ok (.imul, 1) := by decide +kernel
theorem dX8_combine_95 : decode cX8_combine 95 = .ok (.ireturn, 1) := by decide +kernel
theorem dX8_combine_96 : decode cX8_combine 96 = .ok (.iload_n 1, 1) := by decide +kernel
theorem dX8_combine_97 : decode cX8_combine 97 = .ok (.iload_n 2, 1) := by decide +kernel
theorem dX8_combine_98 : decode cX8_combine 98 = .ok (.if_icmp .ne 7, 3) := by decide +kernel
theorem dX8_combine_101 : decode cX8_combine 101 = .ok (.iconst 1, 1) := by decide +kernel
theorem dX8_combine_102 : decode cX8_combine 102 = .ok (.goto 4, 3) := by decide +kernel
theorem dX8_combine_105 : decode cX8_combine 105 = .ok (.iconst 0, 1) := by decide +kernel
theorem dX8_combine_106 : decode cX8_combine 106 = .ok (.ireturn, 1) := by decide +kernel
theorem dX8_combine_107 : decode cX8_combine 107 = .ok (.iload_n 1, 1) := by decide +kernel
theorem dX8_combine_108 : decode cX8_combine 108 = .ok (.iload_n 2, 1) := by decide +kernel
theorem dX8_combine_109 : decode cX8_combine 109 = .ok (.if_icmp .eq 7, 3) := by decide +kernel
theorem dX8_combine_112 : decode cX8_combine 112 = .ok (.iconst 1, 1) := by decide +kernel
theorem dX8_combine_113 : decode cX8_combine 113 = .ok (.goto 4, 3) := by decide +kernel
theorem dX8_combine_116 : decode cX8_combine 116 = .ok (.iconst 0, 1) := by decide +kernel
theorem dX8_combine_117 : decode cX8_combine 117 = .ok (.ireturn, 1) := by decide +kernel
theorem dX8_combine_118 : decode cX8_combine 118 = .ok (.iload_n 1, 1) := by decide +kernel
theorem dX8_combine_119 : decode cX8_combine 119 = .ok (.iload_n 2, 1) := by decide +kernel
theorem dX8_combine_120 : decode cX8_combine 120 = .ok (.if_icmp .ge 7, 3) := by decide +kernel
theorem dX8_combine_123 : decode cX8_combine 123 = .ok (.iconst 1, 1) := by decide +kernel
theorem dX8_combine_124 : decode cX8_combine 124 = .ok (.goto 4, 3) := by decide +kernel
theorem dX8_combine_127 : decode cX8_combine 127 = .ok (.iconst 0, 1) := by decide +kernel
theorem dX8_combine_128 : decode cX8_combine 128 = .ok (.ireturn, 1) := by decide +kernel
theorem dX8_combine_129 : decode cX8_combine 129 = .ok (.iload_n 1, 1) := by decide +kernel
theorem dX8_combine_130 : decode cX8_combine 130 = .ok (.iload_n 2, 1) := by decide +kernel
theorem dX8_combine_131 : decode cX8_combine 131 = .ok (.if_icmp .gt 7, 3) := by decide +kernel
theorem dX8_combine_134 : decode cX8_combine 134 = .ok (.iconst 1, 1) := by decide +kernel
theorem dX8_combine_135 : decode cX8_combine 135 = .ok (.goto 4, 3) := by decide +kernel
theorem dX8_combine_138 : decode cX8_combine 138 = .ok (.iconst 0, 1) := by decide +kernel
theorem dX8_combine_139 : decode cX8_combine 139 = .ok (.ireturn, 1) := by decide +kernel
theorem dX8_combine_140 : decode cX8_combine 140 = .ok (.iload_n 1, 1) := by decide +kernel
theorem dX8_combine_141 : decode cX8_combine 141 = .ok (.iload_n 2, 1) := by decide +kernel
theorem dX8_combine_142 : decode cX8_combine 142 = .ok (.iand, 1) := by decide +kernel
theorem dX8_combine_143 : decode cX8_combine 143 = .ok (.ireturn, 1) := by decide +kernel
theorem dX8_combine_144 : decode cX8_combine 144 = .ok (.iload_n 1, 1) := by decide +kernel
theorem dX8_combine_145 : decode cX8_combine 145 = .ok (.iload_n 2, 1) := by decide +kernel
theorem dX8_combine_146 : decode cX8_combine 146 = .ok (.ior, 1) := by decide +kernel
theorem dX8_combine_147 : decode cX8_combine 147 = .ok (.ireturn, 1) := by decide +kernel
theorem dX9_init_0 : decode cX9_init 0 = .ok (.aload_n 0, 1) := by decide +kernel
theorem dX9_init_1 : decode cX9_init 1 = .ok (.invokespecial 3, 3) := by decide +kernel
theorem dX9_init_4 : decode cX9_init 4 = .ok (.aload_n 0, 1) := by decide +kernel
theorem dX9_init_5 : decode cX9_init 5 = .ok (.iconst 3, 1) := by decide +kernel
theorem dX9_init_6 : decode cX9_init 6 = .ok (.anewarray 9, 3) := by decide +kernel
theorem dX9_init_9 : decode cX9_init 9 = .ok (.putfield 11, 3) := by decide +kernel
theorem dX9_init_12 : decode cX9_init 12 = .ok (.aload_n 0, 1) := by decide +kernel
theorem dX9_init_13 : decode cX9_init 13 = .ok (.new 17, 3) := by decide +kernel
theorem dX9_init_16 : decode cX9_init 16 = .ok (.dup, 1) := by decide +kernel
theorem dX9_init_17 : decode cX9_init 17 = .ok (.invokespecial 19, 3) := by decide +kernel
theorem dX9_init_20 : decode cX9_init 20 = .ok (.putfield 20, 3) := by decide +kernel
theorem dX9_init_23 : decode cX9_init 23 = .ok (.aload_n 0, 1) := by decide +kernel
theorem dX9_init_24 : decode cX9_init 24 = .ok (.bipush 20, 2) := by decide +kernel
theorem dX9_init_26 : decode cX9_init 26 = .ok (.newarray .int, 2) := by decide +kernel
theorem dX9_init_28 : decode cX9_init 28 = .ok (.putfield 24, 3) := by decide +kernel
theorem dX9_init_31 : decode cX9_init 31 = .ok (.aload_n 0, 1) := by decide +kernel
theorem dX9_init_32 : decode cX9_init 32 = .ok (.bipush 20, 2) := by decide +kernel
theorem dX9_init_34 : decode cX9_init 34 = .ok (.newarray .int, 2) := by decide +kernel
theorem dX9_init_36 : decode cX9_init 36 = .ok (.putfield 28, 3) := by decide +kernel
theorem dX9_init_39 : decode cX9_init 39 = .ok (.aload_n 0, 1) := by decide +kernel
theorem dX9_init_40 : decode cX9_init 40 = .ok (.iconst 3, 1) := by decide +kernel
theorem dX9_init_41 : decode cX9_init 41 = .ok (.newarray .int, 2) := by decide +kernel
theorem dX9_init_43 : decode cX9_init 43 = .ok (.putfield 31, 3) := by decide +kernel
theorem dX9_init_46 : decode cX9_init 46 = .ok (.aload_n 0, 1) := by decide +kernel
theorem dX9_init_47 : decode cX9_init 47 = .ok (.iconst 3, 1) := by decide +kernel
theorem dX9_init_48 : decode cX9_init 48 = .ok (.newarray .int, 2) := by decide +kernel
theorem dX9_init_50 : decode cX9_init 50 = .ok (.putfield 34, 3) := by decide +kernel
theorem dX9_init_53 : decode cX9_init 53 = .ok (.aload_n 0, 1) := by decide +kernel
theorem dX9_init_54 : decode cX9_init 54 = .ok (.sipush 432, 3) := by decide +kernel
theorem dX9_init_57 : decode cX9_init 57 = .ok (.newarray .int, 2) := by decide +kernel
theorem dX9_init_59 : decode cX9_init 59 = .ok (.putfield 37, 3) := by decide +kernel
theorem dX9_init_62 : decode cX9_init 62 = .ok (.aload_n 0, 1) := by decide +kernel
theorem dX9_init_63 : decode cX9_init 63 = .ok (.iconst 5, 1) := by decide +kernel
theorem dX9_init_64 : decode cX9_init 64 = .ok (.newarray .int, 2) := by decide +kernel
theorem dX9_init_66 : decode cX9_init 66 = .ok (.putfield 40, 3) := by decide +kernel
theorem dX9_init_69 : decode cX9_init 69 = .ok (.iconst 0, 1) := by decide +kernel
theorem dX9_init_70 : decode cX9_init 70 = .ok (.istore_n 1, 1) := by decide +kernel
theorem dX9_init_71 : decode cX9_init 71 = .ok (.iload_n 1, 1) := by decide +kernel
theorem dX9_init_72 : decode cX9_init 72 = .ok (.aload_n 0, 1) := by decide +kernel
theorem dX9_init_73 : decode cX9_init 73 = .ok (.getfield 11, 3) := by decide +kernel
theorem dX9_init_76 : decode cX9_init 76 = .ok (.arraylength, 1) := by decide +kernel
theorem dX9_init_77 : decode cX9_init 77 = .ok (.if_icmp .ge 22, 3) := by decide +kernel
theorem dX9_init_80 : decode cX9_init 80 = .ok (.aload_n 0, 1) := by decide +kernel
theorem dX9_init_81 : decode cX9_init 81 = .ok (.getfield 11, 3) := by decide +kernel
theorem dX9_init_84 : decode cX9_init 84 = .ok (.iload_n 1, 1) := by decide +kernel
theorem dX9_init_85 : decode cX9_init 85 = .ok (.new 9, 3) := by decide +kernel
theorem dX9_init_88 : decode cX9_init 88 = .ok (.dup, 1) := by decide +kernel
theorem dX9_init_89 : decode cX9_init 89 = .ok (.invokespecial 43, 3) := by decide +kernel
theorem dX9_init_92 : decode cX9_init 92 = .ok (.aastore, 1) := by decide +kernel
theorem dX9_init_93 : decode cX9_init 93 = .ok (.iinc 1 1, 3) := by decide +kernel
theorem dX9_init_96 : decode cX9_init 96 = .ok (.goto (-25), 3) := by decide +kernel
theorem dX9_init_99 : decode cX9_init 99 = .ok (.aload_n 0, 1) := by decide +kernel
theorem dX9_init_100 : decode cX9_init 100 = .ok (.aload_n 0, 1) := by decide +kernel
theorem dX9_init_101 : decode cX9_init 101 = .ok (.getfield 11, 3) := by decide +kernel
theorem dX9_init_104 : decode cX9_init 104 = .ok (.iconst 0, 1) := by decide +kernel
theorem dX9_init_105 : decode cX9_init 105 = .ok (.aaload, 1) := by decide +kernel
theorem dX9_init_106 : decode cX9_init 106 = .ok (.putfield 44, 3) := by decide +kernel
theorem dX9_init_109 : decode cX9_init 109 = .ok (.aload_n 0, 1) := by decide +kernel
theorem dX9_init_110 : decode cX9_init 110 = .ok (.iconst (-1), 1) := by decide +kernel
theorem dX9_init_111 : decode cX9_init 111 = .ok (.putfield 48, 3) := by decide +kernel
theorem dX9_init_114 : decode cX9_init 114 = .ok (.return_, 1) := by decide +kernel
theorem dX9_turn_0 : decode cX9_turn 0 = .ok (.iload_n 1, 1) := by decide +kernel
theorem dX9_turn_1 : decode cX9_turn 1 = .ok (.aload_n 0, 1) := by decide +kernel
theorem dX9_turn_2 : decode cX9_turn 2 = .ok (.getfield 11, 3) := by decide +kernel
theorem dX9_turn_5 : decode cX9_turn 5 = .ok (.arraylength, 1) := by decide +kernel
theorem dX9_turn_6 : decode cX9_turn 6 = .ok (.invokestatic 52, 3) := by decide +kernel
theorem dX9_turn_9 : decode cX9_turn 9 = .ok (.ifCond .eq 27, 3) := by decide +kernel
theorem dX9_turn_12 : decode cX9_turn 12 = .ok (.iload_n 1, 1) := by decide +kernel
theorem dX9_turn_13 : decode cX9_turn 13 = .ok (.aload_n 0, 1) := by decide +kernel
theorem dX9_turn_14 : decode cX9_turn 14 = .ok (.getfield 48, 3) := by decide +kernel
theorem dX9_turn_17 : decode cX9_turn 17 = .ok (.if_icmp .ne 20, 3) := by decide +kernel
theorem dX9_turn_20 : decode cX9_turn 20 = .ok (.iload_n 2, 1) := by decide +kernel
theorem dX9_turn_21 : decode cX9_turn 21 = .ok (.aload_n 0, 1) := by decide +kernel
theorem dX9_turn_22 : decode cX9_turn 22 = .ok (.getfield 56, 3) := by decide +kernel
theorem dX9_turn_25 : decode cX9_turn 25 = .ok (.if_icmp .ne 12, 3) := by decide +kernel
theorem dX9_turn_28 : decode cX9_turn 28 = .ok (.iload_n 3, 1) := by decide +kernel
theorem dX9_turn_29 : decode cX9_turn 29 = .ok (.aload_n 0, 1) := by decide +kernel
theorem dX9_turn_30 : decode cX9_turn 30 = .ok (.getfield 59, 3) := by decide +kernel
theorem dX9_turn_33 : decode cX9_turn 33 = .ok (.if_icmp .ne 4, 3) := by decide +kernel
theorem dX9_turn_36 : decode cX9_turn 36 = .ok (.return_, 1) := by decide +kernel
theorem dX9_turn_37 : decode cX9_turn 37 = .ok (.aload_n 0, 1) := by decide +kernel
theorem dX9_turn_38 : decode cX9_turn 38 = .ok (.aload_n 0, 1) := by decide +kernel
theorem dX9_turn_39 : decode cX9_turn 39 = .ok (.getfield 11, 3) := by decide +kernel
theorem dX9_turn_42 : decode cX9_turn 42 = .ok (.iload_n 1, 1) := by decide +kernel
theorem dX9_turn_43 : decode cX9_turn 43 = .ok (.aaload, 1) := by decide +kernel
theorem dX9_turn_44 : decode cX9_turn 44 = .ok (.putfield 44, 3) := by decide +kernel
theorem dX9_turn_47 : decode cX9_turn 47 = .ok (.aload_n 0, 1) := by decide +kernel
theorem dX9_turn_48 : decode cX9_turn 48 = .ok (.iload_n 1, 1) := by decide +kernel
theorem dX9_turn_49 : decode cX9_turn 49 = .ok (.putfield 48, 3) := by decide +kernel
theorem dX9_turn_52 : decode cX9_turn 52 = .ok (.aload_n 0, 1) := by decide +kernel
theorem dX9_turn_53 : decode cX9_turn 53 = .ok (.iload_n 2, 1) := by decide +kernel
theorem dX9_turn_54 : decode cX9_turn 54 = .ok (.putfield 56, 3) := by decide +kernel
theorem dX9_turn_57 : decode cX9_turn 57 = .ok (.aload_n 0, 1) := by decide +kernel
theorem dX9_turn_58 : decode cX9_turn 58 = .ok (.iload_n 3, 1) := by decide +kernel
theorem dX9_turn_59 : decode cX9_turn 59 = .ok (.putfield 59, 3) := by decide +kernel
theorem dX9_turn_62 : decode cX9_turn 62 = .ok (.aload_n 0, 1) := by decide +kernel
theorem dX9_turn_63 : decode cX9_turn 63 = .ok (.dup, 1) := by decide +kernel
theorem dX9_turn_64 : decode cX9_turn 64 = .ok (.getfield 62, 3) := by decide +kernel
theorem dX9_turn_67 : decode cX9_turn 67 = .ok (.iconst 1, 1) := by decide +kernel
theorem dX9_turn_68 : decode cX9_turn 68 = .ok (.iadd, 1) := by decide +kernel
theorem dX9_turn_69 : decode cX9_turn 69 = .ok (.putfield 62, 3) := by decide +kernel
theorem dX9_turn_72 : decode cX9_turn 72 = .ok (.aload_n 0, 1) := by decide +kernel
theorem dX9_turn_73 : decode cX9_turn 73 = .ok (.aload_n 0, 1) := by decide +kernel
theorem dX9_turn_74 : decode cX9_turn 74 = .ok (.getfield 20, 3) := by decide +kernel
theorem dX9_turn_77 : decode cX9_turn 77 = .ok (.aload_n 0, 1) := by decide +kernel
theorem dX9_turn_78 : decode cX9_turn 78 = .ok (.getfield 59, 3) := by decide +kernel
theorem dX9_turn_81 : decode cX9_turn 81 = .ok (.invokevirtual 65, 3) := by decide +kernel
theorem dX9_turn_84 : decode cX9_turn 84 = .ok (.putfield 69, 3) := by decide +kernel
theorem dX9_turn_87 : decode cX9_turn 87 = .ok (.aload_n 0, 1) := by decide +kernel
theorem dX9_turn_88 : decode cX9_turn 88 = .ok (.iconst 0, 1) := by decide +kernel
theorem dX9_turn_89 : decode cX9_turn 89 = .ok (.putfield 71, 3) := by decide +kernel
theorem dX9_turn_92 : decode cX9_turn 92 = .ok (.aload_n 0, 1) := by decide +kernel
theorem dX9_turn_93 : decode cX9_turn 93 = .ok (.getfield 34, 3) := by decide +kernel
theorem dX9_turn_96 : decode cX9_turn 96 = .ok (.iconst 0, 1) := by decide +kernel
theorem dX9_turn_97 : decode cX9_turn 97 = .ok (.invokestatic 74, 3) := by decide +kernel
theorem dX9_turn_100 : decode cX9_turn 100 = .ok (.aload_n 0, 1) := by decide +kernel
theorem dX9_turn_101 : decode cX9_turn 101 = .ok (.invokevirtual 80, 3) := by decide +kernel
theorem dX9_turn_104 : decode cX9_turn 104 = .ok (.return_, 1) := by decide +kernel
theorem dX9_findUsableWays_0 : decode cX9_findUsableWays 0 = .ok (.iconst 1, 1) := by decide +kernel
theorem dX9_findUsableWays_1 : decode cX9_findUsableWays 1 = .ok (.aload_n 0, 1) := by decide +kernel
theorem dX9_findUsableWays_2 : decode cX9_findUsableWays 2 = .ok (.getfield 44, 3) := by decide +kernel
theorem dX9_findUsableWays_5 : decode cX9_findUsableWays 5 = .ok (.getfield 83, 3) := by decide +kernel
theorem dX9_findUsableWays_8 : decode cX9_findUsableWays 8 = .ok (.ishl, 1) := by decide +kernel
theorem dX9_findUsableWays_9 : decode cX9_findUsableWays 9 = .ok (.iconst 1, 1) := by decide +kernel
theorem dX9_findUsableWays_10 : decode cX9_findUsableWays 10 = .ok (.isub, 1) := by decide +kernel
theorem dX9_findUsableWays_11 : decode cX9_findUsableWays 11 = .ok (.istore_n 1, 1) := by decide +kernel
theorem dX9_findUsableWays_12 : decode cX9_findUsableWays 12 = .ok (.iconst 0, 1) := by decide +kernel
theorem dX9_findUsableWays_13 : decode cX9_findUsableWays 13 = .ok (.istore_n 2, 1) := by decide +kernel
theorem dX9_findUsableWays_14 : decode cX9_findUsableWays 14 = .ok (.iload_n 2, 1) := by decide +kernel
theorem dX9_findUsableWays_15 : decode cX9_findUsableWays 15 = .ok (.aload_n 0, 1) := by decide +kernel
theorem dX9_findUsableWays_16 : decode cX9_findUsableWays 16 = .ok (.getfield 59, 3) := by decide +kernel
theorem dX9_findUsableWays_19 : decode cX9_findUsableWays 19 = .ok (.if_icmp .ge 73, 3) := by decide +kernel
theorem dX9_findUsableWays_22 : decode cX9_findUsableWays 22 = .ok (.aload_n 0, 1) := by decide +kernel
theorem dX9_findUsableWays_23 : decode cX9_findUsableWays 23 = .ok (.getfield 20, 3) := by decide +kernel
theorem dX9_findUsableWays_26 : decode cX9_findUsableWays 26 = .ok (.iload_n 2, 1) := by decide +kernel
theorem dX9_findUsableWays_27 : decode cX9_findUsableWays 27 = .ok (.iconst 3, 1) := by decide +kernel
theorem dX9_findUsableWays_28 : decode cX9_findUsableWays 28 = .ok (.aload_n 0, 1) := by decide +kernel
theorem dX9_findUsableWays_29 : decode cX9_findUsableWays 29 = .ok (.getfield 59, 3) := by decide +kernel
theorem dX9_findUsableWays_32 : decode cX9_findUsableWays 32 = .ok (.invokevirtual 86, 3) := by decide +kernel
theorem dX9_findUsableWays_35 : decode cX9_findUsableWays 35 = .ok (.ifCond .eq 51, 3) := by decide +kernel
theorem dX9_findUsableWays_38 : decode cX9_findUsableWays 38 = .ok (.aload_n 0, 1) := by decide +kernel
theorem dX9_findUsableWays_39 : decode cX9_findUsableWays 39 = .ok (.getfield 20, 3) := by decide +kernel
theorem dX9_findUsableWays_42 : decode cX9_findUsableWays 42 = .ok (.getfield 90, 3) := by decide +kernel
theorem dX9_findUsableWays_45 : decode cX9_findUsableWays 45 = .ok (.iload_n 2, 1) := by decide +kernel
theorem dX9_findUsableWays_46 : decode cX9_findUsableWays 46 = .ok (.iaload, 1) := by decide +kernel
theorem dX9_findUsableWays_47 : decode cX9_findUsableWays 47 = .ok (.aload_n 0, 1) := by decide +kernel
theorem dX9_findUsableWays_48 : decode cX9_findUsableWays 48 = .ok (.getfield 56, 3) := by decide +kernel
theorem dX9_findUsableWays_51 : decode cX9_findUsableWays 51 = .ok (.if_icmp .gt 35, 3) := by decide +kernel
theorem dX9_findUsableWays_54 : decode cX9_findUsableWays 54 = .ok (.aload_n 0, 1) := by decide +kernel
theorem dX9_findUsableWays_55 : decode cX9_findUsableWays 55 = .ok (.getfield 56, 3) := by decide +kernel
theorem dX9_findUsableWays_58 : decode cX9_findUsableWays 58 = .ok (.aload_n 0, 1) := by decide +kernel
theorem dX9_findUsableWays_59 : decode cX9_findUsableWays 59 = .ok (.getfield 20, 3) := by decide +kernel
theorem dX9_findUsableWays_62 : decode cX9_findUsableWays 62 = .ok (.getfield 93, 3) := by decide +kernel
theorem dX9_findUsableWays_65 : decode cX9_findUsableWays 65 = .ok (.iload_n 2, 1) := by decide +kernel
theorem dX9_findUsableWays_66 : decode cX9_findUsableWays 66 = .ok (.iaload, 1) := by decide +kernel
theorem dX9_findUsableWays_67 : decode cX9_findUsableWays 67 = .ok (.if_icmp .gt 19, 3) := by decide +kernel
theorem dX9_findUsableWays_70 : decode cX9_findUsableWays 70 = .ok (.iload_n 1, 1) := by decide +kernel
theorem dX9_findUsableWays_71 : decode cX9_findUsableWays 71 = .ok (.iconst 1, 1) := by decide +kernel
theorem dX9_findUsableWays_72 : decode cX9_findUsableWays 72 = .ok (.aload_n 0, 1) := by decide +kernel
theorem dX9_findUsableWays_73 : decode cX9_findUsableWays 73 = .ok (.getfield 20, 3) := by decide +kernel
theorem dX9_findUsableWays_76 : decode cX9_findUsableWays 76 = .ok (.getfield 96, 3) := by decide +kernel
theorem dX9_findUsableWays_79 : decode cX9_findUsableWays 79 = .ok (.iload_n 2, 1) := by decide +kernel
theorem dX9_findUsableWays_80 : decode cX9_findUsableWays 80 = .ok (.iaload, 1) := by decide +kernel
theorem dX9_findUsableWays_81 : decode cX9_findUsableWays 81 = .ok (.ishl, 1) := by decide +kernel
theorem dX9_findUsableWays_82 : decode cX9_findUsableWays 82 = .ok (.iconst (-1), 1) := by decide +kernel
theorem dX9_findUsableWays_83 : decode cX9_findUsableWays 83 = .ok (.ixor, 1) := by decide +kernel
theorem dX9_findUsableWays_84 : decode cX9_findUsableWays 84 = .ok (.iand, 1) := by decide +kernel
theorem dX9_findUsableWays_85 : decode cX9_findUsableWays 85 = .ok (.istore_n 1, 1) := by decide +kernel
theorem dX9_findUsableWays_86 : decode cX9_findUsableWays 86 = .ok (.iinc 2 1, 3) := by decide +kernel
theorem dX9_findUsableWays_89 : decode cX9_findUsableWays 89 = .ok (.goto (-75), 3) := by decide +kernel
theorem dX9_findUsableWays_92 : decode cX9_findUsableWays 92 = .ok (.aload_n 0, 1) := by decide +kernel
theorem dX9_findUsableWays_93 : decode cX9_findUsableWays 93 = .ok (.getfield 31, 3) := by decide +kernel
theorem dX9_findUsableWays_96 : decode cX9_findUsableWays 96 = .ok (.iconst 0, 1) := by decide +kernel
theorem dX9_findUsableWays_97 : decode cX9_findUsableWays 97 = .ok (.iload_n 1, 1) := by decide +kernel
theorem dX9_findUsableWays_98 : decode cX9_findUsableWays 98 = .ok (.iastore, 1) := by decide +kernel
theorem dX9_findUsableWays_99 : decode cX9_findUsableWays 99 = .ok (.aload_n 0, 1) := by decide +kernel
theorem dX9_findUsableWays_100 : decode cX9_findUsableWays 100 = .ok (.getfield 31, 3) := by decide +kernel
theorem dX9_findUsableWays_103 : decode cX9_findUsableWays 103 = .ok (.iconst 1, 1) := by decide +kernel
theorem dX9_findUsableWays_104 : decode cX9_findUsableWays 104 = .ok (.iload_n 1, 1) := by decide +kernel
theorem dX9_findUsableWays_105 : decode cX9_findUsableWays 105 = .ok (.aload_n 0, 1) := by decide +kernel
theorem dX9_findUsableWays_106 : decode cX9_findUsableWays 106 = .ok (.getfield 44, 3) := by decide +kernel
theorem dX9_findUsableWays_109 : decode cX9_findUsableWays 109 = .ok (.getfield 99, 3) := by decide +kernel
theorem dX9_findUsableWays_112 : decode cX9_findUsableWays 112 = .ok (.iconst (-1), 1) := by decide +kernel
theorem dX9_findUsableWays_113 : decode cX9_findUsableWays 113 = .ok (.ixor, 1) := by decide +kernel
theorem dX9_findUsableWays_114 : decode cX9_findUsableWays 114 = .ok (.iand, 1) := by decide +kernel
theorem dX9_findUsableWays_115 : decode cX9_findUsableWays 115 = .ok (.iastore, 1) := by decide +kernel
theorem dX9_findUsableWays_116 : decode cX9_findUsableWays 116 = .ok (.aload_n 0, 1) := by decide +kernel
theorem dX9_findUsableWays_117 : decode cX9_findUsableWays 117 = .ok (.getfield 31, 3) := by decide +kernel
theorem dX9_findUsableWays_120 : decode cX9_findUsableWays 120 = .ok (.iconst 2, 1) := by decide +kernel
theorem dX9_findUsableWays_121 : decode cX9_findUsableWays 121 = .ok (.iload_n 1, 1) := by decide +kernel
theorem dX9_findUsableWays_122 : decode cX9_findUsableWays 122 = .ok (.iastore, 1) := by decide +kernel
theorem dX9_findUsableWays_123 : decode cX9_findUsableWays 123 = .ok (.return_, 1) := by decide +kernel
theorem dX9_sumOf_0 : decode cX9_sumOf 0 = .ok (.iload_n 2, 1) := by decide +kernel
theorem dX9_sumOf_1 : decode cX9_sumOf 1 = .ok (.aload_n 0, 1) := by decide +kernel
theorem dX9_sumOf_2 : decode cX9_sumOf 2 = .ok (.getfield 44, 3) := by decide +kernel
theorem dX9_sumOf_5 : decode cX9_sumOf 5 = .ok (.getfield 102, 3) := by decide +kernel
theorem dX9_sumOf_8 : decode cX9_sumOf 8 = .ok (.invokestatic 52, 3) := by decide +kernel
theorem dX9_sumOf_11 : decode cX9_sumOf 11 = .ok (.ifCond .eq 17, 3) := by decide +kernel
theorem dX9_sumOf_14 : decode cX9_sumOf 14 = .ok (.iload_n 3, 1) := by decide +kernel
theorem dX9_sumOf_15 : decode cX9_sumOf 15 = .ok (.aload_n 0, 1) := by decide +kernel
theorem dX9_sumOf_16 : decode cX9_sumOf 16 = .ok (.getfield 44, 3) := by decide +kernel
theorem dX9_sumOf_19 : decode cX9_sumOf 19 = .ok (.getfield 102, 3) := by decide +kernel
theorem dX9_sumOf_22 : decode cX9_sumOf 22 = .ok (.invokestatic 52, 3) := by decide +kernel
theorem dX9_sumOf_25 : decode cX9_sumOf 25 = .ok (.ifCond .ne 6, 3) := by decide +kernel
theorem dX9_sumOf_28 : decode cX9_sumOf 28 = .ok (.ldc 105, 2) := by decide +kernel
theorem dX9_sumOf_30 : decode cX9_sumOf 30 = .ok (.ireturn, 1) := by decide +kernel
theorem dX9_sumOf_31 : decode cX9_sumOf 31 = .ok (.aload_n 0, 1) := by decide +kernel
theorem dX9_sumOf_32 : decode cX9_sumOf 32 = .ok (.getfield 34, 3) := by decide +kernel
theorem dX9_sumOf_35 : decode cX9_sumOf 35 = .ok (.iload_n 1, 1) := by decide +kernel
theorem dX9_sumOf_36 : decode cX9_sumOf 36 = .ok (.iaload, 1) := by decide +kernel
theorem dX9_sumOf_37 : decode cX9_sumOf 37 = .ok (.iload_n 2, 1) := by decide +kernel
theorem dX9_sumOf_38 : decode cX9_sumOf 38 = .ok (.ishr, 1) := by decide +kernel
theorem dX9_sumOf_39 : decode cX9_sumOf 39 = .ok (.iconst 1, 1) := by decide +kernel
theorem dX9_sumOf_40 : decode cX9_sumOf 40 = .ok (.iand, 1) := by decide +kernel
theorem dX9_sumOf_41 : decode cX9_sumOf 41 = .ok (.ifCond .ne 9, 3) := by decide +kernel
theorem dX9_sumOf_44 : decode cX9_sumOf 44 = .ok (.aload_n 0, 1) := by decide +kernel
theorem dX9_sumOf_45 : decode cX9_sumOf 45 = .ok (.iload_n 1, 1) := by decide +kernel
theorem dX9_sumOf_46 : decode cX9_sumOf 46 = .ok (.iload_n 2, 1) := by decide +kernel
theorem dX9_sumOf_47 : decode cX9_sumOf 47 = .ok (.invokevirtual 106, 3) := by decide +kernel
theorem dX9_sumOf_50 : decode cX9_sumOf 50 = .ok (.aload_n 0, 1) := by decide +kernel
theorem dX9_sumOf_51 : decode cX9_sumOf 51 = .ok (.getfield 37, 3) := by decide +kernel
theorem dX9_sumOf_54 : decode cX9_sumOf 54 = .ok (.iload_n 1, 1) := by decide +kernel
theorem dX9_sumOf_55 : decode cX9_sumOf 55 = .ok (.bipush 12, 2) := by decide +kernel
theorem dX9_sumOf_57 : decode cX9_sumOf 57 = .ok (.imul, 1) := by decide +kernel
theorem dX9_sumOf_58 : decode cX9_sumOf 58 = .ok (.iload_n 2, 1) := by decide +kernel
theorem dX9_sumOf_59 : decode cX9_sumOf 59 = .ok (.iadd, 1) := by decide +kernel
theorem dX9_sumOf_60 : decode cX9_sumOf 60 = .ok (.bipush 12, 2) := by decide +kernel
theorem dX9_sumOf_62 : decode cX9_sumOf 62 = .ok (.imul, 1) := by decide +kernel
theorem dX9_sumOf_63 : decode cX9_sumOf 63 = .ok (.iload_n 3, 1) := by decide +kernel
theorem dX9_sumOf_64 : decode cX9_sumOf 64 = .ok (.iadd, 1) := by decide +kernel
theorem dX9_sumOf_65 : decode cX9_sumOf 65 = .ok (.iaload, 1) := by decide +kernel
theorem dX9_sumOf_66 : decode cX9_sumOf 66 = .ok (.ireturn, 1) := by decide +kernel
theorem dX9_findSums_0 : decode cX9_findSums 0 = .ok (.iload_n 1, 1) := by decide +kernel
theorem dX9_findSums_1 : decode cX9_findSums 1 = .ok (.bipush 12, 2) := by decide +kernel
theorem dX9_findSums_3 : decode cX9_findSums 3 = .ok (.imul, 1) := by decide +kernel
theorem dX9_findSums_4 : decode cX9_findSums 4 = .ok (.iload_n 2, 1) := by decide +kernel
theorem dX9_findSums_5 : decode cX9_findSums 5 = .ok (.iadd, 1) := by decide +kernel
theorem dX9_findSums_6 : decode cX9_findSums 6 = .ok (.bipush 12, 2) := by decide +kernel
theorem dX9_findSums_8 : decode cX9_findSums 8 = .ok (.imul, 1) := by decide +kernel
theorem dX9_findSums_9 : decode cX9_findSums 9 = .ok (.istore_n 3, 1) := by decide +kernel
theorem dX9_findSums_10 : decode cX9_findSums 10 = .ok (.iconst 0, 1) := by decide +kernel
theorem dX9_findSums_11 : decode cX9_findSums 11 = .ok (.istore 4, 2) := by decide +kernel
theorem dX9_findSums_13 : decode cX9_findSums 13 = .ok (.iload 4, 2) := by decide +kernel
theorem dX9_findSums_15 : decode cX9_findSums 15 = .ok (.bipush 12, 2) := by decide +kernel
theorem dX9_findSums_17 : decode cX9_findSums 17 = .ok (.if_icmp .ge 30, 3) := by decide +kernel
theorem dX9_findSums_20 : decode cX9_findSums 20 = .ok (.aload_n 0, 1) := by decide +kernel
theorem dX9_findSums_21 : decode cX9_findSums 21 = .ok (.getfield 37, 3) := by decide +kernel
theorem dX9_findSums_24 : decode cX9_findSums 24 = .ok (.iload_n 3, 1) := by decide +kernel
theorem dX9_findSums_25 : decode cX9_findSums 25 = .ok (.iload 4, 2) := by decide +kernel
theorem dX9_findSums_27 : decode cX9_findSums 27 = .ok (.iadd, 1) := by decide +kernel
theorem dX9_findSums_28 : decode cX9_findSums 28 = .ok (.iload 4, 2) := by decide +kernel
theorem dX9_findSums_30 : decode cX9_findSums 30 = .ok (.iload_n 2, 1) := by decide +kernel
theorem dX9_findSums_31 : decode cX9_findSums 31 = .ok (.if_icmp .ne 7, 3) := by decide +kernel
theorem dX9_findSums_34 : decode cX9_findSums 34 = .ok (.iconst 0, 1) := by decide +kernel
theorem dX9_findSums_35 : decode cX9_findSums 35 = .ok (.goto 5, 3) := by decide +kernel
theorem dX9_findSums_38 : decode cX9_findSums 38 = .ok (.ldc 105, 2) := by decide +kernel
theorem dX9_findSums_40 : decode cX9_findSums 40 = .ok (.iastore, 1) := by decide +kernel
theorem dX9_findSums_41 : decode cX9_findSums 41 = .ok (.iinc 4 1, 3) := by decide +kernel
theorem dX9_findSums_44 : decode cX9_findSums 44 = .ok (.goto (-31), 3) := by decide +kernel
theorem dX9_findSums_47 : decode cX9_findSums 47 = .ok (.aload_n 0, 1) := by decide +kernel
theorem dX9_findSums_48 : decode cX9_findSums 48 = .ok (.getfield 34, 3) := by decide +kernel
theorem dX9_findSums_51 : decode cX9_findSums 51 = .ok (.iload_n 1, 1) := by decide +kernel
theorem dX9_findSums_52 : decode cX9_findSums 52 = .ok (.dup2, 1) := by decide +kernel
theorem dX9_findSums_53 : decode cX9_findSums 53 = .ok (.iaload, 1) := by decide +kernel
theorem dX9_findSums_54 : decode cX9_findSums 54 = .ok (.iconst 1, 1) := by decide +kernel
theorem dX9_findSums_55 : decode cX9_findSums 55 = .ok (.iload_n 2, 1) := by decide +kernel
theorem dX9_findSums_56 : decode cX9_findSums 56 = .ok (.ishl, 1) := by decide +kernel
theorem dX9_findSums_57 : decode cX9_findSums 57 = .ok (.ior, 1) := by decide +kernel
theorem dX9_findSums_58 : decode cX9_findSums 58 = .ok (.iastore, 1) := by decide +kernel
theorem dX9_findSums_59 : decode cX9_findSums 59 = .ok (.aload_n 0, 1) := by decide +kernel
theorem dX9_findSums_60 : decode cX9_findSums 60 = .ok (.getfield 31, 3) := by decide +kernel
theorem dX9_findSums_63 : decode cX9_findSums 63 = .ok (.iload_n 1, 1) := by decide +kernel
theorem dX9_findSums_64 : decode cX9_findSums 64 = .ok (.iaload, 1) := by decide +kernel
theorem dX9_findSums_65 : decode cX9_findSums 65 = .ok (.istore 4, 2) := by decide +kernel
theorem dX9_findSums_67 : decode cX9_findSums 67 = .ok (.iload_n 1, 1) := by decide +kernel
theorem dX9_findSums_68 : decode cX9_findSums 68 = .ok (.iconst 2, 1) := by decide +kernel
theorem dX9_findSums_69 : decode cX9_findSums 69 = .ok (.if_icmp .ne 13, 3) := by decide +kernel
theorem dX9_findSums_72 : decode cX9_findSums 72 = .ok (.aload_n 0, 1) := by decide +kernel
theorem dX9_findSums_73 : decode cX9_findSums 73 = .ok (.getfield 44, 3) := by decide +kernel
theorem dX9_findSums_76 : decode cX9_findSums 76 = .ok (.getfield 110, 3) := by decide +kernel
theorem dX9_findSums_79 : decode cX9_findSums 79 = .ok (.goto 10, 3) := by decide +kernel
theorem dX9_findSums_82 : decode cX9_findSums 82 = .ok (.aload_n 0, 1) := by decide +kernel
theorem dX9_findSums_83 : decode cX9_findSums 83 = .ok (.getfield 44, 3) := by decide +kernel
theorem dX9_findSums_86 : decode cX9_findSums 86 = .ok (.getfield 113, 3) := by decide +kernel
theorem dX9_findSums_89 : decode cX9_findSums 89 = .ok (.astore 5, 2) := by decide +kernel
theorem dX9_findSums_91 : decode cX9_findSums 91 = .ok (.iconst 1, 1) := by decide +kernel
theorem dX9_findSums_92 : decode cX9_findSums 92 = .ok (.istore 6, 2) := by decide +kernel
theorem dX9_findSums_94 : decode cX9_findSums 94 = .ok (.iconst 0, 1) := by decide +kernel
theorem dX9_findSums_95 : decode cX9_findSums 95 = .ok (.istore 7, 2) := by decide +kernel
theorem dX9_findSums_97 : decode cX9_findSums 97 = .ok (.iload 7, 2) := by decide +kernel
theorem dX9_findSums_99 : decode cX9_findSums 99 = .ok (.bipush 12, 2) := by decide +kernel
theorem dX9_findSums_101 : decode cX9_findSums 101 = .ok (.if_icmp .ge 174, 3) := by decide +kernel
theorem dX9_findSums_104 : decode cX9_findSums 104 = .ok (.iload 6, 2) := by decide +kernel
theorem dX9_findSums_106 : decode cX9_findSums 106 = .ok (.ifCond .eq 169, 3) := by decide +kernel
theorem dX9_findSums_109 : decode cX9_findSums 109 = .ok (.iconst 0, 1) := by decide +kernel
theorem dX9_findSums_110 : decode cX9_findSums 110 = .ok (.istore 6, 2) := by decide +kernel
theorem dX9_findSums_112 : decode cX9_findSums 112 = .ok (.iconst 0, 1) := by decide +kernel
theorem dX9_findSums_113 : decode cX9_findSums 113 = .ok (.istore 8, 2) := by decide +kernel
theorem dX9_findSums_115 : decode cX9_findSums 115 = .ok (.iload 8, 2) := by decide +kernel
theorem dX9_findSums_117 : decode cX9_findSums 117 = .ok (.aload_n 0, 1) := by decide +kernel
theorem dX9_findSums_118 : decode cX9_findSums 118 = .ok (.getfield 44, 3) := by decide +kernel
theorem dX9_findSums_121 : decode cX9_findSums 121 = .ok (.getfield 83, 3) := by decide +kernel
theorem dX9_findSums_124 : decode cX9_findSums 124 = .ok (.if_icmp .ge 145, 3) := by decide +kernel
theorem dX9_findSums_127 : decode cX9_findSums 127 = .ok (.iload_n 3, 1) := by decide +kernel
theorem dX9_findSums_128 : decode cX9_findSums 128 = .ok (.aload_n 0, 1) := by decide +kernel
theorem dX9_findSums_129 : decode cX9_findSums 129 = .ok (.getfield 44, 3) := by decide +kernel
theorem dX9_findSums_132 : decode cX9_findSums 132 = .ok (.getfield 116, 3) := by decide +kernel
theorem dX9_findSums_135 : decode cX9_findSums 135 = .ok (.iload 8, 2) := by decide +kernel
theorem dX9_findSums_137 : decode cX9_findSums 137 = .ok (.iaload, 1) := by decide +kernel
theorem dX9_findSums_138 : decode cX9_findSums 138 = .ok (.iadd, 1) := by decide +kernel
theorem dX9_findSums_139 : decode cX9_findSums 139 = .ok (.istore 9, 2) := by decide +kernel
theorem dX9_findSums_141 : decode cX9_findSums 141 = .ok (.iload_n 3, 1) := by decide +kernel
theorem dX9_findSums_142 : decode cX9_findSums 142 = .ok (.aload_n 0, 1) := by decide +kernel
theorem dX9_findSums_143 : decode cX9_findSums 143 = .ok (.getfield 44, 3) := by decide +kernel
theorem dX9_findSums_146 : decode cX9_findSums 146 = .ok (.getfield 119, 3) := by decide +kernel
theorem dX9_findSums_149 : decode cX9_findSums 149 = .ok (.iload 8, 2) := by decide +kernel
theorem dX9_findSums_151 : decode cX9_findSums 151 = .ok (.iaload, 1) := by decide +kernel
theorem dX9_findSums_152 : decode cX9_findSums 152 = .ok (.iadd, 1) := by decide +kernel
theorem dX9_findSums_153 : decode cX9_findSums 153 = .ok (.istore 10, 2) := by decide +kernel
theorem dX9_findSums_155 : decode cX9_findSums 155 = .ok (.iload 4, 2) := by decide +kernel
theorem dX9_findSums_157 : decode cX9_findSums 157 = .ok (.iload 8, 2) := by decide +kernel
theorem dX9_findSums_159 : decode cX9_findSums 159 = .ok (.ishr, 1) := by decide +kernel
theorem dX9_findSums_160 : decode cX9_findSums 160 = .ok (.iconst 1, 1) := by decide +kernel
theorem dX9_findSums_161 : decode cX9_findSums 161 = .ok (.iand, 1) := by decide +kernel
theorem dX9_findSums_162 : decode cX9_findSums 162 = .ok (.ifCond .ne 6, 3) := by decide +kernel
theorem dX9_findSums_165 : decode cX9_findSums 165 = .ok (.goto 98, 3) := by decide +kernel
theorem dX9_findSums_168 : decode cX9_findSums 168 = .ok (.aload_n 0, 1) := by decide +kernel
theorem dX9_findSums_169 : decode cX9_findSums 169 = .ok (.getfield 37, 3) := by decide +kernel
theorem dX9_findSums_172 : decode cX9_findSums 172 = .ok (.iload 9, 2) := by decide +kernel
theorem dX9_findSums_174 : decode cX9_findSums 174 = .ok (.iaload, 1) := by decide +kernel
theorem dX9_findSums_175 : decode cX9_findSums 175 = .ok (.aload 5, 2) := by decide +kernel
theorem dX9_findSums_177 : decode cX9_findSums 177 = .ok (.iload 8, 2) := by decide +kernel
theorem dX9_findSums_179 : decode cX9_findSums 179 = .ok (.iaload, 1) := by decide +kernel
theorem dX9_findSums_180 : decode cX9_findSums 180 = .ok (.iadd, 1) := by decide +kernel
theorem dX9_findSums_181 : decode cX9_findSums 181 = .ok (.aload_n 0, 1) := by decide +kernel
theorem dX9_findSums_182 : decode cX9_findSums 182 = .ok (.getfield 37, 3) := by decide +kernel
theorem dX9_findSums_185 : decode cX9_findSums 185 = .ok (.iload 10, 2) := by decide +kernel
theorem dX9_findSums_187 : decode cX9_findSums 187 = .ok (.iaload, 1) := by decide +kernel
theorem dX9_findSums_188 : decode cX9_findSums 188 = .ok (.if_icmp .ge 29, 3) := by decide +kernel
theorem dX9_findSums_191 : decode cX9_findSums 191 = .ok (.aload_n 0, 1) := by decide +kernel
theorem dX9_findSums_192 : decode cX9_findSums 192 = .ok (.getfield 37, 3) := by decide +kernel
theorem dX9_findSums_195 : decode cX9_findSums 195 = .ok (.iload 10, 2) := by decide +kernel
theorem dX9_findSums_197 : decode cX9_findSums 197 = .ok (.aload_n 0, 1) := by decide +kernel
theorem dX9_findSums_198 : decode cX9_findSums 198 = .ok (.getfield 37, 3) := by decide +kernel
theorem dX9_findSums_201 : decode cX9_findSums 201 = .ok (.iload 9, 2) := by decide +kernel
theorem dX9_findSums_203 : decode cX9_findSums 203 = .ok (.iaload, 1) := by decide +kernel
theorem dX9_findSums_204 : decode cX9_findSums 204 = .ok (.aload 5, 2) := by decide +kernel
theorem dX9_findSums_206 : decode cX9_findSums 206 = .ok (.iload 8, 2) := by decide +kernel
theorem dX9_findSums_208 : decode cX9_findSums 208 = .ok (.iaload, 1) := by decide +kernel
theorem dX9_findSums_209 : decode cX9_findSums 209 = .ok (.iadd, 1) := by decide +kernel
theorem dX9_findSums_210 : decode cX9_findSums 210 = .ok (.iastore, 1) := by decide +kernel
theorem dX9_findSums_211 : decode cX9_findSums 211 = .ok (.iconst 1, 1) := by decide +kernel
theorem dX9_findSums_212 : decode cX9_findSums 212 = .ok (.istore 6, 2) := by decide +kernel
theorem dX9_findSums_214 : decode cX9_findSums 214 = .ok (.goto 49, 3) := by decide +kernel
theorem dX9_findSums_217 : decode cX9_findSums 217 = .ok (.aload_n 0, 1) := by decide +kernel
theorem dX9_findSums_218 : decode cX9_findSums 218 = .ok (.getfield 37, 3) := by decide +kernel
theorem dX9_findSums_221 : decode cX9_findSums 221 = .ok (.iload 10, 2) := by decide +kernel
theorem dX9_findSums_223 : decode cX9_findSums 223 = .ok (.iaload, 1) := by decide +kernel
theorem dX9_findSums_224 : decode cX9_findSums 224 = .ok (.aload 5, 2) := by decide +kernel
theorem dX9_findSums_226 : decode cX9_findSums 226 = .ok (.iload 8, 2) := by decide +kernel
theorem dX9_findSums_228 : decode cX9_findSums 228 = .ok (.iaload, 1) := by decide +kernel
theorem dX9_findSums_229 : decode cX9_findSums 229 = .ok (.iadd, 1) := by decide +kernel
theorem dX9_findSums_230 : decode cX9_findSums 230 = .ok (.aload_n 0, 1) := by decide +kernel
theorem dX9_findSums_231 : decode cX9_findSums 231 = .ok (.getfield 37, 3) := by decide +kernel
theorem dX9_findSums_234 : decode cX9_findSums 234 = .ok (.iload 9, 2) := by decide +kernel
theorem dX9_findSums_236 : decode cX9_findSums 236 = .ok (.iaload, 1) := by decide +kernel
theorem dX9_findSums_237 : decode cX9_findSums 237 = .ok (.if_icmp .ge 26, 3) := by decide +kernel
theorem dX9_findSums_240 : decode cX9_findSums 240 = .ok (.aload_n 0, 1) := by decide +kernel
theorem dX9_findSums_241 : decode cX9_findSums 241 = .ok (.getfield 37, 3) := by decide +kernel
theorem dX9_findSums_244 : decode cX9_findSums 244 = .ok (.iload 9, 2) := by decide +kernel
theorem dX9_findSums_246 : decode cX9_findSums 246 = .ok (.aload_n 0, 1) := by decide +kernel
theorem dX9_findSums_247 : decode cX9_findSums 247 = .ok (.getfield 37, 3) := by decide +kernel
theorem dX9_findSums_250 : decode cX9_findSums 250 = .ok (.iload 10, 2) := by decide +kernel
theorem dX9_findSums_252 : decode cX9_findSums 252 = .ok (.iaload, 1) := by decide +kernel
theorem dX9_findSums_253 : decode cX9_findSums 253 = .ok (.aload 5, 2) := by decide +kernel
theorem dX9_findSums_255 : decode cX9_findSums 255 = .ok (.iload 8, 2) := by decide +kernel
theorem dX9_findSums_257 : decode cX9_findSums 257 = .ok (.iaload, 1) := by decide +kernel
theorem dX9_findSums_258 : decode cX9_findSums 258 = .ok (.iadd, 1) := by decide +kernel
theorem dX9_findSums_259 : decode cX9_findSums 259 = .ok (.iastore, 1) := by decide +kernel
theorem dX9_findSums_260 : decode cX9_findSums 260 = .ok (.iconst 1, 1) := by decide +kernel
theorem dX9_findSums_261 : decode cX9_findSums 261 = .ok (.istore 6, 2) := by decide +kernel
theorem dX9_findSums_263 : decode cX9_findSums 263 = .ok (.iinc 8 1, 3) := by decide +kernel
theorem dX9_findSums_266 : decode cX9_findSums 266 = .ok (.goto (-151), 3) := by decide +kernel
theorem dX9_findSums_269 : decode cX9_findSums 269 = .ok (.iinc 7 1, 3) := by decide +kernel
theorem dX9_findSums_272 : decode cX9_findSums 272 = .ok (.goto (-175), 3) := by decide +kernel
theorem dX9_findSums_275 : decode cX9_findSums 275 = .ok (.return_, 1) := by decide +kernel
theorem dX9_placeInRow_0 : decode cX9_placeInRow 0 = .ok (.iload 4, 2) := by decide +kernel
theorem dX9_placeInRow_2 : decode cX9_placeInRow 2 = .ok (.bipush 12, 2) := by decide +kernel
theorem dX9_placeInRow_4 : decode cX9_placeInRow 4 = .ok (.invokestatic 52, 3) := by decide +kernel
theorem dX9_placeInRow_7 : decode cX9_placeInRow 7 = .ok (.ifCond .eq 15, 3) := by decide +kernel
theorem dX9_placeInRow_10 : decode cX9_placeInRow 10 = .ok (.aload_n 0, 1) := by decide +kernel
theorem dX9_placeInRow_11 : decode cX9_placeInRow 11 = .ok (.iload_n 1, 1) := by decide +kernel
theorem dX9_placeInRow_12 : decode cX9_placeInRow 12 = .ok (.iload_n 3, 1) := by decide +kernel
theorem dX9_placeInRow_13 : decode cX9_placeInRow 13 = .ok (.iload_n 2, 1) := by decide +kernel
theorem dX9_placeInRow_14 : decode cX9_placeInRow 14 = .ok (.invokevirtual 122, 3) := by decide +kernel
theorem dX9_placeInRow_17 : decode cX9_placeInRow 17 = .ok (.ldc 105, 2) := by decide +kernel
theorem dX9_placeInRow_19 : decode cX9_placeInRow 19 = .ok (.if_icmp .lt 5, 3) := by decide +kernel
theorem dX9_placeInRow_22 : decode cX9_placeInRow 22 = .ok (.iconst (-1), 1) := by decide +kernel
theorem dX9_placeInRow_23 : decode cX9_placeInRow 23 = .ok (.ireturn, 1) := by decide +kernel
theorem dX9_placeInRow_24 : decode cX9_placeInRow 24 = .ok (.iload_n 2, 1) := by decide +kernel
theorem dX9_placeInRow_25 : decode cX9_placeInRow 25 = .ok (.istore 5, 2) := by decide +kernel
theorem dX9_placeInRow_27 : decode cX9_placeInRow 27 = .ok (.iconst 0, 1) := by decide +kernel
theorem dX9_placeInRow_28 : decode cX9_placeInRow 28 = .ok (.istore 6, 2) := by decide +kernel
theorem dX9_placeInRow_30 : decode cX9_placeInRow 30 = .ok (.iload 6, 2) := by decide +kernel
theorem dX9_placeInRow_32 : decode cX9_placeInRow 32 = .ok (.iload 4, 2) := by decide +kernel
theorem dX9_placeInRow_34 : decode cX9_placeInRow 34 = .ok (.if_icmp .ge 35, 3) := by decide +kernel
theorem dX9_placeInRow_37 : decode cX9_placeInRow 37 = .ok (.iload 5, 2) := by decide +kernel
theorem dX9_placeInRow_39 : decode cX9_placeInRow 39 = .ok (.iconst (-1), 1) := by decide +kernel
theorem dX9_placeInRow_40 : decode cX9_placeInRow 40 = .ok (.if_icmp .eq 29, 3) := by decide +kernel
theorem dX9_placeInRow_43 : decode cX9_placeInRow 43 = .ok (.iload 5, 2) := by decide +kernel
theorem dX9_placeInRow_45 : decode cX9_placeInRow 45 = .ok (.iload_n 3, 1) := by decide +kernel
theorem dX9_placeInRow_46 : decode cX9_placeInRow 46 = .ok (.if_icmp .ne 7, 3) := by decide +kernel
theorem dX9_placeInRow_49 : decode cX9_placeInRow 49 = .ok (.iconst (-1), 1) := by decide +kernel
theorem dX9_placeInRow_50 : decode cX9_placeInRow 50 = .ok (.goto 11, 3) := by decide +kernel
theorem dX9_placeInRow_53 : decode cX9_placeInRow 53 = .ok (.aload_n 0, 1) := by decide +kernel
theorem dX9_placeInRow_54 : decode cX9_placeInRow 54 = .ok (.iload_n 1, 1) := by decide +kernel
theorem dX9_placeInRow_55 : decode cX9_placeInRow 55 = .ok (.iload 5, 2) := by decide +kernel
theorem dX9_placeInRow_57 : decode cX9_placeInRow 57 = .ok (.iload_n 3, 1) := by decide +kernel
theorem dX9_placeInRow_58 : decode cX9_placeInRow 58 = .ok (.invokevirtual 126, 3) := by decide +kernel
theorem dX9_placeInRow_61 : decode cX9_placeInRow 61 = .ok (.istore 5, 2) := by decide +kernel
theorem dX9_placeInRow_63 : decode cX9_placeInRow 63 = .ok (.iinc 6 1, 3) := by decide +kernel
theorem dX9_placeInRow_66 : decode cX9_placeInRow 66 = .ok (.goto (-36), 3) := by decide +kernel
theorem dX9_placeInRow_69 : decode cX9_placeInRow 69 = .ok (.iload 5, 2) := by decide +kernel
theorem dX9_placeInRow_71 : decode cX9_placeInRow 71 = .ok (.ireturn, 1) := by decide +kernel
theorem dX9_nextPlace_0 : decode cX9_nextPlace 0 = .ok (.iconst (-1), 1) := by decide +kernel
theorem dX9_nextPlace_1 : decode cX9_nextPlace 1 = .ok (.istore 4, 2) := by decide +kernel
theorem dX9_nextPlace_3 : decode cX9_nextPlace 3 = .ok (.aload_n 0, 1) := by decide +kernel
theorem dX9_nextPlace_4 : decode cX9_nextPlace 4 = .ok (.getfield 31, 3) := by decide +kernel
theorem dX9_nextPlace_7 : decode cX9_nextPlace 7 = .ok (.iload_n 1, 1) := by decide +kernel
theorem dX9_nextPlace_8 : decode cX9_nextPlace 8 = .ok (.iaload, 1) := by decide +kernel
theorem dX9_nextPlace_9 : decode cX9_nextPlace 9 = .ok (.istore 5, 2) := by decide +kernel
theorem dX9_nextPlace_11 : decode cX9_nextPlace 11 = .ok (.iload_n 1, 1) := by decide +kernel
theorem dX9_nextPlace_12 : decode cX9_nextPlace 12 = .ok (.iconst 2, 1) := by decide +kernel
theorem dX9_nextPlace_13 : decode cX9_nextPlace 13 = .ok (.if_icmp .ne 13, 3) := by decide +kernel
theorem dX9_nextPlace_16 : decode cX9_nextPlace 16 = .ok (.aload_n 0, 1) := by decide +kernel
theorem dX9_nextPlace_17 : decode cX9_nextPlace 17 = .ok (.getfield 44, 3) := by decide +kernel
theorem dX9_nextPlace_20 : decode cX9_nextPlace 20 = .ok (.getfield 110, 3) := by decide +kernel
theorem dX9_nextPlace_23 : decode cX9_nextPlace 23 = .ok (.goto 10, 3) := by decide +kernel
theorem dX9_nextPlace_26 : decode cX9_nextPlace 26 = .ok (.aload_n 0, 1) := by decide +kernel
theorem dX9_nextPlace_27 : decode cX9_nextPlace 27 = .ok (.getfield 44, 3) := by decide +kernel
theorem dX9_nextPlace_30 : decode cX9_nextPlace 30 = .ok (.getfield 113, 3) := by decide +kernel
theorem dX9_nextPlace_33 : decode cX9_nextPlace 33 = .ok (.astore 6, 2) := by decide +kernel
theorem dX9_nextPlace_35 : decode cX9_nextPlace 35 = .ok (.iconst 0, 1) := by decide +kernel
theorem dX9_nextPlace_36 : decode cX9_nextPlace 36 = .ok (.istore 7, 2) := by decide +kernel
theorem dX9_nextPlace_38 : decode cX9_nextPlace 38 = .ok (.iload 7, 2) := by decide +kernel
theorem dX9_nextPlace_40 : decode cX9_nextPlace 40 = .ok (.aload_n 0, 1) := by decide +kernel
theorem dX9_nextPlace_41 : decode cX9_nextPlace 41 = .ok (.getfield 44, 3) := by decide +kernel
theorem dX9_nextPlace_44 : decode cX9_nextPlace 44 = .ok (.getfield 83, 3) := by decide +kernel
theorem dX9_nextPlace_47 : decode cX9_nextPlace 47 = .ok (.if_icmp .ge 75, 3) := by decide +kernel
theorem dX9_nextPlace_50 : decode cX9_nextPlace 50 = .ok (.aload_n 0, 1) := by decide +kernel
theorem dX9_nextPlace_51 : decode cX9_nextPlace 51 = .ok (.iload 7, 2) := by decide +kernel
theorem dX9_nextPlace_53 : decode cX9_nextPlace 53 = .ok (.iload_n 2, 1) := by decide +kernel
theorem dX9_nextPlace_54 : decode cX9_nextPlace 54 = .ok (.invokevirtual 129, 3) := by decide +kernel
theorem dX9_nextPlace_57 : decode cX9_nextPlace 57 = .ok (.istore 8, 2) := by decide +kernel
theorem dX9_nextPlace_59 : decode cX9_nextPlace 59 = .ok (.iload 8, 2) := by decide +kernel
theorem dX9_nextPlace_61 : decode cX9_nextPlace 61 = .ok (.iconst (-1), 1) := by decide +kernel
theorem dX9_nextPlace_62 : decode cX9_nextPlace 62 = .ok (.if_icmp .eq 54, 3) := by decide +kernel
theorem dX9_nextPlace_65 : decode cX9_nextPlace 65 = .ok (.iload 5, 2) := by decide +kernel
theorem dX9_nextPlace_67 : decode cX9_nextPlace 67 = .ok (.iload 7, 2) := by decide +kernel
theorem dX9_nextPlace_69 : decode cX9_nextPlace 69 = .ok (.ishr, 1) := by decide +kernel
theorem dX9_nextPlace_70 : decode cX9_nextPlace 70 = .ok (.iconst 1, 1) := by decide +kernel
theorem dX9_nextPlace_71 : decode cX9_nextPlace 71 = .ok (.iand, 1) := by decide +kernel
theorem dX9_nextPlace_72 : decode cX9_nextPlace 72 = .ok (.ifCond .eq 44, 3) := by decide +kernel
theorem dX9_nextPlace_75 : decode cX9_nextPlace 75 = .ok (.iload 4, 2) := by decide +kernel
theorem dX9_nextPlace_77 : decode cX9_nextPlace 77 = .ok (.iconst (-1), 1) := by decide +kernel
theorem dX9_nextPlace_78 : decode cX9_nextPlace 78 = .ok (.if_icmp .eq 10, 3) := by decide +kernel
theorem dX9_nextPlace_81 : decode cX9_nextPlace 81 = .ok (.iload 8, 2) := by decide +kernel
theorem dX9_nextPlace_83 : decode cX9_nextPlace 83 = .ok (.iload 4, 2) := by decide +kernel
theorem dX9_nextPlace_85 : decode cX9_nextPlace 85 = .ok (.if_icmp .ge 31, 3) := by decide +kernel
theorem dX9_nextPlace_88 : decode cX9_nextPlace 88 = .ok (.aload_n 0, 1) := by decide +kernel
theorem dX9_nextPlace_89 : decode cX9_nextPlace 89 = .ok (.iload_n 1, 1) := by decide +kernel
theorem dX9_nextPlace_90 : decode cX9_nextPlace 90 = .ok (.iload_n 3, 1) := by decide +kernel
theorem dX9_nextPlace_91 : decode cX9_nextPlace 91 = .ok (.iload 8, 2) := by decide +kernel
theorem dX9_nextPlace_93 : decode cX9_nextPlace 93 = .ok (.invokevirtual 122, 3) := by decide +kernel
theorem dX9_nextPlace_96 : decode cX9_nextPlace 96 = .ok (.aload 6, 2) := by decide +kernel
theorem dX9_nextPlace_98 : decode cX9_nextPlace 98 = .ok (.iload 7, 2) := by decide +kernel
theorem dX9_nextPlace_100 : decode cX9_nextPlace 100 = .ok (.iaload, 1) := by decide +kernel
theorem dX9_nextPlace_101 : decode cX9_nextPlace 101 = .ok (.iadd, 1) := by decide +kernel
theorem dX9_nextPlace_102 : decode cX9_nextPlace 102 = .ok (.aload_n 0, 1) := by decide +kernel
theorem dX9_nextPlace_103 : decode cX9_nextPlace 103 = .ok (.iload_n 1, 1) := by decide +kernel
theorem dX9_nextPlace_104 : decode cX9_nextPlace 104 = .ok (.iload_n 3, 1) := by decide +kernel
theorem dX9_nextPlace_105 : decode cX9_nextPlace 105 = .ok (.iload_n 2, 1) := by decide +kernel
theorem dX9_nextPlace_106 : decode cX9_nextPlace 106 = .ok (.invokevirtual 122, 3) := by decide +kernel
theorem dX9_nextPlace_109 : decode cX9_nextPlace 109 = .ok (.if_icmp .ne 7, 3) := by decide +kernel
theorem dX9_nextPlace_112 : decode cX9_nextPlace 112 = .ok (.iload 8, 2) := by decide +kernel
theorem dX9_nextPlace_114 : decode cX9_nextPlace 114 = .ok (.istore 4, 2) := by decide +kernel
theorem dX9_nextPlace_116 : decode cX9_nextPlace 116 = .ok (.iinc 7 1, 3) := by decide +kernel
theorem dX9_nextPlace_119 : decode cX9_nextPlace 119 = .ok (.goto (-81), 3) := by decide +kernel
theorem dX9_nextPlace_122 : decode cX9_nextPlace 122 = .ok (.iload 4, 2) := by decide +kernel
theorem dX9_nextPlace_124 : decode cX9_nextPlace 124 = .ok (.ireturn, 1) := by decide +kernel
theorem dX9_otherEnd_0 : decode cX9_otherEnd 0 = .ok (.aload_n 0, 1) := by decide +kernel
theorem dX9_otherEnd_1 : decode cX9_otherEnd 1 = .ok (.getfield 44, 3) := by decide +kernel
theorem dX9_otherEnd_4 : decode cX9_otherEnd 4 = .ok (.getfield 116, 3) := by decide +kernel
theorem dX9_otherEnd_7 : decode cX9_otherEnd 7 = .ok (.iload_n 1, 1) := by decide +kernel
theorem dX9_otherEnd_8 : decode cX9_otherEnd 8 = .ok (.iaload, 1) := by decide +kernel
theorem dX9_otherEnd_9 : decode cX9_otherEnd 9 = .ok (.iload_n 2, 1) := by decide +kernel
theorem dX9_otherEnd_10 : decode cX9_otherEnd 10 = .ok (.if_icmp .ne 13, 3) := by decide +kernel
theorem dX9_otherEnd_13 : decode cX9_otherEnd 13 = .ok (.aload_n 0, 1) := by decide +kernel
theorem dX9_otherEnd_14 : decode cX9_otherEnd 14 = .ok (.getfield 44, 3) := by decide +kernel
theorem dX9_otherEnd_17 : decode cX9_otherEnd 17 = .ok (.getfield 119, 3) := by decide +kernel
theorem dX9_otherEnd_20 : decode cX9_otherEnd 20 = .ok (.iload_n 1, 1) := by decide +kernel
theorem dX9_otherEnd_21 : decode cX9_otherEnd 21 = .ok (.iaload, 1) := by decide +kernel
theorem dX9_otherEnd_22 : decode cX9_otherEnd 22 = .ok (.ireturn, 1) := by decide +kernel
theorem dX9_otherEnd_23 : decode cX9_otherEnd 23 = .ok (.aload_n 0, 1) := by decide +kernel
theorem dX9_otherEnd_24 : decode cX9_otherEnd 24 = .ok (.getfield 44, 3) := by decide +kernel
theorem dX9_otherEnd_27 : decode cX9_otherEnd 27 = .ok (.getfield 119, 3) := by decide +kernel
theorem dX9_otherEnd_30 : decode cX9_otherEnd 30 = .ok (.iload_n 1, 1) := by decide +kernel
theorem dX9_otherEnd_31 : decode cX9_otherEnd 31 = .ok (.iaload, 1) := by decide +kernel
theorem dX9_otherEnd_32 : decode cX9_otherEnd 32 = .ok (.iload_n 2, 1) := by decide +kernel
theorem dX9_otherEnd_33 : decode cX9_otherEnd 33 = .ok (.if_icmp .ne 15, 3) := by decide +kernel
theorem dX9_otherEnd_36 : decode cX9_otherEnd 36 = .ok (.aload_n 0, 1) := by decide +kernel
theorem dX9_otherEnd_37 : decode cX9_otherEnd 37 = .ok (.getfield 44, 3) := by decide +kernel
theorem dX9_otherEnd_40 : decode cX9_otherEnd 40 = .ok (.getfield 116, 3) := by decide +kernel
theorem dX9_otherEnd_43 : decode cX9_otherEnd 43 = .ok (.iload_n 1, 1) := by decide +kernel
theorem dX9_otherEnd_44 : decode cX9_otherEnd 44 = .ok (.iaload, 1) := by decide +kernel
theorem dX9_otherEnd_45 : decode cX9_otherEnd 45 = .ok (.goto 4, 3) := by decide +kernel
theorem dX9_otherEnd_48 : decode cX9_otherEnd 48 = .ok (.iconst (-1), 1) := by decide +kernel
theorem dX9_otherEnd_49 : decode cX9_otherEnd 49 = .ok (.ireturn, 1) := by decide +kernel
theorem dX9_judgeAll_0 : decode cX9_judgeAll 0 = .ok (.iconst 0, 1) := by decide +kernel
theorem dX9_judgeAll_1 : decode cX9_judgeAll 1 = .ok (.istore_n 1, 1) := by decide +kernel
theorem dX9_judgeAll_2 : decode cX9_judgeAll 2 = .ok (.iload_n 1, 1) := by decide +kernel
theorem dX9_judgeAll_3 : decode cX9_judgeAll 3 = .ok (.aload_n 0, 1) := by decide +kernel
theorem dX9_judgeAll_4 : decode cX9_judgeAll 4 = .ok (.getfield 69, 3) := by decide +kernel
theorem dX9_judgeAll_7 : decode cX9_judgeAll 7 = .ok (.if_icmp .ge 14, 3) := by decide +kernel
theorem dX9_judgeAll_10 : decode cX9_judgeAll 10 = .ok (.aload_n 0, 1) := by decide +kernel
theorem dX9_judgeAll_11 : decode cX9_judgeAll 11 = .ok (.iload_n 1, 1) := by decide +kernel
theorem dX9_judgeAll_12 : decode cX9_judgeAll 12 = .ok (.invokevirtual 133, 3) := by decide +kernel
theorem dX9_judgeAll_15 : decode cX9_judgeAll 15 = .ok (.iinc 1 1, 3) := by decide +kernel
theorem dX9_judgeAll_18 : decode cX9_judgeAll 18 = .ok (.goto (-16), 3) := by decide +kernel
theorem dX9_judgeAll_21 : decode cX9_judgeAll 21 = .ok (.return_, 1) := by decide +kernel
theorem dX9_judge_0 : decode cX9_judge 0 = .ok (.aload_n 0, 1) := by decide +kernel
theorem dX9_judge_1 : decode cX9_judge 1 = .ok (.getfield 71, 3) := by decide +kernel
theorem dX9_judge_4 : decode cX9_judge 4 = .ok (.iload_n 1, 1) := by decide +kernel
theorem dX9_judge_5 : decode cX9_judge 5 = .ok (.ishr, 1) := by decide +kernel
theorem dX9_judge_6 : decode cX9_judge 6 = .ok (.iconst 1, 1) := by decide +kernel
theorem dX9_judge_7 : decode cX9_judge 7 = .ok (.iand, 1) := by decide +kernel
theorem dX9_judge_8 : decode cX9_judge 8 = .ok (.ifCond .eq 4, 3) := by decide +kernel
theorem dX9_judge_11 : decode cX9_judge 11 = .ok (.return_, 1) := by decide +kernel
theorem dX9_judge_12 : decode cX9_judge 12 = .ok (.aload_n 0, 1) := by decide +kernel
theorem dX9_judge_13 : decode cX9_judge 13 = .ok (.dup, 1) := by decide +kernel
theorem dX9_judge_14 : decode cX9_judge 14 = .ok (.getfield 71, 3) := by decide +kernel
theorem dX9_judge_17 : decode cX9_judge 17 = .ok (.iconst 1, 1) := by decide +kernel
theorem dX9_judge_18 : decode cX9_judge 18 = .ok (.iload_n 1, 1) := by decide +kernel
theorem dX9_judge_19 : decode cX9_judge 19 = .ok (.ishl, 1) := by decide +kernel
theorem dX9_judge_20 : decode cX9_judge 20 = .ok (.ior, 1) := by decide +kernel
theorem dX9_judge_21 : decode cX9_judge 21 = .ok (.putfield 71, 3) := by decide +kernel
theorem dX9_judge_24 : decode cX9_judge 24 = .ok (.aload_n 0, 1) := by decide +kernel
theorem dX9_judge_25 : decode cX9_judge 25 = .ok (.getfield 20, 3) := by decide +kernel
theorem dX9_judge_28 : decode cX9_judge 28 = .ok (.getfield 137, 3) := by decide +kernel
theorem dX9_judge_31 : decode cX9_judge 31 = .ok (.iload_n 1, 1) := by decide +kernel
theorem dX9_judge_32 : decode cX9_judge 32 = .ok (.iaload, 1) := by decide +kernel
theorem dX9_judge_33 : decode cX9_judge 33 = .ok (.istore_n 2, 1) := by decide +kernel
theorem dX9_judge_34 : decode cX9_judge 34 = .ok (.aload_n 0, 1) := by decide +kernel
theorem dX9_judge_35 : decode cX9_judge 35 = .ok (.getfield 20, 3) := by decide +kernel
theorem dX9_judge_38 : decode cX9_judge 38 = .ok (.iload_n 1, 1) := by decide +kernel
theorem dX9_judge_39 : decode cX9_judge 39 = .ok (.aload_n 0, 1) := by decide +kernel
theorem dX9_judge_40 : decode cX9_judge 40 = .ok (.getfield 56, 3) := by decide +kernel
theorem dX9_judge_43 : decode cX9_judge 43 = .ok (.aload_n 0, 1) := by decide +kernel
theorem dX9_judge_44 : decode cX9_judge 44 = .ok (.getfield 59, 3) := by decide +kernel
theorem dX9_judge_47 : decode cX9_judge 47 = .ok (.invokevirtual 140, 3) := by decide +kernel
theorem dX9_judge_50 : decode cX9_judge 50 = .ok (.istore_n 3, 1) := by decide +kernel
theorem dX9_judge_51 : decode cX9_judge 51 = .ok (.aload_n 0, 1) := by decide +kernel
theorem dX9_judge_52 : decode cX9_judge 52 = .ok (.getfield 20, 3) := by decide +kernel
theorem dX9_judge_55 : decode cX9_judge 55 = .ok (.getfield 90, 3) := by decide +kernel
theorem dX9_judge_58 : decode cX9_judge 58 = .ok (.iload_n 2, 1) := by decide +kernel
theorem dX9_judge_59 : decode cX9_judge 59 = .ok (.iaload, 1) := by decide +kernel
theorem dX9_judge_60 : decode cX9_judge 60 = .ok (.istore 4, 2) := by decide +kernel
theorem dX9_judge_62 : decode cX9_judge 62 = .ok (.iload 4, 2) := by decide +kernel
theorem dX9_judge_64 : decode cX9_judge 64 = .ok (.aload_n 0, 1) := by decide +kernel
theorem dX9_judge_65 : decode cX9_judge 65 = .ok (.getfield 44, 3) := by decide +kernel
theorem dX9_judge_68 : decode cX9_judge 68 = .ok (.getfield 143, 3) := by decide +kernel
theorem dX9_judge_71 : decode cX9_judge 71 = .ok (.if_icmp .ge 16, 3) := by decide +kernel
theorem dX9_judge_74 : decode cX9_judge 74 = .ok (.aload_n 0, 1) := by decide +kernel
theorem dX9_judge_75 : decode cX9_judge 75 = .ok (.getfield 44, 3) := by decide +kernel
theorem dX9_judge_78 : decode cX9_judge 78 = .ok (.getfield 146, 3) := by decide +kernel
theorem dX9_judge_81 : decode cX9_judge 81 = .ok (.iload 4, 2) := by decide +kernel
theorem dX9_judge_83 : decode cX9_judge 83 = .ok (.iaload, 1) := by decide +kernel
theorem dX9_judge_84 : decode cX9_judge 84 = .ok (.goto 4, 3) := by decide +kernel
theorem dX9_judge_87 : decode cX9_judge 87 = .ok (.iconst (-1), 1) := by decide +kernel
theorem dX9_judge_88 : decode cX9_judge 88 = .ok (.istore 5, 2) := by decide +kernel
theorem dX9_judge_90 : decode cX9_judge 90 = .ok (.aload_n 0, 1) := by decide +kernel
theorem dX9_judge_91 : decode cX9_judge 91 = .ok (.getfield 40, 3) := by decide +kernel
theorem dX9_judge_94 : decode cX9_judge 94 = .ok (.iconst 0, 1) := by decide +kernel
theorem dX9_judge_95 : decode cX9_judge 95 = .ok (.aload_n 0, 1) := by decide +kernel
theorem dX9_judge_96 : decode cX9_judge 96 = .ok (.getfield 20, 3) := by decide +kernel
theorem dX9_judge_99 : decode cX9_judge 99 = .ok (.getfield 93, 3) := by decide +kernel
theorem dX9_judge_102 : decode cX9_judge 102 = .ok (.iload_n 2, 1) := by decide +kernel
theorem dX9_judge_103 : decode cX9_judge 103 = .ok (.iaload, 1) := by decide +kernel
theorem dX9_judge_104 : decode cX9_judge 104 = .ok (.iastore, 1) := by decide +kernel
theorem dX9_judge_105 : decode cX9_judge 105 = .ok (.aload_n 0, 1) := by decide +kernel
theorem dX9_judge_106 : decode cX9_judge 106 = .ok (.getfield 40, 3) := by decide +kernel
theorem dX9_judge_109 : decode cX9_judge 109 = .ok (.iconst 1, 1) := by decide +kernel
theorem dX9_judge_110 : decode cX9_judge 110 = .ok (.aload_n 0, 1) := by decide +kernel
theorem dX9_judge_111 : decode cX9_judge 111 = .ok (.getfield 20, 3) := by decide +kernel
theorem dX9_judge_114 : decode cX9_judge 114 = .ok (.getfield 149, 3) := by decide +kernel
theorem dX9_judge_117 : decode cX9_judge 117 = .ok (.iload_n 2, 1) := by decide +kernel
theorem dX9_judge_118 : decode cX9_judge 118 = .ok (.iaload, 1) := by decide +kernel
theorem dX9_judge_119 : decode cX9_judge 119 = .ok (.iastore, 1) := by decide +kernel
theorem dX9_judge_120 : decode cX9_judge 120 = .ok (.aload_n 0, 1) := by decide +kernel
theorem dX9_judge_121 : decode cX9_judge 121 = .ok (.getfield 40, 3) := by decide +kernel
theorem dX9_judge_124 : decode cX9_judge 124 = .ok (.iconst 2, 1) := by decide +kernel
theorem dX9_judge_125 : decode cX9_judge 125 = .ok (.aload_n 0, 1) := by decide +kernel
theorem dX9_judge_126 : decode cX9_judge 126 = .ok (.iconst 0, 1) := by decide +kernel
theorem dX9_judge_127 : decode cX9_judge 127 = .ok (.iload 5, 2) := by decide +kernel
theorem dX9_judge_129 : decode cX9_judge 129 = .ok (.iload_n 3, 1) := by decide +kernel
theorem dX9_judge_130 : decode cX9_judge 130 = .ok (.invokevirtual 122, 3) := by decide +kernel
theorem dX9_judge_133 : decode cX9_judge 133 = .ok (.invokestatic 152, 3) := by decide +kernel
theorem dX9_judge_136 : decode cX9_judge 136 = .ok (.iastore, 1) := by decide +kernel
theorem dX9_judge_137 : decode cX9_judge 137 = .ok (.aload_n 0, 1) := by decide +kernel
theorem dX9_judge_138 : decode cX9_judge 138 = .ok (.getfield 40, 3) := by decide +kernel
theorem dX9_judge_141 : decode cX9_judge 141 = .ok (.iconst 3, 1) := by decide +kernel
theorem dX9_judge_142 : decode cX9_judge 142 = .ok (.aload_n 0, 1) := by decide +kernel
theorem dX9_judge_143 : decode cX9_judge 143 = .ok (.iconst 1, 1) := by decide +kernel
theorem dX9_judge_144 : decode cX9_judge 144 = .ok (.iload 5, 2) := by decide +kernel
theorem dX9_judge_146 : decode cX9_judge 146 = .ok (.iload_n 3, 1) := by decide +kernel
theorem dX9_judge_147 : decode cX9_judge 147 = .ok (.invokevirtual 122, 3) := by decide +kernel
theorem dX9_judge_150 : decode cX9_judge 150 = .ok (.invokestatic 152, 3) := by decide +kernel
theorem dX9_judge_153 : decode cX9_judge 153 = .ok (.iastore, 1) := by decide +kernel
theorem dX9_judge_154 : decode cX9_judge 154 = .ok (.aload_n 0, 1) := by decide +kernel
theorem dX9_judge_155 : decode cX9_judge 155 = .ok (.getfield 40, 3) := by decide +kernel
theorem dX9_judge_158 : decode cX9_judge 158 = .ok (.iconst 4, 1) := by decide +kernel
theorem dX9_judge_159 : decode cX9_judge 159 = .ok (.aload_n 0, 1) := by decide +kernel
theorem dX9_judge_160 : decode cX9_judge 160 = .ok (.getfield 56, 3) := by decide +kernel
theorem dX9_judge_163 : decode cX9_judge 163 = .ok (.iastore, 1) := by decide +kernel
theorem dX9_judge_164 : decode cX9_judge 164 = .ok (.aload_n 0, 1) := by decide +kernel
theorem dX9_judge_165 : decode cX9_judge 165 = .ok (.getfield 24, 3) := by decide +kernel
theorem dX9_judge_168 : decode cX9_judge 168 = .ok (.iload_n 1, 1) := by decide +kernel
theorem dX9_judge_169 : decode cX9_judge 169 = .ok (.aload_n 0, 1) := by decide +kernel
theorem dX9_judge_170 : decode cX9_judge 170 = .ok (.getfield 44, 3) := by decide +kernel
theorem dX9_judge_173 : decode cX9_judge 173 = .ok (.aload_n 0, 1) := by decide +kernel
theorem dX9_judge_174 : decode cX9_judge 174 = .ok (.getfield 40, 3) := by decide +kernel
theorem dX9_judge_177 : decode cX9_judge 177 = .ok (.invokevirtual 155, 3) := by decide +kernel
theorem dX9_judge_180 : decode cX9_judge 180 = .ok (.iastore, 1) := by decide +kernel
theorem dX9_judge_181 : decode cX9_judge 181 = .ok (.aload_n 0, 1) := by decide +kernel
theorem dX9_judge_182 : decode cX9_judge 182 = .ok (.getfield 28, 3) := by decide +kernel
theorem dX9_judge_185 : decode cX9_judge 185 = .ok (.iload_n 1, 1) := by decide +kernel
theorem dX9_judge_186 : decode cX9_judge 186 = .ok (.aload_n 0, 1) := by decide +kernel
theorem dX9_judge_187 : decode cX9_judge 187 = .ok (.getfield 24, 3) := by decide +kernel
theorem dX9_judge_190 : decode cX9_judge 190 = .ok (.iload_n 1, 1) := by decide +kernel
theorem dX9_judge_191 : decode cX9_judge 191 = .ok (.iaload, 1) := by decide +kernel
theorem dX9_judge_192 : decode cX9_judge 192 = .ok (.iconst (-1), 1) := by decide +kernel
theorem dX9_judge_193 : decode cX9_judge 193 = .ok (.if_icmp .eq 9, 3) := by decide +kernel
theorem dX9_judge_196 : decode cX9_judge 196 = .ok (.iload 5, 2) := by decide +kernel
theorem dX9_judge_198 : decode cX9_judge 198 = .ok (.iconst (-1), 1) := by decide +kernel
theorem dX9_judge_199 : decode cX9_judge 199 = .ok (.if_icmp .ne 7, 3) := by decide +kernel
theorem dX9_judge_202 : decode cX9_judge 202 = .ok (.iconst (-1), 1) := by decide +kernel
theorem dX9_judge_203 : decode cX9_judge 203 = .ok (.goto 8, 3) := by decide +kernel
theorem dX9_judge_206 : decode cX9_judge 206 = .ok (.aload_n 0, 1) := by decide +kernel
theorem dX9_judge_207 : decode cX9_judge 207 = .ok (.iload_n 3, 1) := by decide +kernel
theorem dX9_judge_208 : decode cX9_judge 208 = .ok (.invokevirtual 159, 3) := by decide +kernel
theorem dX9_judge_211 : decode cX9_judge 211 = .ok (.iastore, 1) := by decide +kernel
theorem dX9_judge_212 : decode cX9_judge 212 = .ok (.return_, 1) := by decide +kernel
theorem dX9_orNotReached_0 : decode cX9_orNotReached 0 = .ok (.iload_n 0, 1) := by decide +kernel
theorem dX9_orNotReached_1 : decode cX9_orNotReached 1 = .ok (.ldc 105, 2) := by decide +kernel
theorem dX9_orNotReached_3 : decode cX9_orNotReached 3 = .ok (.if_icmp .lt 9, 3) := by decide +kernel
theorem dX9_orNotReached_6 : decode cX9_orNotReached 6 = .ok (.sipush 9999, 3) := by decide +kernel
theorem dX9_orNotReached_9 : decode cX9_orNotReached 9 = .ok (.goto 4, 3) := by decide +kernel
theorem dX9_orNotReached_12 : decode cX9_orNotReached 12 = .ok (.iload_n 0, 1) := by decide +kernel
theorem dX9_orNotReached_13 : decode cX9_orNotReached 13 = .ok (.ireturn, 1) := by decide +kernel
theorem dX9_nearestStop_0 : decode cX9_nearestStop 0 = .ok (.iconst (-1), 1) := by decide +kernel
theorem dX9_nearestStop_1 : decode cX9_nearestStop 1 = .ok (.istore_n 2, 1) := by decide +kernel
theorem dX9_nearestStop_2 : decode cX9_nearestStop 2 = .ok (.aload_n 0, 1) := by decide +kernel
theorem dX9_nearestStop_3 : decode cX9_nearestStop 3 = .ok (.getfield 44, 3) := by decide +kernel
theorem dX9_nearestStop_6 : decode cX9_nearestStop 6 = .ok (.getfield 162, 3) := by decide +kernel
theorem dX9_nearestStop_9 : decode cX9_nearestStop 9 = .ok (.iconst 2, 1) := by decide +kernel
theorem dX9_nearestStop_10 : decode cX9_nearestStop 10 = .ok (.iaload, 1) := by decide +kernel
theorem dX9_nearestStop_11 : decode cX9_nearestStop 11 = .ok (.iconst 1, 1) := by decide +kernel
theorem dX9_nearestStop_12 : decode cX9_nearestStop 12 = .ok (.iadd, 1) := by decide +kernel
theorem dX9_nearestStop_13 : decode cX9_nearestStop 13 = .ok (.istore_n 3, 1) := by decide +kernel
theorem dX9_nearestStop_14 : decode cX9_nearestStop 14 = .ok (.iconst 0, 1) := by decide +kernel
theorem dX9_nearestStop_15 : decode cX9_nearestStop 15 = .ok (.istore 4, 2) := by decide +kernel
theorem dX9_nearestStop_17 : decode cX9_nearestStop 17 = .ok (.iload 4, 2) := by decide +kernel
theorem dX9_nearestStop_19 : decode cX9_nearestStop 19 = .ok (.aload_n 0, 1) := by decide +kernel
theorem dX9_nearestStop_20 : decode cX9_nearestStop 20 = .ok (.getfield 44, 3) := by decide +kernel
theorem dX9_nearestStop_23 : decode cX9_nearestStop 23 = .ok (.getfield 165, 3) := by decide +kernel
theorem dX9_nearestStop_26 : decode cX9_nearestStop 26 = .ok (.if_icmp .ge 39, 3) := by decide +kernel
theorem dX9_nearestStop_29 : decode cX9_nearestStop 29 = .ok (.aload_n 0, 1) := by decide +kernel
theorem dX9_nearestStop_30 : decode cX9_nearestStop 30 = .ok (.iconst 1, 1) := by decide +kernel
theorem dX9_nearestStop_31 : decode cX9_nearestStop 31 = .ok (.aload_n 0, 1) := by decide +kernel
theorem dX9_nearestStop_32 : decode cX9_nearestStop 32 = .ok (.getfield 44, 3) := by decide +kernel
theorem dX9_nearestStop_35 : decode cX9_nearestStop 35 = .ok (.getfield 168, 3) := by decide +kernel
theorem dX9_nearestStop_38 : decode cX9_nearestStop 38 = .ok (.iload 4, 2) := by decide +kernel
theorem dX9_nearestStop_40 : decode cX9_nearestStop 40 = .ok (.iaload, 1) := by decide +kernel
theorem dX9_nearestStop_41 : decode cX9_nearestStop 41 = .ok (.iload_n 1, 1) := by decide +kernel
theorem dX9_nearestStop_42 : decode cX9_nearestStop 42 = .ok (.invokevirtual 122, 3) := by decide +kernel
theorem dX9_nearestStop_45 : decode cX9_nearestStop 45 = .ok (.istore 5, 2) := by decide +kernel
theorem dX9_nearestStop_47 : decode cX9_nearestStop 47 = .ok (.iload 5, 2) := by decide +kernel
theorem dX9_nearestStop_49 : decode cX9_nearestStop 49 = .ok (.iload_n 3, 1) := by decide +kernel
theorem dX9_nearestStop_50 : decode cX9_nearestStop 50 = .ok (.if_icmp .ge 9, 3) := by decide +kernel
theorem dX9_nearestStop_53 : decode cX9_nearestStop 53 = .ok (.iload 5, 2) := by decide +kernel
theorem dX9_nearestStop_55 : decode cX9_nearestStop 55 = .ok (.istore_n 3, 1) := by decide +kernel
theorem dX9_nearestStop_56 : decode cX9_nearestStop 56 = .ok (.iload 4, 2) := by decide +kernel
theorem dX9_nearestStop_58 : decode cX9_nearestStop 58 = .ok (.istore_n 2, 1) := by decide +kernel
theorem dX9_nearestStop_59 : decode cX9_nearestStop 59 = .ok (.iinc 4 1, 3) := by decide +kernel
theorem dX9_nearestStop_62 : decode cX9_nearestStop 62 = .ok (.goto (-45), 3) := by decide +kernel
theorem dX9_nearestStop_65 : decode cX9_nearestStop 65 = .ok (.iload_n 2, 1) := by decide +kernel
theorem dX9_nearestStop_66 : decode cX9_nearestStop 66 = .ok (.ireturn, 1) := by decide +kernel
theorem dX10_init_0 : decode cX10_init 0 = .ok (.aload_n 0, 1) := by decide +kernel
theorem dX10_init_1 : decode cX10_init 1 = .ok (.invokespecial 1, 3) := by decide +kernel
theorem dX10_init_4 : decode cX10_init 4 = .ok (.aload_n 0, 1) := by decide +kernel
theorem dX10_init_5 : decode cX10_init 5 = .ok (.new 7, 3) := by decide +kernel
theorem dX10_init_8 : decode cX10_init 8 = .ok (.dup, 1) := by decide +kernel
theorem dX10_init_9 : decode cX10_init 9 = .ok (.invokespecial 9, 3) := by decide +kernel
theorem dX10_init_12 : decode cX10_init 12 = .ok (.putfield 10, 3) := by decide +kernel
theorem dX10_init_15 : decode cX10_init 15 = .ok (.aload_n 0, 1) := by decide +kernel
theorem dX10_init_16 : decode cX10_init 16 = .ok (.aload_n 0, 1) := by decide +kernel
theorem dX10_init_17 : decode cX10_init 17 = .ok (.getfield 10, 3) := by decide +kernel
theorem dX10_init_20 : decode cX10_init 20 = .ok (.getfield 16, 3) := by decide +kernel
theorem dX10_init_23 : decode cX10_init 23 = .ok (.putfield 20, 3) := by decide +kernel
theorem dX10_init_26 : decode cX10_init 26 = .ok (.aload_n 0, 1) := by decide +kernel
theorem dX10_init_27 : decode cX10_init 27 = .ok (.new 21, 3) := by decide +kernel
theorem dX10_init_30 : decode cX10_init 30 = .ok (.dup, 1) := by decide +kernel
theorem dX10_init_31 : decode cX10_init 31 = .ok (.invokespecial 23, 3) := by decide +kernel
theorem dX10_init_34 : decode cX10_init 34 = .ok (.putfield 24, 3) := by decide +kernel
theorem dX10_init_37 : decode cX10_init 37 = .ok (.aload_n 0, 1) := by decide +kernel
theorem dX10_init_38 : decode cX10_init 38 = .ok (.aload_n 0, 1) := by decide +kernel
theorem dX10_init_39 : decode cX10_init 39 = .ok (.getfield 24, 3) := by decide +kernel
theorem dX10_init_42 : decode cX10_init 42 = .ok (.getfield 28, 3) := by decide +kernel
theorem dX10_init_45 : decode cX10_init 45 = .ok (.putfield 32, 3) := by decide +kernel
theorem dX10_init_48 : decode cX10_init 48 = .ok (.aload_n 0, 1) := by decide +kernel
theorem dX10_init_49 : decode cX10_init 49 = .ok (.aload_n 0, 1) := by decide +kernel
theorem dX10_init_50 : decode cX10_init 50 = .ok (.getfield 24, 3) := by decide +kernel
theorem dX10_init_53 : decode cX10_init 53 = .ok (.getfield 33, 3) := by decide +kernel
theorem dX10_init_56 : decode cX10_init 56 = .ok (.putfield 37, 3) := by decide +kernel
theorem dX10_init_59 : decode cX10_init 59 = .ok (.aload_n 0, 1) := by decide +kernel
theorem dX10_init_60 : decode cX10_init 60 = .ok (.iconst 3, 1) := by decide +kernel
theorem dX10_init_61 : decode cX10_init 61 = .ok (.anewarray 38, 3) := by decide +kernel
theorem dX10_init_64 : decode cX10_init 64 = .ok (.putfield 40, 3) := by decide +kernel
theorem dX10_init_67 : decode cX10_init 67 = .ok (.iconst 0, 1) := by decide +kernel
theorem dX10_init_68 : decode cX10_init 68 = .ok (.istore_n 1, 1) := by decide +kernel
theorem dX10_init_69 : decode cX10_init 69 = .ok (.iload_n 1, 1) := by decide +kernel
theorem dX10_init_70 : decode cX10_init 70 = .ok (.aload_n 0, 1) := by decide +kernel
theorem dX10_init_71 : decode cX10_init 71 = .ok (.getfield 40, 3) := by decide +kernel
theorem dX10_init_74 : decode cX10_init 74 = .ok (.arraylength, 1) := by decide +kernel
theorem dX10_init_75 : decode cX10_init 75 = .ok (.if_icmp .ge 22, 3) := by decide +kernel
theorem dX10_init_78 : decode cX10_init 78 = .ok (.aload_n 0, 1) := by decide +kernel
theorem dX10_init_79 : decode cX10_init 79 = .ok (.getfield 40, 3) := by decide +kernel
theorem dX10_init_82 : decode cX10_init 82 = .ok (.iload_n 1, 1) := by decide +kernel
theorem dX10_init_83 : decode cX10_init 83 = .ok (.new 38, 3) := by decide +kernel
theorem dX10_init_86 : decode cX10_init 86 = .ok (.dup, 1) := by decide +kernel
theorem dX10_init_87 : decode cX10_init 87 = .ok (.invokespecial 44, 3) := by decide +kernel
theorem dX10_init_90 : decode cX10_init 90 = .ok (.aastore, 1) := by decide +kernel
theorem dX10_init_91 : decode cX10_init 91 = .ok (.iinc 1 1, 3) := by decide +kernel
theorem dX10_init_94 : decode cX10_init 94 = .ok (.goto (-25), 3) := by decide +kernel
theorem dX10_init_97 : decode cX10_init 97 = .ok (.aload_n 0, 1) := by decide +kernel
theorem dX10_init_98 : decode cX10_init 98 = .ok (.new 45, 3) := by decide +kernel
theorem dX10_init_101 : decode cX10_init 101 = .ok (.dup, 1) := by decide +kernel
theorem dX10_init_102 : decode cX10_init 102 = .ok (.invokespecial 47, 3) := by decide +kernel
theorem dX10_init_105 : decode cX10_init 105 = .ok (.putfield 48, 3) := by decide +kernel
theorem dX10_init_108 : decode cX10_init 108 = .ok (.aload_n 0, 1) := by decide +kernel
theorem dX10_init_109 : decode cX10_init 109 = .ok (.new 52, 3) := by decide +kernel
theorem dX10_init_112 : decode cX10_init 112 = .ok (.dup, 1) := by decide +kernel
theorem dX10_init_113 : decode cX10_init 113 = .ok (.invokespecial 54, 3) := by decide +kernel
theorem dX10_init_116 : decode cX10_init 116 = .ok (.putfield 55, 3) := by decide +kernel
theorem dX10_init_119 : decode cX10_init 119 = .ok (.aload_n 0, 1) := by decide +kernel
theorem dX10_init_120 : decode cX10_init 120 = .ok (.new 59, 3) := by decide +kernel
theorem dX10_init_123 : decode cX10_init 123 = .ok (.dup, 1) := by decide +kernel
theorem dX10_init_124 : decode cX10_init 124 = .ok (.invokespecial 61, 3) := by decide +kernel
theorem dX10_init_127 : decode cX10_init 127 = .ok (.putfield 62, 3) := by decide +kernel
theorem dX10_init_130 : decode cX10_init 130 = .ok (.aload_n 0, 1) := by decide +kernel
theorem dX10_init_131 : decode cX10_init 131 = .ok (.new 66, 3) := by decide +kernel
theorem dX10_init_134 : decode cX10_init 134 = .ok (.dup, 1) := by decide +kernel
theorem dX10_init_135 : decode cX10_init 135 = .ok (.invokespecial 68, 3) := by decide +kernel
theorem dX10_init_138 : decode cX10_init 138 = .ok (.putfield 69, 3) := by decide +kernel
theorem dX10_init_141 : decode cX10_init 141 = .ok (.aload_n 0, 1) := by decide +kernel
theorem dX10_init_142 : decode cX10_init 142 = .ok (.iconst (-1), 1) := by decide +kernel
theorem dX10_init_143 : decode cX10_init 143 = .ok (.putfield 73, 3) := by decide +kernel
theorem dX10_init_146 : decode cX10_init 146 = .ok (.return_, 1) := by decide +kernel
theorem dX10_feed_0 : decode cX10_feed 0 = .ok (.aload_n 0, 1) := by decide +kernel
theorem dX10_feed_1 : decode cX10_feed 1 = .ok (.getfield 20, 3) := by decide +kernel
theorem dX10_feed_4 : decode cX10_feed 4 = .ok (.getfield 77, 3) := by decide +kernel
theorem dX10_feed_7 : decode cX10_feed 7 = .ok (.bipush 20, 2) := by decide +kernel
theorem dX10_feed_9 : decode cX10_feed 9 = .ok (.iadd, 1) := by decide +kernel
theorem dX10_feed_10 : decode cX10_feed 10 = .ok (.sipush 2000, 3) := by decide +kernel
theorem dX10_feed_13 : decode cX10_feed 13 = .ok (.if_icmp .le 5, 3) := by decide +kernel
theorem dX10_feed_16 : decode cX10_feed 16 = .ok (.iconst (-1), 1) := by decide +kernel
theorem dX10_feed_17 : decode cX10_feed 17 = .ok (.ireturn, 1) := by decide +kernel
theorem dX10_feed_18 : decode cX10_feed 18 = .ok (.aload_n 0, 1) := by decide +kernel
theorem dX10_feed_19 : decode cX10_feed 19 = .ok (.getfield 20, 3) := by decide +kernel
theorem dX10_feed_22 : decode cX10_feed 22 = .ok (.iload_n 1, 1) := by decide +kernel
theorem dX10_feed_23 : decode cX10_feed 23 = .ok (.invokevirtual 82, 3) := by decide +kernel
theorem dX10_feed_26 : decode cX10_feed 26 = .ok (.aload_n 0, 1) := by decide +kernel
theorem dX10_feed_27 : decode cX10_feed 27 = .ok (.getfield 20, 3) := by decide +kernel
theorem dX10_feed_30 : decode cX10_feed 30 = .ok (.iload_n 2, 1) := by decide +kernel
theorem dX10_feed_31 : decode cX10_feed 31 = .ok (.invokevirtual 82, 3) := by decide +kernel
theorem dX10_feed_34 : decode cX10_feed 34 = .ok (.aload_n 0, 1) := by decide +kernel
theorem dX10_feed_35 : decode cX10_feed 35 = .ok (.getfield 20, 3) := by decide +kernel
theorem dX10_feed_38 : decode cX10_feed 38 = .ok (.iload_n 3, 1) := by decide +kernel
theorem dX10_feed_39 : decode cX10_feed 39 = .ok (.invokevirtual 82, 3) := by decide +kernel
theorem dX10_feed_42 : decode cX10_feed 42 = .ok (.aload_n 0, 1) := by decide +kernel
theorem dX10_feed_43 : decode cX10_feed 43 = .ok (.getfield 20, 3) := by decide +kernel
theorem dX10_feed_46 : decode cX10_feed 46 = .ok (.iload 4, 2) := by decide +kernel
theorem dX10_feed_48 : decode cX10_feed 48 = .ok (.invokevirtual 82, 3) := by decide +kernel
theorem dX10_feed_51 : decode cX10_feed 51 = .ok (.aload_n 0, 1) := by decide +kernel
theorem dX10_feed_52 : decode cX10_feed 52 = .ok (.getfield 20, 3) := by decide +kernel
theorem dX10_feed_55 : decode cX10_feed 55 = .ok (.iload 5, 2) := by decide +kernel
theorem dX10_feed_57 : decode cX10_feed 57 = .ok (.invokevirtual 82, 3) := by decide +kernel
theorem dX10_feed_60 : decode cX10_feed 60 = .ok (.aload_n 0, 1) := by decide +kernel
theorem dX10_feed_61 : decode cX10_feed 61 = .ok (.getfield 20, 3) := by decide +kernel
theorem dX10_feed_64 : decode cX10_feed 64 = .ok (.getfield 77, 3) := by decide +kernel
theorem dX10_feed_67 : decode cX10_feed 67 = .ok (.ireturn, 1) := by decide +kernel
theorem dX10_back_0 : decode cX10_back 0 = .ok (.iload_n 1, 1) := by decide +kernel
theorem dX10_back_1 : decode cX10_back 1 = .ok (.ifCond .lt 14, 3) := by decide +kernel
theorem dX10_back_4 : decode cX10_back 4 = .ok (.iload_n 1, 1) := by decide +kernel
theorem dX10_back_5 : decode cX10_back 5 = .ok (.aload_n 0, 1) := by decide +kernel
theorem dX10_back_6 : decode cX10_back 6 = .ok (.getfield 20, 3) := by decide +kernel
theorem dX10_back_9 : decode cX10_back 9 = .ok (.getfield 77, 3) := by decide +kernel
theorem dX10_back_12 : decode cX10_back 12 = .ok (.if_icmp .le 5, 3) := by decide +kernel
theorem dX10_back_15 : decode cX10_back 15 = .ok (.iconst (-1), 1) := by decide +kernel
theorem dX10_back_16 : decode cX10_back 16 = .ok (.ireturn, 1) := by decide +kernel
theorem dX10_back_17 : decode cX10_back 17 = .ok (.aload_n 0, 1) := by decide +kernel
theorem dX10_back_18 : decode cX10_back 18 = .ok (.getfield 20, 3) := by decide +kernel
theorem dX10_back_21 : decode cX10_back 21 = .ok (.dup, 1) := by decide +kernel
theorem dX10_back_22 : decode cX10_back 22 = .ok (.getfield 77, 3) := by decide +kernel
theorem dX10_back_25 : decode cX10_back 25 = .ok (.iload_n 1, 1) := by decide +kernel
theorem dX10_back_26 : decode cX10_back 26 = .ok (.isub, 1) := by decide +kernel
theorem dX10_back_27 : decode cX10_back 27 = .ok (.putfield 77, 3) := by decide +kernel
theorem dX10_back_30 : decode cX10_back 30 = .ok (.aload_n 0, 1) := by decide +kernel
theorem dX10_back_31 : decode cX10_back 31 = .ok (.getfield 20, 3) := by decide +kernel
theorem dX10_back_34 : decode cX10_back 34 = .ok (.getfield 77, 3) := by decide +kernel
theorem dX10_back_37 : decode cX10_back 37 = .ok (.ireturn, 1) := by decide +kernel
theorem dX10_read_0 : decode cX10_read 0 = .ok (.iload_n 1, 1) := by decide +kernel
theorem dX10_read_1 : decode cX10_read 1 = .ok (.invokestatic 86, 3) := by decide +kernel
theorem dX10_read_4 : decode cX10_read 4 = .ok (.ifCond .eq 15, 3) := by decide +kernel
theorem dX10_read_7 : decode cX10_read 7 = .ok (.aload_n 0, 1) := by decide +kernel
theorem dX10_read_8 : decode cX10_read 8 = .ok (.getfield 90, 3) := by decide +kernel
theorem dX10_read_11 : decode cX10_read 11 = .ok (.aload_n 0, 1) := by decide +kernel
theorem dX10_read_12 : decode cX10_read 12 = .ok (.getfield 32, 3) := by decide +kernel
theorem dX10_read_15 : decode cX10_read 15 = .ok (.arraylength, 1) := by decide +kernel
theorem dX10_read_16 : decode cX10_read 16 = .ok (.if_icmp .lt 6, 3) := by decide +kernel
theorem dX10_read_19 : decode cX10_read 19 = .ok (.bipush (-2), 2) := by decide +kernel
theorem dX10_read_21 : decode cX10_read 21 = .ok (.ireturn, 1) := by decide +kernel
theorem dX10_read_22 : decode cX10_read 22 = .ok (.aload_n 0, 1) := by decide +kernel
theorem dX10_read_23 : decode cX10_read 23 = .ok (.getfield 32, 3) := by decide +kernel
theorem dX10_read_26 : decode cX10_read 26 = .ok (.aload_n 0, 1) := by decide +kernel
theorem dX10_read_27 : decode cX10_read 27 = .ok (.getfield 90, 3) := by decide +kernel
theorem dX10_read_30 : decode cX10_read 30 = .ok (.aaload, 1) := by decide +kernel
theorem dX10_read_31 : decode cX10_read 31 = .ok (.astore_n 2, 1) := by decide +kernel
theorem dX10_read_32 : decode cX10_read 32 = .ok (.aload_n 0, 1) := by decide +kernel
theorem dX10_read_33 : decode cX10_read 33 = .ok (.getfield 10, 3) := by decide +kernel
theorem dX10_read_36 : decode cX10_read 36 = .ok (.aload_n 2, 1) := by decide +kernel
theorem dX10_read_37 : decode cX10_read 37 = .ok (.invokevirtual 93, 3) := by decide +kernel
theorem dX10_read_40 : decode cX10_read 40 = .ok (.aload_n 0, 1) := by decide +kernel
theorem dX10_read_41 : decode cX10_read 41 = .ok (.getfield 20, 3) := by decide +kernel
theorem dX10_read_44 : decode cX10_read 44 = .ok (.iconst 0, 1) := by decide +kernel
theorem dX10_read_45 : decode cX10_read 45 = .ok (.putfield 77, 3) := by decide +kernel
theorem dX10_read_48 : decode cX10_read 48 = .ok (.aload_n 0, 1) := by decide +kernel
theorem dX10_read_49 : decode cX10_read 49 = .ok (.getfield 10, 3) := by decide +kernel
theorem dX10_read_52 : decode cX10_read 52 = .ok (.getfield 97, 3) := by decide +kernel
theorem dX10_read_55 : decode cX10_read 55 = .ok (.ifCond .eq 22, 3) := by decide +kernel
theorem dX10_read_58 : decode cX10_read 58 = .ok (.aload_n 0, 1) := by decide +kernel
theorem dX10_read_59 : decode cX10_read 59 = .ok (.aload_n 0, 1) := by decide +kernel
theorem dX10_read_60 : decode cX10_read 60 = .ok (.getfield 10, 3) := by decide +kernel
theorem dX10_read_63 : decode cX10_read 63 = .ok (.getfield 100, 3) := by decide +kernel
theorem dX10_read_66 : decode cX10_read 66 = .ok (.putfield 73, 3) := by decide +kernel
theorem dX10_read_69 : decode cX10_read 69 = .ok (.aload_n 0, 1) := by decide +kernel
theorem dX10_read_70 : decode cX10_read 70 = .ok (.getfield 10, 3) := by decide +kernel
theorem dX10_read_73 : decode cX10_read 73 = .ok (.getfield 97, 3) := by decide +kernel
theorem dX10_read_76 : decode cX10_read 76 = .ok (.ireturn, 1) := by decide +kernel
theorem dX10_read_77 : decode cX10_read 77 = .ok (.aload_n 0, 1) := by decide +kernel
theorem dX10_read_78 : decode cX10_read 78 = .ok (.iconst (-1), 1) := by decide +kernel
theorem dX10_read_79 : decode cX10_read 79 = .ok (.putfield 73, 3) := by decide +kernel
theorem dX10_read_82 : decode cX10_read 82 = .ok (.aload_n 2, 1) := by decide +kernel
theorem dX10_read_83 : decode cX10_read 83 = .ok (.iload_n 1, 1) := by decide +kernel
theorem dX10_read_84 : decode cX10_read 84 = .ok (.putfield 101, 3) := by decide +kernel
theorem dX10_read_87 : decode cX10_read 87 = .ok (.aload_n 0, 1) := by decide +kernel
theorem dX10_read_88 : decode cX10_read 88 = .ok (.dup, 1) := by decide +kernel
theorem dX10_read_89 : decode cX10_read 89 = .ok (.getfield 90, 3) := by decide +kernel
theorem dX10_read_92 : decode cX10_read 92 = .ok (.iconst 1, 1) := by decide +kernel
theorem dX10_read_93 : decode cX10_read 93 = .ok (.iadd, 1) := by decide +kernel
theorem dX10_read_94 : decode cX10_read 94 = .ok (.putfield 90, 3) := by decide +kernel
theorem dX10_read_97 : decode cX10_read 97 = .ok (.iconst 0, 1) := by decide +kernel
theorem dX10_read_98 : decode cX10_read 98 = .ok (.ireturn, 1) := by decide +kernel
theorem dX10_place_0 : decode cX10_place 0 = .ok (.aload_n 0, 1) := by decide +kernel
theorem dX10_place_1 : decode cX10_place 1 = .ok (.getfield 73, 3) := by decide +kernel
theorem dX10_place_4 : decode cX10_place 4 = .ok (.ireturn, 1) := by decide +kernel
theorem dX10_child_0 : decode cX10_child 0 = .ok (.iload_n 1, 1) := by decide +kernel
theorem dX10_child_1 : decode cX10_child 1 = .ok (.bipush 12, 2) := by decide +kernel
theorem dX10_child_3 : decode cX10_child 3 = .ok (.invokestatic 106, 3) := by decide +kernel
theorem dX10_child_6 : decode cX10_child 6 = .ok (.ifCond .eq 29, 3) := by decide +kernel
theorem dX10_child_9 : decode cX10_child 9 = .ok (.iload_n 2, 1) := by decide +kernel
theorem dX10_child_10 : decode cX10_child 10 = .ok (.iconst 3, 1) := by decide +kernel
theorem dX10_child_11 : decode cX10_child 11 = .ok (.invokestatic 106, 3) := by decide +kernel
theorem dX10_child_14 : decode cX10_child 14 = .ok (.ifCond .eq 21, 3) := by decide +kernel
theorem dX10_child_17 : decode cX10_child 17 = .ok (.iload_n 3, 1) := by decide +kernel
theorem dX10_child_18 : decode cX10_child 18 = .ok (.bipush 13, 2) := by decide +kernel
theorem dX10_child_20 : decode cX10_child 20 = .ok (.invokestatic 106, 3) := by decide +kernel
theorem dX10_child_23 : decode cX10_child 23 = .ok (.ifCond .eq 12, 3) := by decide +kernel
theorem dX10_child_26 : decode cX10_child 26 = .ok (.iload 4, 2) := by decide +kernel
theorem dX10_child_28 : decode cX10_child 28 = .ok (.iconst 4, 1) := by decide +kernel
theorem dX10_child_29 : decode cX10_child 29 = .ok (.invokestatic 106, 3) := by decide +kernel
theorem dX10_child_32 : decode cX10_child 32 = .ok (.ifCond .ne 5, 3) := by decide +kernel
theorem dX10_child_35 : decode cX10_child 35 = .ok (.iconst (-1), 1) := by decide +kernel
theorem dX10_child_36 : decode cX10_child 36 = .ok (.ireturn, 1) := by decide +kernel
theorem dX10_child_37 : decode cX10_child 37 = .ok (.aload_n 0, 1) := by decide +kernel
theorem dX10_child_38 : decode cX10_child 38 = .ok (.getfield 37, 3) := by decide +kernel
theorem dX10_child_41 : decode cX10_child 41 = .ok (.iload_n 1, 1) := by decide +kernel
theorem dX10_child_42 : decode cX10_child 42 = .ok (.iload_n 2, 1) := by decide +kernel
theorem dX10_child_43 : decode cX10_child 43 = .ok (.iload_n 3, 1) := by decide +kernel
theorem dX10_child_44 : decode cX10_child 44 = .ok (.iload 4, 2) := by decide +kernel
theorem dX10_child_46 : decode cX10_child 46 = .ok (.invokevirtual 110, 3) := by decide +kernel
theorem dX10_child_49 : decode cX10_child 49 = .ok (.ireturn, 1) := by decide +kernel
theorem dX10_move_0 : decode cX10_move 0 = .ok (.iload_n 1, 1) := by decide +kernel
theorem dX10_move_1 : decode cX10_move 1 = .ok (.aload_n 0, 1) := by decide +kernel
theorem dX10_move_2 : decode cX10_move 2 = .ok (.getfield 37, 3) := by decide +kernel
theorem dX10_move_5 : decode cX10_move 5 = .ok (.getfield 116, 3) := by decide +kernel
theorem dX10_move_8 : decode cX10_move 8 = .ok (.invokestatic 106, 3) := by decide +kernel
theorem dX10_move_11 : decode cX10_move 11 = .ok (.ifCond .eq 19, 3) := by decide +kernel
theorem dX10_move_14 : decode cX10_move 14 = .ok (.iload_n 2, 1) := by decide +kernel
theorem dX10_move_15 : decode cX10_move 15 = .ok (.bipush 12, 2) := by decide +kernel
theorem dX10_move_17 : decode cX10_move 17 = .ok (.invokestatic 106, 3) := by decide +kernel
theorem dX10_move_20 : decode cX10_move 20 = .ok (.ifCond .eq 10, 3) := by decide +kernel
theorem dX10_move_23 : decode cX10_move 23 = .ok (.iload_n 3, 1) := by decide +kernel
theorem dX10_move_24 : decode cX10_move 24 = .ok (.invokestatic 86, 3) := by decide +kernel
theorem dX10_move_27 : decode cX10_move 27 = .ok (.ifCond .ne 5, 3) := by decide +kernel
theorem dX10_move_30 : decode cX10_move 30 = .ok (.iconst (-1), 1) := by decide +kernel
theorem dX10_move_31 : decode cX10_move 31 = .ok (.ireturn, 1) := by decide +kernel
theorem dX10_move_32 : decode cX10_move 32 = .ok (.aload_n 0, 1) := by decide +kernel
theorem dX10_move_33 : decode cX10_move 33 = .ok (.getfield 37, 3) := by decide +kernel
theorem dX10_move_36 : decode cX10_move 36 = .ok (.iload 4, 2) := by decide +kernel
theorem dX10_move_38 : decode cX10_move 38 = .ok (.ifCond .eq 7, 3) := by decide +kernel
theorem dX10_move_41 : decode cX10_move 41 = .ok (.iconst 2, 1) := by decide +kernel
theorem dX10_move_42 : decode cX10_move 42 = .ok (.goto 4, 3) := by decide +kernel
theorem dX10_move_45 : decode cX10_move 45 = .ok (.iconst 1, 1) := by decide +kernel
theorem dX10_move_46 : decode cX10_move 46 = .ok (.iload_n 1, 1) := by decide +kernel
theorem dX10_move_47 : decode cX10_move 47 = .ok (.iload_n 2, 1) := by decide +kernel
theorem dX10_move_48 : decode cX10_move 48 = .ok (.iload_n 3, 1) := by decide +kernel
theorem dX10_move_49 : decode cX10_move 49 = .ok (.iconst 0, 1) := by decide +kernel
theorem dX10_move_50 : decode cX10_move 50 = .ok (.invokevirtual 119, 3) := by decide +kernel
theorem dX10_move_53 : decode cX10_move 53 = .ok (.ireturn, 1) := by decide +kernel
theorem dX10_shut_0 : decode cX10_shut 0 = .ok (.iload_n 1, 1) := by decide +kernel
theorem dX10_shut_1 : decode cX10_shut 1 = .ok (.bipush 24, 2) := by decide +kernel
theorem dX10_shut_3 : decode cX10_shut 3 = .ok (.invokestatic 106, 3) := by decide +kernel
theorem dX10_shut_6 : decode cX10_shut 6 = .ok (.ifCond .eq 22, 3) := by decide +kernel
theorem dX10_shut_9 : decode cX10_shut 9 = .ok (.iload_n 2, 1) := by decide +kernel
theorem dX10_shut_10 : decode cX10_shut 10 = .ok (.invokestatic 86, 3) := by decide +kernel
theorem dX10_shut_13 : decode cX10_shut 13 = .ok (.ifCond .eq 15, 3) := by decide +kernel
theorem dX10_shut_16 : decode cX10_shut 16 = .ok (.iload_n 3, 1) := by decide +kernel
theorem dX10_shut_17 : decode cX10_shut 17 = .ok (.invokestatic 86, 3) := by decide +kernel
theorem dX10_shut_20 : decode cX10_shut 20 = .ok (.ifCond .eq 8, 3) := by decide +kernel
theorem dX10_shut_23 : decode cX10_shut 23 = .ok (.iload_n 3, 1) := by decide +kernel
theorem dX10_shut_24 : decode cX10_shut 24 = .ok (.iload_n 2, 1) := by decide +kernel
theorem dX10_shut_25 : decode cX10_shut 25 = .ok (.if_icmp .ge 5, 3) := by decide +kernel
theorem dX10_shut_28 : decode cX10_shut 28 = .ok (.iconst (-1), 1) := by decide +kernel
theorem dX10_shut_29 : decode cX10_shut 29 = .ok (.ireturn, 1) := by decide +kernel
theorem dX10_shut_30 : decode cX10_shut 30 = .ok (.aload_n 0, 1) := by decide +kernel
theorem dX10_shut_31 : decode cX10_shut 31 = .ok (.getfield 37, 3) := by decide +kernel
theorem dX10_shut_34 : decode cX10_shut 34 = .ok (.iconst 3, 1) := by decide +kernel
theorem dX10_shut_35 : decode cX10_shut 35 = .ok (.iload_n 1, 1) := by decide +kernel
theorem dX10_shut_36 : decode cX10_shut 36 = .ok (.iload_n 2, 1) := by decide +kernel
theorem dX10_shut_37 : decode cX10_shut 37 = .ok (.iload_n 3, 1) := by decide +kernel
theorem dX10_shut_38 : decode cX10_shut 38 = .ok (.iconst 0, 1) := by decide +kernel
theorem dX10_shut_39 : decode cX10_shut 39 = .ok (.invokevirtual 119, 3) := by decide +kernel
theorem dX10_shut_42 : decode cX10_shut 42 = .ok (.ireturn, 1) := by decide +kernel
theorem dX10_part_0 : decode cX10_part 0 = .ok (.iload_n 1, 1) := by decide +kernel
theorem dX10_part_1 : decode cX10_part 1 = .ok (.aload_n 0, 1) := by decide +kernel
theorem dX10_part_2 : decode cX10_part 2 = .ok (.getfield 37, 3) := by decide +kernel
theorem dX10_part_5 : decode cX10_part 5 = .ok (.getfield 116, 3) := by decide +kernel
theorem dX10_part_8 : decode cX10_part 8 = .ok (.invokestatic 106, 3) := by decide +kernel
theorem dX10_part_11 : decode cX10_part 11 = .ok (.ifCond .eq 22, 3) := by decide +kernel
theorem dX10_part_14 : decode cX10_part 14 = .ok (.iload_n 2, 1) := by decide +kernel
theorem dX10_part_15 : decode cX10_part 15 = .ok (.aload_n 0, 1) := by decide +kernel
theorem dX10_part_16 : decode cX10_part 16 = .ok (.getfield 37, 3) := by decide +kernel
theorem dX10_part_19 : decode cX10_part 19 = .ok (.getfield 116, 3) := by decide +kernel
theorem dX10_part_22 : decode cX10_part 22 = .ok (.invokestatic 106, 3) := by decide +kernel
theorem dX10_part_25 : decode cX10_part 25 = .ok (.ifCond .eq 8, 3) := by decide +kernel
theorem dX10_part_28 : decode cX10_part 28 = .ok (.iload_n 1, 1) := by decide +kernel
theorem dX10_part_29 : decode cX10_part 29 = .ok (.iload_n 2, 1) := by decide +kernel
theorem dX10_part_30 : decode cX10_part 30 = .ok (.if_icmp .ne 5, 3) := by decide +kernel
theorem dX10_part_33 : decode cX10_part 33 = .ok (.iconst (-1), 1) := by decide +kernel
theorem dX10_part_34 : decode cX10_part 34 = .ok (.ireturn, 1) := by decide +kernel
theorem dX10_part_35 : decode cX10_part 35 = .ok (.aload_n 0, 1) := by decide +kernel
theorem dX10_part_36 : decode cX10_part 36 = .ok (.getfield 37, 3) := by decide +kernel
theorem dX10_part_39 : decode cX10_part 39 = .ok (.iconst 4, 1) := by decide +kernel
theorem dX10_part_40 : decode cX10_part 40 = .ok (.iload_n 1, 1) := by decide +kernel
theorem dX10_part_41 : decode cX10_part 41 = .ok (.iload_n 2, 1) := by decide +kernel
theorem dX10_part_42 : decode cX10_part 42 = .ok (.iconst 0, 1) := by decide +kernel
theorem dX10_part_43 : decode cX10_part 43 = .ok (.iconst 0, 1) := by decide +kernel
theorem dX10_part_44 : decode cX10_part 44 = .ok (.invokevirtual 119, 3) := by decide +kernel
theorem dX10_part_47 : decode cX10_part 47 = .ok (.ireturn, 1) := by decide +kernel
theorem dX10_tap_0 : decode cX10_tap 0 = .ok (.iload_n 1, 1) := by decide +kernel
theorem dX10_tap_1 : decode cX10_tap 1 = .ok (.aload_n 0, 1) := by decide +kernel
theorem dX10_tap_2 : decode cX10_tap 2 = .ok (.getfield 37, 3) := by decide +kernel
theorem dX10_tap_5 : decode cX10_tap 5 = .ok (.getfield 116, 3) := by decide +kernel
theorem dX10_tap_8 : decode cX10_tap 8 = .ok (.invokestatic 106, 3) := by decide +kernel
theorem dX10_tap_11 : decode cX10_tap 11 = .ok (.ifCond .eq 30, 3) := by decide +kernel
theorem dX10_tap_14 : decode cX10_tap 14 = .ok (.iload_n 2, 1) := by decide +kernel
theorem dX10_tap_15 : decode cX10_tap 15 = .ok (.bipush 6, 2) := by decide +kernel
theorem dX10_tap_17 : decode cX10_tap 17 = .ok (.invokestatic 106, 3) := by decide +kernel
theorem dX10_tap_20 : decode cX10_tap 20 = .ok (.ifCond .eq 21, 3) := by decide +kernel
theorem dX10_tap_23 : decode cX10_tap 23 = .ok (.iload_n 3, 1) := by decide +kernel
theorem dX10_tap_24 : decode cX10_tap 24 = .ok (.invokestatic 86, 3) := by decide +kernel
theorem dX10_tap_27 : decode cX10_tap 27 = .ok (.ifCond .eq 14, 3) := by decide +kernel
theorem dX10_tap_30 : decode cX10_tap 30 = .ok (.iload 4, 2) := by decide +kernel
theorem dX10_tap_32 : decode cX10_tap 32 = .ok (.sipush 1440, 3) := by decide +kernel
theorem dX10_tap_35 : decode cX10_tap 35 = .ok (.invokestatic 106, 3) := by decide +kernel
theorem dX10_tap_38 : decode cX10_tap 38 = .ok (.ifCond .ne 5, 3) := by decide +kernel
theorem dX10_tap_41 : decode cX10_tap 41 = .ok (.iconst (-1), 1) := by decide +kernel
theorem dX10_tap_42 : decode cX10_tap 42 = .ok (.ireturn, 1) := by decide +kernel
theorem dX10_tap_43 : decode cX10_tap 43 = .ok (.aload_n 0, 1) := by decide +kernel
theorem dX10_tap_44 : decode cX10_tap 44 = .ok (.getfield 37, 3) := by decide +kernel
theorem dX10_tap_47 : decode cX10_tap 47 = .ok (.iconst 5, 1) := by decide +kernel
theorem dX10_tap_48 : decode cX10_tap 48 = .ok (.iload_n 1, 1) := by decide +kernel
theorem dX10_tap_49 : decode cX10_tap 49 = .ok (.iload_n 2, 1) := by decide +kernel
theorem dX10_tap_50 : decode cX10_tap 50 = .ok (.iload_n 3, 1) := by decide +kernel
theorem dX10_tap_51 : decode cX10_tap 51 = .ok (.iload 4, 2) := by decide +kernel
theorem dX10_tap_53 : decode cX10_tap 53 = .ok (.invokevirtual 119, 3) := by decide +kernel
theorem dX10_tap_56 : decode cX10_tap 56 = .ok (.ireturn, 1) := by decide +kernel
theorem dX10_annul_0 : decode cX10_annul 0 = .ok (.iload_n 1, 1) := by decide +kernel
theorem dX10_annul_1 : decode cX10_annul 1 = .ok (.aload_n 0, 1) := by decide +kernel
theorem dX10_annul_2 : decode cX10_annul 2 = .ok (.getfield 37, 3) := by decide +kernel
theorem dX10_annul_5 : decode cX10_annul 5 = .ok (.getfield 123, 3) := by decide +kernel
theorem dX10_annul_8 : decode cX10_annul 8 = .ok (.invokestatic 106, 3) := by decide +kernel
theorem dX10_annul_11 : decode cX10_annul 11 = .ok (.ifCond .ne 5, 3) := by decide +kernel
theorem dX10_annul_14 : decode cX10_annul 14 = .ok (.iconst (-1), 1) := by decide +kernel
theorem dX10_annul_15 : decode cX10_annul 15 = .ok (.ireturn, 1) := by decide +kernel
theorem dX10_annul_16 : decode cX10_annul 16 = .ok (.aload_n 0, 1) := by decide +kernel
theorem dX10_annul_17 : decode cX10_annul 17 = .ok (.getfield 37, 3) := by decide +kernel
theorem dX10_annul_20 : decode cX10_annul 20 = .ok (.iload_n 1, 1) := by decide +kernel
theorem dX10_annul_21 : decode cX10_annul 21 = .ok (.invokevirtual 126, 3) := by decide +kernel
theorem dX10_annul_24 : decode cX10_annul 24 = .ok (.ireturn, 1) := by decide +kernel
theorem dX10_force_0 : decode cX10_force 0 = .ok (.aload_n 0, 1) := by decide +kernel
theorem dX10_force_1 : decode cX10_force 1 = .ok (.iload_n 1, 1) := by decide +kernel
theorem dX10_force_2 : decode cX10_force 2 = .ok (.invokevirtual 130, 3) := by decide +kernel
theorem dX10_force_5 : decode cX10_force 5 = .ok (.ireturn, 1) := by decide +kernel
theorem dX10_home_0 : decode cX10_home 0 = .ok (.iload_n 2, 1) := by decide +kernel
theorem dX10_home_1 : decode cX10_home 1 = .ok (.invokestatic 86, 3) := by decide +kernel
theorem dX10_home_4 : decode cX10_home 4 = .ok (.ifCond .eq 12, 3) := by decide +kernel
theorem dX10_home_7 : decode cX10_home 7 = .ok (.aload_n 0, 1) := by decide +kernel
theorem dX10_home_8 : decode cX10_home 8 = .ok (.iload_n 1, 1) := by decide +kernel
theorem dX10_home_9 : decode cX10_home 9 = .ok (.iload_n 3, 1) := by decide +kernel
theorem dX10_home_10 : decode cX10_home 10 = .ok (.invokevirtual 133, 3) := by decide +kernel
theorem dX10_home_13 : decode cX10_home 13 = .ok (.ifCond .ne 5, 3) := by decide +kernel
theorem dX10_home_16 : decode cX10_home 16 = .ok (.iconst (-1), 1) := by decide +kernel
theorem dX10_home_17 : decode cX10_home 17 = .ok (.ireturn, 1) := by decide +kernel
theorem dX10_home_18 : decode cX10_home 18 = .ok (.aload_n 0, 1) := by decide +kernel
theorem dX10_home_19 : decode cX10_home 19 = .ok (.getfield 37, 3) := by decide +kernel
theorem dX10_home_22 : decode cX10_home 22 = .ok (.iload_n 1, 1) := by decide +kernel
theorem dX10_home_23 : decode cX10_home 23 = .ok (.iload_n 2, 1) := by decide +kernel
theorem dX10_home_24 : decode cX10_home 24 = .ok (.iload_n 3, 1) := by decide +kernel
theorem dX10_home_25 : decode cX10_home 25 = .ok (.invokevirtual 136, 3) := by decide +kernel
theorem dX10_home_28 : decode cX10_home 28 = .ok (.ireturn, 1) := by decide +kernel
theorem dX10_dist_0 : decode cX10_dist 0 = .ok (.iload_n 1, 1) := by decide +kernel
theorem dX10_dist_1 : decode cX10_dist 1 = .ok (.iload_n 2, 1) := by decide +kernel
theorem dX10_dist_2 : decode cX10_dist 2 = .ok (.iload_n 3, 1) := by decide +kernel
theorem dX10_dist_3 : decode cX10_dist 3 = .ok (.invokestatic 140, 3) := by decide +kernel
theorem dX10_dist_6 : decode cX10_dist 6 = .ok (.ifCond .eq 14, 3) := by decide +kernel
theorem dX10_dist_9 : decode cX10_dist 9 = .ok (.aload_n 0, 1) := by decide +kernel
theorem dX10_dist_10 : decode cX10_dist 10 = .ok (.iload 4, 2) := by decide +kernel
theorem dX10_dist_12 : decode cX10_dist 12 = .ok (.iload 5, 2) := by decide +kernel
theorem dX10_dist_14 : decode cX10_dist 14 = .ok (.invokevirtual 144, 3) := by decide +kernel
theorem dX10_dist_17 : decode cX10_dist 17 = .ok (.ifCond .ne 5, 3) := by decide +kernel
theorem dX10_dist_20 : decode cX10_dist 20 = .ok (.iconst (-1), 1) := by decide +kernel
theorem dX10_dist_21 : decode cX10_dist 21 = .ok (.ireturn, 1) := by decide +kernel
theorem dX10_dist_22 : decode cX10_dist 22 = .ok (.aload_n 0, 1) := by decide +kernel
theorem dX10_dist_23 : decode cX10_dist 23 = .ok (.getfield 24, 3) := by decide +kernel
theorem dX10_dist_26 : decode cX10_dist 26 = .ok (.iload_n 3, 1) := by decide +kernel
theorem dX10_dist_27 : decode cX10_dist 27 = .ok (.iload_n 1, 1) := by decide +kernel
theorem dX10_dist_28 : decode cX10_dist 28 = .ok (.iload_n 2, 1) := by decide +kernel
theorem dX10_dist_29 : decode cX10_dist 29 = .ok (.invokevirtual 147, 3) := by decide +kernel
theorem dX10_dist_32 : decode cX10_dist 32 = .ok (.istore 6, 2) := by decide +kernel
theorem dX10_dist_34 : decode cX10_dist 34 = .ok (.iload 6, 2) := by decide +kernel
theorem dX10_dist_36 : decode cX10_dist 36 = .ok (.ldc 150, 2) := by decide +kernel
theorem dX10_dist_38 : decode cX10_dist 38 = .ok (.if_icmp .lt 8, 3) := by decide +kernel
theorem dX10_dist_41 : decode cX10_dist 41 = .ok (.bipush (-2), 2) := by decide +kernel
theorem dX10_dist_43 : decode cX10_dist 43 = .ok (.goto 5, 3) := by decide +kernel
theorem dX10_dist_46 : decode cX10_dist 46 = .ok (.iload 6, 2) := by decide +kernel
theorem dX10_dist_48 : decode cX10_dist 48 = .ok (.ireturn, 1) := by decide +kernel
theorem dX10_row_0 : decode cX10_row 0 = .ok (.iload_n 1, 1) := by decide +kernel
theorem dX10_row_1 : decode cX10_row 1 = .ok (.iload_n 2, 1) := by decide +kernel
theorem dX10_row_2 : decode cX10_row 2 = .ok (.iload_n 3, 1) := by decide +kernel
theorem dX10_row_3 : decode cX10_row 3 = .ok (.invokestatic 140, 3) := by decide +kernel
theorem dX10_row_6 : decode cX10_row 6 = .ok (.ifCond .eq 14, 3) := by decide +kernel
theorem dX10_row_9 : decode cX10_row 9 = .ok (.aload_n 0, 1) := by decide +kernel
theorem dX10_row_10 : decode cX10_row 10 = .ok (.iload 4, 2) := by decide +kernel
theorem dX10_row_12 : decode cX10_row 12 = .ok (.iload 5, 2) := by decide +kernel
theorem dX10_row_14 : decode cX10_row 14 = .ok (.invokevirtual 144, 3) := by decide +kernel
theorem dX10_row_17 : decode cX10_row 17 = .ok (.ifCond .ne 5, 3) := by decide +kernel
theorem dX10_row_20 : decode cX10_row 20 = .ok (.iconst (-1), 1) := by decide +kernel
theorem dX10_row_21 : decode cX10_row 21 = .ok (.ireturn, 1) := by decide +kernel
theorem dX10_row_22 : decode cX10_row 22 = .ok (.aload_n 0, 1) := by decide +kernel
theorem dX10_row_23 : decode cX10_row 23 = .ok (.getfield 24, 3) := by decide +kernel
theorem dX10_row_26 : decode cX10_row 26 = .ok (.iload_n 3, 1) := by decide +kernel
theorem dX10_row_27 : decode cX10_row 27 = .ok (.iload_n 1, 1) := by decide +kernel
theorem dX10_row_28 : decode cX10_row 28 = .ok (.iload_n 2, 1) := by decide +kernel
theorem dX10_row_29 : decode cX10_row 29 = .ok (.iload 6, 2) := by decide +kernel
theorem dX10_row_31 : decode cX10_row 31 = .ok (.invokevirtual 151, 3) := by decide +kernel
theorem dX10_row_34 : decode cX10_row 34 = .ok (.ireturn, 1) := by decide +kernel
theorem dX10_right_0 : decode cX10_right 0 = .ok (.aload_n 0, 1) := by decide +kernel
theorem dX10_right_1 : decode cX10_right 1 = .ok (.iload_n 2, 1) := by decide +kernel
theorem dX10_right_2 : decode cX10_right 2 = .ok (.iload_n 3, 1) := by decide +kernel
theorem dX10_right_3 : decode cX10_right 3 = .ok (.invokevirtual 144, 3) := by decide +kernel
theorem dX10_right_6 : decode cX10_right 6 = .ok (.ifCond .eq 12, 3) := by decide +kernel
theorem dX10_right_9 : decode cX10_right 9 = .ok (.aload_n 0, 1) := by decide +kernel
theorem dX10_right_10 : decode cX10_right 10 = .ok (.iload_n 1, 1) := by decide +kernel
theorem dX10_right_11 : decode cX10_right 11 = .ok (.iload_n 3, 1) := by decide +kernel
theorem dX10_right_12 : decode cX10_right 12 = .ok (.invokevirtual 133, 3) := by decide +kernel
theorem dX10_right_15 : decode cX10_right 15 = .ok (.ifCond .ne 5, 3) := by decide +kernel
theorem dX10_right_18 : decode cX10_right 18 = .ok (.iconst (-1), 1) := by decide +kernel
theorem dX10_right_19 : decode cX10_right 19 = .ok (.ireturn, 1) := by decide +kernel
theorem dX10_right_20 : decode cX10_right 20 = .ok (.aload_n 0, 1) := by decide +kernel
theorem dX10_right_21 : decode cX10_right 21 = .ok (.getfield 24, 3) := by decide +kernel
theorem dX10_right_24 : decode cX10_right 24 = .ok (.iload_n 1, 1) := by decide +kernel
theorem dX10_right_25 : decode cX10_right 25 = .ok (.invokevirtual 154, 3) := by decide +kernel
theorem dX10_right_28 : decode cX10_right 28 = .ok (.aload_n 0, 1) := by decide +kernel
theorem dX10_right_29 : decode cX10_right 29 = .ok (.getfield 24, 3) := by decide +kernel
theorem dX10_right_32 : decode cX10_right 32 = .ok (.getfield 157, 3) := by decide +kernel
theorem dX10_right_35 : decode cX10_right 35 = .ok (.iload_n 1, 1) := by decide +kernel
theorem dX10_right_36 : decode cX10_right 36 = .ok (.iaload, 1) := by decide +kernel
theorem dX10_right_37 : decode cX10_right 37 = .ok (.iconst (-1), 1) := by decide +kernel
theorem dX10_right_38 : decode cX10_right 38 = .ok (.if_icmp .ne 8, 3) := by decide +kernel
theorem dX10_right_41 : decode cX10_right 41 = .ok (.bipush (-2), 2) := by decide +kernel
theorem dX10_right_43 : decode cX10_right 43 = .ok (.goto 12, 3) := by decide +kernel
theorem dX10_right_46 : decode cX10_right 46 = .ok (.aload_n 0, 1) := by decide +kernel
theorem dX10_right_47 : decode cX10_right 47 = .ok (.getfield 24, 3) := by decide +kernel
theorem dX10_right_50 : decode cX10_right 50 = .ok (.getfield 157, 3) := by decide +kernel
theorem dX10_right_53 : decode cX10_right 53 = .ok (.iload_n 1, 1) := by decide +kernel
theorem dX10_right_54 : decode cX10_right 54 = .ok (.iaload, 1) := by decide +kernel
theorem dX10_right_55 : decode cX10_right 55 = .ok (.ireturn, 1) := by decide +kernel
theorem dX10_altered_0 : decode cX10_altered 0 = .ok (.aload_n 0, 1) := by decide +kernel
theorem dX10_altered_1 : decode cX10_altered 1 = .ok (.iload_n 2, 1) := by decide +kernel
theorem dX10_altered_2 : decode cX10_altered 2 = .ok (.invokevirtual 130, 3) := by decide +kernel
theorem dX10_altered_5 : decode cX10_altered 5 = .ok (.iconst (-1), 1) := by decide +kernel
theorem dX10_altered_6 : decode cX10_altered 6 = .ok (.if_icmp .eq 12, 3) := by decide +kernel
theorem dX10_altered_9 : decode cX10_altered 9 = .ok (.aload_n 0, 1) := by decide +kernel
theorem dX10_altered_10 : decode cX10_altered 10 = .ok (.iload_n 1, 1) := by decide +kernel
theorem dX10_altered_11 : decode cX10_altered 11 = .ok (.iload_n 3, 1) := by decide +kernel
theorem dX10_altered_12 : decode cX10_altered 12 = .ok (.invokevirtual 144, 3) := by decide +kernel
theorem dX10_altered_15 : decode cX10_altered 15 = .ok (.ifCond .ne 5, 3) := by decide +kernel
theorem dX10_altered_18 : decode cX10_altered 18 = .ok (.iconst (-1), 1) := by decide +kernel
theorem dX10_altered_19 : decode cX10_altered 19 = .ok (.ireturn, 1) := by decide +kernel
theorem dX10_altered_20 : decode cX10_altered 20 = .ok (.aload_n 0, 1) := by decide +kernel
theorem dX10_altered_21 : decode cX10_altered 21 = .ok (.invokevirtual 161, 3) := by decide +kernel
theorem dX10_altered_24 : decode cX10_altered 24 = .ok (.istore 4, 2) := by decide +kernel
theorem dX10_altered_26 : decode cX10_altered 26 = .ok (.aload_n 0, 1) := by decide +kernel
theorem dX10_altered_27 : decode cX10_altered 27 = .ok (.iload_n 2, 1) := by decide +kernel
theorem dX10_altered_28 : decode cX10_altered 28 = .ok (.iload_n 3, 1) := by decide +kernel
theorem dX10_altered_29 : decode cX10_altered 29 = .ok (.invokevirtual 144, 3) := by decide +kernel
theorem dX10_altered_32 : decode cX10_altered 32 = .ok (.ifCond .ne 5, 3) := by decide +kernel
theorem dX10_altered_35 : decode cX10_altered 35 = .ok (.iconst (-1), 1) := by decide +kernel
theorem dX10_altered_36 : decode cX10_altered 36 = .ok (.ireturn, 1) := by decide +kernel
theorem dX10_altered_37 : decode cX10_altered 37 = .ok (.iload 4, 2) := by decide +kernel
theorem dX10_altered_39 : decode cX10_altered 39 = .ok (.aload_n 0, 1) := by decide +kernel
theorem dX10_altered_40 : decode cX10_altered 40 = .ok (.invokevirtual 161, 3) := by decide +kernel
theorem dX10_altered_43 : decode cX10_altered 43 = .ok (.ixor, 1) := by decide +kernel
theorem dX10_altered_44 : decode cX10_altered 44 = .ok (.invokestatic 165, 3) := by decide +kernel
theorem dX10_altered_47 : decode cX10_altered 47 = .ok (.ireturn, 1) := by decide +kernel
theorem dX10_stop_0 : decode cX10_stop 0 = .ok (.aload_n 0, 1) := by decide +kernel
theorem dX10_stop_1 : decode cX10_stop 1 = .ok (.iload_n 2, 1) := by decide +kernel
theorem dX10_stop_2 : decode cX10_stop 2 = .ok (.iload_n 3, 1) := by decide +kernel
theorem dX10_stop_3 : decode cX10_stop 3 = .ok (.invokevirtual 144, 3) := by decide +kernel
theorem dX10_stop_6 : decode cX10_stop 6 = .ok (.ifCond .eq 12, 3) := by decide +kernel
theorem dX10_stop_9 : decode cX10_stop 9 = .ok (.aload_n 0, 1) := by decide +kernel
theorem dX10_stop_10 : decode cX10_stop 10 = .ok (.iload_n 1, 1) := by decide +kernel
theorem dX10_stop_11 : decode cX10_stop 11 = .ok (.iload_n 3, 1) := by decide +kernel
theorem dX10_stop_12 : decode cX10_stop 12 = .ok (.invokevirtual 133, 3) := by decide +kernel
theorem dX10_stop_15 : decode cX10_stop 15 = .ok (.ifCond .ne 5, 3) := by decide +kernel
theorem dX10_stop_18 : decode cX10_stop 18 = .ok (.iconst (-1), 1) := by decide +kernel
theorem dX10_stop_19 : decode cX10_stop 19 = .ok (.ireturn, 1) := by decide +kernel
theorem dX10_stop_20 : decode cX10_stop 20 = .ok (.aload_n 0, 1) := by decide +kernel
theorem dX10_stop_21 : decode cX10_stop 21 = .ok (.getfield 24, 3) := by decide +kernel
theorem dX10_stop_24 : decode cX10_stop 24 = .ok (.iload_n 1, 1) := by decide +kernel
theorem dX10_stop_25 : decode cX10_stop 25 = .ok (.invokevirtual 154, 3) := by decide +kernel
theorem dX10_stop_28 : decode cX10_stop 28 = .ok (.aload_n 0, 1) := by decide +kernel
theorem dX10_stop_29 : decode cX10_stop 29 = .ok (.getfield 24, 3) := by decide +kernel
theorem dX10_stop_32 : decode cX10_stop 32 = .ok (.getfield 170, 3) := by decide +kernel
theorem dX10_stop_35 : decode cX10_stop 35 = .ok (.iload_n 1, 1) := by decide +kernel
theorem dX10_stop_36 : decode cX10_stop 36 = .ok (.iaload, 1) := by decide +kernel
theorem dX10_stop_37 : decode cX10_stop 37 = .ok (.iconst (-1), 1) := by decide +kernel
theorem dX10_stop_38 : decode cX10_stop 38 = .ok (.if_icmp .ne 8, 3) := by decide +kernel
theorem dX10_stop_41 : decode cX10_stop 41 = .ok (.bipush (-2), 2) := by decide +kernel
theorem dX10_stop_43 : decode cX10_stop 43 = .ok (.goto 12, 3) := by decide +kernel
theorem dX10_stop_46 : decode cX10_stop 46 = .ok (.aload_n 0, 1) := by decide +kernel
theorem dX10_stop_47 : decode cX10_stop 47 = .ok (.getfield 24, 3) := by decide +kernel
theorem dX10_stop_50 : decode cX10_stop 50 = .ok (.getfield 170, 3) := by decide +kernel
theorem dX10_stop_53 : decode cX10_stop 53 = .ok (.iload_n 1, 1) := by decide +kernel
theorem dX10_stop_54 : decode cX10_stop 54 = .ok (.iaload, 1) := by decide +kernel
theorem dX10_stop_55 : decode cX10_stop 55 = .ok (.ireturn, 1) := by decide +kernel
theorem dX10_load_0 : decode cX10_load 0 = .ok (.aload_n 0, 1) := by decide +kernel
theorem dX10_load_1 : decode cX10_load 1 = .ok (.iload_n 1, 1) := by decide +kernel
theorem dX10_load_2 : decode cX10_load 2 = .ok (.iload_n 3, 1) := by decide +kernel
theorem dX10_load_3 : decode cX10_load 3 = .ok (.iload 4, 2) := by decide +kernel
theorem dX10_load_5 : decode cX10_load 5 = .ok (.invokevirtual 173, 3) := by decide +kernel
theorem dX10_load_8 : decode cX10_load 8 = .ok (.ifCond .eq 20, 3) := by decide +kernel
theorem dX10_load_11 : decode cX10_load 11 = .ok (.iload_n 2, 1) := by decide +kernel
theorem dX10_load_12 : decode cX10_load 12 = .ok (.aload_n 0, 1) := by decide +kernel
theorem dX10_load_13 : decode cX10_load 13 = .ok (.getfield 24, 3) := by decide +kernel
theorem dX10_load_16 : decode cX10_load 16 = .ok (.getfield 176, 3) := by decide +kernel
theorem dX10_load_19 : decode cX10_load 19 = .ok (.getfield 180, 3) := by decide +kernel
theorem dX10_load_22 : decode cX10_load 22 = .ok (.invokestatic 106, 3) := by decide +kernel
theorem dX10_load_25 : decode cX10_load 25 = .ok (.ifCond .ne 5, 3) := by decide +kernel
theorem dX10_load_28 : decode cX10_load 28 = .ok (.iconst (-1), 1) := by decide +kernel
theorem dX10_load_29 : decode cX10_load 29 = .ok (.ireturn, 1) := by decide +kernel
theorem dX10_load_30 : decode cX10_load 30 = .ok (.aload_n 0, 1) := by decide +kernel
theorem dX10_load_31 : decode cX10_load 31 = .ok (.getfield 40, 3) := by decide +kernel
theorem dX10_load_34 : decode cX10_load 34 = .ok (.iload_n 1, 1) := by decide +kernel
theorem dX10_load_35 : decode cX10_load 35 = .ok (.aaload, 1) := by decide +kernel
theorem dX10_load_36 : decode cX10_load 36 = .ok (.getfield 183, 3) := by decide +kernel
theorem dX10_load_39 : decode cX10_load 39 = .ok (.iload_n 2, 1) := by decide +kernel
theorem dX10_load_40 : decode cX10_load 40 = .ok (.iaload, 1) := by decide +kernel
theorem dX10_load_41 : decode cX10_load 41 = .ok (.ireturn, 1) := by decide +kernel
theorem dX10_route_0 : decode cX10_route 0 = .ok (.aload_n 0, 1) := by decide +kernel
theorem dX10_route_1 : decode cX10_route 1 = .ok (.iload_n 1, 1) := by decide +kernel
theorem dX10_route_2 : decode cX10_route 2 = .ok (.iload_n 3, 1) := by decide +kernel
theorem dX10_route_3 : decode cX10_route 3 = .ok (.iload 4, 2) := by decide +kernel
theorem dX10_route_5 : decode cX10_route 5 = .ok (.invokevirtual 173, 3) := by decide +kernel
theorem dX10_route_8 : decode cX10_route 8 = .ok (.ifCond .eq 11, 3) := by decide +kernel
theorem dX10_route_11 : decode cX10_route 11 = .ok (.aload_n 0, 1) := by decide +kernel
theorem dX10_route_12 : decode cX10_route 12 = .ok (.iload_n 2, 1) := by decide +kernel
theorem dX10_route_13 : decode cX10_route 13 = .ok (.invokevirtual 186, 3) := by decide +kernel
theorem dX10_route_16 : decode cX10_route 16 = .ok (.ifCond .ne 5, 3) := by decide +kernel
theorem dX10_route_19 : decode cX10_route 19 = .ok (.iconst (-1), 1) := by decide +kernel
theorem dX10_route_20 : decode cX10_route 20 = .ok (.ireturn, 1) := by decide +kernel
theorem dX10_route_21 : decode cX10_route 21 = .ok (.aload_n 0, 1) := by decide +kernel
theorem dX10_route_22 : decode cX10_route 22 = .ok (.getfield 40, 3) := by decide +kernel
theorem dX10_route_25 : decode cX10_route 25 = .ok (.iload_n 1, 1) := by decide +kernel
theorem dX10_route_26 : decode cX10_route 26 = .ok (.aaload, 1) := by decide +kernel
theorem dX10_route_27 : decode cX10_route 27 = .ok (.getfield 189, 3) := by decide +kernel
theorem dX10_route_30 : decode cX10_route 30 = .ok (.iload_n 2, 1) := by decide +kernel
theorem dX10_route_31 : decode cX10_route 31 = .ok (.iaload, 1) := by decide +kernel
theorem dX10_route_32 : decode cX10_route 32 = .ok (.istore 5, 2) := by decide +kernel
theorem dX10_route_34 : decode cX10_route 34 = .ok (.iload 5, 2) := by decide +kernel
theorem dX10_route_36 : decode cX10_route 36 = .ok (.ldc 150, 2) := by decide +kernel
theorem dX10_route_38 : decode cX10_route 38 = .ok (.if_icmp .lt 8, 3) := by decide +kernel
theorem dX10_route_41 : decode cX10_route 41 = .ok (.bipush (-2), 2) := by decide +kernel
theorem dX10_route_43 : decode cX10_route 43 = .ok (.goto 5, 3) := by decide +kernel
theorem dX10_route_46 : decode cX10_route 46 = .ok (.iload 5, 2) := by decide +kernel
theorem dX10_route_48 : decode cX10_route 48 = .ok (.ireturn, 1) := by decide +kernel
theorem dX10_routeStop_0 : decode cX10_routeStop 0 = .ok (.aload_n 0, 1) := by decide +kernel
theorem dX10_routeStop_1 : decode cX10_routeStop 1 = .ok (.iload_n 1, 1) := by decide +kernel
theorem dX10_routeStop_2 : decode cX10_routeStop 2 = .ok (.iload_n 3, 1) := by decide +kernel
theorem dX10_routeStop_3 : decode cX10_routeStop 3 = .ok (.iload 4, 2) := by decide +kernel
theorem dX10_routeStop_5 : decode cX10_routeStop 5 = .ok (.invokevirtual 173, 3) := by decide +kernel
theorem dX10_routeStop_8 : decode cX10_routeStop 8 = .ok (.ifCond .eq 11, 3) := by decide +kernel
theorem dX10_routeStop_11 : decode cX10_routeStop 11 = .ok (.aload_n 0, 1) := by decide +kernel
theorem dX10_routeStop_12 : decode cX10_routeStop 12 = .ok (.iload_n 2, 1) := by decide +kernel
theorem dX10_routeStop_13 : decode cX10_routeStop 13 = .ok (.invokevirtual 186, 3) := by decide +kernel
theorem dX10_routeStop_16 : decode cX10_routeStop 16 = .ok (.ifCond .ne 5, 3) := by decide +kernel
theorem dX10_routeStop_19 : decode cX10_routeStop 19 = .ok (.iconst (-1), 1) := by decide +kernel
theorem dX10_routeStop_20 : decode cX10_routeStop 20 = .ok (.ireturn, 1) := by decide +kernel
theorem dX10_routeStop_21 : decode cX10_routeStop 21 = .ok (.aload_n 0, 1) := by decide +kernel
theorem dX10_routeStop_22 : decode cX10_routeStop 22 = .ok (.getfield 40, 3) := by decide +kernel
theorem dX10_routeStop_25 : decode cX10_routeStop 25 = .ok (.iload_n 1, 1) := by decide +kernel
theorem dX10_routeStop_26 : decode cX10_routeStop 26 = .ok (.aaload, 1) := by decide +kernel
theorem dX10_routeStop_27 : decode cX10_routeStop 27 = .ok (.iload_n 2, 1) := by decide +kernel
theorem dX10_routeStop_28 : decode cX10_routeStop 28 = .ok (.iload 5, 2) := by decide +kernel
theorem dX10_routeStop_30 : decode cX10_routeStop 30 = .ok (.invokevirtual 192, 3) := by decide +kernel
theorem dX10_routeStop_33 : decode cX10_routeStop 33 = .ok (.ireturn, 1) := by decide +kernel
theorem dX10_good_0 : decode cX10_good 0 = .ok (.aload_n 0, 1) := by decide +kernel
theorem dX10_good_1 : decode cX10_good 1 = .ok (.iload_n 1, 1) := by decide +kernel
theorem dX10_good_2 : decode cX10_good 2 = .ok (.iload_n 3, 1) := by decide +kernel
theorem dX10_good_3 : decode cX10_good 3 = .ok (.iload 4, 2) := by decide +kernel
theorem dX10_good_5 : decode cX10_good 5 = .ok (.invokevirtual 173, 3) := by decide +kernel
theorem dX10_good_8 : decode cX10_good 8 = .ok (.ifCond .eq 11, 3) := by decide +kernel
theorem dX10_good_11 : decode cX10_good 11 = .ok (.aload_n 0, 1) := by decide +kernel
theorem dX10_good_12 : decode cX10_good 12 = .ok (.iload_n 2, 1) := by decide +kernel
theorem dX10_good_13 : decode cX10_good 13 = .ok (.invokevirtual 186, 3) := by decide +kernel
theorem dX10_good_16 : decode cX10_good 16 = .ok (.ifCond .ne 5, 3) := by decide +kernel
theorem dX10_good_19 : decode cX10_good 19 = .ok (.iconst (-1), 1) := by decide +kernel
theorem dX10_good_20 : decode cX10_good 20 = .ok (.ireturn, 1) := by decide +kernel
theorem dX10_good_21 : decode cX10_good 21 = .ok (.aload_n 0, 1) := by decide +kernel
theorem dX10_good_22 : decode cX10_good 22 = .ok (.getfield 40, 3) := by decide +kernel
theorem dX10_good_25 : decode cX10_good 25 = .ok (.iload_n 1, 1) := by decide +kernel
theorem dX10_good_26 : decode cX10_good 26 = .ok (.aaload, 1) := by decide +kernel
theorem dX10_good_27 : decode cX10_good 27 = .ok (.getfield 189, 3) := by decide +kernel
theorem dX10_good_30 : decode cX10_good 30 = .ok (.iload_n 2, 1) := by decide +kernel
theorem dX10_good_31 : decode cX10_good 31 = .ok (.iaload, 1) := by decide +kernel
theorem dX10_good_32 : decode cX10_good 32 = .ok (.ldc 150, 2) := by decide +kernel
theorem dX10_good_34 : decode cX10_good 34 = .ok (.if_icmp .lt 6, 3) := by decide +kernel
theorem dX10_good_37 : decode cX10_good 37 = .ok (.bipush (-2), 2) := by decide +kernel
theorem dX10_good_39 : decode cX10_good 39 = .ok (.ireturn, 1) := by decide +kernel
theorem dX10_good_40 : decode cX10_good 40 = .ok (.aload_n 0, 1) := by decide +kernel
theorem dX10_good_41 : decode cX10_good 41 = .ok (.getfield 40, 3) := by decide +kernel
theorem dX10_good_44 : decode cX10_good 44 = .ok (.iload_n 1, 1) := by decide +kernel
theorem dX10_good_45 : decode cX10_good 45 = .ok (.aaload, 1) := by decide +kernel
theorem dX10_good_46 : decode cX10_good 46 = .ok (.getfield 196, 3) := by decide +kernel
theorem dX10_good_49 : decode cX10_good 49 = .ok (.iload_n 2, 1) := by decide +kernel
theorem dX10_good_50 : decode cX10_good 50 = .ok (.baload, 1) := by decide +kernel
theorem dX10_good_51 : decode cX10_good 51 = .ok (.ifCond .eq 7, 3) := by decide +kernel
theorem dX10_good_54 : decode cX10_good 54 = .ok (.iconst 1, 1) := by decide +kernel
theorem dX10_good_55 : decode cX10_good 55 = .ok (.goto 4, 3) := by decide +kernel
theorem dX10_good_58 : decode cX10_good 58 = .ok (.iconst 0, 1) := by decide +kernel
theorem dX10_good_59 : decode cX10_good 59 = .ok (.ireturn, 1) := by decide +kernel
theorem dX10_pay_0 : decode cX10_pay 0 = .ok (.aload_n 0, 1) := by decide +kernel
theorem dX10_pay_1 : decode cX10_pay 1 = .ok (.iload_n 1, 1) := by decide +kernel
theorem dX10_pay_2 : decode cX10_pay 2 = .ok (.iload_n 2, 1) := by decide +kernel
theorem dX10_pay_3 : decode cX10_pay 3 = .ok (.iload_n 3, 1) := by decide +kernel
theorem dX10_pay_4 : decode cX10_pay 4 = .ok (.invokevirtual 173, 3) := by decide +kernel
theorem dX10_pay_7 : decode cX10_pay 7 = .ok (.ifCond .ne 5, 3) := by decide +kernel
theorem dX10_pay_10 : decode cX10_pay 10 = .ok (.iconst (-1), 1) := by decide +kernel
theorem dX10_pay_11 : decode cX10_pay 11 = .ok (.ireturn, 1) := by decide +kernel
theorem dX10_pay_12 : decode cX10_pay 12 = .ok (.aload_n 0, 1) := by decide +kernel
theorem dX10_pay_13 : decode cX10_pay 13 = .ok (.getfield 40, 3) := by decide +kernel
theorem dX10_pay_16 : decode cX10_pay 16 = .ok (.iload_n 1, 1) := by decide +kernel
theorem dX10_pay_17 : decode cX10_pay 17 = .ok (.aaload, 1) := by decide +kernel
theorem dX10_pay_18 : decode cX10_pay 18 = .ok (.invokevirtual 200, 3) := by decide +kernel
theorem dX10_pay_21 : decode cX10_pay 21 = .ok (.ifCond .eq 15, 3) := by decide +kernel
theorem dX10_pay_24 : decode cX10_pay 24 = .ok (.aload_n 0, 1) := by decide +kernel
theorem dX10_pay_25 : decode cX10_pay 25 = .ok (.getfield 40, 3) := by decide +kernel
theorem dX10_pay_28 : decode cX10_pay 28 = .ok (.iload_n 1, 1) := by decide +kernel
theorem dX10_pay_29 : decode cX10_pay 29 = .ok (.aaload, 1) := by decide +kernel
theorem dX10_pay_30 : decode cX10_pay 30 = .ok (.invokevirtual 204, 3) := by decide +kernel
theorem dX10_pay_33 : decode cX10_pay 33 = .ok (.goto 5, 3) := by decide +kernel
theorem dX10_pay_36 : decode cX10_pay 36 = .ok (.bipush (-2), 2) := by decide +kernel
theorem dX10_pay_38 : decode cX10_pay 38 = .ok (.ireturn, 1) := by decide +kernel
theorem dX10_routes_0 : decode cX10_routes 0 = .ok (.aload_n 0, 1) := by decide +kernel
theorem dX10_routes_1 : decode cX10_routes 1 = .ok (.iload_n 1, 1) := by decide +kernel
theorem dX10_routes_2 : decode cX10_routes 2 = .ok (.iload_n 2, 1) := by decide +kernel
theorem dX10_routes_3 : decode cX10_routes 3 = .ok (.iload_n 3, 1) := by decide +kernel
theorem dX10_routes_4 : decode cX10_routes 4 = .ok (.invokevirtual 173, 3) := by decide +kernel
theorem dX10_routes_7 : decode cX10_routes 7 = .ok (.ifCond .ne 5, 3) := by decide +kernel
theorem dX10_routes_10 : decode cX10_routes 10 = .ok (.iconst (-1), 1) := by decide +kernel
theorem dX10_routes_11 : decode cX10_routes 11 = .ok (.ireturn, 1) := by decide +kernel
theorem dX10_routes_12 : decode cX10_routes 12 = .ok (.aload_n 0, 1) := by decide +kernel
theorem dX10_routes_13 : decode cX10_routes 13 = .ok (.getfield 40, 3) := by decide +kernel
theorem dX10_routes_16 : decode cX10_routes 16 = .ok (.iload_n 1, 1) := by decide +kernel
theorem dX10_routes_17 : decode cX10_routes 17 = .ok (.aaload, 1) := by decide +kernel
theorem dX10_routes_18 : decode cX10_routes 18 = .ok (.invokevirtual 200, 3) := by decide +kernel
theorem dX10_routes_21 : decode cX10_routes 21 = .ok (.ifCond .eq 15, 3) := by decide +kernel
theorem dX10_routes_24 : decode cX10_routes 24 = .ok (.aload_n 0, 1) := by decide +kernel
theorem dX10_routes_25 : decode cX10_routes 25 = .ok (.getfield 40, 3) := by decide +kernel
theorem dX10_routes_28 : decode cX10_routes 28 = .ok (.iload_n 1, 1) := by decide +kernel
theorem dX10_routes_29 : decode cX10_routes 29 = .ok (.aaload, 1) := by decide +kernel
theorem dX10_routes_30 : decode cX10_routes 30 = .ok (.getfield 207, 3) := by decide +kernel
theorem dX10_routes_33 : decode cX10_routes 33 = .ok (.goto 5, 3) := by decide +kernel
theorem dX10_routes_36 : decode cX10_routes 36 = .ok (.bipush (-2), 2) := by decide +kernel
theorem dX10_routes_38 : decode cX10_routes 38 = .ok (.ireturn, 1) := by decide +kernel
theorem dX10_routeSet_0 : decode cX10_routeSet 0 = .ok (.aload_n 0, 1) := by decide +kernel
theorem dX10_routeSet_1 : decode cX10_routeSet 1 = .ok (.iload_n 1, 1) := by decide +kernel
theorem dX10_routeSet_2 : decode cX10_routeSet 2 = .ok (.iload_n 2, 1) := by decide +kernel
theorem dX10_routeSet_3 : decode cX10_routeSet 3 = .ok (.iload_n 3, 1) := by decide +kernel
theorem dX10_routeSet_4 : decode cX10_routeSet 4 = .ok (.invokevirtual 173, 3) := by decide +kernel
theorem dX10_routeSet_7 : decode cX10_routeSet 7 = .ok (.ifCond .eq 20, 3) := by decide +kernel
theorem dX10_routeSet_10 : decode cX10_routeSet 10 = .ok (.iload 4, 2) := by decide +kernel
theorem dX10_routeSet_12 : decode cX10_routeSet 12 = .ok (.aload_n 0, 1) := by decide +kernel
theorem dX10_routeSet_13 : decode cX10_routeSet 13 = .ok (.getfield 40, 3) := by decide +kernel
theorem dX10_routeSet_16 : decode cX10_routeSet 16 = .ok (.iload_n 1, 1) := by decide +kernel
theorem dX10_routeSet_17 : decode cX10_routeSet 17 = .ok (.aaload, 1) := by decide +kernel
theorem dX10_routeSet_18 : decode cX10_routeSet 18 = .ok (.getfield 207, 3) := by decide +kernel
theorem dX10_routeSet_21 : decode cX10_routeSet 21 = .ok (.invokestatic 106, 3) := by decide +kernel
theorem dX10_routeSet_24 : decode cX10_routeSet 24 = .ok (.ifCond .ne 5, 3) := by decide +kernel
theorem dX10_routeSet_27 : decode cX10_routeSet 27 = .ok (.iconst (-1), 1) := by decide +kernel
theorem dX10_routeSet_28 : decode cX10_routeSet 28 = .ok (.ireturn, 1) := by decide +kernel
theorem dX10_routeSet_29 : decode cX10_routeSet 29 = .ok (.aload_n 0, 1) := by decide +kernel
theorem dX10_routeSet_30 : decode cX10_routeSet 30 = .ok (.getfield 40, 3) := by decide +kernel
theorem dX10_routeSet_33 : decode cX10_routeSet 33 = .ok (.iload_n 1, 1) := by decide +kernel
theorem dX10_routeSet_34 : decode cX10_routeSet 34 = .ok (.aaload, 1) := by decide +kernel
theorem dX10_routeSet_35 : decode cX10_routeSet 35 = .ok (.getfield 210, 3) := by decide +kernel
theorem dX10_routeSet_38 : decode cX10_routeSet 38 = .ok (.iload 4, 2) := by decide +kernel
theorem dX10_routeSet_40 : decode cX10_routeSet 40 = .ok (.iaload, 1) := by decide +kernel
theorem dX10_routeSet_41 : decode cX10_routeSet 41 = .ok (.ireturn, 1) := by decide +kernel
theorem dX10_taxis_0 : decode cX10_taxis 0 = .ok (.aload_n 0, 1) := by decide +kernel
theorem dX10_taxis_1 : decode cX10_taxis 1 = .ok (.iload_n 1, 1) := by decide +kernel
theorem dX10_taxis_2 : decode cX10_taxis 2 = .ok (.iload_n 2, 1) := by decide +kernel
theorem dX10_taxis_3 : decode cX10_taxis 3 = .ok (.iload_n 3, 1) := by decide +kernel
theorem dX10_taxis_4 : decode cX10_taxis 4 = .ok (.invokevirtual 173, 3) := by decide +kernel
theorem dX10_taxis_7 : decode cX10_taxis 7 = .ok (.ifCond .ne 5, 3) := by decide +kernel
theorem dX10_taxis_10 : decode cX10_taxis 10 = .ok (.iconst (-1), 1) := by decide +kernel
theorem dX10_taxis_11 : decode cX10_taxis 11 = .ok (.ireturn, 1) := by decide +kernel
theorem dX10_taxis_12 : decode cX10_taxis 12 = .ok (.aload_n 0, 1) := by decide +kernel
theorem dX10_taxis_13 : decode cX10_taxis 13 = .ok (.getfield 40, 3) := by decide +kernel
theorem dX10_taxis_16 : decode cX10_taxis 16 = .ok (.iload_n 1, 1) := by decide +kernel
theorem dX10_taxis_17 : decode cX10_taxis 17 = .ok (.aaload, 1) := by decide +kernel
theorem dX10_taxis_18 : decode cX10_taxis 18 = .ok (.invokevirtual 200, 3) := by decide +kernel
theorem dX10_taxis_21 : decode cX10_taxis 21 = .ok (.ifCond .eq 15, 3) := by decide +kernel
theorem dX10_taxis_24 : decode cX10_taxis 24 = .ok (.aload_n 0, 1) := by decide +kernel
theorem dX10_taxis_25 : decode cX10_taxis 25 = .ok (.getfield 40, 3) := by decide +kernel
theorem dX10_taxis_28 : decode cX10_taxis 28 = .ok (.iload_n 1, 1) := by decide +kernel
theorem dX10_taxis_29 : decode cX10_taxis 29 = .ok (.aaload, 1) := by decide +kernel
theorem dX10_taxis_30 : decode cX10_taxis 30 = .ok (.getfield 213, 3) := by decide +kernel
theorem dX10_taxis_33 : decode cX10_taxis 33 = .ok (.goto 5, 3) := by decide +kernel
theorem dX10_taxis_36 : decode cX10_taxis 36 = .ok (.bipush (-2), 2) := by decide +kernel
theorem dX10_taxis_38 : decode cX10_taxis 38 = .ok (.ireturn, 1) := by decide +kernel
theorem dX10_fewest_0 : decode cX10_fewest 0 = .ok (.aload_n 0, 1) := by decide +kernel
theorem dX10_fewest_1 : decode cX10_fewest 1 = .ok (.iload_n 1, 1) := by decide +kernel
theorem dX10_fewest_2 : decode cX10_fewest 2 = .ok (.iload_n 2, 1) := by decide +kernel
theorem dX10_fewest_3 : decode cX10_fewest 3 = .ok (.iload_n 3, 1) := by decide +kernel
theorem dX10_fewest_4 : decode cX10_fewest 4 = .ok (.invokevirtual 173, 3) := by decide +kernel
theorem dX10_fewest_7 : decode cX10_fewest 7 = .ok (.ifCond .ne 5, 3) := by decide +kernel
theorem dX10_fewest_10 : decode cX10_fewest 10 = .ok (.iconst (-1), 1) := by decide +kernel
theorem dX10_fewest_11 : decode cX10_fewest 11 = .ok (.ireturn, 1) := by decide +kernel
theorem dX10_fewest_12 : decode cX10_fewest 12 = .ok (.aload_n 0, 1) := by decide +kernel
theorem dX10_fewest_13 : decode cX10_fewest 13 = .ok (.getfield 40, 3) := by decide +kernel
theorem dX10_fewest_16 : decode cX10_fewest 16 = .ok (.iload_n 1, 1) := by decide +kernel
theorem dX10_fewest_17 : decode cX10_fewest 17 = .ok (.aaload, 1) := by decide +kernel
theorem dX10_fewest_18 : decode cX10_fewest 18 = .ok (.invokevirtual 216, 3) := by decide +kernel
theorem dX10_fewest_21 : decode cX10_fewest 21 = .ok (.ireturn, 1) := by decide +kernel
theorem dX10_fleet_0 : decode cX10_fleet 0 = .ok (.aload_n 0, 1) := by decide +kernel
theorem dX10_fleet_1 : decode cX10_fleet 1 = .ok (.iload_n 1, 1) := by decide +kernel
theorem dX10_fleet_2 : decode cX10_fleet 2 = .ok (.iload_n 2, 1) := by decide +kernel
theorem dX10_fleet_3 : decode cX10_fleet 3 = .ok (.invokevirtual 144, 3) := by decide +kernel
theorem dX10_fleet_6 : decode cX10_fleet 6 = .ok (.ifCond .ne 5, 3) := by decide +kernel
theorem dX10_fleet_9 : decode cX10_fleet 9 = .ok (.iconst (-1), 1) := by decide +kernel
theorem dX10_fleet_10 : decode cX10_fleet 10 = .ok (.ireturn, 1) := by decide +kernel
theorem dX10_fleet_11 : decode cX10_fleet 11 = .ok (.aload_n 0, 1) := by decide +kernel
theorem dX10_fleet_12 : decode cX10_fleet 12 = .ok (.invokevirtual 219, 3) := by decide +kernel
theorem dX10_fleet_15 : decode cX10_fleet 15 = .ok (.ifCond .eq 13, 3) := by decide +kernel
theorem dX10_fleet_18 : decode cX10_fleet 18 = .ok (.aload_n 0, 1) := by decide +kernel
theorem dX10_fleet_19 : decode cX10_fleet 19 = .ok (.getfield 48, 3) := by decide +kernel
theorem dX10_fleet_22 : decode cX10_fleet 22 = .ok (.invokevirtual 222, 3) := by decide +kernel
theorem dX10_fleet_25 : decode cX10_fleet 25 = .ok (.goto 5, 3) := by decide +kernel
theorem dX10_fleet_28 : decode cX10_fleet 28 = .ok (.bipush (-2), 2) := by decide +kernel
theorem dX10_fleet_30 : decode cX10_fleet 30 = .ok (.ireturn, 1) := by decide +kernel
theorem dX10_shifted_0 : decode cX10_shifted 0 = .ok (.aload_n 0, 1) := by decide +kernel
theorem dX10_shifted_1 : decode cX10_shifted 1 = .ok (.iload_n 1, 1) := by decide +kernel
theorem dX10_shifted_2 : decode cX10_shifted 2 = .ok (.iload_n 2, 1) := by decide +kernel
theorem dX10_shifted_3 : decode cX10_shifted 3 = .ok (.invokevirtual 144, 3) := by decide +kernel
theorem dX10_shifted_6 : decode cX10_shifted 6 = .ok (.ifCond .ne 5, 3) := by decide +kernel
theorem dX10_shifted_9 : decode cX10_shifted 9 = .ok (.iconst (-1), 1) := by decide +kernel
theorem dX10_shifted_10 : decode cX10_shifted 10 = .ok (.ireturn, 1) := by decide +kernel
theorem dX10_shifted_11 : decode cX10_shifted 11 = .ok (.aload_n 0, 1) := by decide +kernel
theorem dX10_shifted_12 : decode cX10_shifted 12 = .ok (.invokevirtual 219, 3) := by decide +kernel
theorem dX10_shifted_15 : decode cX10_shifted 15 = .ok (.ifCond .ne 6, 3) := by decide +kernel
theorem dX10_shifted_18 : decode cX10_shifted 18 = .ok (.bipush (-2), 2) := by decide +kernel
theorem dX10_shifted_20 : decode cX10_shifted 20 = .ok (.ireturn, 1) := by decide +kernel
theorem dX10_shifted_21 : decode cX10_shifted 21 = .ok (.aload_n 0, 1) := by decide +kernel
theorem dX10_shifted_22 : decode cX10_shifted 22 = .ok (.getfield 48, 3) := by decide +kernel
theorem dX10_shifted_25 : decode cX10_shifted 25 = .ok (.invokevirtual 225, 3) := by decide +kernel
theorem dX10_shifted_28 : decode cX10_shifted 28 = .ok (.aload_n 0, 1) := by decide +kernel
theorem dX10_shifted_29 : decode cX10_shifted 29 = .ok (.getfield 48, 3) := by decide +kernel
theorem dX10_shifted_32 : decode cX10_shifted 32 = .ok (.getfield 228, 3) := by decide +kernel
theorem dX10_shifted_35 : decode cX10_shifted 35 = .ok (.ireturn, 1) := by decide +kernel
theorem dX10_shift_0 : decode cX10_shift 0 = .ok (.aload_n 0, 1) := by decide +kernel
theorem dX10_shift_1 : decode cX10_shift 1 = .ok (.iload_n 2, 1) := by decide +kernel
theorem dX10_shift_2 : decode cX10_shift 2 = .ok (.iload_n 3, 1) := by decide +kernel
theorem dX10_shift_3 : decode cX10_shift 3 = .ok (.invokevirtual 144, 3) := by decide +kernel
theorem dX10_shift_6 : decode cX10_shift 6 = .ok (.ifCond .eq 27, 3) := by decide +kernel
theorem dX10_shift_9 : decode cX10_shift 9 = .ok (.iload_n 1, 1) := by decide +kernel
theorem dX10_shift_10 : decode cX10_shift 10 = .ok (.aload_n 0, 1) := by decide +kernel
theorem dX10_shift_11 : decode cX10_shift 11 = .ok (.getfield 24, 3) := by decide +kernel
theorem dX10_shift_14 : decode cX10_shift 14 = .ok (.getfield 176, 3) := by decide +kernel
theorem dX10_shift_17 : decode cX10_shift 17 = .ok (.getfield 231, 3) := by decide +kernel
theorem dX10_shift_20 : decode cX10_shift 20 = .ok (.invokestatic 106, 3) := by decide +kernel
theorem dX10_shift_23 : decode cX10_shift 23 = .ok (.ifCond .eq 10, 3) := by decide +kernel
theorem dX10_shift_26 : decode cX10_shift 26 = .ok (.aload_n 0, 1) := by decide +kernel
theorem dX10_shift_27 : decode cX10_shift 27 = .ok (.invokevirtual 219, 3) := by decide +kernel
theorem dX10_shift_30 : decode cX10_shift 30 = .ok (.ifCond .ne 6, 3) := by decide +kernel
theorem dX10_shift_33 : decode cX10_shift 33 = .ok (.bipush (-100), 2) := by decide +kernel
theorem dX10_shift_35 : decode cX10_shift 35 = .ok (.ireturn, 1) := by decide +kernel
theorem dX10_shift_36 : decode cX10_shift 36 = .ok (.aload_n 0, 1) := by decide +kernel
theorem dX10_shift_37 : decode cX10_shift 37 = .ok (.getfield 48, 3) := by decide +kernel
theorem dX10_shift_40 : decode cX10_shift 40 = .ok (.invokevirtual 225, 3) := by decide +kernel
theorem dX10_shift_43 : decode cX10_shift 43 = .ok (.aload_n 0, 1) := by decide +kernel
theorem dX10_shift_44 : decode cX10_shift 44 = .ok (.getfield 48, 3) := by decide +kernel
theorem dX10_shift_47 : decode cX10_shift 47 = .ok (.getfield 234, 3) := by decide +kernel
theorem dX10_shift_50 : decode cX10_shift 50 = .ok (.iload_n 1, 1) := by decide +kernel
theorem dX10_shift_51 : decode cX10_shift 51 = .ok (.iaload, 1) := by decide +kernel
theorem dX10_shift_52 : decode cX10_shift 52 = .ok (.ireturn, 1) := by decide +kernel
theorem dX10_bid_0 : decode cX10_bid 0 = .ok (.iload_n 1, 1) := by decide +kernel
theorem dX10_bid_1 : decode cX10_bid 1 = .ok (.bipush 6, 2) := by decide +kernel
theorem dX10_bid_3 : decode cX10_bid 3 = .ok (.invokestatic 106, 3) := by decide +kernel
theorem dX10_bid_6 : decode cX10_bid 6 = .ok (.ifCond .eq 27, 3) := by decide +kernel
theorem dX10_bid_9 : decode cX10_bid 9 = .ok (.iload_n 2, 1) := by decide +kernel
theorem dX10_bid_10 : decode cX10_bid 10 = .ok (.ifCond .eq 23, 3) := by decide +kernel
theorem dX10_bid_13 : decode cX10_bid 13 = .ok (.iload_n 2, 1) := by decide +kernel
theorem dX10_bid_14 : decode cX10_bid 14 = .ok (.sipush 1024, 3) := by decide +kernel
theorem dX10_bid_17 : decode cX10_bid 17 = .ok (.invokestatic 106, 3) := by decide +kernel
theorem dX10_bid_20 : decode cX10_bid 20 = .ok (.ifCond .eq 13, 3) := by decide +kernel
theorem dX10_bid_23 : decode cX10_bid 23 = .ok (.iload_n 3, 1) := by decide +kernel
theorem dX10_bid_24 : decode cX10_bid 24 = .ok (.sipush 10000, 3) := by decide +kernel
theorem dX10_bid_27 : decode cX10_bid 27 = .ok (.invokestatic 106, 3) := by decide +kernel
theorem dX10_bid_30 : decode cX10_bid 30 = .ok (.ifCond .ne 5, 3) := by decide +kernel
theorem dX10_bid_33 : decode cX10_bid 33 = .ok (.iconst (-1), 1) := by decide +kernel
theorem dX10_bid_34 : decode cX10_bid 34 = .ok (.ireturn, 1) := by decide +kernel
theorem dX10_bid_35 : decode cX10_bid 35 = .ok (.aload_n 0, 1) := by decide +kernel
theorem dX10_bid_36 : decode cX10_bid 36 = .ok (.getfield 55, 3) := by decide +kernel
theorem dX10_bid_39 : decode cX10_bid 39 = .ok (.iload_n 1, 1) := by decide +kernel
theorem dX10_bid_40 : decode cX10_bid 40 = .ok (.iload_n 2, 1) := by decide +kernel
theorem dX10_bid_41 : decode cX10_bid 41 = .ok (.iload_n 3, 1) := by decide +kernel
theorem dX10_bid_42 : decode cX10_bid 42 = .ok (.invokevirtual 237, 3) := by decide +kernel
theorem dX10_bid_45 : decode cX10_bid 45 = .ok (.ireturn, 1) := by decide +kernel
theorem dX10_award_0 : decode cX10_award 0 = .ok (.iload_n 1, 1) := by decide +kernel
theorem dX10_award_1 : decode cX10_award 1 = .ok (.invokestatic 239, 3) := by decide +kernel
theorem dX10_award_4 : decode cX10_award 4 = .ok (.ifCond .eq 10, 3) := by decide +kernel
theorem dX10_award_7 : decode cX10_award 7 = .ok (.iload_n 2, 1) := by decide +kernel
theorem dX10_award_8 : decode cX10_award 8 = .ok (.invokestatic 242, 3) := by decide +kernel
theorem dX10_award_11 : decode cX10_award 11 = .ok (.ifCond .ne 5, 3) := by decide +kernel
theorem dX10_award_14 : decode cX10_award 14 = .ok (.iconst (-1), 1) := by decide +kernel
theorem dX10_award_15 : decode cX10_award 15 = .ok (.ireturn, 1) := by decide +kernel
theorem dX10_award_16 : decode cX10_award 16 = .ok (.aload_n 0, 1) := by decide +kernel
theorem dX10_award_17 : decode cX10_award 17 = .ok (.getfield 55, 3) := by decide +kernel
theorem dX10_award_20 : decode cX10_award 20 = .ok (.iload_n 1, 1) := by decide +kernel
theorem dX10_award_21 : decode cX10_award 21 = .ok (.iload_n 2, 1) := by decide +kernel
theorem dX10_award_22 : decode cX10_award 22 = .ok (.invokevirtual 245, 3) := by decide +kernel
theorem dX10_award_25 : decode cX10_award 25 = .ok (.aload_n 0, 1) := by decide +kernel
theorem dX10_award_26 : decode cX10_award 26 = .ok (.getfield 55, 3) := by decide +kernel
theorem dX10_award_29 : decode cX10_award 29 = .ok (.getfield 249, 3) := by decide +kernel
theorem dX10_award_32 : decode cX10_award 32 = .ok (.iconst 1, 1) := by decide +kernel
theorem dX10_award_33 : decode cX10_award 33 = .ok (.iload_n 1, 1) := by decide +kernel
theorem dX10_award_34 : decode cX10_award 34 = .ok (.ishl, 1) := by decide +kernel
theorem dX10_award_35 : decode cX10_award 35 = .ok (.iconst 1, 1) := by decide +kernel
theorem dX10_award_36 : decode cX10_award 36 = .ok (.isub, 1) := by decide +kernel
theorem dX10_award_37 : decode cX10_award 37 = .ok (.iaload, 1) := by decide +kernel
theorem dX10_award_38 : decode cX10_award 38 = .ok (.istore_n 3, 1) := by decide +kernel
theorem dX10_award_39 : decode cX10_award 39 = .ok (.iload_n 3, 1) := by decide +kernel
theorem dX10_award_40 : decode cX10_award 40 = .ok (.ldc 150, 2) := by decide +kernel
theorem dX10_award_42 : decode cX10_award 42 = .ok (.if_icmp .lt 8, 3) := by decide +kernel
theorem dX10_award_45 : decode cX10_award 45 = .ok (.bipush (-2), 2) := by decide +kernel
theorem dX10_award_47 : decode cX10_award 47 = .ok (.goto 4, 3) := by decide +kernel
theorem dX10_award_50 : decode cX10_award 50 = .ok (.iload_n 3, 1) := by decide +kernel
theorem dX10_award_51 : decode cX10_award 51 = .ok (.ireturn, 1) := by decide +kernel
theorem dX10_awarded_0 : decode cX10_awarded 0 = .ok (.iload_n 1, 1) := by decide +kernel
theorem dX10_awarded_1 : decode cX10_awarded 1 = .ok (.invokestatic 239, 3) := by decide +kernel
theorem dX10_awarded_4 : decode cX10_awarded 4 = .ok (.ifCond .eq 18, 3) := by decide +kernel
theorem dX10_awarded_7 : decode cX10_awarded 7 = .ok (.iload_n 2, 1) := by decide +kernel
theorem dX10_awarded_8 : decode cX10_awarded 8 = .ok (.invokestatic 242, 3) := by decide +kernel
theorem dX10_awarded_11 : decode cX10_awarded 11 = .ok (.ifCond .eq 11, 3) := by decide +kernel
theorem dX10_awarded_14 : decode cX10_awarded 14 = .ok (.iload_n 3, 1) := by decide +kernel
theorem dX10_awarded_15 : decode cX10_awarded 15 = .ok (.iload_n 1, 1) := by decide +kernel
theorem dX10_awarded_16 : decode cX10_awarded 16 = .ok (.invokestatic 106, 3) := by decide +kernel
theorem dX10_awarded_19 : decode cX10_awarded 19 = .ok (.ifCond .ne 5, 3) := by decide +kernel
theorem dX10_awarded_22 : decode cX10_awarded 22 = .ok (.iconst (-1), 1) := by decide +kernel
theorem dX10_awarded_23 : decode cX10_awarded 23 = .ok (.ireturn, 1) := by decide +kernel
theorem dX10_awarded_24 : decode cX10_awarded 24 = .ok (.aload_n 0, 1) := by decide +kernel
theorem dX10_awarded_25 : decode cX10_awarded 25 = .ok (.getfield 55, 3) := by decide +kernel
theorem dX10_awarded_28 : decode cX10_awarded 28 = .ok (.iload_n 1, 1) := by decide +kernel
theorem dX10_awarded_29 : decode cX10_awarded 29 = .ok (.iload_n 2, 1) := by decide +kernel
theorem dX10_awarded_30 : decode cX10_awarded 30 = .ok (.invokevirtual 245, 3) := by decide +kernel
theorem dX10_awarded_33 : decode cX10_awarded 33 = .ok (.aload_n 0, 1) := by decide +kernel
theorem dX10_awarded_34 : decode cX10_awarded 34 = .ok (.getfield 55, 3) := by decide +kernel
theorem dX10_awarded_37 : decode cX10_awarded 37 = .ok (.iload_n 3, 1) := by decide +kernel
theorem dX10_awarded_38 : decode cX10_awarded 38 = .ok (.iload_n 1, 1) := by decide +kernel
theorem dX10_awarded_39 : decode cX10_awarded 39 = .ok (.invokevirtual 252, 3) := by decide +kernel
theorem dX10_awarded_42 : decode cX10_awarded 42 = .ok (.ireturn, 1) := by decide +kernel
theorem dX10_driver_0 : decode cX10_driver 0 = .ok (.iload_n 1, 1) := by decide +kernel
theorem dX10_driver_1 : decode cX10_driver 1 = .ok (.sipush 1024, 3) := by decide +kernel
theorem dX10_driver_4 : decode cX10_driver 4 = .ok (.invokestatic 106, 3) := by decide +kernel
theorem dX10_driver_7 : decode cX10_driver 7 = .ok (.ifCond .ne 5, 3) := by decide +kernel
theorem dX10_driver_10 : decode cX10_driver 10 = .ok (.iconst (-1), 1) := by decide +kernel
theorem dX10_driver_11 : decode cX10_driver 11 = .ok (.ireturn, 1) := by decide +kernel
theorem dX10_driver_12 : decode cX10_driver 12 = .ok (.aload_n 0, 1) := by decide +kernel
theorem dX10_driver_13 : decode cX10_driver 13 = .ok (.getfield 62, 3) := by decide +kernel
theorem dX10_driver_16 : decode cX10_driver 16 = .ok (.iload_n 1, 1) := by decide +kernel
theorem dX10_driver_17 : decode cX10_driver 17 = .ok (.invokevirtual 255, 3) := by decide +kernel
theorem dX10_driver_20 : decode cX10_driver 20 = .ok (.ireturn, 1) := by decide +kernel
theorem dX10_leave_0 : decode cX10_leave 0 = .ok (.iload_n 1, 1) := by decide +kernel
theorem dX10_leave_1 : decode cX10_leave 1 = .ok (.aload_n 0, 1) := by decide +kernel
theorem dX10_leave_2 : decode cX10_leave 2 = .ok (.getfield 62, 3) := by decide +kernel
theorem dX10_leave_5 : decode cX10_leave 5 = .ok (.getfield 257, 3) := by decide +kernel
theorem dX10_leave_8 : decode cX10_leave 8 = .ok (.invokestatic 106, 3) := by decide +kernel
theorem dX10_leave_11 : decode cX10_leave 11 = .ok (.ifCond .ne 5, 3) := by decide +kernel
theorem dX10_leave_14 : decode cX10_leave 14 = .ok (.iconst 0, 1) := by decide +kernel
theorem dX10_leave_15 : decode cX10_leave 15 = .ok (.ireturn, 1) := by decide +kernel
theorem dX10_leave_16 : decode cX10_leave 16 = .ok (.aload_n 0, 1) := by decide +kernel
theorem dX10_leave_17 : decode cX10_leave 17 = .ok (.getfield 62, 3) := by decide +kernel
theorem dX10_leave_20 : decode cX10_leave 20 = .ok (.iload_n 1, 1) := by decide +kernel
theorem dX10_leave_21 : decode cX10_leave 21 = .ok (.iload_n 2, 1) := by decide +kernel
theorem dX10_leave_22 : decode cX10_leave 22 = .ok (.invokevirtual 258, 3) := by decide +kernel
theorem dX10_leave_25 : decode cX10_leave 25 = .ok (.iconst 1, 1) := by decide +kernel
theorem dX10_leave_26 : decode cX10_leave 26 = .ok (.ireturn, 1) := by decide +kernel
theorem dX10_weigh_0 : decode cX10_weigh 0 = .ok (.iload_n 1, 1) := by decide +kernel
theorem dX10_weigh_1 : decode cX10_weigh 1 = .ok (.bipush 10, 2) := by decide +kernel
theorem dX10_weigh_3 : decode cX10_weigh 3 = .ok (.invokestatic 106, 3) := by decide +kernel
theorem dX10_weigh_6 : decode cX10_weigh 6 = .ok (.ifCond .eq 12, 3) := by decide +kernel
theorem dX10_weigh_9 : decode cX10_weigh 9 = .ok (.iload_n 2, 1) := by decide +kernel
theorem dX10_weigh_10 : decode cX10_weigh 10 = .ok (.bipush 100, 2) := by decide +kernel
theorem dX10_weigh_12 : decode cX10_weigh 12 = .ok (.invokestatic 106, 3) := by decide +kernel
theorem dX10_weigh_15 : decode cX10_weigh 15 = .ok (.ifCond .ne 5, 3) := by decide +kernel
theorem dX10_weigh_18 : decode cX10_weigh 18 = .ok (.iconst 0, 1) := by decide +kernel
theorem dX10_weigh_19 : decode cX10_weigh 19 = .ok (.ireturn, 1) := by decide +kernel
theorem dX10_weigh_20 : decode cX10_weigh 20 = .ok (.aload_n 0, 1) := by decide +kernel
theorem dX10_weigh_21 : decode cX10_weigh 21 = .ok (.getfield 62, 3) := by decide +kernel
theorem dX10_weigh_24 : decode cX10_weigh 24 = .ok (.iload_n 1, 1) := by decide +kernel
theorem dX10_weigh_25 : decode cX10_weigh 25 = .ok (.iload_n 2, 1) := by decide +kernel
theorem dX10_weigh_26 : decode cX10_weigh 26 = .ok (.invokevirtual 262, 3) := by decide +kernel
theorem dX10_weigh_29 : decode cX10_weigh 29 = .ok (.iconst 1, 1) := by decide +kernel
theorem dX10_weigh_30 : decode cX10_weigh 30 = .ok (.ireturn, 1) := by decide +kernel
theorem dX10_cover_0 : decode cX10_cover 0 = .ok (.iload_n 1, 1) := by decide +kernel
theorem dX10_cover_1 : decode cX10_cover 1 = .ok (.invokestatic 239, 3) := by decide +kernel
theorem dX10_cover_4 : decode cX10_cover 4 = .ok (.ifCond .ne 5, 3) := by decide +kernel
theorem dX10_cover_7 : decode cX10_cover 7 = .ok (.iconst (-1), 1) := by decide +kernel
theorem dX10_cover_8 : decode cX10_cover 8 = .ok (.ireturn, 1) := by decide +kernel
theorem dX10_cover_9 : decode cX10_cover 9 = .ok (.aload_n 0, 1) := by decide +kernel
theorem dX10_cover_10 : decode cX10_cover 10 = .ok (.getfield 62, 3) := by decide +kernel
theorem dX10_cover_13 : decode cX10_cover 13 = .ok (.iload_n 1, 1) := by decide +kernel
theorem dX10_cover_14 : decode cX10_cover 14 = .ok (.invokevirtual 265, 3) := by decide +kernel
theorem dX10_cover_17 : decode cX10_cover 17 = .ok (.aload_n 0, 1) := by decide +kernel
theorem dX10_cover_18 : decode cX10_cover 18 = .ok (.getfield 62, 3) := by decide +kernel
theorem dX10_cover_21 : decode cX10_cover 21 = .ok (.invokevirtual 267, 3) := by decide +kernel
theorem dX10_cover_24 : decode cX10_cover 24 = .ok (.ireturn, 1) := by decide +kernel
theorem dX10_drives_0 : decode cX10_drives 0 = .ok (.iload_n 1, 1) := by decide +kernel
theorem dX10_drives_1 : decode cX10_drives 1 = .ok (.invokestatic 239, 3) := by decide +kernel
theorem dX10_drives_4 : decode cX10_drives 4 = .ok (.ifCond .eq 11, 3) := by decide +kernel
theorem dX10_drives_7 : decode cX10_drives 7 = .ok (.iload_n 2, 1) := by decide +kernel
theorem dX10_drives_8 : decode cX10_drives 8 = .ok (.iload_n 1, 1) := by decide +kernel
theorem dX10_drives_9 : decode cX10_drives 9 = .ok (.invokestatic 106, 3) := by decide +kernel
theorem dX10_drives_12 : decode cX10_drives 12 = .ok (.ifCond .ne 5, 3) := by decide +kernel
theorem dX10_drives_15 : decode cX10_drives 15 = .ok (.iconst (-1), 1) := by decide +kernel
theorem dX10_drives_16 : decode cX10_drives 16 = .ok (.ireturn, 1) := by decide +kernel
theorem dX10_drives_17 : decode cX10_drives 17 = .ok (.aload_n 0, 1) := by decide +kernel
theorem dX10_drives_18 : decode cX10_drives 18 = .ok (.getfield 62, 3) := by decide +kernel
theorem dX10_drives_21 : decode cX10_drives 21 = .ok (.iload_n 1, 1) := by decide +kernel
theorem dX10_drives_22 : decode cX10_drives 22 = .ok (.invokevirtual 265, 3) := by decide +kernel
theorem dX10_drives_25 : decode cX10_drives 25 = .ok (.aload_n 0, 1) := by decide +kernel
theorem dX10_drives_26 : decode cX10_drives 26 = .ok (.getfield 62, 3) := by decide +kernel
theorem dX10_drives_29 : decode cX10_drives 29 = .ok (.getfield 270, 3) := by decide +kernel
theorem dX10_drives_32 : decode cX10_drives 32 = .ok (.iload_n 2, 1) := by decide +kernel
theorem dX10_drives_33 : decode cX10_drives 33 = .ok (.iaload, 1) := by decide +kernel
theorem dX10_drives_34 : decode cX10_drives 34 = .ok (.iconst (-1), 1) := by decide +kernel
theorem dX10_drives_35 : decode cX10_drives 35 = .ok (.if_icmp .ne 8, 3) := by decide +kernel
theorem dX10_drives_38 : decode cX10_drives 38 = .ok (.bipush (-2), 2) := by decide +kernel
theorem dX10_drives_40 : decode cX10_drives 40 = .ok (.goto 12, 3) := by decide +kernel
theorem dX10_drives_43 : decode cX10_drives 43 = .ok (.aload_n 0, 1) := by decide +kernel
theorem dX10_drives_44 : decode cX10_drives 44 = .ok (.getfield 62, 3) := by decide +kernel
theorem dX10_drives_47 : decode cX10_drives 47 = .ok (.getfield 270, 3) := by decide +kernel
theorem dX10_drives_50 : decode cX10_drives 50 = .ok (.iload_n 2, 1) := by decide +kernel
theorem dX10_drives_51 : decode cX10_drives 51 = .ok (.iaload, 1) := by decide +kernel
theorem dX10_drives_52 : decode cX10_drives 52 = .ok (.ireturn, 1) := by decide +kernel
theorem dX10_call_0 : decode cX10_call 0 = .ok (.iload_n 1, 1) := by decide +kernel
theorem dX10_call_1 : decode cX10_call 1 = .ok (.bipush 12, 2) := by decide +kernel
theorem dX10_call_3 : decode cX10_call 3 = .ok (.invokestatic 106, 3) := by decide +kernel
theorem dX10_call_6 : decode cX10_call 6 = .ok (.ifCond .eq 28, 3) := by decide +kernel
theorem dX10_call_9 : decode cX10_call 9 = .ok (.iload_n 2, 1) := by decide +kernel
theorem dX10_call_10 : decode cX10_call 10 = .ok (.bipush 12, 2) := by decide +kernel
theorem dX10_call_12 : decode cX10_call 12 = .ok (.invokestatic 106, 3) := by decide +kernel
theorem dX10_call_15 : decode cX10_call 15 = .ok (.ifCond .eq 19, 3) := by decide +kernel
theorem dX10_call_18 : decode cX10_call 18 = .ok (.iload_n 1, 1) := by decide +kernel
theorem dX10_call_19 : decode cX10_call 19 = .ok (.iload_n 2, 1) := by decide +kernel
theorem dX10_call_20 : decode cX10_call 20 = .ok (.if_icmp .eq 14, 3) := by decide +kernel
theorem dX10_call_23 : decode cX10_call 23 = .ok (.iload_n 3, 1) := by decide +kernel
theorem dX10_call_24 : decode cX10_call 24 = .ok (.iconst 1, 1) := by decide +kernel
theorem dX10_call_25 : decode cX10_call 25 = .ok (.if_icmp .lt 9, 3) := by decide +kernel
theorem dX10_call_28 : decode cX10_call 28 = .ok (.iload_n 3, 1) := by decide +kernel
theorem dX10_call_29 : decode cX10_call 29 = .ok (.bipush 99, 2) := by decide +kernel
theorem dX10_call_31 : decode cX10_call 31 = .ok (.if_icmp .le 5, 3) := by decide +kernel
theorem dX10_call_34 : decode cX10_call 34 = .ok (.iconst (-1), 1) := by decide +kernel
theorem dX10_call_35 : decode cX10_call 35 = .ok (.ireturn, 1) := by decide +kernel
theorem dX10_call_36 : decode cX10_call 36 = .ok (.aload_n 0, 1) := by decide +kernel
theorem dX10_call_37 : decode cX10_call 37 = .ok (.getfield 69, 3) := by decide +kernel
theorem dX10_call_40 : decode cX10_call 40 = .ok (.iload_n 1, 1) := by decide +kernel
theorem dX10_call_41 : decode cX10_call 41 = .ok (.iload_n 2, 1) := by decide +kernel
theorem dX10_call_42 : decode cX10_call 42 = .ok (.iload_n 3, 1) := by decide +kernel
theorem dX10_call_43 : decode cX10_call 43 = .ok (.invokevirtual 273, 3) := by decide +kernel
theorem dX10_call_46 : decode cX10_call 46 = .ok (.ireturn, 1) := by decide +kernel
theorem dX10_told_0 : decode cX10_told 0 = .ok (.iload_n 1, 1) := by decide +kernel
theorem dX10_told_1 : decode cX10_told 1 = .ok (.bipush 12, 2) := by decide +kernel
theorem dX10_told_3 : decode cX10_told 3 = .ok (.invokestatic 106, 3) := by decide +kernel
theorem dX10_told_6 : decode cX10_told 6 = .ok (.ifCond .eq 12, 3) := by decide +kernel
theorem dX10_told_9 : decode cX10_told 9 = .ok (.iload_n 2, 1) := by decide +kernel
theorem dX10_told_10 : decode cX10_told 10 = .ok (.bipush 12, 2) := by decide +kernel
theorem dX10_told_12 : decode cX10_told 12 = .ok (.invokestatic 106, 3) := by decide +kernel
theorem dX10_told_15 : decode cX10_told 15 = .ok (.ifCond .ne 5, 3) := by decide +kernel
theorem dX10_told_18 : decode cX10_told 18 = .ok (.iconst (-1), 1) := by decide +kernel
theorem dX10_told_19 : decode cX10_told 19 = .ok (.ireturn, 1) := by decide +kernel
theorem dX10_told_20 : decode cX10_told 20 = .ok (.aload_n 0, 1) := by decide +kernel
theorem dX10_told_21 : decode cX10_told 21 = .ok (.getfield 69, 3) := by decide +kernel
theorem dX10_told_24 : decode cX10_told 24 = .ok (.iload_n 1, 1) := by decide +kernel
theorem dX10_told_25 : decode cX10_told 25 = .ok (.invokevirtual 274, 3) := by decide +kernel
theorem dX10_told_28 : decode cX10_told 28 = .ok (.aload_n 0, 1) := by decide +kernel
theorem dX10_told_29 : decode cX10_told 29 = .ok (.getfield 69, 3) := by decide +kernel
theorem dX10_told_32 : decode cX10_told 32 = .ok (.getfield 277, 3) := by decide +kernel
theorem dX10_told_35 : decode cX10_told 35 = .ok (.iload_n 2, 1) := by decide +kernel
theorem dX10_told_36 : decode cX10_told 36 = .ok (.iaload, 1) := by decide +kernel
theorem dX10_told_37 : decode cX10_told 37 = .ok (.ldc 150, 2) := by decide +kernel
theorem dX10_told_39 : decode cX10_told 39 = .ok (.if_icmp .lt 8, 3) := by decide +kernel
theorem dX10_told_42 : decode cX10_told 42 = .ok (.bipush (-2), 2) := by decide +kernel
theorem dX10_told_44 : decode cX10_told 44 = .ok (.goto 12, 3) := by decide +kernel
theorem dX10_told_47 : decode cX10_told 47 = .ok (.aload_n 0, 1) := by decide +kernel
theorem dX10_told_48 : decode cX10_told 48 = .ok (.getfield 69, 3) := by decide +kernel
theorem dX10_told_51 : decode cX10_told 51 = .ok (.getfield 277, 3) := by decide +kernel
theorem dX10_told_54 : decode cX10_told 54 = .ok (.iload_n 2, 1) := by decide +kernel
theorem dX10_told_55 : decode cX10_told 55 = .ok (.iaload, 1) := by decide +kernel
theorem dX10_told_56 : decode cX10_told 56 = .ok (.ireturn, 1) := by decide +kernel
theorem dX10_soonest_0 : decode cX10_soonest 0 = .ok (.aload_n 0, 1) := by decide +kernel
theorem dX10_soonest_1 : decode cX10_soonest 1 = .ok (.getfield 69, 3) := by decide +kernel
theorem dX10_soonest_4 : decode cX10_soonest 4 = .ok (.invokevirtual 280, 3) := by decide +kernel
theorem dX10_soonest_7 : decode cX10_soonest 7 = .ok (.ireturn, 1) := by decide +kernel
theorem dX10_lent_0 : decode cX10_lent 0 = .ok (.aload_n 0, 1) := by decide +kernel
theorem dX10_lent_1 : decode cX10_lent 1 = .ok (.iload_n 1, 1) := by decide +kernel
theorem dX10_lent_2 : decode cX10_lent 2 = .ok (.invokevirtual 283, 3) := by decide +kernel
theorem dX10_lent_5 : decode cX10_lent 5 = .ok (.ifCond .ne 5, 3) := by decide +kernel
theorem dX10_lent_8 : decode cX10_lent 8 = .ok (.iconst (-1), 1) := by decide +kernel
theorem dX10_lent_9 : decode cX10_lent 9 = .ok (.ireturn, 1) := by decide +kernel
theorem dX10_lent_10 : decode cX10_lent 10 = .ok (.aload_n 0, 1) := by decide +kernel
theorem dX10_lent_11 : decode cX10_lent 11 = .ok (.iload_n 1, 1) := by decide +kernel
theorem dX10_lent_12 : decode cX10_lent 12 = .ok (.iconst (-1), 1) := by decide +kernel
theorem dX10_lent_13 : decode cX10_lent 13 = .ok (.invokevirtual 286, 3) := by decide +kernel
theorem dX10_lent_16 : decode cX10_lent 16 = .ok (.ireturn, 1) := by decide +kernel
theorem dX10_lentAt_0 : decode cX10_lentAt 0 = .ok (.aload_n 0, 1) := by decide +kernel
theorem dX10_lentAt_1 : decode cX10_lentAt 1 = .ok (.iload_n 1, 1) := by decide +kernel
theorem dX10_lentAt_2 : decode cX10_lentAt 2 = .ok (.invokevirtual 283, 3) := by decide +kernel
theorem dX10_lentAt_5 : decode cX10_lentAt 5 = .ok (.ifCond .eq 17, 3) := by decide +kernel
theorem dX10_lentAt_8 : decode cX10_lentAt 8 = .ok (.iload_n 2, 1) := by decide +kernel
theorem dX10_lentAt_9 : decode cX10_lentAt 9 = .ok (.ifCond .lt 13, 3) := by decide +kernel
theorem dX10_lentAt_12 : decode cX10_lentAt 12 = .ok (.iload_n 2, 1) := by decide +kernel
theorem dX10_lentAt_13 : decode cX10_lentAt 13 = .ok (.aload_n 0, 1) := by decide +kernel
theorem dX10_lentAt_14 : decode cX10_lentAt 14 = .ok (.iload_n 1, 1) := by decide +kernel
theorem dX10_lentAt_15 : decode cX10_lentAt 15 = .ok (.iload_n 2, 1) := by decide +kernel
theorem dX10_lentAt_16 : decode cX10_lentAt 16 = .ok (.invokevirtual 286, 3) := by decide +kernel
theorem dX10_lentAt_19 : decode cX10_lentAt 19 = .ok (.if_icmp .lt 5, 3) := by decide +kernel
theorem dX10_lentAt_22 : decode cX10_lentAt 22 = .ok (.iconst (-1), 1) := by decide +kernel
theorem dX10_lentAt_23 : decode cX10_lentAt 23 = .ok (.ireturn, 1) := by decide +kernel
theorem dX10_lentAt_24 : decode cX10_lentAt 24 = .ok (.iload_n 3, 1) := by decide +kernel
theorem dX10_lentAt_25 : decode cX10_lentAt 25 = .ok (.ifCond .eq 10, 3) := by decide +kernel
theorem dX10_lentAt_28 : decode cX10_lentAt 28 = .ok (.aload_n 0, 1) := by decide +kernel
theorem dX10_lentAt_29 : decode cX10_lentAt 29 = .ok (.getfield 289, 3) := by decide +kernel
theorem dX10_lentAt_32 : decode cX10_lentAt 32 = .ok (.goto 7, 3) := by decide +kernel
theorem dX10_lentAt_35 : decode cX10_lentAt 35 = .ok (.aload_n 0, 1) := by decide +kernel
theorem dX10_lentAt_36 : decode cX10_lentAt 36 = .ok (.getfield 292, 3) := by decide +kernel
theorem dX10_lentAt_39 : decode cX10_lentAt 39 = .ok (.ireturn, 1) := by decide +kernel
theorem dX10_count_0 : decode cX10_count 0 = .ok (.iload_n 1, 1) := by decide +kernel
theorem dX10_count_1 : decode cX10_count 1 = .ok (.tableswitch 96 0 6 #[43, 48, 56, 64, 72, 80, 88], 43) := by decide +kernel
theorem dX10_count_44 : decode cX10_count 44 = .ok (.aload_n 0, 1) := by decide +kernel
theorem dX10_count_45 : decode cX10_count 45 = .ok (.getfield 90, 3) := by decide +kernel
theorem dX10_count_48 : decode cX10_count 48 = .ok (.ireturn, 1) := by decide +kernel
theorem dX10_count_49 : decode cX10_count 49 = .ok (.aload_n 0, 1) := by decide +kernel
theorem dX10_count_50 : decode cX10_count 50 = .ok (.getfield 37, 3) := by decide +kernel
theorem dX10_count_53 : decode cX10_count 53 = .ok (.getfield 123, 3) := by decide +kernel
theorem dX10_count_56 : decode cX10_count 56 = .ok (.ireturn, 1) := by decide +kernel
theorem dX10_count_57 : decode cX10_count 57 = .ok (.aload_n 0, 1) := by decide +kernel
theorem dX10_count_58 : decode cX10_count 58 = .ok (.getfield 37, 3) := by decide +kernel
theorem dX10_count_61 : decode cX10_count 61 = .ok (.getfield 116, 3) := by decide +kernel
theorem dX10_count_64 : decode cX10_count 64 = .ok (.ireturn, 1) := by decide +kernel
theorem dX10_count_65 : decode cX10_count 65 = .ok (.aload_n 0, 1) := by decide +kernel
theorem dX10_count_66 : decode cX10_count 66 = .ok (.getfield 55, 3) := by decide +kernel
theorem dX10_count_69 : decode cX10_count 69 = .ok (.getfield 295, 3) := by decide +kernel
theorem dX10_count_72 : decode cX10_count 72 = .ok (.ireturn, 1) := by decide +kernel
theorem dX10_count_73 : decode cX10_count 73 = .ok (.aload_n 0, 1) := by decide +kernel
theorem dX10_count_74 : decode cX10_count 74 = .ok (.getfield 62, 3) := by decide +kernel
theorem dX10_count_77 : decode cX10_count 77 = .ok (.getfield 257, 3) := by decide +kernel
theorem dX10_count_80 : decode cX10_count 80 = .ok (.ireturn, 1) := by decide +kernel
theorem dX10_count_81 : decode cX10_count 81 = .ok (.aload_n 0, 1) := by decide +kernel
theorem dX10_count_82 : decode cX10_count 82 = .ok (.getfield 69, 3) := by decide +kernel
theorem dX10_count_85 : decode cX10_count 85 = .ok (.getfield 296, 3) := by decide +kernel
theorem dX10_count_88 : decode cX10_count 88 = .ok (.ireturn, 1) := by decide +kernel
theorem dX10_count_89 : decode cX10_count 89 = .ok (.aload_n 0, 1) := by decide +kernel
theorem dX10_count_90 : decode cX10_count 90 = .ok (.getfield 20, 3) := by decide +kernel
theorem dX10_count_93 : decode cX10_count 93 = .ok (.getfield 77, 3) := by decide +kernel
theorem dX10_count_96 : decode cX10_count 96 = .ok (.ireturn, 1) := by decide +kernel
theorem dX10_count_97 : decode cX10_count 97 = .ok (.iload_n 1, 1) := by decide +kernel
theorem dX10_count_98 : decode cX10_count 98 = .ok (.bipush 10, 2) := by decide +kernel
theorem dX10_count_100 : decode cX10_count 100 = .ok (.if_icmp .ge 7, 3) := by decide +kernel
theorem dX10_count_103 : decode cX10_count 103 = .ok (.iconst (-1), 1) := by decide +kernel
theorem dX10_count_104 : decode cX10_count 104 = .ok (.goto 15, 3) := by decide +kernel
theorem dX10_count_107 : decode cX10_count 107 = .ok (.aload_n 0, 1) := by decide +kernel
theorem dX10_count_108 : decode cX10_count 108 = .ok (.iload_n 1, 1) := by decide +kernel
theorem dX10_count_109 : decode cX10_count 109 = .ok (.bipush 10, 2) := by decide +kernel
theorem dX10_count_111 : decode cX10_count 111 = .ok (.idiv, 1) := by decide +kernel
theorem dX10_count_112 : decode cX10_count 112 = .ok (.iload_n 1, 1) := by decide +kernel
theorem dX10_count_113 : decode cX10_count 113 = .ok (.bipush 10, 2) := by decide +kernel
theorem dX10_count_115 : decode cX10_count 115 = .ok (.irem, 1) := by decide +kernel
theorem dX10_count_116 : decode cX10_count 116 = .ok (.invokevirtual 297, 3) := by decide +kernel
theorem dX10_count_119 : decode cX10_count 119 = .ok (.ireturn, 1) := by decide +kernel
theorem dX10_within_0 : decode cX10_within 0 = .ok (.iload_n 0, 1) := by decide +kernel
theorem dX10_within_1 : decode cX10_within 1 = .ok (.ifCond .lt 12, 3) := by decide +kernel
theorem dX10_within_4 : decode cX10_within 4 = .ok (.iload_n 0, 1) := by decide +kernel
theorem dX10_within_5 : decode cX10_within 5 = .ok (.iload_n 1, 1) := by decide +kernel
theorem dX10_within_6 : decode cX10_within 6 = .ok (.if_icmp .ge 7, 3) := by decide +kernel
theorem dX10_within_9 : decode cX10_within 9 = .ok (.iconst 1, 1) := by decide +kernel
theorem dX10_within_10 : decode cX10_within 10 = .ok (.goto 4, 3) := by decide +kernel
theorem dX10_within_13 : decode cX10_within 13 = .ok (.iconst 0, 1) := by decide +kernel
theorem dX10_within_14 : decode cX10_within 14 = .ok (.ireturn, 1) := by decide +kernel
theorem dX10_isDay_0 : decode cX10_isDay 0 = .ok (.iload_n 0, 1) := by decide +kernel
theorem dX10_isDay_1 : decode cX10_isDay 1 = .ok (.sipush 365, 3) := by decide +kernel
theorem dX10_isDay_4 : decode cX10_isDay 4 = .ok (.invokestatic 106, 3) := by decide +kernel
theorem dX10_isDay_7 : decode cX10_isDay 7 = .ok (.ireturn, 1) := by decide +kernel
theorem dX10_isRouteCount_0 : decode cX10_isRouteCount 0 = .ok (.iload_n 0, 1) := by decide +kernel
theorem dX10_isRouteCount_1 : decode cX10_isRouteCount 1 = .ok (.iconst 1, 1) := by decide +kernel
theorem dX10_isRouteCount_2 : decode cX10_isRouteCount 2 = .ok (.if_icmp .lt 13, 3) := by decide +kernel
theorem dX10_isRouteCount_5 : decode cX10_isRouteCount 5 = .ok (.iload_n 0, 1) := by decide +kernel
theorem dX10_isRouteCount_6 : decode cX10_isRouteCount 6 = .ok (.bipush 10, 2) := by decide +kernel
theorem dX10_isRouteCount_8 : decode cX10_isRouteCount 8 = .ok (.if_icmp .gt 7, 3) := by decide +kernel
theorem dX10_isRouteCount_11 : decode cX10_isRouteCount 11 = .ok (.iconst 1, 1) := by decide +kernel
theorem dX10_isRouteCount_12 : decode cX10_isRouteCount 12 = .ok (.goto 4, 3) := by decide +kernel
theorem dX10_isRouteCount_15 : decode cX10_isRouteCount 15 = .ok (.iconst 0, 1) := by decide +kernel
theorem dX10_isRouteCount_16 : decode cX10_isRouteCount 16 = .ok (.ireturn, 1) := by decide +kernel
theorem dX10_isFirmOrNone_0 : decode cX10_isFirmOrNone 0 = .ok (.iload_n 0, 1) := by decide +kernel
theorem dX10_isFirmOrNone_1 : decode cX10_isFirmOrNone 1 = .ok (.iconst (-1), 1) := by decide +kernel
theorem dX10_isFirmOrNone_2 : decode cX10_isFirmOrNone 2 = .ok (.if_icmp .eq 12, 3) := by decide +kernel
theorem dX10_isFirmOrNone_5 : decode cX10_isFirmOrNone 5 = .ok (.iload_n 0, 1) := by decide +kernel
theorem dX10_isFirmOrNone_6 : decode cX10_isFirmOrNone 6 = .ok (.bipush 6, 2) := by decide +kernel
theorem dX10_isFirmOrNone_8 : decode cX10_isFirmOrNone 8 = .ok (.invokestatic 106, 3) := by decide +kernel
theorem dX10_isFirmOrNone_11 : decode cX10_isFirmOrNone 11 = .ok (.ifCond .eq 7, 3) := by decide +kernel
theorem dX10_isFirmOrNone_14 : decode cX10_isFirmOrNone 14 = .ok (.iconst 1, 1) := by decide +kernel
theorem dX10_isFirmOrNone_15 : decode cX10_isFirmOrNone 15 = .ok (.goto 4, 3) := by decide +kernel
theorem dX10_isFirmOrNone_18 : decode cX10_isFirmOrNone 18 = .ok (.iconst 0, 1) := by decide +kernel
theorem dX10_isFirmOrNone_19 : decode cX10_isFirmOrNone 19 = .ok (.ireturn, 1) := by decide +kernel
theorem dX10_canMeasure_0 : decode cX10_canMeasure 0 = .ok (.iload_n 0, 1) := by decide +kernel
theorem dX10_canMeasure_1 : decode cX10_canMeasure 1 = .ok (.bipush 12, 2) := by decide +kernel
theorem dX10_canMeasure_3 : decode cX10_canMeasure 3 = .ok (.invokestatic 106, 3) := by decide +kernel
theorem dX10_canMeasure_6 : decode cX10_canMeasure 6 = .ok (.ifCond .eq 24, 3) := by decide +kernel
theorem dX10_canMeasure_9 : decode cX10_canMeasure 9 = .ok (.iload_n 1, 1) := by decide +kernel
theorem dX10_canMeasure_10 : decode cX10_canMeasure 10 = .ok (.bipush 12, 2) := by decide +kernel
theorem dX10_canMeasure_12 : decode cX10_canMeasure 12 = .ok (.invokestatic 106, 3) := by decide +kernel
theorem dX10_canMeasure_15 : decode cX10_canMeasure 15 = .ok (.ifCond .eq 15, 3) := by decide +kernel
theorem dX10_canMeasure_18 : decode cX10_canMeasure 18 = .ok (.iload_n 2, 1) := by decide +kernel
theorem dX10_canMeasure_19 : decode cX10_canMeasure 19 = .ok (.iconst 3, 1) := by decide +kernel
theorem dX10_canMeasure_20 : decode cX10_canMeasure 20 = .ok (.invokestatic 106, 3) := by decide +kernel
theorem dX10_canMeasure_23 : decode cX10_canMeasure 23 = .ok (.ifCond .eq 7, 3) := by decide +kernel
theorem dX10_canMeasure_26 : decode cX10_canMeasure 26 = .ok (.iconst 1, 1) := by decide +kernel
theorem dX10_canMeasure_27 : decode cX10_canMeasure 27 = .ok (.goto 4, 3) := by decide +kernel
theorem dX10_canMeasure_30 : decode cX10_canMeasure 30 = .ok (.iconst 0, 1) := by decide +kernel
theorem dX10_canMeasure_31 : decode cX10_canMeasure 31 = .ok (.ireturn, 1) := by decide +kernel
theorem dX10_isKnowledge_0 : decode cX10_isKnowledge 0 = .ok (.iload_n 1, 1) := by decide +kernel
theorem dX10_isKnowledge_1 : decode cX10_isKnowledge 1 = .ok (.ifCond .lt 18, 3) := by decide +kernel
theorem dX10_isKnowledge_4 : decode cX10_isKnowledge 4 = .ok (.iload_n 1, 1) := by decide +kernel
theorem dX10_isKnowledge_5 : decode cX10_isKnowledge 5 = .ok (.aload_n 0, 1) := by decide +kernel
theorem dX10_isKnowledge_6 : decode cX10_isKnowledge 6 = .ok (.getfield 37, 3) := by decide +kernel
theorem dX10_isKnowledge_9 : decode cX10_isKnowledge 9 = .ok (.getfield 123, 3) := by decide +kernel
theorem dX10_isKnowledge_12 : decode cX10_isKnowledge 12 = .ok (.if_icmp .gt 7, 3) := by decide +kernel
theorem dX10_isKnowledge_15 : decode cX10_isKnowledge 15 = .ok (.iconst 1, 1) := by decide +kernel
theorem dX10_isKnowledge_16 : decode cX10_isKnowledge 16 = .ok (.goto 4, 3) := by decide +kernel
theorem dX10_isKnowledge_19 : decode cX10_isKnowledge 19 = .ok (.iconst 0, 1) := by decide +kernel
theorem dX10_isKnowledge_20 : decode cX10_isKnowledge 20 = .ok (.ireturn, 1) := by decide +kernel
theorem dX10_knowsChild_0 : decode cX10_knowsChild 0 = .ok (.aload_n 0, 1) := by decide +kernel
theorem dX10_knowsChild_1 : decode cX10_knowsChild 1 = .ok (.iload_n 2, 1) := by decide +kernel
theorem dX10_knowsChild_2 : decode cX10_knowsChild 2 = .ok (.invokevirtual 283, 3) := by decide +kernel
theorem dX10_knowsChild_5 : decode cX10_knowsChild 5 = .ok (.ifCond .eq 22, 3) := by decide +kernel
theorem dX10_knowsChild_8 : decode cX10_knowsChild 8 = .ok (.iload_n 1, 1) := by decide +kernel
theorem dX10_knowsChild_9 : decode cX10_knowsChild 9 = .ok (.aload_n 0, 1) := by decide +kernel
theorem dX10_knowsChild_10 : decode cX10_knowsChild 10 = .ok (.getfield 37, 3) := by decide +kernel
theorem dX10_knowsChild_13 : decode cX10_knowsChild 13 = .ok (.iload_n 2, 1) := by decide +kernel
theorem dX10_knowsChild_14 : decode cX10_knowsChild 14 = .ok (.invokevirtual 300, 3) := by decide +kernel
theorem dX10_knowsChild_17 : decode cX10_knowsChild 17 = .ok (.invokestatic 106, 3) := by decide +kernel
theorem dX10_knowsChild_20 : decode cX10_knowsChild 20 = .ok (.ifCond .eq 7, 3) := by decide +kernel
theorem dX10_knowsChild_23 : decode cX10_knowsChild 23 = .ok (.iconst 1, 1) := by decide +kernel
theorem dX10_knowsChild_24 : decode cX10_knowsChild 24 = .ok (.goto 4, 3) := by decide +kernel
theorem dX10_knowsChild_27 : decode cX10_knowsChild 27 = .ok (.iconst 0, 1) := by decide +kernel
theorem dX10_knowsChild_28 : decode cX10_knowsChild 28 = .ok (.ireturn, 1) := by decide +kernel
theorem dX10_countInText_0 : decode cX10_countInText 0 = .ok (.iload_n 2, 1) := by decide +kernel
theorem dX10_countInText_1 : decode cX10_countInText 1 = .ok (.aload_n 0, 1) := by decide +kernel
theorem dX10_countInText_2 : decode cX10_countInText 2 = .ok (.getfield 90, 3) := by decide +kernel
theorem dX10_countInText_5 : decode cX10_countInText 5 = .ok (.invokestatic 106, 3) := by decide +kernel
theorem dX10_countInText_8 : decode cX10_countInText 8 = .ok (.ifCond .ne 5, 3) := by decide +kernel
theorem dX10_countInText_11 : decode cX10_countInText 11 = .ok (.iconst (-1), 1) := by decide +kernel
theorem dX10_countInText_12 : decode cX10_countInText 12 = .ok (.ireturn, 1) := by decide +kernel
theorem dX10_countInText_13 : decode cX10_countInText 13 = .ok (.iload_n 1, 1) := by decide +kernel
theorem dX10_countInText_14 : decode cX10_countInText 14 = .ok (.tableswitch 70 1 4 #[30, 40, 50, 60], 30) := by decide +kernel
theorem dX10_countInText_44 : decode cX10_countInText 44 = .ok (.aload_n 0, 1) := by decide +kernel
theorem dX10_countInText_45 : decode cX10_countInText 45 = .ok (.getfield 32, 3) := by decide +kernel
theorem dX10_countInText_48 : decode cX10_countInText 48 = .ok (.iload_n 2, 1) := by decide +kernel
theorem dX10_countInText_49 : decode cX10_countInText 49 = .ok (.aaload, 1) := by decide +kernel
theorem dX10_countInText_50 : decode cX10_countInText 50 = .ok (.getfield 303, 3) := by decide +kernel
theorem dX10_countInText_53 : decode cX10_countInText 53 = .ok (.ireturn, 1) := by decide +kernel
theorem dX10_countInText_54 : decode cX10_countInText 54 = .ok (.aload_n 0, 1) := by decide +kernel
theorem dX10_countInText_55 : decode cX10_countInText 55 = .ok (.getfield 32, 3) := by decide +kernel
theorem dX10_countInText_58 : decode cX10_countInText 58 = .ok (.iload_n 2, 1) := by decide +kernel
theorem dX10_countInText_59 : decode cX10_countInText 59 = .ok (.aaload, 1) := by decide +kernel
theorem dX10_countInText_60 : decode cX10_countInText 60 = .ok (.getfield 306, 3) := by decide +kernel
theorem dX10_countInText_63 : decode cX10_countInText 63 = .ok (.ireturn, 1) := by decide +kernel
theorem dX10_countInText_64 : decode cX10_countInText 64 = .ok (.aload_n 0, 1) := by decide +kernel
theorem dX10_countInText_65 : decode cX10_countInText 65 = .ok (.getfield 32, 3) := by decide +kernel
theorem dX10_countInText_68 : decode cX10_countInText 68 = .ok (.iload_n 2, 1) := by decide +kernel
theorem dX10_countInText_69 : decode cX10_countInText 69 = .ok (.aaload, 1) := by decide +kernel
theorem dX10_countInText_70 : decode cX10_countInText 70 = .ok (.getfield 180, 3) := by decide +kernel
theorem dX10_countInText_73 : decode cX10_countInText 73 = .ok (.ireturn, 1) := by decide +kernel
theorem dX10_countInText_74 : decode cX10_countInText 74 = .ok (.aload_n 0, 1) := by decide +kernel
theorem dX10_countInText_75 : decode cX10_countInText 75 = .ok (.getfield 32, 3) := by decide +kernel
theorem dX10_countInText_78 : decode cX10_countInText 78 = .ok (.iload_n 2, 1) := by decide +kernel
theorem dX10_countInText_79 : decode cX10_countInText 79 = .ok (.aaload, 1) := by decide +kernel
theorem dX10_countInText_80 : decode cX10_countInText 80 = .ok (.getfield 309, 3) := by decide +kernel
theorem dX10_countInText_83 : decode cX10_countInText 83 = .ok (.ireturn, 1) := by decide +kernel
theorem dX10_countInText_84 : decode cX10_countInText 84 = .ok (.iconst (-1), 1) := by decide +kernel
theorem dX10_countInText_85 : decode cX10_countInText 85 = .ok (.ireturn, 1) := by decide +kernel
theorem dX10_inForce_0 : decode cX10_inForce 0 = .ok (.iload_n 1, 1) := by decide +kernel
theorem dX10_inForce_1 : decode cX10_inForce 1 = .ok (.invokestatic 86, 3) := by decide +kernel
theorem dX10_inForce_4 : decode cX10_inForce 4 = .ok (.ifCond .ne 5, 3) := by decide +kernel
theorem dX10_inForce_7 : decode cX10_inForce 7 = .ok (.iconst (-1), 1) := by decide +kernel
theorem dX10_inForce_8 : decode cX10_inForce 8 = .ok (.ireturn, 1) := by decide +kernel
theorem dX10_inForce_9 : decode cX10_inForce 9 = .ok (.aload_n 0, 1) := by decide +kernel
theorem dX10_inForce_10 : decode cX10_inForce 10 = .ok (.getfield 90, 3) := by decide +kernel
theorem dX10_inForce_13 : decode cX10_inForce 13 = .ok (.iconst 1, 1) := by decide +kernel
theorem dX10_inForce_14 : decode cX10_inForce 14 = .ok (.isub, 1) := by decide +kernel
theorem dX10_inForce_15 : decode cX10_inForce 15 = .ok (.istore_n 2, 1) := by decide +kernel
theorem dX10_inForce_16 : decode cX10_inForce 16 = .ok (.iload_n 2, 1) := by decide +kernel
theorem dX10_inForce_17 : decode cX10_inForce 17 = .ok (.ifCond .lt 24, 3) := by decide +kernel
theorem dX10_inForce_20 : decode cX10_inForce 20 = .ok (.aload_n 0, 1) := by decide +kernel
theorem dX10_inForce_21 : decode cX10_inForce 21 = .ok (.getfield 32, 3) := by decide +kernel
theorem dX10_inForce_24 : decode cX10_inForce 24 = .ok (.iload_n 2, 1) := by decide +kernel
theorem dX10_inForce_25 : decode cX10_inForce 25 = .ok (.aaload, 1) := by decide +kernel
theorem dX10_inForce_26 : decode cX10_inForce 26 = .ok (.getfield 101, 3) := by decide +kernel
theorem dX10_inForce_29 : decode cX10_inForce 29 = .ok (.iload_n 1, 1) := by decide +kernel
theorem dX10_inForce_30 : decode cX10_inForce 30 = .ok (.if_icmp .gt 5, 3) := by decide +kernel
theorem dX10_inForce_33 : decode cX10_inForce 33 = .ok (.iload_n 2, 1) := by decide +kernel
theorem dX10_inForce_34 : decode cX10_inForce 34 = .ok (.ireturn, 1) := by decide +kernel
theorem dX10_inForce_35 : decode cX10_inForce 35 = .ok (.iinc 2 (-1), 3) := by decide +kernel
theorem dX10_inForce_38 : decode cX10_inForce 38 = .ok (.goto (-22), 3) := by decide +kernel
theorem dX10_inForce_41 : decode cX10_inForce 41 = .ok (.iconst (-1), 1) := by decide +kernel
theorem dX10_inForce_42 : decode cX10_inForce 42 = .ok (.ireturn, 1) := by decide +kernel
theorem dX10_look_0 : decode cX10_look 0 = .ok (.aload_n 0, 1) := by decide +kernel
theorem dX10_look_1 : decode cX10_look 1 = .ok (.iload_n 1, 1) := by decide +kernel
theorem dX10_look_2 : decode cX10_look 2 = .ok (.invokevirtual 130, 3) := by decide +kernel
theorem dX10_look_5 : decode cX10_look 5 = .ok (.istore_n 3, 1) := by decide +kernel
theorem dX10_look_6 : decode cX10_look 6 = .ok (.iload_n 3, 1) := by decide +kernel
theorem dX10_look_7 : decode cX10_look 7 = .ok (.iconst (-1), 1) := by decide +kernel
theorem dX10_look_8 : decode cX10_look 8 = .ok (.if_icmp .eq 11, 3) := by decide +kernel
theorem dX10_look_11 : decode cX10_look 11 = .ok (.aload_n 0, 1) := by decide +kernel
theorem dX10_look_12 : decode cX10_look 12 = .ok (.iload_n 2, 1) := by decide +kernel
theorem dX10_look_13 : decode cX10_look 13 = .ok (.invokevirtual 283, 3) := by decide +kernel
theorem dX10_look_16 : decode cX10_look 16 = .ok (.ifCond .ne 5, 3) := by decide +kernel
theorem dX10_look_19 : decode cX10_look 19 = .ok (.iconst 0, 1) := by decide +kernel
theorem dX10_look_20 : decode cX10_look 20 = .ok (.ireturn, 1) := by decide +kernel
theorem dX10_look_21 : decode cX10_look 21 = .ok (.aload_n 0, 1) := by decide +kernel
theorem dX10_look_22 : decode cX10_look 22 = .ok (.getfield 24, 3) := by decide +kernel
theorem dX10_look_25 : decode cX10_look 25 = .ok (.iload_n 3, 1) := by decide +kernel
theorem dX10_look_26 : decode cX10_look 26 = .ok (.iload_n 1, 1) := by decide +kernel
theorem dX10_look_27 : decode cX10_look 27 = .ok (.iload_n 2, 1) := by decide +kernel
theorem dX10_look_28 : decode cX10_look 28 = .ok (.invokevirtual 312, 3) := by decide +kernel
theorem dX10_look_31 : decode cX10_look 31 = .ok (.iconst 1, 1) := by decide +kernel
theorem dX10_look_32 : decode cX10_look 32 = .ok (.ireturn, 1) := by decide +kernel
theorem dX10_rightHolders_0 : decode cX10_rightHolders 0 = .ok (.aload_n 0, 1) := by decide +kernel
theorem dX10_rightHolders_1 : decode cX10_rightHolders 1 = .ok (.getfield 24, 3) := by decide +kernel
theorem dX10_rightHolders_4 : decode cX10_rightHolders 4 = .ok (.invokevirtual 316, 3) := by decide +kernel
theorem dX10_rightHolders_7 : decode cX10_rightHolders 7 = .ok (.iconst 0, 1) := by decide +kernel
theorem dX10_rightHolders_8 : decode cX10_rightHolders 8 = .ok (.istore_n 1, 1) := by decide +kernel
theorem dX10_rightHolders_9 : decode cX10_rightHolders 9 = .ok (.iconst 0, 1) := by decide +kernel
theorem dX10_rightHolders_10 : decode cX10_rightHolders 10 = .ok (.istore_n 2, 1) := by decide +kernel
theorem dX10_rightHolders_11 : decode cX10_rightHolders 11 = .ok (.iload_n 2, 1) := by decide +kernel
theorem dX10_rightHolders_12 : decode cX10_rightHolders 12 = .ok (.aload_n 0, 1) := by decide +kernel
theorem dX10_rightHolders_13 : decode cX10_rightHolders 13 = .ok (.getfield 24, 3) := by decide +kernel
theorem dX10_rightHolders_16 : decode cX10_rightHolders 16 = .ok (.getfield 319, 3) := by decide +kernel
theorem dX10_rightHolders_19 : decode cX10_rightHolders 19 = .ok (.if_icmp .ge 28, 3) := by decide +kernel
theorem dX10_rightHolders_22 : decode cX10_rightHolders 22 = .ok (.aload_n 0, 1) := by decide +kernel
theorem dX10_rightHolders_23 : decode cX10_rightHolders 23 = .ok (.getfield 24, 3) := by decide +kernel
theorem dX10_rightHolders_26 : decode cX10_rightHolders 26 = .ok (.getfield 157, 3) := by decide +kernel
theorem dX10_rightHolders_29 : decode cX10_rightHolders 29 = .ok (.iload_n 2, 1) := by decide +kernel
theorem dX10_rightHolders_30 : decode cX10_rightHolders 30 = .ok (.iaload, 1) := by decide +kernel
theorem dX10_rightHolders_31 : decode cX10_rightHolders 31 = .ok (.iconst (-1), 1) := by decide +kernel
theorem dX10_rightHolders_32 : decode cX10_rightHolders 32 = .ok (.if_icmp .eq 9, 3) := by decide +kernel
theorem dX10_rightHolders_35 : decode cX10_rightHolders 35 = .ok (.iload_n 1, 1) := by decide +kernel
theorem dX10_rightHolders_36 : decode cX10_rightHolders 36 = .ok (.iconst 1, 1) := by decide +kernel
theorem dX10_rightHolders_37 : decode cX10_rightHolders 37 = .ok (.iload_n 2, 1) := by decide +kernel
theorem dX10_rightHolders_38 : decode cX10_rightHolders 38 = .ok (.ishl, 1) := by decide +kernel
theorem dX10_rightHolders_39 : decode cX10_rightHolders 39 = .ok (.ior, 1) := by decide +kernel
theorem dX10_rightHolders_40 : decode cX10_rightHolders 40 = .ok (.istore_n 1, 1) := by decide +kernel
theorem dX10_rightHolders_41 : decode cX10_rightHolders 41 = .ok (.iinc 2 1, 3) := by decide +kernel
theorem dX10_rightHolders_44 : decode cX10_rightHolders 44 = .ok (.goto (-33), 3) := by decide +kernel
theorem dX10_rightHolders_47 : decode cX10_rightHolders 47 = .ok (.iload_n 1, 1) := by decide +kernel
theorem dX10_rightHolders_48 : decode cX10_rightHolders 48 = .ok (.ireturn, 1) := by decide +kernel
theorem dX10_canPlan_0 : decode cX10_canPlan 0 = .ok (.aload_n 0, 1) := by decide +kernel
theorem dX10_canPlan_1 : decode cX10_canPlan 1 = .ok (.iload_n 2, 1) := by decide +kernel
theorem dX10_canPlan_2 : decode cX10_canPlan 2 = .ok (.iload_n 3, 1) := by decide +kernel
theorem dX10_canPlan_3 : decode cX10_canPlan 3 = .ok (.invokevirtual 144, 3) := by decide +kernel
theorem dX10_canPlan_6 : decode cX10_canPlan 6 = .ok (.ifCond .eq 20, 3) := by decide +kernel
theorem dX10_canPlan_9 : decode cX10_canPlan 9 = .ok (.iload_n 1, 1) := by decide +kernel
theorem dX10_canPlan_10 : decode cX10_canPlan 10 = .ok (.aload_n 0, 1) := by decide +kernel
theorem dX10_canPlan_11 : decode cX10_canPlan 11 = .ok (.getfield 24, 3) := by decide +kernel
theorem dX10_canPlan_14 : decode cX10_canPlan 14 = .ok (.getfield 176, 3) := by decide +kernel
theorem dX10_canPlan_17 : decode cX10_canPlan 17 = .ok (.getfield 231, 3) := by decide +kernel
theorem dX10_canPlan_20 : decode cX10_canPlan 20 = .ok (.invokestatic 106, 3) := by decide +kernel
theorem dX10_canPlan_23 : decode cX10_canPlan 23 = .ok (.ifCond .ne 5, 3) := by decide +kernel
theorem dX10_canPlan_26 : decode cX10_canPlan 26 = .ok (.iconst 0, 1) := by decide +kernel
theorem dX10_canPlan_27 : decode cX10_canPlan 27 = .ok (.ireturn, 1) := by decide +kernel
theorem dX10_canPlan_28 : decode cX10_canPlan 28 = .ok (.aload_n 0, 1) := by decide +kernel
theorem dX10_canPlan_29 : decode cX10_canPlan 29 = .ok (.getfield 24, 3) := by decide +kernel
theorem dX10_canPlan_32 : decode cX10_canPlan 32 = .ok (.invokevirtual 316, 3) := by decide +kernel
theorem dX10_canPlan_35 : decode cX10_canPlan 35 = .ok (.aload_n 0, 1) := by decide +kernel
theorem dX10_canPlan_36 : decode cX10_canPlan 36 = .ok (.iload_n 1, 1) := by decide +kernel
theorem dX10_canPlan_37 : decode cX10_canPlan 37 = .ok (.invokevirtual 321, 3) := by decide +kernel
theorem dX10_canPlan_40 : decode cX10_canPlan 40 = .ok (.iconst 1, 1) := by decide +kernel
theorem dX10_canPlan_41 : decode cX10_canPlan 41 = .ok (.ireturn, 1) := by decide +kernel
theorem dX10_isStopSet_0 : decode cX10_isStopSet 0 = .ok (.iload_n 1, 1) := by decide +kernel
theorem dX10_isStopSet_1 : decode cX10_isStopSet 1 = .ok (.ifCond .eq 26, 3) := by decide +kernel
theorem dX10_isStopSet_4 : decode cX10_isStopSet 4 = .ok (.iload_n 1, 1) := by decide +kernel
theorem dX10_isStopSet_5 : decode cX10_isStopSet 5 = .ok (.iconst 1, 1) := by decide +kernel
theorem dX10_isStopSet_6 : decode cX10_isStopSet 6 = .ok (.aload_n 0, 1) := by decide +kernel
theorem dX10_isStopSet_7 : decode cX10_isStopSet 7 = .ok (.getfield 24, 3) := by decide +kernel
theorem dX10_isStopSet_10 : decode cX10_isStopSet 10 = .ok (.getfield 176, 3) := by decide +kernel
theorem dX10_isStopSet_13 : decode cX10_isStopSet 13 = .ok (.getfield 180, 3) := by decide +kernel
theorem dX10_isStopSet_16 : decode cX10_isStopSet 16 = .ok (.ishl, 1) := by decide +kernel
theorem dX10_isStopSet_17 : decode cX10_isStopSet 17 = .ok (.invokestatic 106, 3) := by decide +kernel
theorem dX10_isStopSet_20 : decode cX10_isStopSet 20 = .ok (.ifCond .eq 7, 3) := by decide +kernel
theorem dX10_isStopSet_23 : decode cX10_isStopSet 23 = .ok (.iconst 1, 1) := by decide +kernel
theorem dX10_isStopSet_24 : decode cX10_isStopSet 24 = .ok (.goto 4, 3) := by decide +kernel
theorem dX10_isStopSet_27 : decode cX10_isStopSet 27 = .ok (.iconst 0, 1) := by decide +kernel
theorem dX10_isStopSet_28 : decode cX10_isStopSet 28 = .ok (.ireturn, 1) := by decide +kernel
theorem dX10_preparePlan_0 : decode cX10_preparePlan 0 = .ok (.aload_n 0, 1) := by decide +kernel
theorem dX10_preparePlan_1 : decode cX10_preparePlan 1 = .ok (.getfield 40, 3) := by decide +kernel
theorem dX10_preparePlan_4 : decode cX10_preparePlan 4 = .ok (.iload_n 1, 1) := by decide +kernel
theorem dX10_preparePlan_5 : decode cX10_preparePlan 5 = .ok (.aaload, 1) := by decide +kernel
theorem dX10_preparePlan_6 : decode cX10_preparePlan 6 = .ok (.getfield 324, 3) := by decide +kernel
theorem dX10_preparePlan_9 : decode cX10_preparePlan 9 = .ok (.aload_n 0, 1) := by decide +kernel
theorem dX10_preparePlan_10 : decode cX10_preparePlan 10 = .ok (.getfield 24, 3) := by decide +kernel
theorem dX10_preparePlan_13 : decode cX10_preparePlan 13 = .ok (.getfield 327, 3) := by decide +kernel
theorem dX10_preparePlan_16 : decode cX10_preparePlan 16 = .ok (.if_icmp .eq 17, 3) := by decide +kernel
theorem dX10_preparePlan_19 : decode cX10_preparePlan 19 = .ok (.aload_n 0, 1) := by decide +kernel
theorem dX10_preparePlan_20 : decode cX10_preparePlan 20 = .ok (.getfield 40, 3) := by decide +kernel
theorem dX10_preparePlan_23 : decode cX10_preparePlan 23 = .ok (.iload_n 1, 1) := by decide +kernel
theorem dX10_preparePlan_24 : decode cX10_preparePlan 24 = .ok (.aaload, 1) := by decide +kernel
theorem dX10_preparePlan_25 : decode cX10_preparePlan 25 = .ok (.aload_n 0, 1) := by decide +kernel
theorem dX10_preparePlan_26 : decode cX10_preparePlan 26 = .ok (.getfield 24, 3) := by decide +kernel
theorem dX10_preparePlan_29 : decode cX10_preparePlan 29 = .ok (.iload_n 1, 1) := by decide +kernel
theorem dX10_preparePlan_30 : decode cX10_preparePlan 30 = .ok (.invokevirtual 328, 3) := by decide +kernel
theorem dX10_preparePlan_33 : decode cX10_preparePlan 33 = .ok (.return_, 1) := by decide +kernel
theorem dX10_gatherFleet_0 : decode cX10_gatherFleet 0 = .ok (.iconst 1, 1) := by decide +kernel
theorem dX10_gatherFleet_1 : decode cX10_gatherFleet 1 = .ok (.istore_n 1, 1) := by decide +kernel
theorem dX10_gatherFleet_2 : decode cX10_gatherFleet 2 = .ok (.aload_n 0, 1) := by decide +kernel
theorem dX10_gatherFleet_3 : decode cX10_gatherFleet 3 = .ok (.getfield 24, 3) := by decide +kernel
theorem dX10_gatherFleet_6 : decode cX10_gatherFleet 6 = .ok (.invokevirtual 316, 3) := by decide +kernel
theorem dX10_gatherFleet_9 : decode cX10_gatherFleet 9 = .ok (.iconst 0, 1) := by decide +kernel
theorem dX10_gatherFleet_10 : decode cX10_gatherFleet 10 = .ok (.istore_n 2, 1) := by decide +kernel
theorem dX10_gatherFleet_11 : decode cX10_gatherFleet 11 = .ok (.iload_n 2, 1) := by decide +kernel
theorem dX10_gatherFleet_12 : decode cX10_gatherFleet 12 = .ok (.aload_n 0, 1) := by decide +kernel
theorem dX10_gatherFleet_13 : decode cX10_gatherFleet 13 = .ok (.getfield 24, 3) := by decide +kernel
theorem dX10_gatherFleet_16 : decode cX10_gatherFleet 16 = .ok (.getfield 176, 3) := by decide +kernel
theorem dX10_gatherFleet_19 : decode cX10_gatherFleet 19 = .ok (.getfield 231, 3) := by decide +kernel
theorem dX10_gatherFleet_22 : decode cX10_gatherFleet 22 = .ok (.if_icmp .ge 36, 3) := by decide +kernel
theorem dX10_gatherFleet_25 : decode cX10_gatherFleet 25 = .ok (.aload_n 0, 1) := by decide +kernel
theorem dX10_gatherFleet_26 : decode cX10_gatherFleet 26 = .ok (.iload_n 2, 1) := by decide +kernel
theorem dX10_gatherFleet_27 : decode cX10_gatherFleet 27 = .ok (.invokevirtual 321, 3) := by decide +kernel
theorem dX10_gatherFleet_30 : decode cX10_gatherFleet 30 = .ok (.iload_n 1, 1) := by decide +kernel
theorem dX10_gatherFleet_31 : decode cX10_gatherFleet 31 = .ok (.ifCond .eq 19, 3) := by decide +kernel
theorem dX10_gatherFleet_34 : decode cX10_gatherFleet 34 = .ok (.aload_n 0, 1) := by decide +kernel
theorem dX10_gatherFleet_35 : decode cX10_gatherFleet 35 = .ok (.getfield 40, 3) := by decide +kernel
theorem dX10_gatherFleet_38 : decode cX10_gatherFleet 38 = .ok (.iload_n 2, 1) := by decide +kernel
theorem dX10_gatherFleet_39 : decode cX10_gatherFleet 39 = .ok (.aaload, 1) := by decide +kernel
theorem dX10_gatherFleet_40 : decode cX10_gatherFleet 40 = .ok (.invokevirtual 200, 3) := by decide +kernel
theorem dX10_gatherFleet_43 : decode cX10_gatherFleet 43 = .ok (.ifCond .eq 7, 3) := by decide +kernel
theorem dX10_gatherFleet_46 : decode cX10_gatherFleet 46 = .ok (.iconst 1, 1) := by decide +kernel
theorem dX10_gatherFleet_47 : decode cX10_gatherFleet 47 = .ok (.goto 4, 3) := by decide +kernel
theorem dX10_gatherFleet_50 : decode cX10_gatherFleet 50 = .ok (.iconst 0, 1) := by decide +kernel
theorem dX10_gatherFleet_51 : decode cX10_gatherFleet 51 = .ok (.istore_n 1, 1) := by decide +kernel
theorem dX10_gatherFleet_52 : decode cX10_gatherFleet 52 = .ok (.iinc 2 1, 3) := by decide +kernel
theorem dX10_gatherFleet_55 : decode cX10_gatherFleet 55 = .ok (.goto (-44), 3) := by decide +kernel
theorem dX10_gatherFleet_58 : decode cX10_gatherFleet 58 = .ok (.iload_n 1, 1) := by decide +kernel
theorem dX10_gatherFleet_59 : decode cX10_gatherFleet 59 = .ok (.ifCond .eq 95, 3) := by decide +kernel
theorem dX10_gatherFleet_62 : decode cX10_gatherFleet 62 = .ok (.aload_n 0, 1) := by decide +kernel
theorem dX10_gatherFleet_63 : decode cX10_gatherFleet 63 = .ok (.getfield 48, 3) := by decide +kernel
theorem dX10_gatherFleet_66 : decode cX10_gatherFleet 66 = .ok (.getfield 332, 3) := by decide +kernel
theorem dX10_gatherFleet_69 : decode cX10_gatherFleet 69 = .ok (.aload_n 0, 1) := by decide +kernel
theorem dX10_gatherFleet_70 : decode cX10_gatherFleet 70 = .ok (.getfield 24, 3) := by decide +kernel
theorem dX10_gatherFleet_73 : decode cX10_gatherFleet 73 = .ok (.getfield 327, 3) := by decide +kernel
theorem dX10_gatherFleet_76 : decode cX10_gatherFleet 76 = .ok (.if_icmp .eq 78, 3) := by decide +kernel
theorem dX10_gatherFleet_79 : decode cX10_gatherFleet 79 = .ok (.aload_n 0, 1) := by decide +kernel
theorem dX10_gatherFleet_80 : decode cX10_gatherFleet 80 = .ok (.getfield 48, 3) := by decide +kernel
theorem dX10_gatherFleet_83 : decode cX10_gatherFleet 83 = .ok (.aload_n 0, 1) := by decide +kernel
theorem dX10_gatherFleet_84 : decode cX10_gatherFleet 84 = .ok (.getfield 24, 3) := by decide +kernel
theorem dX10_gatherFleet_87 : decode cX10_gatherFleet 87 = .ok (.getfield 327, 3) := by decide +kernel
theorem dX10_gatherFleet_90 : decode cX10_gatherFleet 90 = .ok (.aload_n 0, 1) := by decide +kernel
theorem dX10_gatherFleet_91 : decode cX10_gatherFleet 91 = .ok (.getfield 24, 3) := by decide +kernel
theorem dX10_gatherFleet_94 : decode cX10_gatherFleet 94 = .ok (.getfield 176, 3) := by decide +kernel
theorem dX10_gatherFleet_97 : decode cX10_gatherFleet 97 = .ok (.invokevirtual 333, 3) := by decide +kernel
theorem dX10_gatherFleet_100 : decode cX10_gatherFleet 100 = .ok (.iconst 0, 1) := by decide +kernel
theorem dX10_gatherFleet_101 : decode cX10_gatherFleet 101 = .ok (.istore_n 2, 1) := by decide +kernel
theorem dX10_gatherFleet_102 : decode cX10_gatherFleet 102 = .ok (.iload_n 2, 1) := by decide +kernel
theorem dX10_gatherFleet_103 : decode cX10_gatherFleet 103 = .ok (.aload_n 0, 1) := by decide +kernel
theorem dX10_gatherFleet_104 : decode cX10_gatherFleet 104 = .ok (.getfield 24, 3) := by decide +kernel
theorem dX10_gatherFleet_107 : decode cX10_gatherFleet 107 = .ok (.getfield 176, 3) := by decide +kernel
theorem dX10_gatherFleet_110 : decode cX10_gatherFleet 110 = .ok (.getfield 231, 3) := by decide +kernel
theorem dX10_gatherFleet_113 : decode cX10_gatherFleet 113 = .ok (.if_icmp .ge 30, 3) := by decide +kernel
theorem dX10_gatherFleet_116 : decode cX10_gatherFleet 116 = .ok (.aload_n 0, 1) := by decide +kernel
theorem dX10_gatherFleet_117 : decode cX10_gatherFleet 117 = .ok (.getfield 48, 3) := by decide +kernel
theorem dX10_gatherFleet_120 : decode cX10_gatherFleet 120 = .ok (.aload_n 0, 1) := by decide +kernel
theorem dX10_gatherFleet_121 : decode cX10_gatherFleet 121 = .ok (.getfield 40, 3) := by decide +kernel
theorem dX10_gatherFleet_124 : decode cX10_gatherFleet 124 = .ok (.iload_n 2, 1) := by decide +kernel
theorem dX10_gatherFleet_125 : decode cX10_gatherFleet 125 = .ok (.aaload, 1) := by decide +kernel
theorem dX10_gatherFleet_126 : decode cX10_gatherFleet 126 = .ok (.iload_n 2, 1) := by decide +kernel
theorem dX10_gatherFleet_127 : decode cX10_gatherFleet 127 = .ok (.aload_n 0, 1) := by decide +kernel
theorem dX10_gatherFleet_128 : decode cX10_gatherFleet 128 = .ok (.getfield 24, 3) := by decide +kernel
theorem dX10_gatherFleet_131 : decode cX10_gatherFleet 131 = .ok (.getfield 176, 3) := by decide +kernel
theorem dX10_gatherFleet_134 : decode cX10_gatherFleet 134 = .ok (.invokevirtual 337, 3) := by decide +kernel
theorem dX10_gatherFleet_137 : decode cX10_gatherFleet 137 = .ok (.iinc 2 1, 3) := by decide +kernel
theorem dX10_gatherFleet_140 : decode cX10_gatherFleet 140 = .ok (.goto (-38), 3) := by decide +kernel
theorem dX10_gatherFleet_143 : decode cX10_gatherFleet 143 = .ok (.aload_n 0, 1) := by decide +kernel
theorem dX10_gatherFleet_144 : decode cX10_gatherFleet 144 = .ok (.getfield 48, 3) := by decide +kernel
theorem dX10_gatherFleet_147 : decode cX10_gatherFleet 147 = .ok (.aload_n 0, 1) := by decide +kernel
theorem dX10_gatherFleet_148 : decode cX10_gatherFleet 148 = .ok (.getfield 24, 3) := by decide +kernel
theorem dX10_gatherFleet_151 : decode cX10_gatherFleet 151 = .ok (.invokevirtual 341, 3) := by decide +kernel
theorem dX10_gatherFleet_154 : decode cX10_gatherFleet 154 = .ok (.iload_n 1, 1) := by decide +kernel
theorem dX10_gatherFleet_155 : decode cX10_gatherFleet 155 = .ok (.ireturn, 1) := by decide +kernel
theorem dX10_findLent_0 : decode cX10_findLent 0 = .ok (.iconst 0, 1) := by decide +kernel
theorem dX10_findLent_1 : decode cX10_findLent 1 = .ok (.istore_n 3, 1) := by decide +kernel
theorem dX10_findLent_2 : decode cX10_findLent 2 = .ok (.iconst 0, 1) := by decide +kernel
theorem dX10_findLent_3 : decode cX10_findLent 3 = .ok (.istore 4, 2) := by decide +kernel
theorem dX10_findLent_5 : decode cX10_findLent 5 = .ok (.iload 4, 2) := by decide +kernel
theorem dX10_findLent_7 : decode cX10_findLent 7 = .ok (.iload_n 1, 1) := by decide +kernel
theorem dX10_findLent_8 : decode cX10_findLent 8 = .ok (.if_icmp .ge 105, 3) := by decide +kernel
theorem dX10_findLent_11 : decode cX10_findLent 11 = .ok (.iload 4, 2) := by decide +kernel
theorem dX10_findLent_13 : decode cX10_findLent 13 = .ok (.iconst 1, 1) := by decide +kernel
theorem dX10_findLent_14 : decode cX10_findLent 14 = .ok (.iadd, 1) := by decide +kernel
theorem dX10_findLent_15 : decode cX10_findLent 15 = .ok (.istore 5, 2) := by decide +kernel
theorem dX10_findLent_17 : decode cX10_findLent 17 = .ok (.iload 5, 2) := by decide +kernel
theorem dX10_findLent_19 : decode cX10_findLent 19 = .ok (.iload_n 1, 1) := by decide +kernel
theorem dX10_findLent_20 : decode cX10_findLent 20 = .ok (.if_icmp .ge 87, 3) := by decide +kernel
theorem dX10_findLent_23 : decode cX10_findLent 23 = .ok (.aload_n 0, 1) := by decide +kernel
theorem dX10_findLent_24 : decode cX10_findLent 24 = .ok (.getfield 37, 3) := by decide +kernel
theorem dX10_findLent_27 : decode cX10_findLent 27 = .ok (.iload 4, 2) := by decide +kernel
theorem dX10_findLent_29 : decode cX10_findLent 29 = .ok (.iconst 5, 1) := by decide +kernel
theorem dX10_findLent_30 : decode cX10_findLent 30 = .ok (.iload_n 1, 1) := by decide +kernel
theorem dX10_findLent_31 : decode cX10_findLent 31 = .ok (.invokevirtual 345, 3) := by decide +kernel
theorem dX10_findLent_34 : decode cX10_findLent 34 = .ok (.ifCond .eq 73, 3) := by decide +kernel
theorem dX10_findLent_37 : decode cX10_findLent 37 = .ok (.aload_n 0, 1) := by decide +kernel
theorem dX10_findLent_38 : decode cX10_findLent 38 = .ok (.getfield 37, 3) := by decide +kernel
theorem dX10_findLent_41 : decode cX10_findLent 41 = .ok (.iload 4, 2) := by decide +kernel
theorem dX10_findLent_43 : decode cX10_findLent 43 = .ok (.iload 5, 2) := by decide +kernel
theorem dX10_findLent_45 : decode cX10_findLent 45 = .ok (.iload_n 1, 1) := by decide +kernel
theorem dX10_findLent_46 : decode cX10_findLent 46 = .ok (.invokevirtual 348, 3) := by decide +kernel
theorem dX10_findLent_49 : decode cX10_findLent 49 = .ok (.ifCond .eq 52, 3) := by decide +kernel
theorem dX10_findLent_52 : decode cX10_findLent 52 = .ok (.aload_n 0, 1) := by decide +kernel
theorem dX10_findLent_53 : decode cX10_findLent 53 = .ok (.aload_n 0, 1) := by decide +kernel
theorem dX10_findLent_54 : decode cX10_findLent 54 = .ok (.getfield 37, 3) := by decide +kernel
theorem dX10_findLent_57 : decode cX10_findLent 57 = .ok (.getfield 351, 3) := by decide +kernel
theorem dX10_findLent_60 : decode cX10_findLent 60 = .ok (.iload 4, 2) := by decide +kernel
theorem dX10_findLent_62 : decode cX10_findLent 62 = .ok (.iaload, 1) := by decide +kernel
theorem dX10_findLent_63 : decode cX10_findLent 63 = .ok (.iload_n 1, 1) := by decide +kernel
theorem dX10_findLent_64 : decode cX10_findLent 64 = .ok (.invokevirtual 144, 3) := by decide +kernel
theorem dX10_findLent_67 : decode cX10_findLent 67 = .ok (.ifCond .eq 34, 3) := by decide +kernel
theorem dX10_findLent_70 : decode cX10_findLent 70 = .ok (.aload_n 0, 1) := by decide +kernel
theorem dX10_findLent_71 : decode cX10_findLent 71 = .ok (.iload 4, 2) := by decide +kernel
theorem dX10_findLent_73 : decode cX10_findLent 73 = .ok (.iload 5, 2) := by decide +kernel
theorem dX10_findLent_75 : decode cX10_findLent 75 = .ok (.invokevirtual 354, 3) := by decide +kernel
theorem dX10_findLent_78 : decode cX10_findLent 78 = .ok (.ifCond .eq 23, 3) := by decide +kernel
theorem dX10_findLent_81 : decode cX10_findLent 81 = .ok (.iload_n 3, 1) := by decide +kernel
theorem dX10_findLent_82 : decode cX10_findLent 82 = .ok (.iload_n 2, 1) := by decide +kernel
theorem dX10_findLent_83 : decode cX10_findLent 83 = .ok (.if_icmp .ne 15, 3) := by decide +kernel
theorem dX10_findLent_86 : decode cX10_findLent 86 = .ok (.aload_n 0, 1) := by decide +kernel
theorem dX10_findLent_87 : decode cX10_findLent 87 = .ok (.iload 4, 2) := by decide +kernel
theorem dX10_findLent_89 : decode cX10_findLent 89 = .ok (.putfield 292, 3) := by decide +kernel
theorem dX10_findLent_92 : decode cX10_findLent 92 = .ok (.aload_n 0, 1) := by decide +kernel
theorem dX10_findLent_93 : decode cX10_findLent 93 = .ok (.iload 5, 2) := by decide +kernel
theorem dX10_findLent_95 : decode cX10_findLent 95 = .ok (.putfield 289, 3) := by decide +kernel
theorem dX10_findLent_98 : decode cX10_findLent 98 = .ok (.iinc 3 1, 3) := by decide +kernel
theorem dX10_findLent_101 : decode cX10_findLent 101 = .ok (.iinc 5 1, 3) := by decide +kernel
theorem dX10_findLent_104 : decode cX10_findLent 104 = .ok (.goto (-87), 3) := by decide +kernel
theorem dX10_findLent_107 : decode cX10_findLent 107 = .ok (.iinc 4 1, 3) := by decide +kernel
theorem dX10_findLent_110 : decode cX10_findLent 110 = .ok (.goto (-105), 3) := by decide +kernel
theorem dX10_findLent_113 : decode cX10_findLent 113 = .ok (.iload_n 3, 1) := by decide +kernel
theorem dX10_findLent_114 : decode cX10_findLent 114 = .ok (.ireturn, 1) := by decide +kernel
theorem dX10_isLent_0 : decode cX10_isLent 0 = .ok (.aload_n 0, 1) := by decide +kernel
theorem dX10_isLent_1 : decode cX10_isLent 1 = .ok (.getfield 37, 3) := by decide +kernel
theorem dX10_isLent_4 : decode cX10_isLent 4 = .ok (.getfield 357, 3) := by decide +kernel
theorem dX10_isLent_7 : decode cX10_isLent 7 = .ok (.iload_n 1, 1) := by decide +kernel
theorem dX10_isLent_8 : decode cX10_isLent 8 = .ok (.iaload, 1) := by decide +kernel
theorem dX10_isLent_9 : decode cX10_isLent 9 = .ok (.istore_n 3, 1) := by decide +kernel
theorem dX10_isLent_10 : decode cX10_isLent 10 = .ok (.aload_n 0, 1) := by decide +kernel
theorem dX10_isLent_11 : decode cX10_isLent 11 = .ok (.getfield 37, 3) := by decide +kernel
theorem dX10_isLent_14 : decode cX10_isLent 14 = .ok (.getfield 357, 3) := by decide +kernel
theorem dX10_isLent_17 : decode cX10_isLent 17 = .ok (.iload_n 2, 1) := by decide +kernel
theorem dX10_isLent_18 : decode cX10_isLent 18 = .ok (.iaload, 1) := by decide +kernel
theorem dX10_isLent_19 : decode cX10_isLent 19 = .ok (.istore 4, 2) := by decide +kernel
theorem dX10_isLent_21 : decode cX10_isLent 21 = .ok (.iload_n 3, 1) := by decide +kernel
theorem dX10_isLent_22 : decode cX10_isLent 22 = .ok (.aload_n 0, 1) := by decide +kernel
theorem dX10_isLent_23 : decode cX10_isLent 23 = .ok (.getfield 24, 3) := by decide +kernel
theorem dX10_isLent_26 : decode cX10_isLent 26 = .ok (.getfield 176, 3) := by decide +kernel
theorem dX10_isLent_29 : decode cX10_isLent 29 = .ok (.getfield 180, 3) := by decide +kernel
theorem dX10_isLent_32 : decode cX10_isLent 32 = .ok (.if_icmp .ge 18, 3) := by decide +kernel
theorem dX10_isLent_35 : decode cX10_isLent 35 = .ok (.iload 4, 2) := by decide +kernel
theorem dX10_isLent_37 : decode cX10_isLent 37 = .ok (.aload_n 0, 1) := by decide +kernel
theorem dX10_isLent_38 : decode cX10_isLent 38 = .ok (.getfield 24, 3) := by decide +kernel
theorem dX10_isLent_41 : decode cX10_isLent 41 = .ok (.getfield 176, 3) := by decide +kernel
theorem dX10_isLent_44 : decode cX10_isLent 44 = .ok (.getfield 180, 3) := by decide +kernel
theorem dX10_isLent_47 : decode cX10_isLent 47 = .ok (.if_icmp .lt 5, 3) := by decide +kernel
theorem dX10_isLent_50 : decode cX10_isLent 50 = .ok (.iconst 1, 1) := by decide +kernel
theorem dX10_isLent_51 : decode cX10_isLent 51 = .ok (.ireturn, 1) := by decide +kernel
theorem dX10_isLent_52 : decode cX10_isLent 52 = .ok (.aload_n 0, 1) := by decide +kernel
theorem dX10_isLent_53 : decode cX10_isLent 53 = .ok (.getfield 37, 3) := by decide +kernel
theorem dX10_isLent_56 : decode cX10_isLent 56 = .ok (.getfield 360, 3) := by decide +kernel
theorem dX10_isLent_59 : decode cX10_isLent 59 = .ok (.iload_n 1, 1) := by decide +kernel
theorem dX10_isLent_60 : decode cX10_isLent 60 = .ok (.iaload, 1) := by decide +kernel
theorem dX10_isLent_61 : decode cX10_isLent 61 = .ok (.aload_n 0, 1) := by decide +kernel
theorem dX10_isLent_62 : decode cX10_isLent 62 = .ok (.getfield 37, 3) := by decide +kernel
theorem dX10_isLent_65 : decode cX10_isLent 65 = .ok (.getfield 360, 3) := by decide +kernel
theorem dX10_isLent_68 : decode cX10_isLent 68 = .ok (.iload_n 2, 1) := by decide +kernel
theorem dX10_isLent_69 : decode cX10_isLent 69 = .ok (.iaload, 1) := by decide +kernel
theorem dX10_isLent_70 : decode cX10_isLent 70 = .ok (.isub, 1) := by decide +kernel
theorem dX10_isLent_71 : decode cX10_isLent 71 = .ok (.invokestatic 363, 3) := by decide +kernel
theorem dX10_isLent_74 : decode cX10_isLent 74 = .ok (.istore 5, 2) := by decide +kernel
theorem dX10_isLent_76 : decode cX10_isLent 76 = .ok (.iload 5, 2) := by decide +kernel
theorem dX10_isLent_78 : decode cX10_isLent 78 = .ok (.aload_n 0, 1) := by decide +kernel
theorem dX10_isLent_79 : decode cX10_isLent 79 = .ok (.getfield 24, 3) := by decide +kernel
theorem dX10_isLent_82 : decode cX10_isLent 82 = .ok (.iconst 2, 1) := by decide +kernel
theorem dX10_isLent_83 : decode cX10_isLent 83 = .ok (.aload_n 0, 1) := by decide +kernel
theorem dX10_isLent_84 : decode cX10_isLent 84 = .ok (.getfield 24, 3) := by decide +kernel
theorem dX10_isLent_87 : decode cX10_isLent 87 = .ok (.getfield 176, 3) := by decide +kernel
theorem dX10_isLent_90 : decode cX10_isLent 90 = .ok (.getfield 368, 3) := by decide +kernel
theorem dX10_isLent_93 : decode cX10_isLent 93 = .ok (.iload_n 3, 1) := by decide +kernel
theorem dX10_isLent_94 : decode cX10_isLent 94 = .ok (.iaload, 1) := by decide +kernel
theorem dX10_isLent_95 : decode cX10_isLent 95 = .ok (.aload_n 0, 1) := by decide +kernel
theorem dX10_isLent_96 : decode cX10_isLent 96 = .ok (.getfield 24, 3) := by decide +kernel
theorem dX10_isLent_99 : decode cX10_isLent 99 = .ok (.getfield 176, 3) := by decide +kernel
theorem dX10_isLent_102 : decode cX10_isLent 102 = .ok (.getfield 368, 3) := by decide +kernel
theorem dX10_isLent_105 : decode cX10_isLent 105 = .ok (.iload 4, 2) := by decide +kernel
theorem dX10_isLent_107 : decode cX10_isLent 107 = .ok (.iaload, 1) := by decide +kernel
theorem dX10_isLent_108 : decode cX10_isLent 108 = .ok (.invokevirtual 147, 3) := by decide +kernel
theorem dX10_isLent_111 : decode cX10_isLent 111 = .ok (.if_icmp .ge 7, 3) := by decide +kernel
theorem dX10_isLent_114 : decode cX10_isLent 114 = .ok (.iconst 1, 1) := by decide +kernel
theorem dX10_isLent_115 : decode cX10_isLent 115 = .ok (.goto 4, 3) := by decide +kernel
theorem dX10_isLent_118 : decode cX10_isLent 118 = .ok (.iconst 0, 1) := by decide +kernel
theorem dX10_isLent_119 : decode cX10_isLent 119 = .ok (.ireturn, 1) := by decide +kernel
theorem dX11_init_0 : decode cX11_init 0 = .ok (.aload_n 0, 1) := by decide +kernel
theorem dX11_init_1 : decode cX11_init 1 = .ok (.invokespecial 1, 3) := by decide +kernel
theorem dX11_init_4 : decode cX11_init 4 = .ok (.aload_n 0, 1) := by decide +kernel
theorem dX11_init_5 : decode cX11_init 5 = .ok (.sipush 2000, 3) := by decide +kernel
theorem dX11_init_8 : decode cX11_init 8 = .ok (.newarray .int, 2) := by decide +kernel
theorem dX11_init_10 : decode cX11_init 10 = .ok (.putfield 7, 3) := by decide +kernel
theorem dX11_init_13 : decode cX11_init 13 = .ok (.aload_n 0, 1) := by decide +kernel
theorem dX11_init_14 : decode cX11_init 14 = .ok (.sipush 2001, 3) := by decide +kernel
theorem dX11_init_17 : decode cX11_init 17 = .ok (.newarray .int, 2) := by decide +kernel
theorem dX11_init_19 : decode cX11_init 19 = .ok (.putfield 13, 3) := by decide +kernel
theorem dX11_init_22 : decode cX11_init 22 = .ok (.aload_n 0, 1) := by decide +kernel
theorem dX11_init_23 : decode cX11_init 23 = .ok (.sipush 2001, 3) := by decide +kernel
theorem dX11_init_26 : decode cX11_init 26 = .ok (.newarray .int, 2) := by decide +kernel
theorem dX11_init_28 : decode cX11_init 28 = .ok (.putfield 16, 3) := by decide +kernel
theorem dX11_init_31 : decode cX11_init 31 = .ok (.aload_n 0, 1) := by decide +kernel
theorem dX11_init_32 : decode cX11_init 32 = .ok (.sipush 2001, 3) := by decide +kernel
theorem dX11_init_35 : decode cX11_init 35 = .ok (.newarray .int, 2) := by decide +kernel
theorem dX11_init_37 : decode cX11_init 37 = .ok (.putfield 19, 3) := by decide +kernel
theorem dX11_init_40 : decode cX11_init 40 = .ok (.aload_n 0, 1) := by decide +kernel
theorem dX11_init_41 : decode cX11_init 41 = .ok (.sipush 2001, 3) := by decide +kernel
theorem dX11_init_44 : decode cX11_init 44 = .ok (.newarray .long, 2) := by decide +kernel
theorem dX11_init_46 : decode cX11_init 46 = .ok (.putfield 22, 3) := by decide +kernel
theorem dX11_init_49 : decode cX11_init 49 = .ok (.aload_n 0, 1) := by decide +kernel
theorem dX11_init_50 : decode cX11_init 50 = .ok (.iconst (-1), 1) := by decide +kernel
theorem dX11_init_51 : decode cX11_init 51 = .ok (.putfield 26, 3) := by decide +kernel
theorem dX11_init_54 : decode cX11_init 54 = .ok (.aload_n 0, 1) := by decide +kernel
theorem dX11_init_55 : decode cX11_init 55 = .ok (.iconst 3, 1) := by decide +kernel
theorem dX11_init_56 : decode cX11_init 56 = .ok (.newarray .int, 2) := by decide +kernel
theorem dX11_init_58 : decode cX11_init 58 = .ok (.putfield 30, 3) := by decide +kernel
theorem dX11_init_61 : decode cX11_init 61 = .ok (.aload_n 0, 1) := by decide +kernel
theorem dX11_init_62 : decode cX11_init 62 = .ok (.bipush 21, 2) := by decide +kernel
theorem dX11_init_64 : decode cX11_init 64 = .ok (.newarray .int, 2) := by decide +kernel
theorem dX11_init_66 : decode cX11_init 66 = .ok (.putfield 33, 3) := by decide +kernel
theorem dX11_init_69 : decode cX11_init 69 = .ok (.aload_n 0, 1) := by decide +kernel
theorem dX11_init_70 : decode cX11_init 70 = .ok (.iconst 3, 1) := by decide +kernel
theorem dX11_init_71 : decode cX11_init 71 = .ok (.newarray .int, 2) := by decide +kernel
theorem dX11_init_73 : decode cX11_init 73 = .ok (.putfield 36, 3) := by decide +kernel
theorem dX11_init_76 : decode cX11_init 76 = .ok (.aload_n 0, 1) := by decide +kernel
theorem dX11_init_77 : decode cX11_init 77 = .ok (.iconst 3, 1) := by decide +kernel
theorem dX11_init_78 : decode cX11_init 78 = .ok (.newarray .int, 2) := by decide +kernel
theorem dX11_init_80 : decode cX11_init 80 = .ok (.putfield 39, 3) := by decide +kernel
theorem dX11_init_83 : decode cX11_init 83 = .ok (.aload_n 0, 1) := by decide +kernel
theorem dX11_init_84 : decode cX11_init 84 = .ok (.bipush 72, 2) := by decide +kernel
theorem dX11_init_86 : decode cX11_init 86 = .ok (.newarray .int, 2) := by decide +kernel
theorem dX11_init_88 : decode cX11_init 88 = .ok (.putfield 42, 3) := by decide +kernel
theorem dX11_init_91 : decode cX11_init 91 = .ok (.aload_n 0, 1) := by decide +kernel
theorem dX11_init_92 : decode cX11_init 92 = .ok (.bipush 72, 2) := by decide +kernel
theorem dX11_init_94 : decode cX11_init 94 = .ok (.newarray .int, 2) := by decide +kernel
theorem dX11_init_96 : decode cX11_init 96 = .ok (.putfield 45, 3) := by decide +kernel
theorem dX11_init_99 : decode cX11_init 99 = .ok (.aload_n 0, 1) := by decide +kernel
theorem dX11_init_100 : decode cX11_init 100 = .ok (.bipush 72, 2) := by decide +kernel
theorem dX11_init_102 : decode cX11_init 102 = .ok (.newarray .int, 2) := by decide +kernel
theorem dX11_init_104 : decode cX11_init 104 = .ok (.putfield 48, 3) := by decide +kernel
theorem dX11_init_107 : decode cX11_init 107 = .ok (.aload_n 0, 1) := by decide +kernel
theorem dX11_init_108 : decode cX11_init 108 = .ok (.bipush 72, 2) := by decide +kernel
theorem dX11_init_110 : decode cX11_init 110 = .ok (.newarray .int, 2) := by decide +kernel
theorem dX11_init_112 : decode cX11_init 112 = .ok (.putfield 51, 3) := by decide +kernel
theorem dX11_init_115 : decode cX11_init 115 = .ok (.aload_n 0, 1) := by decide +kernel
theorem dX11_init_116 : decode cX11_init 116 = .ok (.bipush 72, 2) := by decide +kernel
theorem dX11_init_118 : decode cX11_init 118 = .ok (.newarray .boolean, 2) := by decide +kernel
theorem dX11_init_120 : decode cX11_init 120 = .ok (.putfield 54, 3) := by decide +kernel
theorem dX11_init_123 : decode cX11_init 123 = .ok (.aload_n 0, 1) := by decide +kernel
theorem dX11_init_124 : decode cX11_init 124 = .ok (.iconst 3, 1) := by decide +kernel
theorem dX11_init_125 : decode cX11_init 125 = .ok (.newarray .int, 2) := by decide +kernel
theorem dX11_init_127 : decode cX11_init 127 = .ok (.putfield 58, 3) := by decide +kernel
theorem dX11_init_130 : decode cX11_init 130 = .ok (.aload_n 0, 1) := by decide +kernel
theorem dX11_init_131 : decode cX11_init 131 = .ok (.bipush 9, 2) := by decide +kernel
theorem dX11_init_133 : decode cX11_init 133 = .ok (.newarray .int, 2) := by decide +kernel
theorem dX11_init_135 : decode cX11_init 135 = .ok (.putfield 61, 3) := by decide +kernel
theorem dX11_init_138 : decode cX11_init 138 = .ok (.aload_n 0, 1) := by decide +kernel
theorem dX11_init_139 : decode cX11_init 139 = .ok (.bipush 9, 2) := by decide +kernel
theorem dX11_init_141 : decode cX11_init 141 = .ok (.newarray .int, 2) := by decide +kernel
theorem dX11_init_143 : decode cX11_init 143 = .ok (.putfield 64, 3) := by decide +kernel
theorem dX11_init_146 : decode cX11_init 146 = .ok (.aload_n 0, 1) := by decide +kernel
theorem dX11_init_147 : decode cX11_init 147 = .ok (.iconst 3, 1) := by decide +kernel
theorem dX11_init_148 : decode cX11_init 148 = .ok (.newarray .int, 2) := by decide +kernel
theorem dX11_init_150 : decode cX11_init 150 = .ok (.putfield 67, 3) := by decide +kernel
theorem dX11_init_153 : decode cX11_init 153 = .ok (.aload_n 0, 1) := by decide +kernel
theorem dX11_init_154 : decode cX11_init 154 = .ok (.bipush 18, 2) := by decide +kernel
theorem dX11_init_156 : decode cX11_init 156 = .ok (.newarray .int, 2) := by decide +kernel
theorem dX11_init_158 : decode cX11_init 158 = .ok (.putfield 70, 3) := by decide +kernel
theorem dX11_init_161 : decode cX11_init 161 = .ok (.aload_n 0, 1) := by decide +kernel
theorem dX11_init_162 : decode cX11_init 162 = .ok (.iconst 3, 1) := by decide +kernel
theorem dX11_init_163 : decode cX11_init 163 = .ok (.newarray .int, 2) := by decide +kernel
theorem dX11_init_165 : decode cX11_init 165 = .ok (.putfield 73, 3) := by decide +kernel
theorem dX11_init_168 : decode cX11_init 168 = .ok (.aload_n 0, 1) := by decide +kernel
theorem dX11_init_169 : decode cX11_init 169 = .ok (.bipush 24, 2) := by decide +kernel
theorem dX11_init_171 : decode cX11_init 171 = .ok (.newarray .int, 2) := by decide +kernel
theorem dX11_init_173 : decode cX11_init 173 = .ok (.putfield 76, 3) := by decide +kernel
theorem dX11_init_176 : decode cX11_init 176 = .ok (.aload_n 0, 1) := by decide +kernel
theorem dX11_init_177 : decode cX11_init 177 = .ok (.bipush 24, 2) := by decide +kernel
theorem dX11_init_179 : decode cX11_init 179 = .ok (.newarray .int, 2) := by decide +kernel
theorem dX11_init_181 : decode cX11_init 181 = .ok (.putfield 79, 3) := by decide +kernel
theorem dX11_init_184 : decode cX11_init 184 = .ok (.aload_n 0, 1) := by decide +kernel
theorem dX11_init_185 : decode cX11_init 185 = .ok (.iconst 3, 1) := by decide +kernel
theorem dX11_init_186 : decode cX11_init 186 = .ok (.newarray .int, 2) := by decide +kernel
theorem dX11_init_188 : decode cX11_init 188 = .ok (.putfield 82, 3) := by decide +kernel
theorem dX11_init_191 : decode cX11_init 191 = .ok (.aload_n 0, 1) := by decide +kernel
theorem dX11_init_192 : decode cX11_init 192 = .ok (.sipush 1500, 3) := by decide +kernel
theorem dX11_init_195 : decode cX11_init 195 = .ok (.newarray .int, 2) := by decide +kernel
theorem dX11_init_197 : decode cX11_init 197 = .ok (.putfield 85, 3) := by decide +kernel
theorem dX11_init_200 : decode cX11_init 200 = .ok (.aload_n 0, 1) := by decide +kernel
theorem dX11_init_201 : decode cX11_init 201 = .ok (.sipush 1500, 3) := by decide +kernel
theorem dX11_init_204 : decode cX11_init 204 = .ok (.newarray .int, 2) := by decide +kernel
theorem dX11_init_206 : decode cX11_init 206 = .ok (.putfield 88, 3) := by decide +kernel
theorem dX11_init_209 : decode cX11_init 209 = .ok (.aload_n 0, 1) := by decide +kernel
theorem dX11_init_210 : decode cX11_init 210 = .ok (.iconst 3, 1) := by decide +kernel
theorem dX11_init_211 : decode cX11_init 211 = .ok (.newarray .int, 2) := by decide +kernel
theorem dX11_init_213 : decode cX11_init 213 = .ok (.putfield 91, 3) := by decide +kernel
theorem dX11_init_216 : decode cX11_init 216 = .ok (.aload_n 0, 1) := by decide +kernel
theorem dX11_init_217 : decode cX11_init 217 = .ok (.sipush 600, 3) := by decide +kernel
theorem dX11_init_220 : decode cX11_init 220 = .ok (.newarray .boolean, 2) := by decide +kernel
theorem dX11_init_222 : decode cX11_init 222 = .ok (.putfield 94, 3) := by decide +kernel
theorem dX11_init_225 : decode cX11_init 225 = .ok (.aload_n 0, 1) := by decide +kernel
theorem dX11_init_226 : decode cX11_init 226 = .ok (.sipush 600, 3) := by decide +kernel
theorem dX11_init_229 : decode cX11_init 229 = .ok (.newarray .int, 2) := by decide +kernel
theorem dX11_init_231 : decode cX11_init 231 = .ok (.putfield 97, 3) := by decide +kernel
theorem dX11_init_234 : decode cX11_init 234 = .ok (.aload_n 0, 1) := by decide +kernel
theorem dX11_init_235 : decode cX11_init 235 = .ok (.sipush 600, 3) := by decide +kernel
theorem dX11_init_238 : decode cX11_init 238 = .ok (.newarray .int, 2) := by decide +kernel
theorem dX11_init_240 : decode cX11_init 240 = .ok (.putfield 100, 3) := by decide +kernel
theorem dX11_init_243 : decode cX11_init 243 = .ok (.aload_n 0, 1) := by decide +kernel
theorem dX11_init_244 : decode cX11_init 244 = .ok (.sipush 600, 3) := by decide +kernel
theorem dX11_init_247 : decode cX11_init 247 = .ok (.newarray .int, 2) := by decide +kernel
theorem dX11_init_249 : decode cX11_init 249 = .ok (.putfield 103, 3) := by decide +kernel
theorem dX11_init_252 : decode cX11_init 252 = .ok (.aload_n 0, 1) := by decide +kernel
theorem dX11_init_253 : decode cX11_init 253 = .ok (.sipush 600, 3) := by decide +kernel
theorem dX11_init_256 : decode cX11_init 256 = .ok (.newarray .int, 2) := by decide +kernel
theorem dX11_init_258 : decode cX11_init 258 = .ok (.putfield 106, 3) := by decide +kernel
theorem dX11_init_261 : decode cX11_init 261 = .ok (.aload_n 0, 1) := by decide +kernel
theorem dX11_init_262 : decode cX11_init 262 = .ok (.sipush 600, 3) := by decide +kernel
theorem dX11_init_265 : decode cX11_init 265 = .ok (.newarray .int, 2) := by decide +kernel
theorem dX11_init_267 : decode cX11_init 267 = .ok (.putfield 109, 3) := by decide +kernel
theorem dX11_init_270 : decode cX11_init 270 = .ok (.aload_n 0, 1) := by decide +kernel
theorem dX11_init_271 : decode cX11_init 271 = .ok (.bipush 30, 2) := by decide +kernel
theorem dX11_init_273 : decode cX11_init 273 = .ok (.newarray .long, 2) := by decide +kernel
theorem dX11_init_275 : decode cX11_init 275 = .ok (.putfield 112, 3) := by decide +kernel
theorem dX11_init_278 : decode cX11_init 278 = .ok (.aload_n 0, 1) := by decide +kernel
theorem dX11_init_279 : decode cX11_init 279 = .ok (.bipush 30, 2) := by decide +kernel
theorem dX11_init_281 : decode cX11_init 281 = .ok (.newarray .int, 2) := by decide +kernel
theorem dX11_init_283 : decode cX11_init 283 = .ok (.putfield 115, 3) := by decide +kernel
theorem dX11_init_286 : decode cX11_init 286 = .ok (.aload_n 0, 1) := by decide +kernel
theorem dX11_init_287 : decode cX11_init 287 = .ok (.bipush 100, 2) := by decide +kernel
theorem dX11_init_289 : decode cX11_init 289 = .ok (.newarray .int, 2) := by decide +kernel
theorem dX11_init_291 : decode cX11_init 291 = .ok (.putfield 118, 3) := by decide +kernel
theorem dX11_init_294 : decode cX11_init 294 = .ok (.aload_n 0, 1) := by decide +kernel
theorem dX11_init_295 : decode cX11_init 295 = .ok (.bipush 100, 2) := by decide +kernel
theorem dX11_init_297 : decode cX11_init 297 = .ok (.newarray .int, 2) := by decide +kernel
theorem dX11_init_299 : decode cX11_init 299 = .ok (.putfield 121, 3) := by decide +kernel
theorem dX11_init_302 : decode cX11_init 302 = .ok (.aload_n 0, 1) := by decide +kernel
theorem dX11_init_303 : decode cX11_init 303 = .ok (.bipush 100, 2) := by decide +kernel
theorem dX11_init_305 : decode cX11_init 305 = .ok (.newarray .int, 2) := by decide +kernel
theorem dX11_init_307 : decode cX11_init 307 = .ok (.putfield 124, 3) := by decide +kernel
theorem dX11_init_310 : decode cX11_init 310 = .ok (.aload_n 0, 1) := by decide +kernel
theorem dX11_init_311 : decode cX11_init 311 = .ok (.bipush 100, 2) := by decide +kernel
theorem dX11_init_313 : decode cX11_init 313 = .ok (.newarray .int, 2) := by decide +kernel
theorem dX11_init_315 : decode cX11_init 315 = .ok (.putfield 127, 3) := by decide +kernel
theorem dX11_init_318 : decode cX11_init 318 = .ok (.aload_n 0, 1) := by decide +kernel
theorem dX11_init_319 : decode cX11_init 319 = .ok (.bipush 100, 2) := by decide +kernel
theorem dX11_init_321 : decode cX11_init 321 = .ok (.newarray .int, 2) := by decide +kernel
theorem dX11_init_323 : decode cX11_init 323 = .ok (.putfield 130, 3) := by decide +kernel
theorem dX11_init_326 : decode cX11_init 326 = .ok (.aload_n 0, 1) := by decide +kernel
theorem dX11_init_327 : decode cX11_init 327 = .ok (.bipush 20, 2) := by decide +kernel
theorem dX11_init_329 : decode cX11_init 329 = .ok (.newarray .int, 2) := by decide +kernel
theorem dX11_init_331 : decode cX11_init 331 = .ok (.putfield 133, 3) := by decide +kernel
theorem dX11_init_334 : decode cX11_init 334 = .ok (.aload_n 0, 1) := by decide +kernel
theorem dX11_init_335 : decode cX11_init 335 = .ok (.bipush 20, 2) := by decide +kernel
theorem dX11_init_337 : decode cX11_init 337 = .ok (.newarray .int, 2) := by decide +kernel
theorem dX11_init_339 : decode cX11_init 339 = .ok (.putfield 136, 3) := by decide +kernel
theorem dX11_init_342 : decode cX11_init 342 = .ok (.aload_n 0, 1) := by decide +kernel
theorem dX11_init_343 : decode cX11_init 343 = .ok (.bipush 20, 2) := by decide +kernel
theorem dX11_init_345 : decode cX11_init 345 = .ok (.newarray .int, 2) := by decide +kernel
theorem dX11_init_347 : decode cX11_init 347 = .ok (.putfield 139, 3) := by decide +kernel
theorem dX11_init_350 : decode cX11_init 350 = .ok (.aload_n 0, 1) := by decide +kernel
theorem dX11_init_351 : decode cX11_init 351 = .ok (.bipush 20, 2) := by decide +kernel
theorem dX11_init_353 : decode cX11_init 353 = .ok (.newarray .int, 2) := by decide +kernel
theorem dX11_init_355 : decode cX11_init 355 = .ok (.putfield 142, 3) := by decide +kernel
theorem dX11_init_358 : decode cX11_init 358 = .ok (.aload_n 0, 1) := by decide +kernel
theorem dX11_init_359 : decode cX11_init 359 = .ok (.bipush 8, 2) := by decide +kernel
theorem dX11_init_361 : decode cX11_init 361 = .ok (.newarray .int, 2) := by decide +kernel
theorem dX11_init_363 : decode cX11_init 363 = .ok (.putfield 145, 3) := by decide +kernel
theorem dX11_init_366 : decode cX11_init 366 = .ok (.aload_n 0, 1) := by decide +kernel
theorem dX11_init_367 : decode cX11_init 367 = .ok (.bipush 8, 2) := by decide +kernel
theorem dX11_init_369 : decode cX11_init 369 = .ok (.newarray .boolean, 2) := by decide +kernel
theorem dX11_init_371 : decode cX11_init 371 = .ok (.putfield 148, 3) := by decide +kernel
theorem dX11_init_374 : decode cX11_init 374 = .ok (.aload_n 0, 1) := by decide +kernel
theorem dX11_init_375 : decode cX11_init 375 = .ok (.bipush 10, 2) := by decide +kernel
theorem dX11_init_377 : decode cX11_init 377 = .ok (.newarray .int, 2) := by decide +kernel
theorem dX11_init_379 : decode cX11_init 379 = .ok (.putfield 151, 3) := by decide +kernel
theorem dX11_init_382 : decode cX11_init 382 = .ok (.aload_n 0, 1) := by decide +kernel
theorem dX11_init_383 : decode cX11_init 383 = .ok (.bipush 30, 2) := by decide +kernel
theorem dX11_init_385 : decode cX11_init 385 = .ok (.newarray .int, 2) := by decide +kernel
theorem dX11_init_387 : decode cX11_init 387 = .ok (.putfield 154, 3) := by decide +kernel
theorem dX11_init_390 : decode cX11_init 390 = .ok (.aload_n 0, 1) := by decide +kernel
theorem dX11_init_391 : decode cX11_init 391 = .ok (.bipush 30, 2) := by decide +kernel
theorem dX11_init_393 : decode cX11_init 393 = .ok (.newarray .int, 2) := by decide +kernel
theorem dX11_init_395 : decode cX11_init 395 = .ok (.putfield 157, 3) := by decide +kernel
theorem dX11_init_398 : decode cX11_init 398 = .ok (.aload_n 0, 1) := by decide +kernel
theorem dX11_init_399 : decode cX11_init 399 = .ok (.bipush 30, 2) := by decide +kernel
theorem dX11_init_401 : decode cX11_init 401 = .ok (.newarray .int, 2) := by decide +kernel
theorem dX11_init_403 : decode cX11_init 403 = .ok (.putfield 160, 3) := by decide +kernel
theorem dX11_init_406 : decode cX11_init 406 = .ok (.aload_n 0, 1) := by decide +kernel
theorem dX11_init_407 : decode cX11_init 407 = .ok (.sipush 500, 3) := by decide +kernel
theorem dX11_init_410 : decode cX11_init 410 = .ok (.newarray .int, 2) := by decide +kernel
theorem dX11_init_412 : decode cX11_init 412 = .ok (.putfield 163, 3) := by decide +kernel
theorem dX11_init_415 : decode cX11_init 415 = .ok (.aload_n 0, 1) := by decide +kernel
theorem dX11_init_416 : decode cX11_init 416 = .ok (.bipush 24, 2) := by decide +kernel
theorem dX11_init_418 : decode cX11_init 418 = .ok (.newarray .boolean, 2) := by decide +kernel
theorem dX11_init_420 : decode cX11_init 420 = .ok (.putfield 166, 3) := by decide +kernel
theorem dX11_init_423 : decode cX11_init 423 = .ok (.aload_n 0, 1) := by decide +kernel
theorem dX11_init_424 : decode cX11_init 424 = .ok (.sipush 432, 3) := by decide +kernel
theorem dX11_init_427 : decode cX11_init 427 = .ok (.newarray .int, 2) := by decide +kernel
theorem dX11_init_429 : decode cX11_init 429 = .ok (.putfield 169, 3) := by decide +kernel
theorem dX11_init_432 : decode cX11_init 432 = .ok (.aload_n 0, 1) := by decide +kernel
theorem dX11_init_433 : decode cX11_init 433 = .ok (.iconst 5, 1) := by decide +kernel
theorem dX11_init_434 : decode cX11_init 434 = .ok (.newarray .int, 2) := by decide +kernel
theorem dX11_init_436 : decode cX11_init 436 = .ok (.putfield 172, 3) := by decide +kernel
theorem dX11_init_439 : decode cX11_init 439 = .ok (.aload_n 0, 1) := by decide +kernel
theorem dX11_init_440 : decode cX11_init 440 = .ok (.sipush 500, 3) := by decide +kernel
theorem dX11_init_443 : decode cX11_init 443 = .ok (.newarray .int, 2) := by decide +kernel
theorem dX11_init_445 : decode cX11_init 445 = .ok (.putfield 175, 3) := by decide +kernel
theorem dX11_init_448 : decode cX11_init 448 = .ok (.aload_n 0, 1) := by decide +kernel
theorem dX11_init_449 : decode cX11_init 449 = .ok (.bipush 20, 2) := by decide +kernel
theorem dX11_init_451 : decode cX11_init 451 = .ok (.newarray .boolean, 2) := by decide +kernel
theorem dX11_init_453 : decode cX11_init 453 = .ok (.putfield 178, 3) := by decide +kernel
theorem dX11_init_456 : decode cX11_init 456 = .ok (.aload_n 0, 1) := by decide +kernel
theorem dX11_init_457 : decode cX11_init 457 = .ok (.bipush 6, 2) := by decide +kernel
theorem dX11_init_459 : decode cX11_init 459 = .ok (.newarray .int, 2) := by decide +kernel
theorem dX11_init_461 : decode cX11_init 461 = .ok (.putfield 181, 3) := by decide +kernel
theorem dX11_init_464 : decode cX11_init 464 = .ok (.aload_n 0, 1) := by decide +kernel
theorem dX11_init_465 : decode cX11_init 465 = .ok (.bipush 6, 2) := by decide +kernel
theorem dX11_init_467 : decode cX11_init 467 = .ok (.newarray .int, 2) := by decide +kernel
theorem dX11_init_469 : decode cX11_init 469 = .ok (.putfield 184, 3) := by decide +kernel
theorem dX11_init_472 : decode cX11_init 472 = .ok (.aload_n 0, 1) := by decide +kernel
theorem dX11_init_473 : decode cX11_init 473 = .ok (.bipush 64, 2) := by decide +kernel
theorem dX11_init_475 : decode cX11_init 475 = .ok (.newarray .int, 2) := by decide +kernel
theorem dX11_init_477 : decode cX11_init 477 = .ok (.putfield 187, 3) := by decide +kernel
theorem dX11_init_480 : decode cX11_init 480 = .ok (.aload_n 0, 1) := by decide +kernel
theorem dX11_init_481 : decode cX11_init 481 = .ok (.sipush 384, 3) := by decide +kernel
theorem dX11_init_484 : decode cX11_init 484 = .ok (.newarray .int, 2) := by decide +kernel
theorem dX11_init_486 : decode cX11_init 486 = .ok (.putfield 190, 3) := by decide +kernel
theorem dX11_init_489 : decode cX11_init 489 = .ok (.aload_n 0, 1) := by decide +kernel
theorem dX11_init_490 : decode cX11_init 490 = .ok (.bipush 64, 2) := by decide +kernel
theorem dX11_init_492 : decode cX11_init 492 = .ok (.newarray .boolean, 2) := by decide +kernel
theorem dX11_init_494 : decode cX11_init 494 = .ok (.putfield 193, 3) := by decide +kernel
theorem dX11_init_497 : decode cX11_init 497 = .ok (.aload_n 0, 1) := by decide +kernel
theorem dX11_init_498 : decode cX11_init 498 = .ok (.bipush 64, 2) := by decide +kernel
theorem dX11_init_500 : decode cX11_init 500 = .ok (.newarray .int, 2) := by decide +kernel
theorem dX11_init_502 : decode cX11_init 502 = .ok (.putfield 196, 3) := by decide +kernel
theorem dX11_init_505 : decode cX11_init 505 = .ok (.aload_n 0, 1) := by decide +kernel
theorem dX11_init_506 : decode cX11_init 506 = .ok (.bipush 20, 2) := by decide +kernel
theorem dX11_init_508 : decode cX11_init 508 = .ok (.newarray .int, 2) := by decide +kernel
theorem dX11_init_510 : decode cX11_init 510 = .ok (.putfield 199, 3) := by decide +kernel
theorem dX11_init_513 : decode cX11_init 513 = .ok (.aload_n 0, 1) := by decide +kernel
theorem dX11_init_514 : decode cX11_init 514 = .ok (.bipush 6, 2) := by decide +kernel
theorem dX11_init_516 : decode cX11_init 516 = .ok (.newarray .int, 2) := by decide +kernel
theorem dX11_init_518 : decode cX11_init 518 = .ok (.putfield 202, 3) := by decide +kernel
theorem dX11_init_521 : decode cX11_init 521 = .ok (.aload_n 0, 1) := by decide +kernel
theorem dX11_init_522 : decode cX11_init 522 = .ok (.bipush 64, 2) := by decide +kernel
theorem dX11_init_524 : decode cX11_init 524 = .ok (.newarray .int, 2) := by decide +kernel
theorem dX11_init_526 : decode cX11_init 526 = .ok (.putfield 205, 3) := by decide +kernel
theorem dX11_init_529 : decode cX11_init 529 = .ok (.aload_n 0, 1) := by decide +kernel
theorem dX11_init_530 : decode cX11_init 530 = .ok (.bipush 64, 2) := by decide +kernel
theorem dX11_init_532 : decode cX11_init 532 = .ok (.newarray .int, 2) := by decide +kernel
theorem dX11_init_534 : decode cX11_init 534 = .ok (.putfield 208, 3) := by decide +kernel
theorem dX11_init_537 : decode cX11_init 537 = .ok (.aload_n 0, 1) := by decide +kernel
theorem dX11_init_538 : decode cX11_init 538 = .ok (.bipush 6, 2) := by decide +kernel
theorem dX11_init_540 : decode cX11_init 540 = .ok (.newarray .int, 2) := by decide +kernel
theorem dX11_init_542 : decode cX11_init 542 = .ok (.putfield 211, 3) := by decide +kernel
theorem dX11_init_545 : decode cX11_init 545 = .ok (.aload_n 0, 1) := by decide +kernel
theorem dX11_init_546 : decode cX11_init 546 = .ok (.bipush 18, 2) := by decide +kernel
theorem dX11_init_548 : decode cX11_init 548 = .ok (.newarray .int, 2) := by decide +kernel
theorem dX11_init_550 : decode cX11_init 550 = .ok (.putfield 214, 3) := by decide +kernel
theorem dX11_init_553 : decode cX11_init 553 = .ok (.aload_n 0, 1) := by decide +kernel
theorem dX11_init_554 : decode cX11_init 554 = .ok (.bipush 18, 2) := by decide +kernel
theorem dX11_init_556 : decode cX11_init 556 = .ok (.newarray .int, 2) := by decide +kernel
theorem dX11_init_558 : decode cX11_init 558 = .ok (.putfield 217, 3) := by decide +kernel
theorem dX11_init_561 : decode cX11_init 561 = .ok (.aload_n 0, 1) := by decide +kernel
theorem dX11_init_562 : decode cX11_init 562 = .ok (.bipush 18, 2) := by decide +kernel
theorem dX11_init_564 : decode cX11_init 564 = .ok (.newarray .int, 2) := by decide +kernel
theorem dX11_init_566 : decode cX11_init 566 = .ok (.putfield 220, 3) := by decide +kernel
theorem dX11_init_569 : decode cX11_init 569 = .ok (.aload_n 0, 1) := by decide +kernel
theorem dX11_init_570 : decode cX11_init 570 = .ok (.iconst 3, 1) := by decide +kernel
theorem dX11_init_571 : decode cX11_init 571 = .ok (.newarray .int, 2) := by decide +kernel
theorem dX11_init_573 : decode cX11_init 573 = .ok (.putfield 223, 3) := by decide +kernel
theorem dX11_init_576 : decode cX11_init 576 = .ok (.aload_n 0, 1) := by decide +kernel
theorem dX11_init_577 : decode cX11_init 577 = .ok (.bipush 18, 2) := by decide +kernel
theorem dX11_init_579 : decode cX11_init 579 = .ok (.newarray .int, 2) := by decide +kernel
theorem dX11_init_581 : decode cX11_init 581 = .ok (.putfield 226, 3) := by decide +kernel
theorem dX11_init_584 : decode cX11_init 584 = .ok (.aload_n 0, 1) := by decide +kernel
theorem dX11_init_585 : decode cX11_init 585 = .ok (.bipush 18, 2) := by decide +kernel
theorem dX11_init_587 : decode cX11_init 587 = .ok (.newarray .boolean, 2) := by decide +kernel
theorem dX11_init_589 : decode cX11_init 589 = .ok (.putfield 229, 3) := by decide +kernel
theorem dX11_init_592 : decode cX11_init 592 = .ok (.aload_n 0, 1) := by decide +kernel
theorem dX11_init_593 : decode cX11_init 593 = .ok (.bipush 18, 2) := by decide +kernel
theorem dX11_init_595 : decode cX11_init 595 = .ok (.newarray .int, 2) := by decide +kernel
theorem dX11_init_597 : decode cX11_init 597 = .ok (.putfield 232, 3) := by decide +kernel
theorem dX11_init_600 : decode cX11_init 600 = .ok (.aload_n 0, 1) := by decide +kernel
theorem dX11_init_601 : decode cX11_init 601 = .ok (.bipush 18, 2) := by decide +kernel
theorem dX11_init_603 : decode cX11_init 603 = .ok (.newarray .int, 2) := by decide +kernel
theorem dX11_init_605 : decode cX11_init 605 = .ok (.putfield 235, 3) := by decide +kernel
theorem dX11_init_608 : decode cX11_init 608 = .ok (.aload_n 0, 1) := by decide +kernel
theorem dX11_init_609 : decode cX11_init 609 = .ok (.iconst 3, 1) := by decide +kernel
theorem dX11_init_610 : decode cX11_init 610 = .ok (.newarray .int, 2) := by decide +kernel
theorem dX11_init_612 : decode cX11_init 612 = .ok (.putfield 238, 3) := by decide +kernel
theorem dX11_init_615 : decode cX11_init 615 = .ok (.aload_n 0, 1) := by decide +kernel
theorem dX11_init_616 : decode cX11_init 616 = .ok (.sipush 1024, 3) := by decide +kernel
theorem dX11_init_619 : decode cX11_init 619 = .ok (.newarray .int, 2) := by decide +kernel
theorem dX11_init_621 : decode cX11_init 621 = .ok (.putfield 241, 3) := by decide +kernel
theorem dX11_init_624 : decode cX11_init 624 = .ok (.aload_n 0, 1) := by decide +kernel
theorem dX11_init_625 : decode cX11_init 625 = .ok (.sipush 2816, 3) := by decide +kernel
theorem dX11_init_628 : decode cX11_init 628 = .ok (.newarray .int, 2) := by decide +kernel
theorem dX11_init_630 : decode cX11_init 630 = .ok (.putfield 244, 3) := by decide +kernel
theorem dX11_init_633 : decode cX11_init 633 = .ok (.aload_n 0, 1) := by decide +kernel
theorem dX11_init_634 : decode cX11_init 634 = .ok (.bipush 12, 2) := by decide +kernel
theorem dX11_init_636 : decode cX11_init 636 = .ok (.newarray .int, 2) := by decide +kernel
theorem dX11_init_638 : decode cX11_init 638 = .ok (.putfield 247, 3) := by decide +kernel
theorem dX11_init_641 : decode cX11_init 641 = .ok (.iconst 0, 1) := by decide +kernel
theorem dX11_init_642 : decode cX11_init 642 = .ok (.istore_n 1, 1) := by decide +kernel
theorem dX11_init_643 : decode cX11_init 643 = .ok (.iload_n 1, 1) := by decide +kernel
theorem dX11_init_644 : decode cX11_init 644 = .ok (.bipush 10, 2) := by decide +kernel
theorem dX11_init_646 : decode cX11_init 646 = .ok (.if_icmp .ge 16, 3) := by decide +kernel
theorem dX11_init_649 : decode cX11_init 649 = .ok (.aload_n 0, 1) := by decide +kernel
theorem dX11_init_650 : decode cX11_init 650 = .ok (.getfield 151, 3) := by decide +kernel
theorem dX11_init_653 : decode cX11_init 653 = .ok (.iload_n 1, 1) := by decide +kernel
theorem dX11_init_654 : decode cX11_init 654 = .ok (.iconst 1, 1) := by decide +kernel
theorem dX11_init_655 : decode cX11_init 655 = .ok (.iastore, 1) := by decide +kernel
theorem dX11_init_656 : decode cX11_init 656 = .ok (.iinc 1 1, 3) := by decide +kernel
theorem dX11_init_659 : decode cX11_init 659 = .ok (.goto (-16), 3) := by decide +kernel
theorem dX11_init_662 : decode cX11_init 662 = .ok (.return_, 1) := by decide +kernel
theorem dX11_feed_0 : decode cX11_feed 0 = .ok (.aload_n 0, 1) := by decide +kernel
theorem dX11_feed_1 : decode cX11_feed 1 = .ok (.getfield 250, 3) := by decide +kernel
theorem dX11_feed_4 : decode cX11_feed 4 = .ok (.bipush 20, 2) := by decide +kernel
theorem dX11_feed_6 : decode cX11_feed 6 = .ok (.iadd, 1) := by decide +kernel
theorem dX11_feed_7 : decode cX11_feed 7 = .ok (.sipush 2000, 3) := by decide +kernel
theorem dX11_feed_10 : decode cX11_feed 10 = .ok (.if_icmp .le 5, 3) := by decide +kernel
theorem dX11_feed_13 : decode cX11_feed 13 = .ok (.iconst (-1), 1) := by decide +kernel
theorem dX11_feed_14 : decode cX11_feed 14 = .ok (.ireturn, 1) := by decide +kernel
theorem dX11_feed_15 : decode cX11_feed 15 = .ok (.aload_n 0, 1) := by decide +kernel
theorem dX11_feed_16 : decode cX11_feed 16 = .ok (.iload_n 1, 1) := by decide +kernel
theorem dX11_feed_17 : decode cX11_feed 17 = .ok (.invokevirtual 253, 3) := by decide +kernel
theorem dX11_feed_20 : decode cX11_feed 20 = .ok (.aload_n 0, 1) := by decide +kernel
theorem dX11_feed_21 : decode cX11_feed 21 = .ok (.iload_n 2, 1) := by decide +kernel
theorem dX11_feed_22 : decode cX11_feed 22 = .ok (.invokevirtual 253, 3) := by decide +kernel
theorem dX11_feed_25 : decode cX11_feed 25 = .ok (.aload_n 0, 1) := by decide +kernel
theorem dX11_feed_26 : decode cX11_feed 26 = .ok (.iload_n 3, 1) := by decide +kernel
theorem dX11_feed_27 : decode cX11_feed 27 = .ok (.invokevirtual 253, 3) := by decide +kernel
theorem dX11_feed_30 : decode cX11_feed 30 = .ok (.aload_n 0, 1) := by decide +kernel
theorem dX11_feed_31 : decode cX11_feed 31 = .ok (.iload 4, 2) := by decide +kernel
theorem dX11_feed_33 : decode cX11_feed 33 = .ok (.invokevirtual 253, 3) := by decide +kernel
theorem dX11_feed_36 : decode cX11_feed 36 = .ok (.aload_n 0, 1) := by decide +kernel
theorem dX11_feed_37 : decode cX11_feed 37 = .ok (.iload 5, 2) := by decide +kernel
theorem dX11_feed_39 : decode cX11_feed 39 = .ok (.invokevirtual 253, 3) := by decide +kernel
theorem dX11_feed_42 : decode cX11_feed 42 = .ok (.aload_n 0, 1) := by decide +kernel
theorem dX11_feed_43 : decode cX11_feed 43 = .ok (.getfield 250, 3) := by decide +kernel
theorem dX11_feed_46 : decode cX11_feed 46 = .ok (.ireturn, 1) := by decide +kernel
theorem dX11_typed_0 : decode cX11_typed 0 = .ok (.iconst 0, 1) := by decide +kernel
theorem dX11_typed_1 : decode cX11_typed 1 = .ok (.istore_n 2, 1) := by decide +kernel
theorem dX11_typed_2 : decode cX11_typed 2 = .ok (.iload_n 2, 1) := by decide +kernel
theorem dX11_typed_3 : decode cX11_typed 3 = .ok (.iconst 4, 1) := by decide +kernel
theorem dX11_typed_4 : decode cX11_typed 4 = .ok (.if_icmp .ge 41, 3) := by decide +kernel
theorem dX11_typed_7 : decode cX11_typed 7 = .ok (.aload_n 0, 1) := by decide +kernel
theorem dX11_typed_8 : decode cX11_typed 8 = .ok (.getfield 7, 3) := by decide +kernel
theorem dX11_typed_11 : decode cX11_typed 11 = .ok (.aload_n 0, 1) := by decide +kernel
theorem dX11_typed_12 : decode cX11_typed 12 = .ok (.getfield 250, 3) := by decide +kernel
theorem dX11_typed_15 : decode cX11_typed 15 = .ok (.iload_n 1, 1) := by decide +kernel
theorem dX11_typed_16 : decode cX11_typed 16 = .ok (.bipush 24, 2) := by decide +kernel
theorem dX11_typed_18 : decode cX11_typed 18 = .ok (.bipush 8, 2) := by decide +kernel
theorem dX11_typed_20 : decode cX11_typed 20 = .ok (.iload_n 2, 1) := by decide +kernel
theorem dX11_typed_21 : decode cX11_typed 21 = .ok (.imul, 1) := by decide +kernel
theorem dX11_typed_22 : decode cX11_typed 22 = .ok (.isub, 1) := by decide +kernel
theorem dX11_typed_23 : decode cX11_typed 23 = .ok (.ishr, 1) := by decide +kernel
theorem dX11_typed_24 : decode cX11_typed 24 = .ok (.sipush 255, 3) := by decide +kernel
theorem dX11_typed_27 : decode cX11_typed 27 = .ok (.iand, 1) := by decide +kernel
theorem dX11_typed_28 : decode cX11_typed 28 = .ok (.iastore, 1) := by decide +kernel
theorem dX11_typed_29 : decode cX11_typed 29 = .ok (.aload_n 0, 1) := by decide +kernel
theorem dX11_typed_30 : decode cX11_typed 30 = .ok (.dup, 1) := by decide +kernel
theorem dX11_typed_31 : decode cX11_typed 31 = .ok (.getfield 250, 3) := by decide +kernel
theorem dX11_typed_34 : decode cX11_typed 34 = .ok (.iconst 1, 1) := by decide +kernel
theorem dX11_typed_35 : decode cX11_typed 35 = .ok (.iadd, 1) := by decide +kernel
theorem dX11_typed_36 : decode cX11_typed 36 = .ok (.putfield 250, 3) := by decide +kernel
theorem dX11_typed_39 : decode cX11_typed 39 = .ok (.iinc 2 1, 3) := by decide +kernel
theorem dX11_typed_42 : decode cX11_typed 42 = .ok (.goto (-40), 3) := by decide +kernel
theorem dX11_typed_45 : decode cX11_typed 45 = .ok (.return_, 1) := by decide +kernel
theorem dX11_back_0 : decode cX11_back 0 = .ok (.iload_n 1, 1) := by decide +kernel
theorem dX11_back_1 : decode cX11_back 1 = .ok (.ifCond .lt 11, 3) := by decide +kernel
theorem dX11_back_4 : decode cX11_back 4 = .ok (.iload_n 1, 1) := by decide +kernel
theorem dX11_back_5 : decode cX11_back 5 = .ok (.aload_n 0, 1) := by decide +kernel
theorem dX11_back_6 : decode cX11_back 6 = .ok (.getfield 250, 3) := by decide +kernel
theorem dX11_back_9 : decode cX11_back 9 = .ok (.if_icmp .le 5, 3) := by decide +kernel
theorem dX11_back_12 : decode cX11_back 12 = .ok (.iconst (-1), 1) := by decide +kernel
theorem dX11_back_13 : decode cX11_back 13 = .ok (.ireturn, 1) := by decide +kernel
theorem dX11_back_14 : decode cX11_back 14 = .ok (.aload_n 0, 1) := by decide +kernel
theorem dX11_back_15 : decode cX11_back 15 = .ok (.aload_n 0, 1) := by decide +kernel
theorem dX11_back_16 : decode cX11_back 16 = .ok (.getfield 250, 3) := by decide +kernel
theorem dX11_back_19 : decode cX11_back 19 = .ok (.iload_n 1, 1) := by decide +kernel
theorem dX11_back_20 : decode cX11_back 20 = .ok (.isub, 1) := by decide +kernel
theorem dX11_back_21 : decode cX11_back 21 = .ok (.putfield 250, 3) := by decide +kernel
theorem dX11_back_24 : decode cX11_back 24 = .ok (.aload_n 0, 1) := by decide +kernel
theorem dX11_back_25 : decode cX11_back 25 = .ok (.getfield 250, 3) := by decide +kernel
theorem dX11_back_28 : decode cX11_back 28 = .ok (.ireturn, 1) := by decide +kernel
theorem dX11_byteAt_0 : decode cX11_byteAt 0 = .ok (.iload_n 1, 1) := by decide +kernel
theorem dX11_byteAt_1 : decode cX11_byteAt 1 = .ok (.aload_n 0, 1) := by decide +kernel
theorem dX11_byteAt_2 : decode cX11_byteAt 2 = .ok (.getfield 250, 3) := by decide +kernel
theorem dX11_byteAt_5 : decode cX11_byteAt 5 = .ok (.if_icmp .ge 12, 3) := by decide +kernel
theorem dX11_byteAt_8 : decode cX11_byteAt 8 = .ok (.aload_n 0, 1) := by decide +kernel
theorem dX11_byteAt_9 : decode cX11_byteAt 9 = .ok (.getfield 7, 3) := by decide +kernel
theorem dX11_byteAt_12 : decode cX11_byteAt 12 = .ok (.iload_n 1, 1) := by decide +kernel
theorem dX11_byteAt_13 : decode cX11_byteAt 13 = .ok (.iaload, 1) := by decide +kernel
theorem dX11_byteAt_14 : decode cX11_byteAt 14 = .ok (.goto 4, 3) := by decide +kernel
theorem dX11_byteAt_17 : decode cX11_byteAt 17 = .ok (.iconst 0, 1) := by decide +kernel
theorem dX11_byteAt_18 : decode cX11_byteAt 18 = .ok (.ireturn, 1) := by decide +kernel
theorem dX11_isLetter_0 : decode cX11_isLetter 0 = .ok (.aload_n 0, 1) := by decide +kernel
theorem dX11_isLetter_1 : decode cX11_isLetter 1 = .ok (.iload_n 1, 1) := by decide +kernel
theorem dX11_isLetter_2 : decode cX11_isLetter 2 = .ok (.invokevirtual 257, 3) := by decide +kernel
theorem dX11_isLetter_5 : decode cX11_isLetter 5 = .ok (.bipush 97, 2) := by decide +kernel
theorem dX11_isLetter_7 : decode cX11_isLetter 7 = .ok (.if_icmp .lt 17, 3) := by decide +kernel
theorem dX11_isLetter_10 : decode cX11_isLetter 10 = .ok (.aload_n 0, 1) := by decide +kernel
theorem dX11_isLetter_11 : decode cX11_isLetter 11 = .ok (.iload_n 1, 1) := by decide +kernel
theorem dX11_isLetter_12 : decode cX11_isLetter 12 = .ok (.invokevirtual 257, 3) := by decide +kernel
theorem dX11_isLetter_15 : decode cX11_isLetter 15 = .ok (.bipush 122, 2) := by decide +kernel
theorem dX11_isLetter_17 : decode cX11_isLetter 17 = .ok (.if_icmp .gt 7, 3) := by decide +kernel
theorem dX11_isLetter_20 : decode cX11_isLetter 20 = .ok (.iconst 1, 1) := by decide +kernel
theorem dX11_isLetter_21 : decode cX11_isLetter 21 = .ok (.goto 4, 3) := by decide +kernel
theorem dX11_isLetter_24 : decode cX11_isLetter 24 = .ok (.iconst 0, 1) := by decide +kernel
theorem dX11_isLetter_25 : decode cX11_isLetter 25 = .ok (.ireturn, 1) := by decide +kernel
theorem dX11_isDigit_0 : decode cX11_isDigit 0 = .ok (.aload_n 0, 1) := by decide +kernel
theorem dX11_isDigit_1 : decode cX11_isDigit 1 = .ok (.iload_n 1, 1) := by decide +kernel
theorem dX11_isDigit_2 : decode cX11_isDigit 2 = .ok (.invokevirtual 257, 3) := by decide +kernel
theorem dX11_isDigit_5 : decode cX11_isDigit 5 = .ok (.bipush 48, 2) := by decide +kernel
theorem dX11_isDigit_7 : decode cX11_isDigit 7 = .ok (.if_icmp .lt 17, 3) := by decide +kernel
theorem dX11_isDigit_10 : decode cX11_isDigit 10 = .ok (.aload_n 0, 1) := by decide +kernel
theorem dX11_isDigit_11 : decode cX11_isDigit 11 = .ok (.iload_n 1, 1) := by decide +kernel
theorem dX11_isDigit_12 : decode cX11_isDigit 12 = .ok (.invokevirtual 257, 3) := by decide +kernel
theorem dX11_isDigit_15 : decode cX11_isDigit 15 = .ok (.bipush 57, 2) := by decide +kernel
theorem dX11_isDigit_17 : decode cX11_isDigit 17 = .ok (.if_icmp .gt 7, 3) := by decide +kernel
theorem dX11_isDigit_20 : decode cX11_isDigit 20 = .ok (.iconst 1, 1) := by decide +kernel
theorem dX11_isDigit_21 : decode cX11_isDigit 21 = .ok (.goto 4, 3) := by decide +kernel
theorem dX11_isDigit_24 : decode cX11_isDigit 24 = .ok (.iconst 0, 1) := by decide +kernel
theorem dX11_isDigit_25 : decode cX11_isDigit 25 = .ok (.ireturn, 1) := by decide +kernel
theorem dX11_token_0 : decode cX11_token 0 = .ok (.aload_n 0, 1) := by decide +kernel
theorem dX11_token_1 : decode cX11_token 1 = .ok (.getfield 13, 3) := by decide +kernel
theorem dX11_token_4 : decode cX11_token 4 = .ok (.aload_n 0, 1) := by decide +kernel
theorem dX11_token_5 : decode cX11_token 5 = .ok (.getfield 261, 3) := by decide +kernel
theorem dX11_token_8 : decode cX11_token 8 = .ok (.iload_n 1, 1) := by decide +kernel
theorem dX11_token_9 : decode cX11_token 9 = .ok (.iastore, 1) := by decide +kernel
theorem dX11_token_10 : decode cX11_token 10 = .ok (.aload_n 0, 1) := by decide +kernel
theorem dX11_token_11 : decode cX11_token 11 = .ok (.getfield 16, 3) := by decide +kernel
theorem dX11_token_14 : decode cX11_token 14 = .ok (.aload_n 0, 1) := by decide +kernel
theorem dX11_token_15 : decode cX11_token 15 = .ok (.getfield 261, 3) := by decide +kernel
theorem dX11_token_18 : decode cX11_token 18 = .ok (.iload_n 2, 1) := by decide +kernel
theorem dX11_token_19 : decode cX11_token 19 = .ok (.iastore, 1) := by decide +kernel
theorem dX11_token_20 : decode cX11_token 20 = .ok (.aload_n 0, 1) := by decide +kernel
theorem dX11_token_21 : decode cX11_token 21 = .ok (.getfield 19, 3) := by decide +kernel
theorem dX11_token_24 : decode cX11_token 24 = .ok (.aload_n 0, 1) := by decide +kernel
theorem dX11_token_25 : decode cX11_token 25 = .ok (.getfield 261, 3) := by decide +kernel
theorem dX11_token_28 : decode cX11_token 28 = .ok (.iload_n 3, 1) := by decide +kernel
theorem dX11_token_29 : decode cX11_token 29 = .ok (.iastore, 1) := by decide +kernel
theorem dX11_token_30 : decode cX11_token 30 = .ok (.aload_n 0, 1) := by decide +kernel
theorem dX11_token_31 : decode cX11_token 31 = .ok (.dup, 1) := by decide +kernel
theorem dX11_token_32 : decode cX11_token 32 = .ok (.getfield 261, 3) := by decide +kernel
theorem dX11_token_35 : decode cX11_token 35 = .ok (.iconst 1, 1) := by decide +kernel
theorem dX11_token_36 : decode cX11_token 36 = .ok (.iadd, 1) := by decide +kernel
theorem dX11_token_37 : decode cX11_token 37 = .ok (.putfield 261, 3) := by decide +kernel
theorem dX11_token_40 : decode cX11_token 40 = .ok (.return_, 1) := by decide +kernel
theorem dX11_wordOf_0 : decode cX11_wordOf 0 = .ok (.lload_n 0, 1) := by decide +kernel
theorem dX11_wordOf_1 : decode cX11_wordOf 1 = .ok (.ldc2_w 264, 3) := by decide +kernel
theorem dX11_wordOf_4 : decode cX11_wordOf 4 = .ok (.lcmp, 1) := by decide +kernel
theorem dX11_wordOf_5 : decode cX11_wordOf 5 = .ok (.ifCond .ne 5, 3) := by decide +kernel
theorem dX11_wordOf_8 : decode cX11_wordOf 8 = .ok (.iconst 0, 1) := by decide +kernel
theorem dX11_wordOf_9 : decode cX11_wordOf 9 = .ok (.ireturn, 1) := by decide +kernel
theorem dX11_wordOf_10 : decode cX11_wordOf 10 = .ok (.lload_n 0, 1) := by decide +kernel
theorem dX11_wordOf_11 : decode cX11_wordOf 11 = .ok (.ldc2_w 266, 3) := by decide +kernel
theorem dX11_wordOf_14 : decode cX11_wordOf 14 = .ok (.lcmp, 1) := by decide +kernel
theorem dX11_wordOf_15 : decode cX11_wordOf 15 = .ok (.ifCond .ne 5, 3) := by decide +kernel
theorem dX11_wordOf_18 : decode cX11_wordOf 18 = .ok (.iconst 1, 1) := by decide +kernel
theorem dX11_wordOf_19 : decode cX11_wordOf 19 = .ok (.ireturn, 1) := by decide +kernel
theorem dX11_wordOf_20 : decode cX11_wordOf 20 = .ok (.lload_n 0, 1) := by decide +kernel
theorem dX11_wordOf_21 : decode cX11_wordOf 21 = .ok (.ldc2_w 268, 3) := by decide +kernel
theorem dX11_wordOf_24 : decode cX11_wordOf 24 = .ok (.lcmp, 1) := by decide +kernel
theorem dX11_wordOf_25 : decode cX11_wordOf 25 = .ok (.ifCond .ne 5, 3) := by decide +kernel
theorem dX11_wordOf_28 : decode cX11_wordOf 28 = .ok (.iconst 2, 1) := by decide +kernel
theorem dX11_wordOf_29 : decode cX11_wordOf 29 = .ok (.ireturn, 1) := by decide +kernel
theorem dX11_wordOf_30 : decode cX11_wordOf 30 = .ok (.lload_n 0, 1) := by decide +kernel
theorem dX11_wordOf_31 : decode cX11_wordOf 31 = .ok (.ldc2_w 270, 3) := by decide +kernel
theorem dX11_wordOf_34 : decode cX11_wordOf 34 = .ok (.lcmp, 1) := by decide +kernel
theorem dX11_wordOf_35 : decode cX11_wordOf 35 = .ok (.ifCond .ne 5, 3) := by decide +kernel
theorem dX11_wordOf_38 : decode cX11_wordOf 38 = .ok (.iconst 3, 1) := by decide +kernel
theorem dX11_wordOf_39 : decode cX11_wordOf 39 = .ok (.ireturn, 1) := by decide +kernel
theorem dX11_wordOf_40 : decode cX11_wordOf 40 = .ok (.lload_n 0, 1) := by decide +kernel
theorem dX11_wordOf_41 : decode cX11_wordOf 41 = .ok (.ldc2_w 272, 3) := by decide +kernel
theorem dX11_wordOf_44 : decode cX11_wordOf 44 = .ok (.lcmp, 1) := by decide +kernel
theorem dX11_wordOf_45 : decode cX11_wordOf 45 = .ok (.ifCond .ne 5, 3) := by decide +kernel
theorem dX11_wordOf_48 : decode cX11_wordOf 48 = .ok (.iconst 4, 1) := by decide +kernel
theorem dX11_wordOf_49 : decode cX11_wordOf 49 = .ok (.ireturn, 1) := by decide +kernel
theorem dX11_wordOf_50 : decode cX11_wordOf 50 = .ok (.lload_n 0, 1) := by decide +kernel
theorem dX11_wordOf_51 : decode cX11_wordOf 51 = .ok (.ldc2_w 274, 3) := by decide +kernel
theorem dX11_wordOf_54 : decode cX11_wordOf 54 = .ok (.lcmp, 1) := by decide +kernel
theorem dX11_wordOf_55 : decode cX11_wordOf 55 = .ok (.ifCond .ne 5, 3) := by decide +kernel
theorem dX11_wordOf_58 : decode cX11_wordOf 58 = .ok (.iconst 5, 1) := by decide +kernel
theorem dX11_wordOf_59 : decode cX11_wordOf 59 = .ok (.ireturn, 1) := by decide +kernel
theorem dX11_wordOf_60 : decode cX11_wordOf 60 = .ok (.lload_n 0, 1) := by decide +kernel
theorem dX11_wordOf_61 : decode cX11_wordOf 61 = .ok (.ldc2_w 276, 3) := by decide +kernel
theorem dX11_wordOf_64 : decode cX11_wordOf 64 = .ok (.lcmp, 1) := by decide +kernel
theorem dX11_wordOf_65 : decode cX11_wordOf 65 = .ok (.ifCond .ne 6, 3) := by decide +kernel
theorem dX11_wordOf_68 : decode cX11_wordOf 68 = .ok (.bipush 6, 2) := by decide +kernel
theorem dX11_wordOf_70 : decode cX11_wordOf 70 = .ok (.ireturn, 1) := by decide +kernel
theorem dX11_wordOf_71 : decode cX11_wordOf 71 = .ok (.lload_n 0, 1) := by decide +kernel
theorem dX11_wordOf_72 : decode cX11_wordOf 72 = .ok (.ldc2_w 278, 3) := by decide +kernel
theorem dX11_wordOf_75 : decode cX11_wordOf 75 = .ok (.lcmp, 1) := by decide +kernel
theorem dX11_wordOf_76 : decode cX11_wordOf 76 = .ok (.ifCond .ne 6, 3) := by decide +kernel
theorem dX11_wordOf_79 : decode cX11_wordOf 79 = .ok (.bipush 8, 2) := by decide +kernel
theorem dX11_wordOf_81 : decode cX11_wordOf 81 = .ok (.ireturn, 1) := by decide +kernel
theorem dX11_wordOf_82 : decode cX11_wordOf 82 = .ok (.lload_n 0, 1) := by decide +kernel
theorem dX11_wordOf_83 : decode cX11_wordOf 83 = .ok (.ldc2_w 280, 3) := by decide +kernel
theorem dX11_wordOf_86 : decode cX11_wordOf 86 = .ok (.lcmp, 1) := by decide +kernel
theorem dX11_wordOf_87 : decode cX11_wordOf 87 = .ok (.ifCond .ne 6, 3) := by decide +kernel
theorem dX11_wordOf_90 : decode cX11_wordOf 90 = .ok (.bipush 7, 2) := by decide +kernel
theorem dX11_wordOf_92 : decode cX11_wordOf 92 = .ok (.ireturn, 1) := by decide +kernel
theorem dX11_wordOf_93 : decode cX11_wordOf 93 = .ok (.lload_n 0, 1) := by decide +kernel
theorem dX11_wordOf_94 : decode cX11_wordOf 94 = .ok (.ldc2_w 282, 3) := by decide +kernel
theorem dX11_wordOf_97 : decode cX11_wordOf 97 = .ok (.lcmp, 1) := by decide +kernel
theorem dX11_wordOf_98 : decode cX11_wordOf 98 = .ok (.ifCond .ne 6, 3) := by decide +kernel
theorem dX11_wordOf_101 : decode cX11_wordOf 101 = .ok (.bipush 9, 2) := by decide +kernel
theorem dX11_wordOf_103 : decode cX11_wordOf 103 = .ok (.ireturn, 1) := by decide +kernel
theorem dX11_wordOf_104 : decode cX11_wordOf 104 = .ok (.lload_n 0, 1) := by decide +kernel
theorem dX11_wordOf_105 : decode cX11_wordOf 105 = .ok (.ldc2_w 284, 3) := by decide +kernel
theorem dX11_wordOf_108 : decode cX11_wordOf 108 = .ok (.lcmp, 1) := by decide +kernel
theorem dX11_wordOf_109 : decode cX11_wordOf 109 = .ok (.ifCond .ne 6, 3) := by decide +kernel
theorem dX11_wordOf_112 : decode cX11_wordOf 112 = .ok (.bipush 13, 2) := by decide +kernel
theorem dX11_wordOf_114 : decode cX11_wordOf 114 = .ok (.ireturn, 1) := by decide +kernel
theorem dX11_wordOf_115 : decode cX11_wordOf 115 = .ok (.lload_n 0, 1) := by decide +kernel
theorem dX11_wordOf_116 : decode cX11_wordOf 116 = .ok (.ldc2_w 286, 3) := by decide +kernel
theorem dX11_wordOf_119 : decode cX11_wordOf 119 = .ok (.lcmp, 1) := by decide +kernel
theorem dX11_wordOf_120 : decode cX11_wordOf 120 = .ok (.ifCond .ne 6, 3) := by decide +kernel
theorem dX11_wordOf_123 : decode cX11_wordOf 123 = .ok (.bipush 14, 2) := by decide +kernel
theorem dX11_wordOf_125 : decode cX11_wordOf 125 = .ok (.ireturn, 1) := by decide +kernel
theorem dX11_wordOf_126 : decode cX11_wordOf 126 = .ok (.lload_n 0, 1) := by decide +kernel
theorem dX11_wordOf_127 : decode cX11_wordOf 127 = .ok (.ldc2_w 288, 3) := by decide +kernel
theorem dX11_wordOf_130 : decode cX11_wordOf 130 = .ok (.lcmp, 1) := by decide +kernel
theorem dX11_wordOf_131 : decode cX11_wordOf 131 = .ok (.ifCond .ne 6, 3) := by decide +kernel
theorem dX11_wordOf_134 : decode cX11_wordOf 134 = .ok (.bipush 15, 2) := by decide +kernel
theorem dX11_wordOf_136 : decode cX11_wordOf 136 = .ok (.ireturn, 1) := by decide +kernel
theorem dX11_wordOf_137 : decode cX11_wordOf 137 = .ok (.lload_n 0, 1) := by decide +kernel
theorem dX11_wordOf_138 : decode cX11_wordOf 138 = .ok (.ldc2_w 290, 3) := by decide +kernel
theorem dX11_wordOf_141 : decode cX11_wordOf 141 = .ok (.lcmp, 1) := by decide +kernel
theorem dX11_wordOf_142 : decode cX11_wordOf 142 = .ok (.ifCond .ne 6, 3) := by decide +kernel
theorem dX11_wordOf_145 : decode cX11_wordOf 145 = .ok (.bipush 16, 2) := by decide +kernel
theorem dX11_wordOf_147 : decode cX11_wordOf 147 = .ok (.ireturn, 1) := by decide +kernel
theorem dX11_wordOf_148 : decode cX11_wordOf 148 = .ok (.lload_n 0, 1) := by decide +kernel
theorem dX11_wordOf_149 : decode cX11_wordOf 149 = .ok (.ldc2_w 292, 3) := by decide +kernel
theorem dX11_wordOf_152 : decode cX11_wordOf 152 = .ok (.lcmp, 1) := by decide +kernel
theorem dX11_wordOf_153 : decode cX11_wordOf 153 = .ok (.ifCond .ne 6, 3) := by decide +kernel
theorem dX11_wordOf_156 : decode cX11_wordOf 156 = .ok (.bipush 12, 2) := by decide +kernel
theorem dX11_wordOf_158 : decode cX11_wordOf 158 = .ok (.ireturn, 1) := by decide +kernel
theorem dX11_wordOf_159 : decode cX11_wordOf 159 = .ok (.lload_n 0, 1) := by decide +kernel
theorem dX11_wordOf_160 : decode cX11_wordOf 160 = .ok (.ldc2_w 294, 3) := by decide +kernel
theorem dX11_wordOf_163 : decode cX11_wordOf 163 = .ok (.lcmp, 1) := by decide +kernel
theorem dX11_wordOf_164 : decode cX11_wordOf 164 = .ok (.ifCond .ne 6, 3) := by decide +kernel
theorem dX11_wordOf_167 : decode cX11_wordOf 167 = .ok (.bipush 11, 2) := by decide +kernel
theorem dX11_wordOf_169 : decode cX11_wordOf 169 = .ok (.ireturn, 1) := by decide +kernel
theorem dX11_wordOf_170 : decode cX11_wordOf 170 = .ok (.lload_n 0, 1) := by decide +kernel
theorem dX11_wordOf_171 : decode cX11_wordOf 171 = .ok (.ldc2_w 296, 3) := by decide +kernel
theorem dX11_wordOf_174 : decode cX11_wordOf 174 = .ok (.lcmp, 1) := by decide +kernel
theorem dX11_wordOf_175 : decode cX11_wordOf 175 = .ok (.ifCond .ne 6, 3) := by decide +kernel
theorem dX11_wordOf_178 : decode cX11_wordOf 178 = .ok (.bipush 10, 2) := by decide +kernel
theorem dX11_wordOf_180 : decode cX11_wordOf 180 = .ok (.ireturn, 1) := by decide +kernel
theorem dX11_wordOf_181 : decode cX11_wordOf 181 = .ok (.lload_n 0, 1) := by decide +kernel
theorem dX11_wordOf_182 : decode cX11_wordOf 182 = .ok (.ldc2_w 298, 3) := by decide +kernel
theorem dX11_wordOf_185 : decode cX11_wordOf 185 = .ok (.lcmp, 1) := by decide +kernel
theorem dX11_wordOf_186 : decode cX11_wordOf 186 = .ok (.ifCond .ne 6, 3) := by decide +kernel
theorem dX11_wordOf_189 : decode cX11_wordOf 189 = .ok (.bipush 17, 2) := by decide +kernel
theorem dX11_wordOf_191 : decode cX11_wordOf 191 = .ok (.ireturn, 1) := by decide +kernel
theorem dX11_wordOf_192 : decode cX11_wordOf 192 = .ok (.lload_n 0, 1) := by decide +kernel
theorem dX11_wordOf_193 : decode cX11_wordOf 193 = .ok (.ldc2_w 300, 3) := by decide +kernel
theorem dX11_wordOf_196 : decode cX11_wordOf 196 = .ok (.lcmp, 1) := by decide +kernel
theorem dX11_wordOf_197 : decode cX11_wordOf 197 = .ok (.ifCond .ne 6, 3) := by decide +kernel
theorem dX11_wordOf_200 : decode cX11_wordOf 200 = .ok (.bipush 18, 2) := by decide +kernel
theorem dX11_wordOf_202 : decode cX11_wordOf 202 = .ok (.ireturn, 1) := by decide +kernel
theorem dX11_wordOf_203 : decode cX11_wordOf 203 = .ok (.lload_n 0, 1) := by decide +kernel
theorem dX11_wordOf_204 : decode cX11_wordOf 204 = .ok (.ldc2_w 302, 3) := by decide +kernel
theorem dX11_wordOf_207 : decode cX11_wordOf 207 = .ok (.lcmp, 1) := by decide +kernel
theorem dX11_wordOf_208 : decode cX11_wordOf 208 = .ok (.ifCond .ne 6, 3) := by decide +kernel
theorem dX11_wordOf_211 : decode cX11_wordOf 211 = .ok (.bipush 19, 2) := by decide +kernel
theorem dX11_wordOf_213 : decode cX11_wordOf 213 = .ok (.ireturn, 1) := by decide +kernel
theorem dX11_wordOf_214 : decode cX11_wordOf 214 = .ok (.lload_n 0, 1) := by decide +kernel
theorem dX11_wordOf_215 : decode cX11_wordOf 215 = .ok (.ldc2_w 304, 3) := by decide +kernel
theorem dX11_wordOf_218 : decode cX11_wordOf 218 = .ok (.lcmp, 1) := by decide +kernel
theorem dX11_wordOf_219 : decode cX11_wordOf 219 = .ok (.ifCond .ne 6, 3) := by decide +kernel
theorem dX11_wordOf_222 : decode cX11_wordOf 222 = .ok (.bipush 20, 2) := by decide +kernel
theorem dX11_wordOf_224 : decode cX11_wordOf 224 = .ok (.ireturn, 1) := by decide +kernel
theorem dX11_wordOf_225 : decode cX11_wordOf 225 = .ok (.lload_n 0, 1) := by decide +kernel
theorem dX11_wordOf_226 : decode cX11_wordOf 226 = .ok (.ldc2_w 306, 3) := by decide +kernel
theorem dX11_wordOf_229 : decode cX11_wordOf 229 = .ok (.lcmp, 1) := by decide +kernel
theorem dX11_wordOf_230 : decode cX11_wordOf 230 = .ok (.ifCond .ne 6, 3) := by decide +kernel
theorem dX11_wordOf_233 : decode cX11_wordOf 233 = .ok (.bipush 21, 2) := by decide +kernel
theorem dX11_wordOf_235 : decode cX11_wordOf 235 = .ok (.ireturn, 1) := by decide +kernel
theorem dX11_wordOf_236 : decode cX11_wordOf 236 = .ok (.iconst (-1), 1) := by decide +kernel
theorem dX11_wordOf_237 : decode cX11_wordOf 237 = .ok (.ireturn, 1) := by decide +kernel
theorem dX11_signAt_0 : decode cX11_signAt 0 = .ok (.aload_n 0, 1) := by decide +kernel
theorem dX11_signAt_1 : decode cX11_signAt 1 = .ok (.iload_n 1, 1) := by decide +kernel
theorem dX11_signAt_2 : decode cX11_signAt 2 = .ok (.invokevirtual 257, 3) := by decide +kernel
theorem dX11_signAt_5 : decode cX11_signAt 5 = .ok (.istore_n 2, 1) := by decide +kernel
theorem dX11_signAt_6 : decode cX11_signAt 6 = .ok (.aload_n 0, 1) := by decide +kernel
theorem dX11_signAt_7 : decode cX11_signAt 7 = .ok (.iload_n 1, 1) := by decide +kernel
theorem dX11_signAt_8 : decode cX11_signAt 8 = .ok (.iconst 1, 1) := by decide +kernel
theorem dX11_signAt_9 : decode cX11_signAt 9 = .ok (.iadd, 1) := by decide +kernel
theorem dX11_signAt_10 : decode cX11_signAt 10 = .ok (.invokevirtual 257, 3) := by decide +kernel
theorem dX11_signAt_13 : decode cX11_signAt 13 = .ok (.bipush 61, 2) := by decide +kernel
theorem dX11_signAt_15 : decode cX11_signAt 15 = .ok (.if_icmp .ne 7, 3) := by decide +kernel
theorem dX11_signAt_18 : decode cX11_signAt 18 = .ok (.iconst 1, 1) := by decide +kernel
theorem dX11_signAt_19 : decode cX11_signAt 19 = .ok (.goto 4, 3) := by decide +kernel
theorem dX11_signAt_22 : decode cX11_signAt 22 = .ok (.iconst 0, 1) := by decide +kernel
theorem dX11_signAt_23 : decode cX11_signAt 23 = .ok (.istore_n 3, 1) := by decide +kernel
theorem dX11_signAt_24 : decode cX11_signAt 24 = .ok (.iload_n 2, 1) := by decide +kernel
theorem dX11_signAt_25 : decode cX11_signAt 25 = .ok (.bipush 61, 2) := by decide +kernel
theorem dX11_signAt_27 : decode cX11_signAt 27 = .ok (.if_icmp .ne 15, 3) := by decide +kernel
theorem dX11_signAt_30 : decode cX11_signAt 30 = .ok (.iload_n 3, 1) := by decide +kernel
theorem dX11_signAt_31 : decode cX11_signAt 31 = .ok (.ifCond .eq 9, 3) := by decide +kernel
theorem dX11_signAt_34 : decode cX11_signAt 34 = .ok (.sipush 300, 3) := by decide +kernel
theorem dX11_signAt_37 : decode cX11_signAt 37 = .ok (.goto 4, 3) := by decide +kernel
theorem dX11_signAt_40 : decode cX11_signAt 40 = .ok (.iconst 0, 1) := by decide +kernel
theorem dX11_signAt_41 : decode cX11_signAt 41 = .ok (.ireturn, 1) := by decide +kernel
theorem dX11_signAt_42 : decode cX11_signAt 42 = .ok (.iload_n 2, 1) := by decide +kernel
theorem dX11_signAt_43 : decode cX11_signAt 43 = .ok (.bipush 33, 2) := by decide +kernel
theorem dX11_signAt_45 : decode cX11_signAt 45 = .ok (.if_icmp .ne 15, 3) := by decide +kernel
theorem dX11_signAt_48 : decode cX11_signAt 48 = .ok (.iload_n 3, 1) := by decide +kernel
theorem dX11_signAt_49 : decode cX11_signAt 49 = .ok (.ifCond .eq 9, 3) := by decide +kernel
theorem dX11_signAt_52 : decode cX11_signAt 52 = .ok (.sipush 301, 3) := by decide +kernel
theorem dX11_signAt_55 : decode cX11_signAt 55 = .ok (.goto 4, 3) := by decide +kernel
theorem dX11_signAt_58 : decode cX11_signAt 58 = .ok (.iconst 0, 1) := by decide +kernel
theorem dX11_signAt_59 : decode cX11_signAt 59 = .ok (.ireturn, 1) := by decide +kernel
theorem dX11_signAt_60 : decode cX11_signAt 60 = .ok (.iload_n 2, 1) := by decide +kernel
theorem dX11_signAt_61 : decode cX11_signAt 61 = .ok (.bipush 60, 2) := by decide +kernel
theorem dX11_signAt_63 : decode cX11_signAt 63 = .ok (.if_icmp .ne 15, 3) := by decide +kernel
theorem dX11_signAt_66 : decode cX11_signAt 66 = .ok (.iload_n 3, 1) := by decide +kernel
theorem dX11_signAt_67 : decode cX11_signAt 67 = .ok (.ifCond .eq 9, 3) := by decide +kernel
theorem dX11_signAt_70 : decode cX11_signAt 70 = .ok (.sipush 302, 3) := by decide +kernel
theorem dX11_signAt_73 : decode cX11_signAt 73 = .ok (.goto 4, 3) := by decide +kernel
theorem dX11_signAt_76 : decode cX11_signAt 76 = .ok (.iload_n 2, 1) := by decide +kernel
theorem dX11_signAt_77 : decode cX11_signAt 77 = .ok (.ireturn, 1) := by decide +kernel
theorem dX11_signAt_78 : decode cX11_signAt 78 = .ok (.iload_n 2, 1) := by decide +kernel
theorem dX11_signAt_79 : decode cX11_signAt 79 = .ok (.bipush 59, 2) := by decide +kernel
theorem dX11_signAt_81 : decode cX11_signAt 81 = .ok (.if_icmp .eq 33, 3) := by decide +kernel
theorem dX11_signAt_84 : decode cX11_signAt 84 = .ok (.iload_n 2, 1) := by decide +kernel
theorem dX11_signAt_85 : decode cX11_signAt 85 = .ok (.bipush 43, 2) := by decide +kernel
theorem dX11_signAt_87 : decode cX11_signAt 87 = .ok (.if_icmp .eq 27, 3) := by decide +kernel
theorem dX11_signAt_90 : decode cX11_signAt 90 = .ok (.iload_n 2, 1) := by decide +kernel
theorem dX11_signAt_91 : decode cX11_signAt 91 = .ok (.bipush 45, 2) := by decide +kernel
theorem dX11_signAt_93 : decode cX11_signAt 93 = .ok (.if_icmp .eq 21, 3) := by decide +kernel
theorem dX11_signAt_96 : decode cX11_signAt 96 = .ok (.iload_n 2, 1) := by decide +kernel
theorem dX11_signAt_97 : decode cX11_signAt 97 = .ok (.bipush 42, 2) := by decide +kernel
theorem dX11_signAt_99 : decode cX11_signAt 99 = .ok (.if_icmp .eq 15, 3) := by decide +kernel
theorem dX11_signAt_102 : decode cX11_signAt 102 = .ok (.iload_n 2, 1) := by decide +kernel
theorem dX11_signAt_103 : decode cX11_signAt 103 = .ok (.bipush 40, 2) := by decide +kernel
theorem dX11_signAt_105 : decode cX11_signAt 105 = .ok (.if_icmp .eq 9, 3) := by decide +kernel
theorem dX11_signAt_108 : decode cX11_signAt 108 = .ok (.iload_n 2, 1) := by decide +kernel
theorem dX11_signAt_109 : decode cX11_signAt 109 = .ok (.bipush 41, 2) := by decide +kernel
theorem dX11_signAt_111 : decode cX11_signAt 111 = .ok (.if_icmp .ne 7, 3) := by decide +kernel
theorem dX11_signAt_114 : decode cX11_signAt 114 = .ok (.iload_n 2, 1) := by decide +kernel
theorem dX11_signAt_115 : decode cX11_signAt 115 = .ok (.goto 4, 3) := by decide +kernel
theorem dX11_signAt_118 : decode cX11_signAt 118 = .ok (.iconst 0, 1) := by decide +kernel
theorem dX11_signAt_119 : decode cX11_signAt 119 = .ok (.ireturn, 1) := by decide +kernel
theorem dX11_scan_0 : decode cX11_scan 0 = .ok (.iload_n 1, 1) := by decide +kernel
theorem dX11_scan_1 : decode cX11_scan 1 = .ok (.istore_n 2, 1) := by decide +kernel
theorem dX11_scan_2 : decode cX11_scan 2 = .ok (.aload_n 0, 1) := by decide +kernel
theorem dX11_scan_3 : decode cX11_scan 3 = .ok (.iload_n 1, 1) := by decide +kernel
theorem dX11_scan_4 : decode cX11_scan 4 = .ok (.invokevirtual 308, 3) := by decide +kernel
theorem dX11_scan_7 : decode cX11_scan 7 = .ok (.ifCond .eq 103, 3) := by decide +kernel
theorem dX11_scan_10 : decode cX11_scan 10 = .ok (.lconst 0, 1) := by decide +kernel
theorem dX11_scan_11 : decode cX11_scan 11 = .ok (.lstore_n 3, 1) := by decide +kernel
theorem dX11_scan_12 : decode cX11_scan 12 = .ok (.aload_n 0, 1) := by decide +kernel
theorem dX11_scan_13 : decode cX11_scan 13 = .ok (.iload_n 2, 1) := by decide +kernel
theorem dX11_scan_14 : decode cX11_scan 14 = .ok (.invokevirtual 308, 3) := by decide +kernel
theorem dX11_scan_17 : decode cX11_scan 17 = .ok (.ifCond .eq 34, 3) := by decide +kernel
theorem dX11_scan_20 : decode cX11_scan 20 = .ok (.iload_n 2, 1) := by decide +kernel
theorem dX11_scan_21 : decode cX11_scan 21 = .ok (.iload_n 1, 1) := by decide +kernel
theorem dX11_scan_22 : decode cX11_scan 22 = .ok (.isub, 1) := by decide +kernel
theorem dX11_scan_23 : decode cX11_scan 23 = .ok (.bipush 8, 2) := by decide +kernel
theorem dX11_scan_25 : decode cX11_scan 25 = .ok (.if_icmp .ge 20, 3) := by decide +kernel
theorem dX11_scan_28 : decode cX11_scan 28 = .ok (.lload_n 3, 1) := by decide +kernel
theorem dX11_scan_29 : decode cX11_scan 29 = .ok (.ldc2_w 312, 3) := by decide +kernel
theorem dX11_scan_32 : decode cX11_scan 32 = .ok (.lmul, 1) := by decide +kernel
theorem dX11_scan_33 : decode cX11_scan 33 = .ok (.aload_n 0, 1) := by decide +kernel
theorem dX11_scan_34 : decode cX11_scan 34 = .ok (.iload_n 2, 1) := by decide +kernel
theorem dX11_scan_35 : decode cX11_scan 35 = .ok (.invokevirtual 257, 3) := by decide +kernel
theorem dX11_scan_38 : decode cX11_scan 38 = .ok (.i2l, 1) := by decide +kernel
theorem dX11_scan_39 : decode cX11_scan 39 = .ok (.ladd, 1) := by decide +kernel
theorem dX11_scan_40 : decode cX11_scan 40 = .ok (.ldc2_w 314, 3) := by decide +kernel
theorem dX11_scan_43 : decode cX11_scan 43 = .ok (.lsub, 1) := by decide +kernel
theorem dX11_scan_44 : decode cX11_scan 44 = .ok (.lstore_n 3, 1) := by decide +kernel
theorem dX11_scan_45 : decode cX11_scan 45 = .ok (.iinc 2 1, 3) := by decide +kernel
theorem dX11_scan_48 : decode cX11_scan 48 = .ok (.goto (-36), 3) := by decide +kernel
theorem dX11_scan_51 : decode cX11_scan 51 = .ok (.iload_n 2, 1) := by decide +kernel
theorem dX11_scan_52 : decode cX11_scan 52 = .ok (.iload_n 1, 1) := by decide +kernel
theorem dX11_scan_53 : decode cX11_scan 53 = .ok (.isub, 1) := by decide +kernel
theorem dX11_scan_54 : decode cX11_scan 54 = .ok (.bipush 8, 2) := by decide +kernel
theorem dX11_scan_56 : decode cX11_scan 56 = .ok (.if_icmp .le 7, 3) := by decide +kernel
theorem dX11_scan_59 : decode cX11_scan 59 = .ok (.iconst (-1), 1) := by decide +kernel
theorem dX11_scan_60 : decode cX11_scan 60 = .ok (.goto 7, 3) := by decide +kernel
theorem dX11_scan_63 : decode cX11_scan 63 = .ok (.lload_n 3, 1) := by decide +kernel
theorem dX11_scan_64 : decode cX11_scan 64 = .ok (.invokestatic 316, 3) := by decide +kernel
theorem dX11_scan_67 : decode cX11_scan 67 = .ok (.istore 5, 2) := by decide +kernel
theorem dX11_scan_69 : decode cX11_scan 69 = .ok (.aload_n 0, 1) := by decide +kernel
theorem dX11_scan_70 : decode cX11_scan 70 = .ok (.getfield 22, 3) := by decide +kernel
theorem dX11_scan_73 : decode cX11_scan 73 = .ok (.aload_n 0, 1) := by decide +kernel
theorem dX11_scan_74 : decode cX11_scan 74 = .ok (.getfield 261, 3) := by decide +kernel
theorem dX11_scan_77 : decode cX11_scan 77 = .ok (.lload_n 3, 1) := by decide +kernel
theorem dX11_scan_78 : decode cX11_scan 78 = .ok (.lastore, 1) := by decide +kernel
theorem dX11_scan_79 : decode cX11_scan 79 = .ok (.aload_n 0, 1) := by decide +kernel
theorem dX11_scan_80 : decode cX11_scan 80 = .ok (.iload_n 2, 1) := by decide +kernel
theorem dX11_scan_81 : decode cX11_scan 81 = .ok (.iload_n 1, 1) := by decide +kernel
theorem dX11_scan_82 : decode cX11_scan 82 = .ok (.isub, 1) := by decide +kernel
theorem dX11_scan_83 : decode cX11_scan 83 = .ok (.bipush 8, 2) := by decide +kernel
theorem dX11_scan_85 : decode cX11_scan 85 = .ok (.if_icmp .le 7, 3) := by decide +kernel
theorem dX11_scan_88 : decode cX11_scan 88 = .ok (.iconst 5, 1) := by decide +kernel
theorem dX11_scan_89 : decode cX11_scan 89 = .ok (.goto 13, 3) := by decide +kernel
theorem dX11_scan_92 : decode cX11_scan 92 = .ok (.iload 5, 2) := by decide +kernel
theorem dX11_scan_94 : decode cX11_scan 94 = .ok (.ifCond .lt 7, 3) := by decide +kernel
theorem dX11_scan_97 : decode cX11_scan 97 = .ok (.iconst 3, 1) := by decide +kernel
theorem dX11_scan_98 : decode cX11_scan 98 = .ok (.goto 4, 3) := by decide +kernel
theorem dX11_scan_101 : decode cX11_scan 101 = .ok (.iconst 0, 1) := by decide +kernel
theorem dX11_scan_102 : decode cX11_scan 102 = .ok (.iload_n 1, 1) := by decide +kernel
theorem dX11_scan_103 : decode cX11_scan 103 = .ok (.iload 5, 2) := by decide +kernel
theorem dX11_scan_105 : decode cX11_scan 105 = .ok (.invokevirtual 320, 3) := by decide +kernel
theorem dX11_scan_108 : decode cX11_scan 108 = .ok (.iload_n 2, 1) := by decide +kernel
theorem dX11_scan_109 : decode cX11_scan 109 = .ok (.ireturn, 1) := by decide +kernel
theorem dX11_scan_110 : decode cX11_scan 110 = .ok (.aload_n 0, 1) := by decide +kernel
theorem dX11_scan_111 : decode cX11_scan 111 = .ok (.iload_n 1, 1) := by decide +kernel
theorem dX11_scan_112 : decode cX11_scan 112 = .ok (.invokevirtual 324, 3) := by decide +kernel
theorem dX11_scan_115 : decode cX11_scan 115 = .ok (.ifCond .eq 60, 3) := by decide +kernel
theorem dX11_scan_118 : decode cX11_scan 118 = .ok (.iconst 0, 1) := by decide +kernel
theorem dX11_scan_119 : decode cX11_scan 119 = .ok (.istore_n 3, 1) := by decide +kernel
theorem dX11_scan_120 : decode cX11_scan 120 = .ok (.aload_n 0, 1) := by decide +kernel
theorem dX11_scan_121 : decode cX11_scan 121 = .ok (.iload_n 2, 1) := by decide +kernel
theorem dX11_scan_122 : decode cX11_scan 122 = .ok (.invokevirtual 324, 3) := by decide +kernel
theorem dX11_scan_125 : decode cX11_scan 125 = .ok (.ifCond .eq 30, 3) := by decide +kernel
theorem dX11_scan_128 : decode cX11_scan 128 = .ok (.iload_n 2, 1) := by decide +kernel
theorem dX11_scan_129 : decode cX11_scan 129 = .ok (.iload_n 1, 1) := by decide +kernel
theorem dX11_scan_130 : decode cX11_scan 130 = .ok (.isub, 1) := by decide +kernel
theorem dX11_scan_131 : decode cX11_scan 131 = .ok (.iconst 4, 1) := by decide +kernel
theorem dX11_scan_132 : decode cX11_scan 132 = .ok (.if_icmp .ge 17, 3) := by decide +kernel
theorem dX11_scan_135 : decode cX11_scan 135 = .ok (.bipush 10, 2) := by decide +kernel
theorem dX11_scan_137 : decode cX11_scan 137 = .ok (.iload_n 3, 1) := by decide +kernel
theorem dX11_scan_138 : decode cX11_scan 138 = .ok (.imul, 1) := by decide +kernel
theorem dX11_scan_139 : decode cX11_scan 139 = .ok (.aload_n 0, 1) := by decide +kernel
theorem dX11_scan_140 : decode cX11_scan 140 = .ok (.iload_n 2, 1) := by decide +kernel
theorem dX11_scan_141 : decode cX11_scan 141 = .ok (.invokevirtual 257, 3) := by decide +kernel
theorem dX11_scan_144 : decode cX11_scan 144 = .ok (.iadd, 1) := by decide +kernel
theorem dX11_scan_145 : decode cX11_scan 145 = .ok (.bipush 48, 2) := by decide +kernel
theorem dX11_scan_147 : decode cX11_scan 147 = .ok (.isub, 1) := by decide +kernel
theorem dX11_scan_148 : decode cX11_scan 148 = .ok (.istore_n 3, 1) := by decide +kernel
theorem dX11_scan_149 : decode cX11_scan 149 = .ok (.iinc 2 1, 3) := by decide +kernel
theorem dX11_scan_152 : decode cX11_scan 152 = .ok (.goto (-32), 3) := by decide +kernel
theorem dX11_scan_155 : decode cX11_scan 155 = .ok (.aload_n 0, 1) := by decide +kernel
theorem dX11_scan_156 : decode cX11_scan 156 = .ok (.iload_n 2, 1) := by decide +kernel
theorem dX11_scan_157 : decode cX11_scan 157 = .ok (.iload_n 1, 1) := by decide +kernel
theorem dX11_scan_158 : decode cX11_scan 158 = .ok (.isub, 1) := by decide +kernel
theorem dX11_scan_159 : decode cX11_scan 159 = .ok (.iconst 4, 1) := by decide +kernel
theorem dX11_scan_160 : decode cX11_scan 160 = .ok (.if_icmp .le 7, 3) := by decide +kernel
theorem dX11_scan_163 : decode cX11_scan 163 = .ok (.iconst 5, 1) := by decide +kernel
theorem dX11_scan_164 : decode cX11_scan 164 = .ok (.goto 4, 3) := by decide +kernel
theorem dX11_scan_167 : decode cX11_scan 167 = .ok (.iconst 1, 1) := by decide +kernel
theorem dX11_scan_168 : decode cX11_scan 168 = .ok (.iload_n 1, 1) := by decide +kernel
theorem dX11_scan_169 : decode cX11_scan 169 = .ok (.iload_n 3, 1) := by decide +kernel
theorem dX11_scan_170 : decode cX11_scan 170 = .ok (.invokevirtual 320, 3) := by decide +kernel
theorem dX11_scan_173 : decode cX11_scan 173 = .ok (.iload_n 2, 1) := by decide +kernel
theorem dX11_scan_174 : decode cX11_scan 174 = .ok (.ireturn, 1) := by decide +kernel
theorem dX11_scan_175 : decode cX11_scan 175 = .ok (.aload_n 0, 1) := by decide +kernel
theorem dX11_scan_176 : decode cX11_scan 176 = .ok (.iload_n 1, 1) := by decide +kernel
theorem dX11_scan_177 : decode cX11_scan 177 = .ok (.invokevirtual 327, 3) := by decide +kernel
theorem dX11_scan_180 : decode cX11_scan 180 = .ok (.istore_n 3, 1) := by decide +kernel
theorem dX11_scan_181 : decode cX11_scan 181 = .ok (.aload_n 0, 1) := by decide +kernel
theorem dX11_scan_182 : decode cX11_scan 182 = .ok (.iload_n 3, 1) := by decide +kernel
theorem dX11_scan_183 : decode cX11_scan 183 = .ok (.ifCond .ne 7, 3) := by decide +kernel
theorem dX11_scan_186 : decode cX11_scan 186 = .ok (.iconst 5, 1) := by decide +kernel
theorem dX11_scan_187 : decode cX11_scan 187 = .ok (.goto 4, 3) := by decide +kernel
theorem dX11_scan_190 : decode cX11_scan 190 = .ok (.iconst 2, 1) := by decide +kernel
theorem dX11_scan_191 : decode cX11_scan 191 = .ok (.iload_n 1, 1) := by decide +kernel
theorem dX11_scan_192 : decode cX11_scan 192 = .ok (.iload_n 3, 1) := by decide +kernel
theorem dX11_scan_193 : decode cX11_scan 193 = .ok (.invokevirtual 320, 3) := by decide +kernel
theorem dX11_scan_196 : decode cX11_scan 196 = .ok (.iload_n 1, 1) := by decide +kernel
theorem dX11_scan_197 : decode cX11_scan 197 = .ok (.iload_n 3, 1) := by decide +kernel
theorem dX11_scan_198 : decode cX11_scan 198 = .ok (.sipush 300, 3) := by decide +kernel
theorem dX11_scan_201 : decode cX11_scan 201 = .ok (.if_icmp .lt 7, 3) := by decide +kernel
theorem dX11_scan_204 : decode cX11_scan 204 = .ok (.iconst 2, 1) := by decide +kernel
theorem dX11_scan_205 : decode cX11_scan 205 = .ok (.goto 4, 3) := by decide +kernel
theorem dX11_scan_208 : decode cX11_scan 208 = .ok (.iconst 1, 1) := by decide +kernel
theorem dX11_scan_209 : decode cX11_scan 209 = .ok (.iadd, 1) := by decide +kernel
theorem dX11_scan_210 : decode cX11_scan 210 = .ok (.ireturn, 1) := by decide +kernel
theorem dX11_scanAll_0 : decode cX11_scanAll 0 = .ok (.aload_n 0, 1) := by decide +kernel
theorem dX11_scanAll_1 : decode cX11_scanAll 1 = .ok (.iconst 0, 1) := by decide +kernel
theorem dX11_scanAll_2 : decode cX11_scanAll 2 = .ok (.putfield 261, 3) := by decide +kernel
theorem dX11_scanAll_5 : decode cX11_scanAll 5 = .ok (.iconst 0, 1) := by decide +kernel
theorem dX11_scanAll_6 : decode cX11_scanAll 6 = .ok (.istore_n 1, 1) := by decide +kernel
theorem dX11_scanAll_7 : decode cX11_scanAll 7 = .ok (.iconst 1, 1) := by decide +kernel
theorem dX11_scanAll_8 : decode cX11_scanAll 8 = .ok (.istore_n 2, 1) := by decide +kernel
theorem dX11_scanAll_9 : decode cX11_scanAll 9 = .ok (.iload_n 1, 1) := by decide +kernel
theorem dX11_scanAll_10 : decode cX11_scanAll 10 = .ok (.aload_n 0, 1) := by decide +kernel
theorem dX11_scanAll_11 : decode cX11_scanAll 11 = .ok (.getfield 250, 3) := by decide +kernel
theorem dX11_scanAll_14 : decode cX11_scanAll 14 = .ok (.if_icmp .ge 73, 3) := by decide +kernel
theorem dX11_scanAll_17 : decode cX11_scanAll 17 = .ok (.iload_n 2, 1) := by decide +kernel
theorem dX11_scanAll_18 : decode cX11_scanAll 18 = .ok (.ifCond .eq 69, 3) := by decide +kernel
theorem dX11_scanAll_21 : decode cX11_scanAll 21 = .ok (.aload_n 0, 1) := by decide +kernel
theorem dX11_scanAll_22 : decode cX11_scanAll 22 = .ok (.iload_n 1, 1) := by decide +kernel
theorem dX11_scanAll_23 : decode cX11_scanAll 23 = .ok (.invokevirtual 257, 3) := by decide +kernel
theorem dX11_scanAll_26 : decode cX11_scanAll 26 = .ok (.istore_n 3, 1) := by decide +kernel
theorem dX11_scanAll_27 : decode cX11_scanAll 27 = .ok (.iload_n 3, 1) := by decide +kernel
theorem dX11_scanAll_28 : decode cX11_scanAll 28 = .ok (.bipush 32, 2) := by decide +kernel
theorem dX11_scanAll_30 : decode cX11_scanAll 30 = .ok (.if_icmp .eq 21, 3) := by decide +kernel
theorem dX11_scanAll_33 : decode cX11_scanAll 33 = .ok (.iload_n 3, 1) := by decide +kernel
theorem dX11_scanAll_34 : decode cX11_scanAll 34 = .ok (.bipush 9, 2) := by decide +kernel
theorem dX11_scanAll_36 : decode cX11_scanAll 36 = .ok (.if_icmp .eq 15, 3) := by decide +kernel
theorem dX11_scanAll_39 : decode cX11_scanAll 39 = .ok (.iload_n 3, 1) := by decide +kernel
theorem dX11_scanAll_40 : decode cX11_scanAll 40 = .ok (.bipush 10, 2) := by decide +kernel
theorem dX11_scanAll_42 : decode cX11_scanAll 42 = .ok (.if_icmp .eq 9, 3) := by decide +kernel
theorem dX11_scanAll_45 : decode cX11_scanAll 45 = .ok (.iload_n 3, 1) := by decide +kernel
theorem dX11_scanAll_46 : decode cX11_scanAll 46 = .ok (.bipush 13, 2) := by decide +kernel
theorem dX11_scanAll_48 : decode cX11_scanAll 48 = .ok (.if_icmp .ne 9, 3) := by decide +kernel
theorem dX11_scanAll_51 : decode cX11_scanAll 51 = .ok (.iinc 1 1, 3) := by decide +kernel
theorem dX11_scanAll_54 : decode cX11_scanAll 54 = .ok (.goto (-45), 3) := by decide +kernel
theorem dX11_scanAll_57 : decode cX11_scanAll 57 = .ok (.aload_n 0, 1) := by decide +kernel
theorem dX11_scanAll_58 : decode cX11_scanAll 58 = .ok (.iload_n 1, 1) := by decide +kernel
theorem dX11_scanAll_59 : decode cX11_scanAll 59 = .ok (.invokevirtual 330, 3) := by decide +kernel
theorem dX11_scanAll_62 : decode cX11_scanAll 62 = .ok (.istore_n 1, 1) := by decide +kernel
theorem dX11_scanAll_63 : decode cX11_scanAll 63 = .ok (.aload_n 0, 1) := by decide +kernel
theorem dX11_scanAll_64 : decode cX11_scanAll 64 = .ok (.getfield 13, 3) := by decide +kernel
theorem dX11_scanAll_67 : decode cX11_scanAll 67 = .ok (.aload_n 0, 1) := by decide +kernel
theorem dX11_scanAll_68 : decode cX11_scanAll 68 = .ok (.getfield 261, 3) := by decide +kernel
theorem dX11_scanAll_71 : decode cX11_scanAll 71 = .ok (.iconst 1, 1) := by decide +kernel
theorem dX11_scanAll_72 : decode cX11_scanAll 72 = .ok (.isub, 1) := by decide +kernel
theorem dX11_scanAll_73 : decode cX11_scanAll 73 = .ok (.iaload, 1) := by decide +kernel
