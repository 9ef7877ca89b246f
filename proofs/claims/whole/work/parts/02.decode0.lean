theorem dX0_init_0 : decode cX0_init 0 = .ok (.aload_n 0, 1) := by decide +kernel
theorem dX0_init_1 : decode cX0_init 1 = .ok (.invokespecial 5, 3) := by decide +kernel
theorem dX0_init_4 : decode cX0_init 4 = .ok (.aload_n 0, 1) := by decide +kernel
theorem dX0_init_5 : decode cX0_init 5 = .ok (.bipush 10, 2) := by decide +kernel
theorem dX0_init_7 : decode cX0_init 7 = .ok (.newarray .int, 2) := by decide +kernel
theorem dX0_init_9 : decode cX0_init 9 = .ok (.putfield 11, 3) := by decide +kernel
theorem dX0_init_12 : decode cX0_init 12 = .ok (.aload_n 0, 1) := by decide +kernel
theorem dX0_init_13 : decode cX0_init 13 = .ok (.bipush 8, 2) := by decide +kernel
theorem dX0_init_15 : decode cX0_init 15 = .ok (.newarray .int, 2) := by decide +kernel
theorem dX0_init_17 : decode cX0_init 17 = .ok (.putfield 15, 3) := by decide +kernel
theorem dX0_init_20 : decode cX0_init 20 = .ok (.aload_n 0, 1) := by decide +kernel
theorem dX0_init_21 : decode cX0_init 21 = .ok (.bipush 8, 2) := by decide +kernel
theorem dX0_init_23 : decode cX0_init 23 = .ok (.newarray .boolean, 2) := by decide +kernel
theorem dX0_init_25 : decode cX0_init 25 = .ok (.putfield 18, 3) := by decide +kernel
theorem dX0_init_28 : decode cX0_init 28 = .ok (.aload_n 0, 1) := by decide +kernel
theorem dX0_init_29 : decode cX0_init 29 = .ok (.bipush 10, 2) := by decide +kernel
theorem dX0_init_31 : decode cX0_init 31 = .ok (.newarray .int, 2) := by decide +kernel
theorem dX0_init_33 : decode cX0_init 33 = .ok (.putfield 22, 3) := by decide +kernel
theorem dX0_init_36 : decode cX0_init 36 = .ok (.aload_n 0, 1) := by decide +kernel
theorem dX0_init_37 : decode cX0_init 37 = .ok (.sipush 2816, 3) := by decide +kernel
theorem dX0_init_40 : decode cX0_init 40 = .ok (.newarray .int, 2) := by decide +kernel
theorem dX0_init_42 : decode cX0_init 42 = .ok (.putfield 25, 3) := by decide +kernel
theorem dX0_init_45 : decode cX0_init 45 = .ok (.aload_n 0, 1) := by decide +kernel
theorem dX0_init_46 : decode cX0_init 46 = .ok (.getfield 22, 3) := by decide +kernel
theorem dX0_init_49 : decode cX0_init 49 = .ok (.iconst 1, 1) := by decide +kernel
theorem dX0_init_50 : decode cX0_init 50 = .ok (.invokestatic 28, 3) := by decide +kernel
theorem dX0_init_53 : decode cX0_init 53 = .ok (.return_, 1) := by decide +kernel
theorem dX0_add_0 : decode cX0_add 0 = .ok (.aload_n 0, 1) := by decide +kernel
theorem dX0_add_1 : decode cX0_add 1 = .ok (.getfield 34, 3) := by decide +kernel
theorem dX0_add_4 : decode cX0_add 4 = .ok (.bipush 8, 2) := by decide +kernel
theorem dX0_add_6 : decode cX0_add 6 = .ok (.if_icmp .lt 5, 3) := by decide +kernel
theorem dX0_add_9 : decode cX0_add 9 = .ok (.iconst (-1), 1) := by decide +kernel
theorem dX0_add_10 : decode cX0_add 10 = .ok (.ireturn, 1) := by decide +kernel
theorem dX0_add_11 : decode cX0_add 11 = .ok (.aload_n 0, 1) := by decide +kernel
theorem dX0_add_12 : decode cX0_add 12 = .ok (.getfield 15, 3) := by decide +kernel
theorem dX0_add_15 : decode cX0_add 15 = .ok (.aload_n 0, 1) := by decide +kernel
theorem dX0_add_16 : decode cX0_add 16 = .ok (.getfield 34, 3) := by decide +kernel
theorem dX0_add_19 : decode cX0_add 19 = .ok (.iload_n 1, 1) := by decide +kernel
theorem dX0_add_20 : decode cX0_add 20 = .ok (.iastore, 1) := by decide +kernel
theorem dX0_add_21 : decode cX0_add 21 = .ok (.aload_n 0, 1) := by decide +kernel
theorem dX0_add_22 : decode cX0_add 22 = .ok (.dup, 1) := by decide +kernel
theorem dX0_add_23 : decode cX0_add 23 = .ok (.getfield 34, 3) := by decide +kernel
theorem dX0_add_26 : decode cX0_add 26 = .ok (.iconst 1, 1) := by decide +kernel
theorem dX0_add_27 : decode cX0_add 27 = .ok (.iadd, 1) := by decide +kernel
theorem dX0_add_28 : decode cX0_add 28 = .ok (.putfield 34, 3) := by decide +kernel
theorem dX0_add_31 : decode cX0_add 31 = .ok (.aload_n 0, 1) := by decide +kernel
theorem dX0_add_32 : decode cX0_add 32 = .ok (.iconst 0, 1) := by decide +kernel
theorem dX0_add_33 : decode cX0_add 33 = .ok (.putfield 38, 3) := by decide +kernel
theorem dX0_add_36 : decode cX0_add 36 = .ok (.aload_n 0, 1) := by decide +kernel
theorem dX0_add_37 : decode cX0_add 37 = .ok (.getfield 34, 3) := by decide +kernel
theorem dX0_add_40 : decode cX0_add 40 = .ok (.iconst 1, 1) := by decide +kernel
theorem dX0_add_41 : decode cX0_add 41 = .ok (.isub, 1) := by decide +kernel
theorem dX0_add_42 : decode cX0_add 42 = .ok (.ireturn, 1) := by decide +kernel
theorem dX0_setAway_0 : decode cX0_setAway 0 = .ok (.aload_n 0, 1) := by decide +kernel
theorem dX0_setAway_1 : decode cX0_setAway 1 = .ok (.getfield 18, 3) := by decide +kernel
theorem dX0_setAway_4 : decode cX0_setAway 4 = .ok (.iload_n 1, 1) := by decide +kernel
theorem dX0_setAway_5 : decode cX0_setAway 5 = .ok (.iload_n 2, 1) := by decide +kernel
theorem dX0_setAway_6 : decode cX0_setAway 6 = .ok (.bastore, 1) := by decide +kernel
theorem dX0_setAway_7 : decode cX0_setAway 7 = .ok (.aload_n 0, 1) := by decide +kernel
theorem dX0_setAway_8 : decode cX0_setAway 8 = .ok (.iconst 0, 1) := by decide +kernel
theorem dX0_setAway_9 : decode cX0_setAway 9 = .ok (.putfield 38, 3) := by decide +kernel
theorem dX0_setAway_12 : decode cX0_setAway 12 = .ok (.return_, 1) := by decide +kernel
theorem dX0_setWeight_0 : decode cX0_setWeight 0 = .ok (.aload_n 0, 1) := by decide +kernel
theorem dX0_setWeight_1 : decode cX0_setWeight 1 = .ok (.getfield 22, 3) := by decide +kernel
theorem dX0_setWeight_4 : decode cX0_setWeight 4 = .ok (.iload_n 1, 1) := by decide +kernel
theorem dX0_setWeight_5 : decode cX0_setWeight 5 = .ok (.iload_n 2, 1) := by decide +kernel
theorem dX0_setWeight_6 : decode cX0_setWeight 6 = .ok (.iastore, 1) := by decide +kernel
theorem dX0_setWeight_7 : decode cX0_setWeight 7 = .ok (.aload_n 0, 1) := by decide +kernel
theorem dX0_setWeight_8 : decode cX0_setWeight 8 = .ok (.iconst 0, 1) := by decide +kernel
theorem dX0_setWeight_9 : decode cX0_setWeight 9 = .ok (.putfield 38, 3) := by decide +kernel
theorem dX0_setWeight_12 : decode cX0_setWeight 12 = .ok (.return_, 1) := by decide +kernel
theorem dX0_solve_0 : decode cX0_solve 0 = .ok (.iload_n 1, 1) := by decide +kernel
theorem dX0_solve_1 : decode cX0_solve 1 = .ok (.aload_n 0, 1) := by decide +kernel
theorem dX0_solve_2 : decode cX0_solve 2 = .ok (.getfield 38, 3) := by decide +kernel
theorem dX0_solve_5 : decode cX0_solve 5 = .ok (.if_icmp .ne 4, 3) := by decide +kernel
theorem dX0_solve_8 : decode cX0_solve 8 = .ok (.return_, 1) := by decide +kernel
theorem dX0_solve_9 : decode cX0_solve 9 = .ok (.aload_n 0, 1) := by decide +kernel
theorem dX0_solve_10 : decode cX0_solve 10 = .ok (.iload_n 1, 1) := by decide +kernel
theorem dX0_solve_11 : decode cX0_solve 11 = .ok (.putfield 38, 3) := by decide +kernel
theorem dX0_solve_14 : decode cX0_solve 14 = .ok (.iconst 1, 1) := by decide +kernel
theorem dX0_solve_15 : decode cX0_solve 15 = .ok (.aload_n 0, 1) := by decide +kernel
theorem dX0_solve_16 : decode cX0_solve 16 = .ok (.getfield 34, 3) := by decide +kernel
theorem dX0_solve_19 : decode cX0_solve 19 = .ok (.ishl, 1) := by decide +kernel
theorem dX0_solve_20 : decode cX0_solve 20 = .ok (.istore_n 2, 1) := by decide +kernel
theorem dX0_solve_21 : decode cX0_solve 21 = .ok (.iconst 0, 1) := by decide +kernel
theorem dX0_solve_22 : decode cX0_solve 22 = .ok (.istore_n 3, 1) := by decide +kernel
theorem dX0_solve_23 : decode cX0_solve 23 = .ok (.iload_n 3, 1) := by decide +kernel
theorem dX0_solve_24 : decode cX0_solve 24 = .ok (.iload_n 2, 1) := by decide +kernel
theorem dX0_solve_25 : decode cX0_solve 25 = .ok (.if_icmp .ge 22, 3) := by decide +kernel
theorem dX0_solve_28 : decode cX0_solve 28 = .ok (.aload_n 0, 1) := by decide +kernel
theorem dX0_solve_29 : decode cX0_solve 29 = .ok (.getfield 25, 3) := by decide +kernel
theorem dX0_solve_32 : decode cX0_solve 32 = .ok (.iload_n 1, 1) := by decide +kernel
theorem dX0_solve_33 : decode cX0_solve 33 = .ok (.sipush 256, 3) := by decide +kernel
theorem dX0_solve_36 : decode cX0_solve 36 = .ok (.imul, 1) := by decide +kernel
theorem dX0_solve_37 : decode cX0_solve 37 = .ok (.iload_n 3, 1) := by decide +kernel
theorem dX0_solve_38 : decode cX0_solve 38 = .ok (.iadd, 1) := by decide +kernel
theorem dX0_solve_39 : decode cX0_solve 39 = .ok (.iconst 0, 1) := by decide +kernel
theorem dX0_solve_40 : decode cX0_solve 40 = .ok (.iastore, 1) := by decide +kernel
theorem dX0_solve_41 : decode cX0_solve 41 = .ok (.iinc 3 1, 3) := by decide +kernel
theorem dX0_solve_44 : decode cX0_solve 44 = .ok (.goto (-21), 3) := by decide +kernel
theorem dX0_solve_47 : decode cX0_solve 47 = .ok (.iload_n 1, 1) := by decide +kernel
theorem dX0_solve_48 : decode cX0_solve 48 = .ok (.iconst 1, 1) := by decide +kernel
theorem dX0_solve_49 : decode cX0_solve 49 = .ok (.isub, 1) := by decide +kernel
theorem dX0_solve_50 : decode cX0_solve 50 = .ok (.istore_n 3, 1) := by decide +kernel
theorem dX0_solve_51 : decode cX0_solve 51 = .ok (.iload_n 3, 1) := by decide +kernel
theorem dX0_solve_52 : decode cX0_solve 52 = .ok (.ifCond .lt 53, 3) := by decide +kernel
theorem dX0_solve_55 : decode cX0_solve 55 = .ok (.iconst 0, 1) := by decide +kernel
theorem dX0_solve_56 : decode cX0_solve 56 = .ok (.istore 4, 2) := by decide +kernel
theorem dX0_solve_58 : decode cX0_solve 58 = .ok (.iload 4, 2) := by decide +kernel
theorem dX0_solve_60 : decode cX0_solve 60 = .ok (.iload_n 2, 1) := by decide +kernel
theorem dX0_solve_61 : decode cX0_solve 61 = .ok (.if_icmp .ge 38, 3) := by decide +kernel
theorem dX0_solve_64 : decode cX0_solve 64 = .ok (.iload 4, 2) := by decide +kernel
theorem dX0_solve_66 : decode cX0_solve 66 = .ok (.invokestatic 41, 3) := by decide +kernel
theorem dX0_solve_69 : decode cX0_solve 69 = .ok (.iload_n 3, 1) := by decide +kernel
theorem dX0_solve_70 : decode cX0_solve 70 = .ok (.if_icmp .gt 23, 3) := by decide +kernel
theorem dX0_solve_73 : decode cX0_solve 73 = .ok (.aload_n 0, 1) := by decide +kernel
theorem dX0_solve_74 : decode cX0_solve 74 = .ok (.getfield 25, 3) := by decide +kernel
theorem dX0_solve_77 : decode cX0_solve 77 = .ok (.iload_n 3, 1) := by decide +kernel
theorem dX0_solve_78 : decode cX0_solve 78 = .ok (.sipush 256, 3) := by decide +kernel
theorem dX0_solve_81 : decode cX0_solve 81 = .ok (.imul, 1) := by decide +kernel
theorem dX0_solve_82 : decode cX0_solve 82 = .ok (.iload 4, 2) := by decide +kernel
theorem dX0_solve_84 : decode cX0_solve 84 = .ok (.iadd, 1) := by decide +kernel
theorem dX0_solve_85 : decode cX0_solve 85 = .ok (.aload_n 0, 1) := by decide +kernel
theorem dX0_solve_86 : decode cX0_solve 86 = .ok (.iload_n 3, 1) := by decide +kernel
theorem dX0_solve_87 : decode cX0_solve 87 = .ok (.iload 4, 2) := by decide +kernel
theorem dX0_solve_89 : decode cX0_solve 89 = .ok (.invokevirtual 47, 3) := by decide +kernel
theorem dX0_solve_92 : decode cX0_solve 92 = .ok (.iastore, 1) := by decide +kernel
theorem dX0_solve_93 : decode cX0_solve 93 = .ok (.iinc 4 1, 3) := by decide +kernel
theorem dX0_solve_96 : decode cX0_solve 96 = .ok (.goto (-38), 3) := by decide +kernel
theorem dX0_solve_99 : decode cX0_solve 99 = .ok (.iinc 3 (-1), 3) := by decide +kernel
theorem dX0_solve_102 : decode cX0_solve 102 = .ok (.goto (-51), 3) := by decide +kernel
theorem dX0_solve_105 : decode cX0_solve 105 = .ok (.aload_n 0, 1) := by decide +kernel
theorem dX0_solve_106 : decode cX0_solve 106 = .ok (.iload_n 1, 1) := by decide +kernel
theorem dX0_solve_107 : decode cX0_solve 107 = .ok (.invokevirtual 51, 3) := by decide +kernel
theorem dX0_solve_110 : decode cX0_solve 110 = .ok (.return_, 1) := by decide +kernel
theorem dX0_canDrive_0 : decode cX0_canDrive 0 = .ok (.aload_n 0, 1) := by decide +kernel
theorem dX0_canDrive_1 : decode cX0_canDrive 1 = .ok (.getfield 18, 3) := by decide +kernel
theorem dX0_canDrive_4 : decode cX0_canDrive 4 = .ok (.iload_n 1, 1) := by decide +kernel
theorem dX0_canDrive_5 : decode cX0_canDrive 5 = .ok (.baload, 1) := by decide +kernel
theorem dX0_canDrive_6 : decode cX0_canDrive 6 = .ok (.ifCond .ne 28, 3) := by decide +kernel
theorem dX0_canDrive_9 : decode cX0_canDrive 9 = .ok (.aload_n 0, 1) := by decide +kernel
theorem dX0_canDrive_10 : decode cX0_canDrive 10 = .ok (.getfield 15, 3) := by decide +kernel
theorem dX0_canDrive_13 : decode cX0_canDrive 13 = .ok (.iload_n 1, 1) := by decide +kernel
theorem dX0_canDrive_14 : decode cX0_canDrive 14 = .ok (.iaload, 1) := by decide +kernel
theorem dX0_canDrive_15 : decode cX0_canDrive 15 = .ok (.iload_n 2, 1) := by decide +kernel
theorem dX0_canDrive_16 : decode cX0_canDrive 16 = .ok (.ishr, 1) := by decide +kernel
theorem dX0_canDrive_17 : decode cX0_canDrive 17 = .ok (.iconst 1, 1) := by decide +kernel
theorem dX0_canDrive_18 : decode cX0_canDrive 18 = .ok (.iand, 1) := by decide +kernel
theorem dX0_canDrive_19 : decode cX0_canDrive 19 = .ok (.ifCond .eq 15, 3) := by decide +kernel
theorem dX0_canDrive_22 : decode cX0_canDrive 22 = .ok (.iload_n 3, 1) := by decide +kernel
theorem dX0_canDrive_23 : decode cX0_canDrive 23 = .ok (.iload_n 1, 1) := by decide +kernel
theorem dX0_canDrive_24 : decode cX0_canDrive 24 = .ok (.ishr, 1) := by decide +kernel
theorem dX0_canDrive_25 : decode cX0_canDrive 25 = .ok (.iconst 1, 1) := by decide +kernel
theorem dX0_canDrive_26 : decode cX0_canDrive 26 = .ok (.iand, 1) := by decide +kernel
theorem dX0_canDrive_27 : decode cX0_canDrive 27 = .ok (.ifCond .ne 7, 3) := by decide +kernel
theorem dX0_canDrive_30 : decode cX0_canDrive 30 = .ok (.iconst 1, 1) := by decide +kernel
theorem dX0_canDrive_31 : decode cX0_canDrive 31 = .ok (.goto 4, 3) := by decide +kernel
theorem dX0_canDrive_34 : decode cX0_canDrive 34 = .ok (.iconst 0, 1) := by decide +kernel
theorem dX0_canDrive_35 : decode cX0_canDrive 35 = .ok (.ireturn, 1) := by decide +kernel
theorem dX0_leastFrom_0 : decode cX0_leastFrom 0 = .ok (.iload_n 1, 1) := by decide +kernel
theorem dX0_leastFrom_1 : decode cX0_leastFrom 1 = .ok (.iconst 1, 1) := by decide +kernel
theorem dX0_leastFrom_2 : decode cX0_leastFrom 2 = .ok (.iadd, 1) := by decide +kernel
theorem dX0_leastFrom_3 : decode cX0_leastFrom 3 = .ok (.sipush 256, 3) := by decide +kernel
theorem dX0_leastFrom_6 : decode cX0_leastFrom 6 = .ok (.imul, 1) := by decide +kernel
theorem dX0_leastFrom_7 : decode cX0_leastFrom 7 = .ok (.istore_n 3, 1) := by decide +kernel
theorem dX0_leastFrom_8 : decode cX0_leastFrom 8 = .ok (.aload_n 0, 1) := by decide +kernel
theorem dX0_leastFrom_9 : decode cX0_leastFrom 9 = .ok (.getfield 22, 3) := by decide +kernel
theorem dX0_leastFrom_12 : decode cX0_leastFrom 12 = .ok (.iload_n 1, 1) := by decide +kernel
theorem dX0_leastFrom_13 : decode cX0_leastFrom 13 = .ok (.iaload, 1) := by decide +kernel
theorem dX0_leastFrom_14 : decode cX0_leastFrom 14 = .ok (.aload_n 0, 1) := by decide +kernel
theorem dX0_leastFrom_15 : decode cX0_leastFrom 15 = .ok (.getfield 25, 3) := by decide +kernel
theorem dX0_leastFrom_18 : decode cX0_leastFrom 18 = .ok (.iload_n 3, 1) := by decide +kernel
theorem dX0_leastFrom_19 : decode cX0_leastFrom 19 = .ok (.iload_n 2, 1) := by decide +kernel
theorem dX0_leastFrom_20 : decode cX0_leastFrom 20 = .ok (.iadd, 1) := by decide +kernel
theorem dX0_leastFrom_21 : decode cX0_leastFrom 21 = .ok (.iaload, 1) := by decide +kernel
theorem dX0_leastFrom_22 : decode cX0_leastFrom 22 = .ok (.iadd, 1) := by decide +kernel
theorem dX0_leastFrom_23 : decode cX0_leastFrom 23 = .ok (.istore 4, 2) := by decide +kernel
theorem dX0_leastFrom_25 : decode cX0_leastFrom 25 = .ok (.iconst 0, 1) := by decide +kernel
theorem dX0_leastFrom_26 : decode cX0_leastFrom 26 = .ok (.istore 5, 2) := by decide +kernel
theorem dX0_leastFrom_28 : decode cX0_leastFrom 28 = .ok (.iload 5, 2) := by decide +kernel
theorem dX0_leastFrom_30 : decode cX0_leastFrom 30 = .ok (.aload_n 0, 1) := by decide +kernel
theorem dX0_leastFrom_31 : decode cX0_leastFrom 31 = .ok (.getfield 34, 3) := by decide +kernel
theorem dX0_leastFrom_34 : decode cX0_leastFrom 34 = .ok (.if_icmp .ge 40, 3) := by decide +kernel
theorem dX0_leastFrom_37 : decode cX0_leastFrom 37 = .ok (.aload_n 0, 1) := by decide +kernel
theorem dX0_leastFrom_38 : decode cX0_leastFrom 38 = .ok (.iload 5, 2) := by decide +kernel
theorem dX0_leastFrom_40 : decode cX0_leastFrom 40 = .ok (.iload_n 1, 1) := by decide +kernel
theorem dX0_leastFrom_41 : decode cX0_leastFrom 41 = .ok (.iload_n 2, 1) := by decide +kernel
theorem dX0_leastFrom_42 : decode cX0_leastFrom 42 = .ok (.invokevirtual 55, 3) := by decide +kernel
theorem dX0_leastFrom_45 : decode cX0_leastFrom 45 = .ok (.ifCond .eq 23, 3) := by decide +kernel
theorem dX0_leastFrom_48 : decode cX0_leastFrom 48 = .ok (.iload 4, 2) := by decide +kernel
theorem dX0_leastFrom_50 : decode cX0_leastFrom 50 = .ok (.aload_n 0, 1) := by decide +kernel
theorem dX0_leastFrom_51 : decode cX0_leastFrom 51 = .ok (.getfield 25, 3) := by decide +kernel
theorem dX0_leastFrom_54 : decode cX0_leastFrom 54 = .ok (.iload_n 3, 1) := by decide +kernel
theorem dX0_leastFrom_55 : decode cX0_leastFrom 55 = .ok (.iload_n 2, 1) := by decide +kernel
theorem dX0_leastFrom_56 : decode cX0_leastFrom 56 = .ok (.iconst 1, 1) := by decide +kernel
theorem dX0_leastFrom_57 : decode cX0_leastFrom 57 = .ok (.iload 5, 2) := by decide +kernel
theorem dX0_leastFrom_59 : decode cX0_leastFrom 59 = .ok (.ishl, 1) := by decide +kernel
theorem dX0_leastFrom_60 : decode cX0_leastFrom 60 = .ok (.ior, 1) := by decide +kernel
theorem dX0_leastFrom_61 : decode cX0_leastFrom 61 = .ok (.iadd, 1) := by decide +kernel
theorem dX0_leastFrom_62 : decode cX0_leastFrom 62 = .ok (.iaload, 1) := by decide +kernel
theorem dX0_leastFrom_63 : decode cX0_leastFrom 63 = .ok (.invokestatic 59, 3) := by decide +kernel
theorem dX0_leastFrom_66 : decode cX0_leastFrom 66 = .ok (.istore 4, 2) := by decide +kernel
theorem dX0_leastFrom_68 : decode cX0_leastFrom 68 = .ok (.iinc 5 1, 3) := by decide +kernel
theorem dX0_leastFrom_71 : decode cX0_leastFrom 71 = .ok (.goto (-43), 3) := by decide +kernel
theorem dX0_leastFrom_74 : decode cX0_leastFrom 74 = .ok (.iload 4, 2) := by decide +kernel
theorem dX0_leastFrom_76 : decode cX0_leastFrom 76 = .ok (.ireturn, 1) := by decide +kernel
theorem dX0_listDrivers_0 : decode cX0_listDrivers 0 = .ok (.iconst 0, 1) := by decide +kernel
theorem dX0_listDrivers_1 : decode cX0_listDrivers 1 = .ok (.istore_n 2, 1) := by decide +kernel
theorem dX0_listDrivers_2 : decode cX0_listDrivers 2 = .ok (.iconst 0, 1) := by decide +kernel
theorem dX0_listDrivers_3 : decode cX0_listDrivers 3 = .ok (.istore_n 3, 1) := by decide +kernel
theorem dX0_listDrivers_4 : decode cX0_listDrivers 4 = .ok (.iload_n 3, 1) := by decide +kernel
theorem dX0_listDrivers_5 : decode cX0_listDrivers 5 = .ok (.iload_n 1, 1) := by decide +kernel
theorem dX0_listDrivers_6 : decode cX0_listDrivers 6 = .ok (.if_icmp .ge 42, 3) := by decide +kernel
theorem dX0_listDrivers_9 : decode cX0_listDrivers 9 = .ok (.aload_n 0, 1) := by decide +kernel
theorem dX0_listDrivers_10 : decode cX0_listDrivers 10 = .ok (.getfield 11, 3) := by decide +kernel
theorem dX0_listDrivers_13 : decode cX0_listDrivers 13 = .ok (.iload_n 3, 1) := by decide +kernel
theorem dX0_listDrivers_14 : decode cX0_listDrivers 14 = .ok (.aload_n 0, 1) := by decide +kernel
theorem dX0_listDrivers_15 : decode cX0_listDrivers 15 = .ok (.iload_n 3, 1) := by decide +kernel
theorem dX0_listDrivers_16 : decode cX0_listDrivers 16 = .ok (.iload_n 2, 1) := by decide +kernel
theorem dX0_listDrivers_17 : decode cX0_listDrivers 17 = .ok (.invokevirtual 64, 3) := by decide +kernel
theorem dX0_listDrivers_20 : decode cX0_listDrivers 20 = .ok (.iastore, 1) := by decide +kernel
theorem dX0_listDrivers_21 : decode cX0_listDrivers 21 = .ok (.aload_n 0, 1) := by decide +kernel
theorem dX0_listDrivers_22 : decode cX0_listDrivers 22 = .ok (.getfield 11, 3) := by decide +kernel
theorem dX0_listDrivers_25 : decode cX0_listDrivers 25 = .ok (.iload_n 3, 1) := by decide +kernel
theorem dX0_listDrivers_26 : decode cX0_listDrivers 26 = .ok (.iaload, 1) := by decide +kernel
theorem dX0_listDrivers_27 : decode cX0_listDrivers 27 = .ok (.iconst (-1), 1) := by decide +kernel
theorem dX0_listDrivers_28 : decode cX0_listDrivers 28 = .ok (.if_icmp .eq 14, 3) := by decide +kernel
theorem dX0_listDrivers_31 : decode cX0_listDrivers 31 = .ok (.iload_n 2, 1) := by decide +kernel
theorem dX0_listDrivers_32 : decode cX0_listDrivers 32 = .ok (.iconst 1, 1) := by decide +kernel
theorem dX0_listDrivers_33 : decode cX0_listDrivers 33 = .ok (.aload_n 0, 1) := by decide +kernel
theorem dX0_listDrivers_34 : decode cX0_listDrivers 34 = .ok (.getfield 11, 3) := by decide +kernel
theorem dX0_listDrivers_37 : decode cX0_listDrivers 37 = .ok (.iload_n 3, 1) := by decide +kernel
theorem dX0_listDrivers_38 : decode cX0_listDrivers 38 = .ok (.iaload, 1) := by decide +kernel
theorem dX0_listDrivers_39 : decode cX0_listDrivers 39 = .ok (.ishl, 1) := by decide +kernel
theorem dX0_listDrivers_40 : decode cX0_listDrivers 40 = .ok (.ior, 1) := by decide +kernel
theorem dX0_listDrivers_41 : decode cX0_listDrivers 41 = .ok (.istore_n 2, 1) := by decide +kernel
theorem dX0_listDrivers_42 : decode cX0_listDrivers 42 = .ok (.iinc 3 1, 3) := by decide +kernel
theorem dX0_listDrivers_45 : decode cX0_listDrivers 45 = .ok (.goto (-41), 3) := by decide +kernel
theorem dX0_listDrivers_48 : decode cX0_listDrivers 48 = .ok (.return_, 1) := by decide +kernel
theorem dX0_firstDriver_0 : decode cX0_firstDriver 0 = .ok (.iconst 0, 1) := by decide +kernel
theorem dX0_firstDriver_1 : decode cX0_firstDriver 1 = .ok (.istore_n 3, 1) := by decide +kernel
theorem dX0_firstDriver_2 : decode cX0_firstDriver 2 = .ok (.iload_n 3, 1) := by decide +kernel
theorem dX0_firstDriver_3 : decode cX0_firstDriver 3 = .ok (.aload_n 0, 1) := by decide +kernel
theorem dX0_firstDriver_4 : decode cX0_firstDriver 4 = .ok (.getfield 34, 3) := by decide +kernel
theorem dX0_firstDriver_7 : decode cX0_firstDriver 7 = .ok (.if_icmp .ge 54, 3) := by decide +kernel
theorem dX0_firstDriver_10 : decode cX0_firstDriver 10 = .ok (.aload_n 0, 1) := by decide +kernel
theorem dX0_firstDriver_11 : decode cX0_firstDriver 11 = .ok (.iload_n 3, 1) := by decide +kernel
theorem dX0_firstDriver_12 : decode cX0_firstDriver 12 = .ok (.iload_n 1, 1) := by decide +kernel
theorem dX0_firstDriver_13 : decode cX0_firstDriver 13 = .ok (.iload_n 2, 1) := by decide +kernel
theorem dX0_firstDriver_14 : decode cX0_firstDriver 14 = .ok (.invokevirtual 55, 3) := by decide +kernel
theorem dX0_firstDriver_17 : decode cX0_firstDriver 17 = .ok (.ifCond .eq 38, 3) := by decide +kernel
theorem dX0_firstDriver_20 : decode cX0_firstDriver 20 = .ok (.aload_n 0, 1) := by decide +kernel
theorem dX0_firstDriver_21 : decode cX0_firstDriver 21 = .ok (.getfield 25, 3) := by decide +kernel
theorem dX0_firstDriver_24 : decode cX0_firstDriver 24 = .ok (.iload_n 1, 1) := by decide +kernel
theorem dX0_firstDriver_25 : decode cX0_firstDriver 25 = .ok (.iconst 1, 1) := by decide +kernel
theorem dX0_firstDriver_26 : decode cX0_firstDriver 26 = .ok (.iadd, 1) := by decide +kernel
theorem dX0_firstDriver_27 : decode cX0_firstDriver 27 = .ok (.sipush 256, 3) := by decide +kernel
theorem dX0_firstDriver_30 : decode cX0_firstDriver 30 = .ok (.imul, 1) := by decide +kernel
theorem dX0_firstDriver_31 : decode cX0_firstDriver 31 = .ok (.iload_n 2, 1) := by decide +kernel
theorem dX0_firstDriver_32 : decode cX0_firstDriver 32 = .ok (.iconst 1, 1) := by decide +kernel
theorem dX0_firstDriver_33 : decode cX0_firstDriver 33 = .ok (.iload_n 3, 1) := by decide +kernel
theorem dX0_firstDriver_34 : decode cX0_firstDriver 34 = .ok (.ishl, 1) := by decide +kernel
theorem dX0_firstDriver_35 : decode cX0_firstDriver 35 = .ok (.ior, 1) := by decide +kernel
theorem dX0_firstDriver_36 : decode cX0_firstDriver 36 = .ok (.iadd, 1) := by decide +kernel
theorem dX0_firstDriver_37 : decode cX0_firstDriver 37 = .ok (.iaload, 1) := by decide +kernel
theorem dX0_firstDriver_38 : decode cX0_firstDriver 38 = .ok (.aload_n 0, 1) := by decide +kernel
theorem dX0_firstDriver_39 : decode cX0_firstDriver 39 = .ok (.getfield 25, 3) := by decide +kernel
theorem dX0_firstDriver_42 : decode cX0_firstDriver 42 = .ok (.iload_n 1, 1) := by decide +kernel
theorem dX0_firstDriver_43 : decode cX0_firstDriver 43 = .ok (.sipush 256, 3) := by decide +kernel
theorem dX0_firstDriver_46 : decode cX0_firstDriver 46 = .ok (.imul, 1) := by decide +kernel
theorem dX0_firstDriver_47 : decode cX0_firstDriver 47 = .ok (.iload_n 2, 1) := by decide +kernel
theorem dX0_firstDriver_48 : decode cX0_firstDriver 48 = .ok (.iadd, 1) := by decide +kernel
theorem dX0_firstDriver_49 : decode cX0_firstDriver 49 = .ok (.iaload, 1) := by decide +kernel
theorem dX0_firstDriver_50 : decode cX0_firstDriver 50 = .ok (.if_icmp .ne 5, 3) := by decide +kernel
theorem dX0_firstDriver_53 : decode cX0_firstDriver 53 = .ok (.iload_n 3, 1) := by decide +kernel
theorem dX0_firstDriver_54 : decode cX0_firstDriver 54 = .ok (.ireturn, 1) := by decide +kernel
theorem dX0_firstDriver_55 : decode cX0_firstDriver 55 = .ok (.iinc 3 1, 3) := by decide +kernel
theorem dX0_firstDriver_58 : decode cX0_firstDriver 58 = .ok (.goto (-56), 3) := by decide +kernel
theorem dX0_firstDriver_61 : decode cX0_firstDriver 61 = .ok (.iconst (-1), 1) := by decide +kernel
theorem dX0_firstDriver_62 : decode cX0_firstDriver 62 = .ok (.ireturn, 1) := by decide +kernel
theorem dX0_leastLeft_0 : decode cX0_leastLeft 0 = .ok (.aload_n 0, 1) := by decide +kernel
theorem dX0_leastLeft_1 : decode cX0_leastLeft 1 = .ok (.getfield 25, 3) := by decide +kernel
theorem dX0_leastLeft_4 : decode cX0_leastLeft 4 = .ok (.iconst 0, 1) := by decide +kernel
theorem dX0_leastLeft_5 : decode cX0_leastLeft 5 = .ok (.iaload, 1) := by decide +kernel
theorem dX0_leastLeft_6 : decode cX0_leastLeft 6 = .ok (.ireturn, 1) := by decide +kernel
theorem dX1_init_0 : decode cX1_init 0 = .ok (.aload_n 0, 1) := by decide +kernel
theorem dX1_init_1 : decode cX1_init 1 = .ok (.invokespecial 3, 3) := by decide +kernel
theorem dX1_init_4 : decode cX1_init 4 = .ok (.aload_n 0, 1) := by decide +kernel
theorem dX1_init_5 : decode cX1_init 5 = .ok (.bipush 100, 2) := by decide +kernel
theorem dX1_init_7 : decode cX1_init 7 = .ok (.newarray .int, 2) := by decide +kernel
theorem dX1_init_9 : decode cX1_init 9 = .ok (.putfield 11, 3) := by decide +kernel
theorem dX1_init_12 : decode cX1_init 12 = .ok (.aload_n 0, 1) := by decide +kernel
theorem dX1_init_13 : decode cX1_init 13 = .ok (.bipush 100, 2) := by decide +kernel
theorem dX1_init_15 : decode cX1_init 15 = .ok (.newarray .int, 2) := by decide +kernel
theorem dX1_init_17 : decode cX1_init 17 = .ok (.putfield 15, 3) := by decide +kernel
theorem dX1_init_20 : decode cX1_init 20 = .ok (.aload_n 0, 1) := by decide +kernel
theorem dX1_init_21 : decode cX1_init 21 = .ok (.bipush 100, 2) := by decide +kernel
theorem dX1_init_23 : decode cX1_init 23 = .ok (.newarray .int, 2) := by decide +kernel
theorem dX1_init_25 : decode cX1_init 25 = .ok (.putfield 18, 3) := by decide +kernel
theorem dX1_init_28 : decode cX1_init 28 = .ok (.aload_n 0, 1) := by decide +kernel
theorem dX1_init_29 : decode cX1_init 29 = .ok (.bipush 100, 2) := by decide +kernel
theorem dX1_init_31 : decode cX1_init 31 = .ok (.newarray .int, 2) := by decide +kernel
theorem dX1_init_33 : decode cX1_init 33 = .ok (.putfield 21, 3) := by decide +kernel
theorem dX1_init_36 : decode cX1_init 36 = .ok (.aload_n 0, 1) := by decide +kernel
theorem dX1_init_37 : decode cX1_init 37 = .ok (.bipush 20, 2) := by decide +kernel
theorem dX1_init_39 : decode cX1_init 39 = .ok (.newarray .int, 2) := by decide +kernel
theorem dX1_init_41 : decode cX1_init 41 = .ok (.putfield 24, 3) := by decide +kernel
theorem dX1_init_44 : decode cX1_init 44 = .ok (.aload_n 0, 1) := by decide +kernel
theorem dX1_init_45 : decode cX1_init 45 = .ok (.bipush 100, 2) := by decide +kernel
theorem dX1_init_47 : decode cX1_init 47 = .ok (.newarray .int, 2) := by decide +kernel
theorem dX1_init_49 : decode cX1_init 49 = .ok (.putfield 27, 3) := by decide +kernel
theorem dX1_init_52 : decode cX1_init 52 = .ok (.aload_n 0, 1) := by decide +kernel
theorem dX1_init_53 : decode cX1_init 53 = .ok (.bipush 100, 2) := by decide +kernel
theorem dX1_init_55 : decode cX1_init 55 = .ok (.newarray .int, 2) := by decide +kernel
theorem dX1_init_57 : decode cX1_init 57 = .ok (.putfield 30, 3) := by decide +kernel
theorem dX1_init_60 : decode cX1_init 60 = .ok (.return_, 1) := by decide +kernel
theorem dX1_add_0 : decode cX1_add 0 = .ok (.aload_n 0, 1) := by decide +kernel
theorem dX1_add_1 : decode cX1_add 1 = .ok (.getfield 33, 3) := by decide +kernel
theorem dX1_add_4 : decode cX1_add 4 = .ok (.bipush 100, 2) := by decide +kernel
theorem dX1_add_6 : decode cX1_add 6 = .ok (.if_icmp .lt 5, 3) := by decide +kernel
theorem dX1_add_9 : decode cX1_add 9 = .ok (.iconst (-1), 1) := by decide +kernel
theorem dX1_add_10 : decode cX1_add 10 = .ok (.ireturn, 1) := by decide +kernel
theorem dX1_add_11 : decode cX1_add 11 = .ok (.aload_n 0, 1) := by decide +kernel
theorem dX1_add_12 : decode cX1_add 12 = .ok (.getfield 27, 3) := by decide +kernel
theorem dX1_add_15 : decode cX1_add 15 = .ok (.aload_n 0, 1) := by decide +kernel
theorem dX1_add_16 : decode cX1_add 16 = .ok (.getfield 33, 3) := by decide +kernel
theorem dX1_add_19 : decode cX1_add 19 = .ok (.iload_n 1, 1) := by decide +kernel
theorem dX1_add_20 : decode cX1_add 20 = .ok (.iastore, 1) := by decide +kernel
theorem dX1_add_21 : decode cX1_add 21 = .ok (.aload_n 0, 1) := by decide +kernel
theorem dX1_add_22 : decode cX1_add 22 = .ok (.getfield 11, 3) := by decide +kernel
theorem dX1_add_25 : decode cX1_add 25 = .ok (.aload_n 0, 1) := by decide +kernel
theorem dX1_add_26 : decode cX1_add 26 = .ok (.getfield 33, 3) := by decide +kernel
theorem dX1_add_29 : decode cX1_add 29 = .ok (.iload_n 2, 1) := by decide +kernel
theorem dX1_add_30 : decode cX1_add 30 = .ok (.iastore, 1) := by decide +kernel
theorem dX1_add_31 : decode cX1_add 31 = .ok (.aload_n 0, 1) := by decide +kernel
theorem dX1_add_32 : decode cX1_add 32 = .ok (.getfield 15, 3) := by decide +kernel
theorem dX1_add_35 : decode cX1_add 35 = .ok (.aload_n 0, 1) := by decide +kernel
theorem dX1_add_36 : decode cX1_add 36 = .ok (.getfield 33, 3) := by decide +kernel
theorem dX1_add_39 : decode cX1_add 39 = .ok (.iload_n 3, 1) := by decide +kernel
theorem dX1_add_40 : decode cX1_add 40 = .ok (.iastore, 1) := by decide +kernel
theorem dX1_add_41 : decode cX1_add 41 = .ok (.aload_n 0, 1) := by decide +kernel
theorem dX1_add_42 : decode cX1_add 42 = .ok (.getfield 18, 3) := by decide +kernel
theorem dX1_add_45 : decode cX1_add 45 = .ok (.aload_n 0, 1) := by decide +kernel
theorem dX1_add_46 : decode cX1_add 46 = .ok (.getfield 33, 3) := by decide +kernel
theorem dX1_add_49 : decode cX1_add 49 = .ok (.iload 4, 2) := by decide +kernel
theorem dX1_add_51 : decode cX1_add 51 = .ok (.iastore, 1) := by decide +kernel
theorem dX1_add_52 : decode cX1_add 52 = .ok (.aload_n 0, 1) := by decide +kernel
theorem dX1_add_53 : decode cX1_add 53 = .ok (.getfield 21, 3) := by decide +kernel
theorem dX1_add_56 : decode cX1_add 56 = .ok (.aload_n 0, 1) := by decide +kernel
theorem dX1_add_57 : decode cX1_add 57 = .ok (.getfield 33, 3) := by decide +kernel
theorem dX1_add_60 : decode cX1_add 60 = .ok (.iload 5, 2) := by decide +kernel
theorem dX1_add_62 : decode cX1_add 62 = .ok (.iastore, 1) := by decide +kernel
theorem dX1_add_63 : decode cX1_add 63 = .ok (.aload_n 0, 1) := by decide +kernel
theorem dX1_add_64 : decode cX1_add 64 = .ok (.getfield 30, 3) := by decide +kernel
theorem dX1_add_67 : decode cX1_add 67 = .ok (.aload_n 0, 1) := by decide +kernel
theorem dX1_add_68 : decode cX1_add 68 = .ok (.getfield 33, 3) := by decide +kernel
theorem dX1_add_71 : decode cX1_add 71 = .ok (.bipush 100, 2) := by decide +kernel
theorem dX1_add_73 : decode cX1_add 73 = .ok (.iastore, 1) := by decide +kernel
theorem dX1_add_74 : decode cX1_add 74 = .ok (.aload_n 0, 1) := by decide +kernel
theorem dX1_add_75 : decode cX1_add 75 = .ok (.dup, 1) := by decide +kernel
theorem dX1_add_76 : decode cX1_add 76 = .ok (.getfield 33, 3) := by decide +kernel
theorem dX1_add_79 : decode cX1_add 79 = .ok (.iconst 1, 1) := by decide +kernel
theorem dX1_add_80 : decode cX1_add 80 = .ok (.iadd, 1) := by decide +kernel
theorem dX1_add_81 : decode cX1_add 81 = .ok (.putfield 33, 3) := by decide +kernel
theorem dX1_add_84 : decode cX1_add 84 = .ok (.aload_n 0, 1) := by decide +kernel
theorem dX1_add_85 : decode cX1_add 85 = .ok (.getfield 33, 3) := by decide +kernel
theorem dX1_add_88 : decode cX1_add 88 = .ok (.iconst 1, 1) := by decide +kernel
theorem dX1_add_89 : decode cX1_add 89 = .ok (.isub, 1) := by decide +kernel
theorem dX1_add_90 : decode cX1_add 90 = .ok (.ireturn, 1) := by decide +kernel
theorem dX1_addChild_0 : decode cX1_addChild 0 = .ok (.aload_n 0, 1) := by decide +kernel
theorem dX1_addChild_1 : decode cX1_addChild 1 = .ok (.getfield 37, 3) := by decide +kernel
theorem dX1_addChild_4 : decode cX1_addChild 4 = .ok (.bipush 20, 2) := by decide +kernel
theorem dX1_addChild_6 : decode cX1_addChild 6 = .ok (.if_icmp .lt 5, 3) := by decide +kernel
theorem dX1_addChild_9 : decode cX1_addChild 9 = .ok (.iconst (-1), 1) := by decide +kernel
theorem dX1_addChild_10 : decode cX1_addChild 10 = .ok (.ireturn, 1) := by decide +kernel
theorem dX1_addChild_11 : decode cX1_addChild 11 = .ok (.aload_n 0, 1) := by decide +kernel
theorem dX1_addChild_12 : decode cX1_addChild 12 = .ok (.iconst 0, 1) := by decide +kernel
theorem dX1_addChild_13 : decode cX1_addChild 13 = .ok (.iload_n 1, 1) := by decide +kernel
theorem dX1_addChild_14 : decode cX1_addChild 14 = .ok (.iload_n 2, 1) := by decide +kernel
theorem dX1_addChild_15 : decode cX1_addChild 15 = .ok (.iload_n 3, 1) := by decide +kernel
theorem dX1_addChild_16 : decode cX1_addChild 16 = .ok (.iload 4, 2) := by decide +kernel
theorem dX1_addChild_18 : decode cX1_addChild 18 = .ok (.invokevirtual 40, 3) := by decide +kernel
theorem dX1_addChild_21 : decode cX1_addChild 21 = .ok (.istore 5, 2) := by decide +kernel
theorem dX1_addChild_23 : decode cX1_addChild 23 = .ok (.iload 5, 2) := by decide +kernel
theorem dX1_addChild_25 : decode cX1_addChild 25 = .ok (.iconst (-1), 1) := by decide +kernel
theorem dX1_addChild_26 : decode cX1_addChild 26 = .ok (.if_icmp .ne 5, 3) := by decide +kernel
theorem dX1_addChild_29 : decode cX1_addChild 29 = .ok (.iconst (-1), 1) := by decide +kernel
theorem dX1_addChild_30 : decode cX1_addChild 30 = .ok (.ireturn, 1) := by decide +kernel
theorem dX1_addChild_31 : decode cX1_addChild 31 = .ok (.aload_n 0, 1) := by decide +kernel
theorem dX1_addChild_32 : decode cX1_addChild 32 = .ok (.getfield 24, 3) := by decide +kernel
theorem dX1_addChild_35 : decode cX1_addChild 35 = .ok (.aload_n 0, 1) := by decide +kernel
theorem dX1_addChild_36 : decode cX1_addChild 36 = .ok (.getfield 37, 3) := by decide +kernel
theorem dX1_addChild_39 : decode cX1_addChild 39 = .ok (.iload 5, 2) := by decide +kernel
theorem dX1_addChild_41 : decode cX1_addChild 41 = .ok (.iastore, 1) := by decide +kernel
theorem dX1_addChild_42 : decode cX1_addChild 42 = .ok (.aload_n 0, 1) := by decide +kernel
theorem dX1_addChild_43 : decode cX1_addChild 43 = .ok (.dup, 1) := by decide +kernel
theorem dX1_addChild_44 : decode cX1_addChild 44 = .ok (.getfield 37, 3) := by decide +kernel
theorem dX1_addChild_47 : decode cX1_addChild 47 = .ok (.iconst 1, 1) := by decide +kernel
theorem dX1_addChild_48 : decode cX1_addChild 48 = .ok (.iadd, 1) := by decide +kernel
theorem dX1_addChild_49 : decode cX1_addChild 49 = .ok (.putfield 37, 3) := by decide +kernel
theorem dX1_addChild_52 : decode cX1_addChild 52 = .ok (.aload_n 0, 1) := by decide +kernel
theorem dX1_addChild_53 : decode cX1_addChild 53 = .ok (.getfield 37, 3) := by decide +kernel
theorem dX1_addChild_56 : decode cX1_addChild 56 = .ok (.iconst 1, 1) := by decide +kernel
theorem dX1_addChild_57 : decode cX1_addChild 57 = .ok (.isub, 1) := by decide +kernel
theorem dX1_addChild_58 : decode cX1_addChild 58 = .ok (.ireturn, 1) := by decide +kernel
theorem dX1_addVoid_0 : decode cX1_addVoid 0 = .ok (.aload_n 0, 1) := by decide +kernel
theorem dX1_addVoid_1 : decode cX1_addVoid 1 = .ok (.getfield 27, 3) := by decide +kernel
theorem dX1_addVoid_4 : decode cX1_addVoid 4 = .ok (.iload_n 1, 1) := by decide +kernel
theorem dX1_addVoid_5 : decode cX1_addVoid 5 = .ok (.iaload, 1) := by decide +kernel
theorem dX1_addVoid_6 : decode cX1_addVoid 6 = .ok (.ifCond .eq 14, 3) := by decide +kernel
theorem dX1_addVoid_9 : decode cX1_addVoid 9 = .ok (.aload_n 0, 1) := by decide +kernel
theorem dX1_addVoid_10 : decode cX1_addVoid 10 = .ok (.getfield 27, 3) := by decide +kernel
theorem dX1_addVoid_13 : decode cX1_addVoid 13 = .ok (.iload_n 1, 1) := by decide +kernel
theorem dX1_addVoid_14 : decode cX1_addVoid 14 = .ok (.iaload, 1) := by decide +kernel
theorem dX1_addVoid_15 : decode cX1_addVoid 15 = .ok (.bipush 6, 2) := by decide +kernel
theorem dX1_addVoid_17 : decode cX1_addVoid 17 = .ok (.if_icmp .ne 5, 3) := by decide +kernel
theorem dX1_addVoid_20 : decode cX1_addVoid 20 = .ok (.iconst (-1), 1) := by decide +kernel
theorem dX1_addVoid_21 : decode cX1_addVoid 21 = .ok (.ireturn, 1) := by decide +kernel
theorem dX1_addVoid_22 : decode cX1_addVoid 22 = .ok (.aload_n 0, 1) := by decide +kernel
theorem dX1_addVoid_23 : decode cX1_addVoid 23 = .ok (.bipush 6, 2) := by decide +kernel
theorem dX1_addVoid_25 : decode cX1_addVoid 25 = .ok (.iload_n 1, 1) := by decide +kernel
theorem dX1_addVoid_26 : decode cX1_addVoid 26 = .ok (.iconst 0, 1) := by decide +kernel
theorem dX1_addVoid_27 : decode cX1_addVoid 27 = .ok (.iconst 0, 1) := by decide +kernel
theorem dX1_addVoid_28 : decode cX1_addVoid 28 = .ok (.iconst 0, 1) := by decide +kernel
theorem dX1_addVoid_29 : decode cX1_addVoid 29 = .ok (.invokevirtual 40, 3) := by decide +kernel
theorem dX1_addVoid_32 : decode cX1_addVoid 32 = .ok (.istore_n 2, 1) := by decide +kernel
theorem dX1_addVoid_33 : decode cX1_addVoid 33 = .ok (.iload_n 2, 1) := by decide +kernel
theorem dX1_addVoid_34 : decode cX1_addVoid 34 = .ok (.iconst (-1), 1) := by decide +kernel
theorem dX1_addVoid_35 : decode cX1_addVoid 35 = .ok (.if_icmp .eq 19, 3) := by decide +kernel
theorem dX1_addVoid_38 : decode cX1_addVoid 38 = .ok (.aload_n 0, 1) := by decide +kernel
theorem dX1_addVoid_39 : decode cX1_addVoid 39 = .ok (.getfield 30, 3) := by decide +kernel
theorem dX1_addVoid_42 : decode cX1_addVoid 42 = .ok (.iload_n 1, 1) := by decide +kernel
theorem dX1_addVoid_43 : decode cX1_addVoid 43 = .ok (.aload_n 0, 1) := by decide +kernel
theorem dX1_addVoid_44 : decode cX1_addVoid 44 = .ok (.getfield 30, 3) := by decide +kernel
theorem dX1_addVoid_47 : decode cX1_addVoid 47 = .ok (.iload_n 1, 1) := by decide +kernel
theorem dX1_addVoid_48 : decode cX1_addVoid 48 = .ok (.iaload, 1) := by decide +kernel
theorem dX1_addVoid_49 : decode cX1_addVoid 49 = .ok (.iload_n 2, 1) := by decide +kernel
theorem dX1_addVoid_50 : decode cX1_addVoid 50 = .ok (.invokestatic 44, 3) := by decide +kernel
theorem dX1_addVoid_53 : decode cX1_addVoid 53 = .ok (.iastore, 1) := by decide +kernel
theorem dX1_addVoid_54 : decode cX1_addVoid 54 = .ok (.iload_n 2, 1) := by decide +kernel
theorem dX1_addVoid_55 : decode cX1_addVoid 55 = .ok (.ireturn, 1) := by decide +kernel
theorem dX1_isKnown_0 : decode cX1_isKnown 0 = .ok (.aload_n 0, 1) := by decide +kernel
theorem dX1_isKnown_1 : decode cX1_isKnown 1 = .ok (.getfield 27, 3) := by decide +kernel
theorem dX1_isKnown_4 : decode cX1_isKnown 4 = .ok (.iload_n 1, 1) := by decide +kernel
theorem dX1_isKnown_5 : decode cX1_isKnown 5 = .ok (.iaload, 1) := by decide +kernel
theorem dX1_isKnown_6 : decode cX1_isKnown 6 = .ok (.iload_n 2, 1) := by decide +kernel
theorem dX1_isKnown_7 : decode cX1_isKnown 7 = .ok (.if_icmp .ne 22, 3) := by decide +kernel
theorem dX1_isKnown_10 : decode cX1_isKnown 10 = .ok (.iload_n 1, 1) := by decide +kernel
theorem dX1_isKnown_11 : decode cX1_isKnown 11 = .ok (.iload_n 3, 1) := by decide +kernel
theorem dX1_isKnown_12 : decode cX1_isKnown 12 = .ok (.if_icmp .ge 17, 3) := by decide +kernel
theorem dX1_isKnown_15 : decode cX1_isKnown 15 = .ok (.aload_n 0, 1) := by decide +kernel
theorem dX1_isKnown_16 : decode cX1_isKnown 16 = .ok (.getfield 30, 3) := by decide +kernel
theorem dX1_isKnown_19 : decode cX1_isKnown 19 = .ok (.iload_n 1, 1) := by decide +kernel
theorem dX1_isKnown_20 : decode cX1_isKnown 20 = .ok (.iaload, 1) := by decide +kernel
theorem dX1_isKnown_21 : decode cX1_isKnown 21 = .ok (.iload_n 3, 1) := by decide +kernel
theorem dX1_isKnown_22 : decode cX1_isKnown 22 = .ok (.if_icmp .lt 7, 3) := by decide +kernel
theorem dX1_isKnown_25 : decode cX1_isKnown 25 = .ok (.iconst 1, 1) := by decide +kernel
theorem dX1_isKnown_26 : decode cX1_isKnown 26 = .ok (.goto 4, 3) := by decide +kernel
theorem dX1_isKnown_29 : decode cX1_isKnown 29 = .ok (.iconst 0, 1) := by decide +kernel
theorem dX1_isKnown_30 : decode cX1_isKnown 30 = .ok (.ireturn, 1) := by decide +kernel
theorem dX1_childrenKnown_0 : decode cX1_childrenKnown 0 = .ok (.iconst 0, 1) := by decide +kernel
theorem dX1_childrenKnown_1 : decode cX1_childrenKnown 1 = .ok (.istore_n 2, 1) := by decide +kernel
theorem dX1_childrenKnown_2 : decode cX1_childrenKnown 2 = .ok (.iload_n 2, 1) := by decide +kernel
theorem dX1_childrenKnown_3 : decode cX1_childrenKnown 3 = .ok (.aload_n 0, 1) := by decide +kernel
theorem dX1_childrenKnown_4 : decode cX1_childrenKnown 4 = .ok (.getfield 37, 3) := by decide +kernel
theorem dX1_childrenKnown_7 : decode cX1_childrenKnown 7 = .ok (.if_icmp .ge 19, 3) := by decide +kernel
theorem dX1_childrenKnown_10 : decode cX1_childrenKnown 10 = .ok (.aload_n 0, 1) := by decide +kernel
theorem dX1_childrenKnown_11 : decode cX1_childrenKnown 11 = .ok (.getfield 24, 3) := by decide +kernel
theorem dX1_childrenKnown_14 : decode cX1_childrenKnown 14 = .ok (.iload_n 2, 1) := by decide +kernel
theorem dX1_childrenKnown_15 : decode cX1_childrenKnown 15 = .ok (.iaload, 1) := by decide +kernel
theorem dX1_childrenKnown_16 : decode cX1_childrenKnown 16 = .ok (.iload_n 1, 1) := by decide +kernel
theorem dX1_childrenKnown_17 : decode cX1_childrenKnown 17 = .ok (.if_icmp .ge 9, 3) := by decide +kernel
theorem dX1_childrenKnown_20 : decode cX1_childrenKnown 20 = .ok (.iinc 2 1, 3) := by decide +kernel
theorem dX1_childrenKnown_23 : decode cX1_childrenKnown 23 = .ok (.goto (-21), 3) := by decide +kernel
theorem dX1_childrenKnown_26 : decode cX1_childrenKnown 26 = .ok (.iload_n 2, 1) := by decide +kernel
theorem dX1_childrenKnown_27 : decode cX1_childrenKnown 27 = .ok (.ireturn, 1) := by decide +kernel
theorem dX1_homeOf_0 : decode cX1_homeOf 0 = .ok (.iload_n 2, 1) := by decide +kernel
theorem dX1_homeOf_1 : decode cX1_homeOf 1 = .ok (.bipush 7, 2) := by decide +kernel
theorem dX1_homeOf_3 : decode cX1_homeOf 3 = .ok (.idiv, 1) := by decide +kernel
theorem dX1_homeOf_4 : decode cX1_homeOf 4 = .ok (.iconst 2, 1) := by decide +kernel
theorem dX1_homeOf_5 : decode cX1_homeOf 5 = .ok (.irem, 1) := by decide +kernel
theorem dX1_homeOf_6 : decode cX1_homeOf 6 = .ok (.iconst 1, 1) := by decide +kernel
theorem dX1_homeOf_7 : decode cX1_homeOf 7 = .ok (.if_icmp .ne 14, 3) := by decide +kernel
theorem dX1_homeOf_10 : decode cX1_homeOf 10 = .ok (.aload_n 0, 1) := by decide +kernel
theorem dX1_homeOf_11 : decode cX1_homeOf 11 = .ok (.iconst 2, 1) := by decide +kernel
theorem dX1_homeOf_12 : decode cX1_homeOf 12 = .ok (.iload_n 1, 1) := by decide +kernel
theorem dX1_homeOf_13 : decode cX1_homeOf 13 = .ok (.iload_n 2, 1) := by decide +kernel
theorem dX1_homeOf_14 : decode cX1_homeOf 14 = .ok (.iload_n 3, 1) := by decide +kernel
theorem dX1_homeOf_15 : decode cX1_homeOf 15 = .ok (.invokevirtual 50, 3) := by decide +kernel
theorem dX1_homeOf_18 : decode cX1_homeOf 18 = .ok (.goto 4, 3) := by decide +kernel
theorem dX1_homeOf_21 : decode cX1_homeOf 21 = .ok (.iconst (-1), 1) := by decide +kernel
theorem dX1_homeOf_22 : decode cX1_homeOf 22 = .ok (.istore 4, 2) := by decide +kernel
theorem dX1_homeOf_24 : decode cX1_homeOf 24 = .ok (.iload 4, 2) := by decide +kernel
theorem dX1_homeOf_26 : decode cX1_homeOf 26 = .ok (.iconst (-1), 1) := by decide +kernel
theorem dX1_homeOf_27 : decode cX1_homeOf 27 = .ok (.if_icmp .ne 13, 3) := by decide +kernel
theorem dX1_homeOf_30 : decode cX1_homeOf 30 = .ok (.aload_n 0, 1) := by decide +kernel
theorem dX1_homeOf_31 : decode cX1_homeOf 31 = .ok (.iconst 1, 1) := by decide +kernel
theorem dX1_homeOf_32 : decode cX1_homeOf 32 = .ok (.iload_n 1, 1) := by decide +kernel
theorem dX1_homeOf_33 : decode cX1_homeOf 33 = .ok (.iload_n 2, 1) := by decide +kernel
theorem dX1_homeOf_34 : decode cX1_homeOf 34 = .ok (.iload_n 3, 1) := by decide +kernel
theorem dX1_homeOf_35 : decode cX1_homeOf 35 = .ok (.invokevirtual 50, 3) := by decide +kernel
theorem dX1_homeOf_38 : decode cX1_homeOf 38 = .ok (.istore 4, 2) := by decide +kernel
theorem dX1_homeOf_40 : decode cX1_homeOf 40 = .ok (.iload 4, 2) := by decide +kernel
theorem dX1_homeOf_42 : decode cX1_homeOf 42 = .ok (.iconst (-1), 1) := by decide +kernel
theorem dX1_homeOf_43 : decode cX1_homeOf 43 = .ok (.if_icmp .ne 17, 3) := by decide +kernel
theorem dX1_homeOf_46 : decode cX1_homeOf 46 = .ok (.aload_n 0, 1) := by decide +kernel
theorem dX1_homeOf_47 : decode cX1_homeOf 47 = .ok (.getfield 11, 3) := by decide +kernel
theorem dX1_homeOf_50 : decode cX1_homeOf 50 = .ok (.aload_n 0, 1) := by decide +kernel
theorem dX1_homeOf_51 : decode cX1_homeOf 51 = .ok (.getfield 24, 3) := by decide +kernel
theorem dX1_homeOf_54 : decode cX1_homeOf 54 = .ok (.iload_n 1, 1) := by decide +kernel
theorem dX1_homeOf_55 : decode cX1_homeOf 55 = .ok (.iaload, 1) := by decide +kernel
theorem dX1_homeOf_56 : decode cX1_homeOf 56 = .ok (.iaload, 1) := by decide +kernel
theorem dX1_homeOf_57 : decode cX1_homeOf 57 = .ok (.goto 10, 3) := by decide +kernel
theorem dX1_homeOf_60 : decode cX1_homeOf 60 = .ok (.aload_n 0, 1) := by decide +kernel
theorem dX1_homeOf_61 : decode cX1_homeOf 61 = .ok (.getfield 15, 3) := by decide +kernel
theorem dX1_homeOf_64 : decode cX1_homeOf 64 = .ok (.iload 4, 2) := by decide +kernel
theorem dX1_homeOf_66 : decode cX1_homeOf 66 = .ok (.iaload, 1) := by decide +kernel
theorem dX1_homeOf_67 : decode cX1_homeOf 67 = .ok (.ireturn, 1) := by decide +kernel
theorem dX1_latestMove_0 : decode cX1_latestMove 0 = .ok (.iconst (-1), 1) := by decide +kernel
theorem dX1_latestMove_1 : decode cX1_latestMove 1 = .ok (.istore 5, 2) := by decide +kernel
theorem dX1_latestMove_3 : decode cX1_latestMove 3 = .ok (.iconst 0, 1) := by decide +kernel
theorem dX1_latestMove_4 : decode cX1_latestMove 4 = .ok (.istore 6, 2) := by decide +kernel
theorem dX1_latestMove_6 : decode cX1_latestMove 6 = .ok (.iload 6, 2) := by decide +kernel
theorem dX1_latestMove_8 : decode cX1_latestMove 8 = .ok (.iload 4, 2) := by decide +kernel
theorem dX1_latestMove_10 : decode cX1_latestMove 10 = .ok (.if_icmp .ge 70, 3) := by decide +kernel
theorem dX1_latestMove_13 : decode cX1_latestMove 13 = .ok (.aload_n 0, 1) := by decide +kernel
theorem dX1_latestMove_14 : decode cX1_latestMove 14 = .ok (.iload 6, 2) := by decide +kernel
theorem dX1_latestMove_16 : decode cX1_latestMove 16 = .ok (.iload_n 1, 1) := by decide +kernel
theorem dX1_latestMove_17 : decode cX1_latestMove 17 = .ok (.iload 4, 2) := by decide +kernel
theorem dX1_latestMove_19 : decode cX1_latestMove 19 = .ok (.invokevirtual 54, 3) := by decide +kernel
theorem dX1_latestMove_22 : decode cX1_latestMove 22 = .ok (.ifCond .eq 52, 3) := by decide +kernel
theorem dX1_latestMove_25 : decode cX1_latestMove 25 = .ok (.aload_n 0, 1) := by decide +kernel
theorem dX1_latestMove_26 : decode cX1_latestMove 26 = .ok (.getfield 11, 3) := by decide +kernel
theorem dX1_latestMove_29 : decode cX1_latestMove 29 = .ok (.iload 6, 2) := by decide +kernel
theorem dX1_latestMove_31 : decode cX1_latestMove 31 = .ok (.iaload, 1) := by decide +kernel
theorem dX1_latestMove_32 : decode cX1_latestMove 32 = .ok (.iload_n 2, 1) := by decide +kernel
theorem dX1_latestMove_33 : decode cX1_latestMove 33 = .ok (.if_icmp .ne 41, 3) := by decide +kernel
theorem dX1_latestMove_36 : decode cX1_latestMove 36 = .ok (.aload_n 0, 1) := by decide +kernel
theorem dX1_latestMove_37 : decode cX1_latestMove 37 = .ok (.getfield 18, 3) := by decide +kernel
theorem dX1_latestMove_40 : decode cX1_latestMove 40 = .ok (.iload 6, 2) := by decide +kernel
theorem dX1_latestMove_42 : decode cX1_latestMove 42 = .ok (.iaload, 1) := by decide +kernel
theorem dX1_latestMove_43 : decode cX1_latestMove 43 = .ok (.iload_n 3, 1) := by decide +kernel
theorem dX1_latestMove_44 : decode cX1_latestMove 44 = .ok (.if_icmp .gt 30, 3) := by decide +kernel
theorem dX1_latestMove_47 : decode cX1_latestMove 47 = .ok (.iload 5, 2) := by decide +kernel
theorem dX1_latestMove_49 : decode cX1_latestMove 49 = .ok (.iconst (-1), 1) := by decide +kernel
theorem dX1_latestMove_50 : decode cX1_latestMove 50 = .ok (.if_icmp .eq 20, 3) := by decide +kernel
theorem dX1_latestMove_53 : decode cX1_latestMove 53 = .ok (.aload_n 0, 1) := by decide +kernel
theorem dX1_latestMove_54 : decode cX1_latestMove 54 = .ok (.getfield 18, 3) := by decide +kernel
theorem dX1_latestMove_57 : decode cX1_latestMove 57 = .ok (.iload 6, 2) := by decide +kernel
theorem dX1_latestMove_59 : decode cX1_latestMove 59 = .ok (.iaload, 1) := by decide +kernel
theorem dX1_latestMove_60 : decode cX1_latestMove 60 = .ok (.aload_n 0, 1) := by decide +kernel
theorem dX1_latestMove_61 : decode cX1_latestMove 61 = .ok (.getfield 18, 3) := by decide +kernel
theorem dX1_latestMove_64 : decode cX1_latestMove 64 = .ok (.iload 5, 2) := by decide +kernel
theorem dX1_latestMove_66 : decode cX1_latestMove 66 = .ok (.iaload, 1) := by decide +kernel
theorem dX1_latestMove_67 : decode cX1_latestMove 67 = .ok (.if_icmp .lt 7, 3) := by decide +kernel
theorem dX1_latestMove_70 : decode cX1_latestMove 70 = .ok (.iload 6, 2) := by decide +kernel
theorem dX1_latestMove_72 : decode cX1_latestMove 72 = .ok (.istore 5, 2) := by decide +kernel
theorem dX1_latestMove_74 : decode cX1_latestMove 74 = .ok (.iinc 6 1, 3) := by decide +kernel
theorem dX1_latestMove_77 : decode cX1_latestMove 77 = .ok (.goto (-71), 3) := by decide +kernel
theorem dX1_latestMove_80 : decode cX1_latestMove 80 = .ok (.iload 5, 2) := by decide +kernel
theorem dX1_latestMove_82 : decode cX1_latestMove 82 = .ok (.ireturn, 1) := by decide +kernel
theorem dX1_areAlikeTaps_0 : decode cX1_areAlikeTaps 0 = .ok (.aload_n 0, 1) := by decide +kernel
theorem dX1_areAlikeTaps_1 : decode cX1_areAlikeTaps 1 = .ok (.getfield 18, 3) := by decide +kernel
theorem dX1_areAlikeTaps_4 : decode cX1_areAlikeTaps 4 = .ok (.iload_n 1, 1) := by decide +kernel
theorem dX1_areAlikeTaps_5 : decode cX1_areAlikeTaps 5 = .ok (.iaload, 1) := by decide +kernel
theorem dX1_areAlikeTaps_6 : decode cX1_areAlikeTaps 6 = .ok (.aload_n 0, 1) := by decide +kernel
theorem dX1_areAlikeTaps_7 : decode cX1_areAlikeTaps 7 = .ok (.getfield 18, 3) := by decide +kernel
theorem dX1_areAlikeTaps_10 : decode cX1_areAlikeTaps 10 = .ok (.iload_n 2, 1) := by decide +kernel
theorem dX1_areAlikeTaps_11 : decode cX1_areAlikeTaps 11 = .ok (.iaload, 1) := by decide +kernel
theorem dX1_areAlikeTaps_12 : decode cX1_areAlikeTaps 12 = .ok (.if_icmp .ne 32, 3) := by decide +kernel
theorem dX1_areAlikeTaps_15 : decode cX1_areAlikeTaps 15 = .ok (.aload_n 0, 1) := by decide +kernel
theorem dX1_areAlikeTaps_16 : decode cX1_areAlikeTaps 16 = .ok (.getfield 11, 3) := by decide +kernel
theorem dX1_areAlikeTaps_19 : decode cX1_areAlikeTaps 19 = .ok (.iload_n 1, 1) := by decide +kernel
theorem dX1_areAlikeTaps_20 : decode cX1_areAlikeTaps 20 = .ok (.iaload, 1) := by decide +kernel
theorem dX1_areAlikeTaps_21 : decode cX1_areAlikeTaps 21 = .ok (.aload_n 0, 1) := by decide +kernel
theorem dX1_areAlikeTaps_22 : decode cX1_areAlikeTaps 22 = .ok (.getfield 11, 3) := by decide +kernel
theorem dX1_areAlikeTaps_25 : decode cX1_areAlikeTaps 25 = .ok (.iload_n 2, 1) := by decide +kernel
theorem dX1_areAlikeTaps_26 : decode cX1_areAlikeTaps 26 = .ok (.iaload, 1) := by decide +kernel
theorem dX1_areAlikeTaps_27 : decode cX1_areAlikeTaps 27 = .ok (.if_icmp .ne 17, 3) := by decide +kernel
theorem dX1_areAlikeTaps_30 : decode cX1_areAlikeTaps 30 = .ok (.aload_n 0, 1) := by decide +kernel
theorem dX1_areAlikeTaps_31 : decode cX1_areAlikeTaps 31 = .ok (.iload_n 2, 1) := by decide +kernel
theorem dX1_areAlikeTaps_32 : decode cX1_areAlikeTaps 32 = .ok (.iconst 5, 1) := by decide +kernel
theorem dX1_areAlikeTaps_33 : decode cX1_areAlikeTaps 33 = .ok (.iload_n 3, 1) := by decide +kernel
theorem dX1_areAlikeTaps_34 : decode cX1_areAlikeTaps 34 = .ok (.invokevirtual 54, 3) := by decide +kernel
theorem dX1_areAlikeTaps_37 : decode cX1_areAlikeTaps 37 = .ok (.ifCond .eq 7, 3) := by decide +kernel
theorem dX1_areAlikeTaps_40 : decode cX1_areAlikeTaps 40 = .ok (.iconst 1, 1) := by decide +kernel
theorem dX1_areAlikeTaps_41 : decode cX1_areAlikeTaps 41 = .ok (.goto 4, 3) := by decide +kernel
theorem dX1_areAlikeTaps_44 : decode cX1_areAlikeTaps 44 = .ok (.iconst 0, 1) := by decide +kernel
theorem dX1_areAlikeTaps_45 : decode cX1_areAlikeTaps 45 = .ok (.ireturn, 1) := by decide +kernel
theorem dX2_init_0 : decode cX2_init 0 = .ok (.aload_n 0, 1) := by decide +kernel
theorem dX2_init_1 : decode cX2_init 1 = .ok (.invokespecial 5, 3) := by decide +kernel
theorem dX2_init_4 : decode cX2_init 4 = .ok (.aload_n 0, 1) := by decide +kernel
theorem dX2_init_5 : decode cX2_init 5 = .ok (.iconst 3, 1) := by decide +kernel
theorem dX2_init_6 : decode cX2_init 6 = .ok (.newarray .int, 2) := by decide +kernel
theorem dX2_init_8 : decode cX2_init 8 = .ok (.putfield 11, 3) := by decide +kernel
theorem dX2_init_11 : decode cX2_init 11 = .ok (.aload_n 0, 1) := by decide +kernel
theorem dX2_init_12 : decode cX2_init 12 = .ok (.bipush 18, 2) := by decide +kernel
theorem dX2_init_14 : decode cX2_init 14 = .ok (.newarray .int, 2) := by decide +kernel
theorem dX2_init_16 : decode cX2_init 16 = .ok (.putfield 15, 3) := by decide +kernel
theorem dX2_init_19 : decode cX2_init 19 = .ok (.aload_n 0, 1) := by decide +kernel
theorem dX2_init_20 : decode cX2_init 20 = .ok (.bipush 18, 2) := by decide +kernel
theorem dX2_init_22 : decode cX2_init 22 = .ok (.newarray .int, 2) := by decide +kernel
theorem dX2_init_24 : decode cX2_init 24 = .ok (.putfield 18, 3) := by decide +kernel
theorem dX2_init_27 : decode cX2_init 27 = .ok (.aload_n 0, 1) := by decide +kernel
theorem dX2_init_28 : decode cX2_init 28 = .ok (.bipush 18, 2) := by decide +kernel
theorem dX2_init_30 : decode cX2_init 30 = .ok (.newarray .int, 2) := by decide +kernel
theorem dX2_init_32 : decode cX2_init 32 = .ok (.putfield 21, 3) := by decide +kernel
theorem dX2_init_35 : decode cX2_init 35 = .ok (.aload_n 0, 1) := by decide +kernel
theorem dX2_init_36 : decode cX2_init 36 = .ok (.iconst 3, 1) := by decide +kernel
theorem dX2_init_37 : decode cX2_init 37 = .ok (.newarray .int, 2) := by decide +kernel
theorem dX2_init_39 : decode cX2_init 39 = .ok (.putfield 24, 3) := by decide +kernel
theorem dX2_init_42 : decode cX2_init 42 = .ok (.aload_n 0, 1) := by decide +kernel
theorem dX2_init_43 : decode cX2_init 43 = .ok (.iconst 3, 1) := by decide +kernel
theorem dX2_init_44 : decode cX2_init 44 = .ok (.newarray .int, 2) := by decide +kernel
theorem dX2_init_46 : decode cX2_init 46 = .ok (.putfield 27, 3) := by decide +kernel
theorem dX2_init_49 : decode cX2_init 49 = .ok (.aload_n 0, 1) := by decide +kernel
theorem dX2_init_50 : decode cX2_init 50 = .ok (.iconst 3, 1) := by decide +kernel
theorem dX2_init_51 : decode cX2_init 51 = .ok (.newarray .int, 2) := by decide +kernel
theorem dX2_init_53 : decode cX2_init 53 = .ok (.putfield 30, 3) := by decide +kernel
theorem dX2_init_56 : decode cX2_init 56 = .ok (.aload_n 0, 1) := by decide +kernel
theorem dX2_init_57 : decode cX2_init 57 = .ok (.sipush 486, 3) := by decide +kernel
theorem dX2_init_60 : decode cX2_init 60 = .ok (.newarray .int, 2) := by decide +kernel
theorem dX2_init_62 : decode cX2_init 62 = .ok (.putfield 33, 3) := by decide +kernel
theorem dX2_init_65 : decode cX2_init 65 = .ok (.aload_n 0, 1) := by decide +kernel
theorem dX2_init_66 : decode cX2_init 66 = .ok (.bipush 18, 2) := by decide +kernel
theorem dX2_init_68 : decode cX2_init 68 = .ok (.newarray .int, 2) := by decide +kernel
theorem dX2_init_70 : decode cX2_init 70 = .ok (.putfield 36, 3) := by decide +kernel
theorem dX2_init_73 : decode cX2_init 73 = .ok (.aload_n 0, 1) := by decide +kernel
theorem dX2_init_74 : decode cX2_init 74 = .ok (.bipush 18, 2) := by decide +kernel
theorem dX2_init_76 : decode cX2_init 76 = .ok (.newarray .int, 2) := by decide +kernel
theorem dX2_init_78 : decode cX2_init 78 = .ok (.putfield 39, 3) := by decide +kernel
theorem dX2_init_81 : decode cX2_init 81 = .ok (.aload_n 0, 1) := by decide +kernel
theorem dX2_init_82 : decode cX2_init 82 = .ok (.bipush 18, 2) := by decide +kernel
theorem dX2_init_84 : decode cX2_init 84 = .ok (.newarray .int, 2) := by decide +kernel
theorem dX2_init_86 : decode cX2_init 86 = .ok (.putfield 42, 3) := by decide +kernel
theorem dX2_init_89 : decode cX2_init 89 = .ok (.aload_n 0, 1) := by decide +kernel
theorem dX2_init_90 : decode cX2_init 90 = .ok (.bipush 18, 2) := by decide +kernel
theorem dX2_init_92 : decode cX2_init 92 = .ok (.newarray .int, 2) := by decide +kernel
theorem dX2_init_94 : decode cX2_init 94 = .ok (.putfield 45, 3) := by decide +kernel
theorem dX2_init_97 : decode cX2_init 97 = .ok (.aload_n 0, 1) := by decide +kernel
theorem dX2_init_98 : decode cX2_init 98 = .ok (.bipush 19, 2) := by decide +kernel
theorem dX2_init_100 : decode cX2_init 100 = .ok (.newarray .int, 2) := by decide +kernel
theorem dX2_init_102 : decode cX2_init 102 = .ok (.putfield 48, 3) := by decide +kernel
theorem dX2_init_105 : decode cX2_init 105 = .ok (.return_, 1) := by decide +kernel
theorem dX2_clear_0 : decode cX2_clear 0 = .ok (.aload_n 0, 1) := by decide +kernel
theorem dX2_clear_1 : decode cX2_clear 1 = .ok (.iload_n 1, 1) := by decide +kernel
theorem dX2_clear_2 : decode cX2_clear 2 = .ok (.putfield 51, 3) := by decide +kernel
theorem dX2_clear_5 : decode cX2_clear 5 = .ok (.aload_n 0, 1) := by decide +kernel
theorem dX2_clear_6 : decode cX2_clear 6 = .ok (.iconst 0, 1) := by decide +kernel
theorem dX2_clear_7 : decode cX2_clear 7 = .ok (.putfield 55, 3) := by decide +kernel
theorem dX2_clear_10 : decode cX2_clear 10 = .ok (.aload_n 0, 1) := by decide +kernel
theorem dX2_clear_11 : decode cX2_clear 11 = .ok (.aload_n 2, 1) := by decide +kernel
theorem dX2_clear_12 : decode cX2_clear 12 = .ok (.getfield 58, 3) := by decide +kernel
theorem dX2_clear_15 : decode cX2_clear 15 = .ok (.putfield 63, 3) := by decide +kernel
theorem dX2_clear_18 : decode cX2_clear 18 = .ok (.aload_n 0, 1) := by decide +kernel
theorem dX2_clear_19 : decode cX2_clear 19 = .ok (.iconst 0, 1) := by decide +kernel
theorem dX2_clear_20 : decode cX2_clear 20 = .ok (.putfield 64, 3) := by decide +kernel
theorem dX2_clear_23 : decode cX2_clear 23 = .ok (.aload_n 2, 1) := by decide +kernel
theorem dX2_clear_24 : decode cX2_clear 24 = .ok (.getfield 68, 3) := by decide +kernel
theorem dX2_clear_27 : decode cX2_clear 27 = .ok (.iconst 0, 1) := by decide +kernel
theorem dX2_clear_28 : decode cX2_clear 28 = .ok (.aload_n 0, 1) := by decide +kernel
theorem dX2_clear_29 : decode cX2_clear 29 = .ok (.getfield 24, 3) := by decide +kernel
theorem dX2_clear_32 : decode cX2_clear 32 = .ok (.iconst 0, 1) := by decide +kernel
theorem dX2_clear_33 : decode cX2_clear 33 = .ok (.iconst 3, 1) := by decide +kernel
theorem dX2_clear_34 : decode cX2_clear 34 = .ok (.invokestatic 69, 3) := by decide +kernel
theorem dX2_clear_37 : decode cX2_clear 37 = .ok (.aload_n 2, 1) := by decide +kernel
theorem dX2_clear_38 : decode cX2_clear 38 = .ok (.getfield 75, 3) := by decide +kernel
theorem dX2_clear_41 : decode cX2_clear 41 = .ok (.iconst 0, 1) := by decide +kernel
theorem dX2_clear_42 : decode cX2_clear 42 = .ok (.aload_n 0, 1) := by decide +kernel
theorem dX2_clear_43 : decode cX2_clear 43 = .ok (.getfield 27, 3) := by decide +kernel
theorem dX2_clear_46 : decode cX2_clear 46 = .ok (.iconst 0, 1) := by decide +kernel
theorem dX2_clear_47 : decode cX2_clear 47 = .ok (.iconst 3, 1) := by decide +kernel
theorem dX2_clear_48 : decode cX2_clear 48 = .ok (.invokestatic 69, 3) := by decide +kernel
theorem dX2_clear_51 : decode cX2_clear 51 = .ok (.return_, 1) := by decide +kernel
theorem dX2_addRoutes_0 : decode cX2_addRoutes 0 = .ok (.iconst 0, 1) := by decide +kernel
theorem dX2_addRoutes_1 : decode cX2_addRoutes 1 = .ok (.istore 4, 2) := by decide +kernel
theorem dX2_addRoutes_3 : decode cX2_addRoutes 3 = .ok (.iload 4, 2) := by decide +kernel
theorem dX2_addRoutes_5 : decode cX2_addRoutes 5 = .ok (.aload_n 1, 1) := by decide +kernel
theorem dX2_addRoutes_6 : decode cX2_addRoutes 6 = .ok (.getfield 76, 3) := by decide +kernel
theorem dX2_addRoutes_9 : decode cX2_addRoutes 9 = .ok (.if_icmp .ge 98, 3) := by decide +kernel
theorem dX2_addRoutes_12 : decode cX2_addRoutes 12 = .ok (.aload_n 0, 1) := by decide +kernel
theorem dX2_addRoutes_13 : decode cX2_addRoutes 13 = .ok (.getfield 55, 3) := by decide +kernel
theorem dX2_addRoutes_16 : decode cX2_addRoutes 16 = .ok (.bipush 18, 2) := by decide +kernel
theorem dX2_addRoutes_18 : decode cX2_addRoutes 18 = .ok (.if_icmp .ge 89, 3) := by decide +kernel
theorem dX2_addRoutes_21 : decode cX2_addRoutes 21 = .ok (.aload_n 1, 1) := by decide +kernel
theorem dX2_addRoutes_22 : decode cX2_addRoutes 22 = .ok (.getfield 81, 3) := by decide +kernel
theorem dX2_addRoutes_25 : decode cX2_addRoutes 25 = .ok (.iload 4, 2) := by decide +kernel
theorem dX2_addRoutes_27 : decode cX2_addRoutes 27 = .ok (.iaload, 1) := by decide +kernel
theorem dX2_addRoutes_28 : decode cX2_addRoutes 28 = .ok (.istore 5, 2) := by decide +kernel
theorem dX2_addRoutes_30 : decode cX2_addRoutes 30 = .ok (.aload_n 1, 1) := by decide +kernel
theorem dX2_addRoutes_31 : decode cX2_addRoutes 31 = .ok (.iload 5, 2) := by decide +kernel
theorem dX2_addRoutes_33 : decode cX2_addRoutes 33 = .ok (.iconst 0, 1) := by decide +kernel
theorem dX2_addRoutes_34 : decode cX2_addRoutes 34 = .ok (.invokevirtual 84, 3) := by decide +kernel
theorem dX2_addRoutes_37 : decode cX2_addRoutes 37 = .ok (.istore 6, 2) := by decide +kernel
theorem dX2_addRoutes_39 : decode cX2_addRoutes 39 = .ok (.aload_n 0, 1) := by decide +kernel
theorem dX2_addRoutes_40 : decode cX2_addRoutes 40 = .ok (.getfield 15, 3) := by decide +kernel
theorem dX2_addRoutes_43 : decode cX2_addRoutes 43 = .ok (.aload_n 0, 1) := by decide +kernel
theorem dX2_addRoutes_44 : decode cX2_addRoutes 44 = .ok (.getfield 55, 3) := by decide +kernel
theorem dX2_addRoutes_47 : decode cX2_addRoutes 47 = .ok (.iload_n 2, 1) := by decide +kernel
theorem dX2_addRoutes_48 : decode cX2_addRoutes 48 = .ok (.iastore, 1) := by decide +kernel
theorem dX2_addRoutes_49 : decode cX2_addRoutes 49 = .ok (.aload_n 0, 1) := by decide +kernel
theorem dX2_addRoutes_50 : decode cX2_addRoutes 50 = .ok (.getfield 18, 3) := by decide +kernel
theorem dX2_addRoutes_53 : decode cX2_addRoutes 53 = .ok (.aload_n 0, 1) := by decide +kernel
theorem dX2_addRoutes_54 : decode cX2_addRoutes 54 = .ok (.getfield 55, 3) := by decide +kernel
theorem dX2_addRoutes_57 : decode cX2_addRoutes 57 = .ok (.iload 6, 2) := by decide +kernel
theorem dX2_addRoutes_59 : decode cX2_addRoutes 59 = .ok (.iconst (-1), 1) := by decide +kernel
theorem dX2_addRoutes_60 : decode cX2_addRoutes 60 = .ok (.if_icmp .ne 7, 3) := by decide +kernel
theorem dX2_addRoutes_63 : decode cX2_addRoutes 63 = .ok (.iconst (-1), 1) := by decide +kernel
theorem dX2_addRoutes_64 : decode cX2_addRoutes 64 = .ok (.goto 10, 3) := by decide +kernel
theorem dX2_addRoutes_67 : decode cX2_addRoutes 67 = .ok (.aload_n 3, 1) := by decide +kernel
theorem dX2_addRoutes_68 : decode cX2_addRoutes 68 = .ok (.getfield 88, 3) := by decide +kernel
theorem dX2_addRoutes_71 : decode cX2_addRoutes 71 = .ok (.iload 6, 2) := by decide +kernel
theorem dX2_addRoutes_73 : decode cX2_addRoutes 73 = .ok (.iaload, 1) := by decide +kernel
theorem dX2_addRoutes_74 : decode cX2_addRoutes 74 = .ok (.iastore, 1) := by decide +kernel
theorem dX2_addRoutes_75 : decode cX2_addRoutes 75 = .ok (.aload_n 0, 1) := by decide +kernel
theorem dX2_addRoutes_76 : decode cX2_addRoutes 76 = .ok (.getfield 21, 3) := by decide +kernel
theorem dX2_addRoutes_79 : decode cX2_addRoutes 79 = .ok (.aload_n 0, 1) := by decide +kernel
theorem dX2_addRoutes_80 : decode cX2_addRoutes 80 = .ok (.getfield 55, 3) := by decide +kernel
theorem dX2_addRoutes_83 : decode cX2_addRoutes 83 = .ok (.aload_n 1, 1) := by decide +kernel
theorem dX2_addRoutes_84 : decode cX2_addRoutes 84 = .ok (.getfield 91, 3) := by decide +kernel
theorem dX2_addRoutes_87 : decode cX2_addRoutes 87 = .ok (.iload 5, 2) := by decide +kernel
theorem dX2_addRoutes_89 : decode cX2_addRoutes 89 = .ok (.iaload, 1) := by decide +kernel
theorem dX2_addRoutes_90 : decode cX2_addRoutes 90 = .ok (.iastore, 1) := by decide +kernel
theorem dX2_addRoutes_91 : decode cX2_addRoutes 91 = .ok (.aload_n 0, 1) := by decide +kernel
theorem dX2_addRoutes_92 : decode cX2_addRoutes 92 = .ok (.dup, 1) := by decide +kernel
theorem dX2_addRoutes_93 : decode cX2_addRoutes 93 = .ok (.getfield 55, 3) := by decide +kernel
theorem dX2_addRoutes_96 : decode cX2_addRoutes 96 = .ok (.iconst 1, 1) := by decide +kernel
theorem dX2_addRoutes_97 : decode cX2_addRoutes 97 = .ok (.iadd, 1) := by decide +kernel
theorem dX2_addRoutes_98 : decode cX2_addRoutes 98 = .ok (.putfield 55, 3) := by decide +kernel
theorem dX2_addRoutes_101 : decode cX2_addRoutes 101 = .ok (.iinc 4 1, 3) := by decide +kernel
theorem dX2_addRoutes_104 : decode cX2_addRoutes 104 = .ok (.goto (-101), 3) := by decide +kernel
theorem dX2_addRoutes_107 : decode cX2_addRoutes 107 = .ok (.return_, 1) := by decide +kernel
theorem dX2_measure_0 : decode cX2_measure 0 = .ok (.aload_n 0, 1) := by decide +kernel
theorem dX2_measure_1 : decode cX2_measure 1 = .ok (.getfield 33, 3) := by decide +kernel
theorem dX2_measure_4 : decode cX2_measure 4 = .ok (.iconst 0, 1) := by decide +kernel
theorem dX2_measure_5 : decode cX2_measure 5 = .ok (.invokestatic 94, 3) := by decide +kernel
theorem dX2_measure_8 : decode cX2_measure 8 = .ok (.iconst 0, 1) := by decide +kernel
theorem dX2_measure_9 : decode cX2_measure 9 = .ok (.istore_n 2, 1) := by decide +kernel
theorem dX2_measure_10 : decode cX2_measure 10 = .ok (.iload_n 2, 1) := by decide +kernel
theorem dX2_measure_11 : decode cX2_measure 11 = .ok (.aload_n 0, 1) := by decide +kernel
theorem dX2_measure_12 : decode cX2_measure 12 = .ok (.getfield 55, 3) := by decide +kernel
theorem dX2_measure_15 : decode cX2_measure 15 = .ok (.if_icmp .ge 95, 3) := by decide +kernel
theorem dX2_measure_18 : decode cX2_measure 18 = .ok (.iconst 0, 1) := by decide +kernel
theorem dX2_measure_19 : decode cX2_measure 19 = .ok (.istore_n 3, 1) := by decide +kernel
theorem dX2_measure_20 : decode cX2_measure 20 = .ok (.iload_n 3, 1) := by decide +kernel
theorem dX2_measure_21 : decode cX2_measure 21 = .ok (.aload_n 0, 1) := by decide +kernel
theorem dX2_measure_22 : decode cX2_measure 22 = .ok (.getfield 55, 3) := by decide +kernel
theorem dX2_measure_25 : decode cX2_measure 25 = .ok (.if_icmp .ge 79, 3) := by decide +kernel
theorem dX2_measure_28 : decode cX2_measure 28 = .ok (.aload_n 1, 1) := by decide +kernel
theorem dX2_measure_29 : decode cX2_measure 29 = .ok (.iconst 2, 1) := by decide +kernel
theorem dX2_measure_30 : decode cX2_measure 30 = .ok (.aload_n 0, 1) := by decide +kernel
theorem dX2_measure_31 : decode cX2_measure 31 = .ok (.getfield 24, 3) := by decide +kernel
theorem dX2_measure_34 : decode cX2_measure 34 = .ok (.aload_n 0, 1) := by decide +kernel
theorem dX2_measure_35 : decode cX2_measure 35 = .ok (.getfield 15, 3) := by decide +kernel
theorem dX2_measure_38 : decode cX2_measure 38 = .ok (.iload_n 2, 1) := by decide +kernel
theorem dX2_measure_39 : decode cX2_measure 39 = .ok (.iaload, 1) := by decide +kernel
theorem dX2_measure_40 : decode cX2_measure 40 = .ok (.iaload, 1) := by decide +kernel
theorem dX2_measure_41 : decode cX2_measure 41 = .ok (.aload_n 0, 1) := by decide +kernel
theorem dX2_measure_42 : decode cX2_measure 42 = .ok (.getfield 18, 3) := by decide +kernel
theorem dX2_measure_45 : decode cX2_measure 45 = .ok (.iload_n 3, 1) := by decide +kernel
theorem dX2_measure_46 : decode cX2_measure 46 = .ok (.iaload, 1) := by decide +kernel
theorem dX2_measure_47 : decode cX2_measure 47 = .ok (.invokevirtual 100, 3) := by decide +kernel
theorem dX2_measure_50 : decode cX2_measure 50 = .ok (.istore 4, 2) := by decide +kernel
theorem dX2_measure_52 : decode cX2_measure 52 = .ok (.iload 4, 2) := by decide +kernel
theorem dX2_measure_54 : decode cX2_measure 54 = .ok (.ldc 106, 2) := by decide +kernel
theorem dX2_measure_56 : decode cX2_measure 56 = .ok (.if_icmp .ge 42, 3) := by decide +kernel
theorem dX2_measure_59 : decode cX2_measure 59 = .ok (.aload_n 0, 1) := by decide +kernel
theorem dX2_measure_60 : decode cX2_measure 60 = .ok (.iload_n 2, 1) := by decide +kernel
theorem dX2_measure_61 : decode cX2_measure 61 = .ok (.iload_n 3, 1) := by decide +kernel
theorem dX2_measure_62 : decode cX2_measure 62 = .ok (.aload_n 0, 1) := by decide +kernel
theorem dX2_measure_63 : decode cX2_measure 63 = .ok (.getfield 27, 3) := by decide +kernel
theorem dX2_measure_66 : decode cX2_measure 66 = .ok (.aload_n 0, 1) := by decide +kernel
theorem dX2_measure_67 : decode cX2_measure 67 = .ok (.getfield 15, 3) := by decide +kernel
theorem dX2_measure_70 : decode cX2_measure 70 = .ok (.iload_n 3, 1) := by decide +kernel
theorem dX2_measure_71 : decode cX2_measure 71 = .ok (.iaload, 1) := by decide +kernel
theorem dX2_measure_72 : decode cX2_measure 72 = .ok (.iaload, 1) := by decide +kernel
theorem dX2_measure_73 : decode cX2_measure 73 = .ok (.aload_n 0, 1) := by decide +kernel
theorem dX2_measure_74 : decode cX2_measure 74 = .ok (.getfield 21, 3) := by decide +kernel
theorem dX2_measure_77 : decode cX2_measure 77 = .ok (.iload_n 3, 1) := by decide +kernel
theorem dX2_measure_78 : decode cX2_measure 78 = .ok (.iaload, 1) := by decide +kernel
theorem dX2_measure_79 : decode cX2_measure 79 = .ok (.isub, 1) := by decide +kernel
theorem dX2_measure_80 : decode cX2_measure 80 = .ok (.aload_n 0, 1) := by decide +kernel
theorem dX2_measure_81 : decode cX2_measure 81 = .ok (.getfield 27, 3) := by decide +kernel
theorem dX2_measure_84 : decode cX2_measure 84 = .ok (.aload_n 0, 1) := by decide +kernel
theorem dX2_measure_85 : decode cX2_measure 85 = .ok (.getfield 15, 3) := by decide +kernel
theorem dX2_measure_88 : decode cX2_measure 88 = .ok (.iload_n 2, 1) := by decide +kernel
theorem dX2_measure_89 : decode cX2_measure 89 = .ok (.iaload, 1) := by decide +kernel
theorem dX2_measure_90 : decode cX2_measure 90 = .ok (.iaload, 1) := by decide +kernel
theorem dX2_measure_91 : decode cX2_measure 91 = .ok (.isub, 1) := by decide +kernel
theorem dX2_measure_92 : decode cX2_measure 92 = .ok (.iload 4, 2) := by decide +kernel
theorem dX2_measure_94 : decode cX2_measure 94 = .ok (.isub, 1) := by decide +kernel
theorem dX2_measure_95 : decode cX2_measure 95 = .ok (.invokevirtual 107, 3) := by decide +kernel
theorem dX2_measure_98 : decode cX2_measure 98 = .ok (.iinc 3 1, 3) := by decide +kernel
theorem dX2_measure_101 : decode cX2_measure 101 = .ok (.goto (-81), 3) := by decide +kernel
theorem dX2_measure_104 : decode cX2_measure 104 = .ok (.iinc 2 1, 3) := by decide +kernel
theorem dX2_measure_107 : decode cX2_measure 107 = .ok (.goto (-97), 3) := by decide +kernel
theorem dX2_measure_110 : decode cX2_measure 110 = .ok (.return_, 1) := by decide +kernel
theorem dX2_noteFollower_0 : decode cX2_noteFollower 0 = .ok (.iload_n 1, 1) := by decide +kernel
theorem dX2_noteFollower_1 : decode cX2_noteFollower 1 = .ok (.iconst 3, 1) := by decide +kernel
theorem dX2_noteFollower_2 : decode cX2_noteFollower 2 = .ok (.imul, 1) := by decide +kernel
theorem dX2_noteFollower_3 : decode cX2_noteFollower 3 = .ok (.aload_n 0, 1) := by decide +kernel
theorem dX2_noteFollower_4 : decode cX2_noteFollower 4 = .ok (.getfield 15, 3) := by decide +kernel
theorem dX2_noteFollower_7 : decode cX2_noteFollower 7 = .ok (.iload_n 2, 1) := by decide +kernel
theorem dX2_noteFollower_8 : decode cX2_noteFollower 8 = .ok (.iaload, 1) := by decide +kernel
theorem dX2_noteFollower_9 : decode cX2_noteFollower 9 = .ok (.iadd, 1) := by decide +kernel
theorem dX2_noteFollower_10 : decode cX2_noteFollower 10 = .ok (.bipush 9, 2) := by decide +kernel
theorem dX2_noteFollower_12 : decode cX2_noteFollower 12 = .ok (.imul, 1) := by decide +kernel
theorem dX2_noteFollower_13 : decode cX2_noteFollower 13 = .ok (.istore 4, 2) := by decide +kernel
theorem dX2_noteFollower_15 : decode cX2_noteFollower 15 = .ok (.iconst 0, 1) := by decide +kernel
theorem dX2_noteFollower_16 : decode cX2_noteFollower 16 = .ok (.istore 5, 2) := by decide +kernel
theorem dX2_noteFollower_18 : decode cX2_noteFollower 18 = .ok (.iload 5, 2) := by decide +kernel
theorem dX2_noteFollower_20 : decode cX2_noteFollower 20 = .ok (.bipush 9, 2) := by decide +kernel
theorem dX2_noteFollower_22 : decode cX2_noteFollower 22 = .ok (.if_icmp .ge 86, 3) := by decide +kernel
theorem dX2_noteFollower_25 : decode cX2_noteFollower 25 = .ok (.iload 5, 2) := by decide +kernel
theorem dX2_noteFollower_27 : decode cX2_noteFollower 27 = .ok (.iconst 4, 1) := by decide +kernel
theorem dX2_noteFollower_28 : decode cX2_noteFollower 28 = .ok (.isub, 1) := by decide +kernel
theorem dX2_noteFollower_29 : decode cX2_noteFollower 29 = .ok (.bipush 10, 2) := by decide +kernel
theorem dX2_noteFollower_31 : decode cX2_noteFollower 31 = .ok (.imul, 1) := by decide +kernel
theorem dX2_noteFollower_32 : decode cX2_noteFollower 32 = .ok (.istore 6, 2) := by decide +kernel
theorem dX2_noteFollower_34 : decode cX2_noteFollower 34 = .ok (.aload_n 0, 1) := by decide +kernel
theorem dX2_noteFollower_35 : decode cX2_noteFollower 35 = .ok (.getfield 27, 3) := by decide +kernel
theorem dX2_noteFollower_38 : decode cX2_noteFollower 38 = .ok (.aload_n 0, 1) := by decide +kernel
theorem dX2_noteFollower_39 : decode cX2_noteFollower 39 = .ok (.getfield 15, 3) := by decide +kernel
theorem dX2_noteFollower_42 : decode cX2_noteFollower 42 = .ok (.iload_n 1, 1) := by decide +kernel
theorem dX2_noteFollower_43 : decode cX2_noteFollower 43 = .ok (.iaload, 1) := by decide +kernel
theorem dX2_noteFollower_44 : decode cX2_noteFollower 44 = .ok (.iaload, 1) := by decide +kernel
theorem dX2_noteFollower_45 : decode cX2_noteFollower 45 = .ok (.aload_n 0, 1) := by decide +kernel
theorem dX2_noteFollower_46 : decode cX2_noteFollower 46 = .ok (.getfield 27, 3) := by decide +kernel
theorem dX2_noteFollower_49 : decode cX2_noteFollower 49 = .ok (.aload_n 0, 1) := by decide +kernel
theorem dX2_noteFollower_50 : decode cX2_noteFollower 50 = .ok (.getfield 15, 3) := by decide +kernel
theorem dX2_noteFollower_53 : decode cX2_noteFollower 53 = .ok (.iload_n 2, 1) := by decide +kernel
theorem dX2_noteFollower_54 : decode cX2_noteFollower 54 = .ok (.iaload, 1) := by decide +kernel
theorem dX2_noteFollower_55 : decode cX2_noteFollower 55 = .ok (.iaload, 1) := by decide +kernel
theorem dX2_noteFollower_56 : decode cX2_noteFollower 56 = .ok (.iload 6, 2) := by decide +kernel
theorem dX2_noteFollower_58 : decode cX2_noteFollower 58 = .ok (.iadd, 1) := by decide +kernel
theorem dX2_noteFollower_59 : decode cX2_noteFollower 59 = .ok (.if_icmp .ne 7, 3) := by decide +kernel
theorem dX2_noteFollower_62 : decode cX2_noteFollower 62 = .ok (.iconst 1, 1) := by decide +kernel
theorem dX2_noteFollower_63 : decode cX2_noteFollower 63 = .ok (.goto 4, 3) := by decide +kernel
theorem dX2_noteFollower_66 : decode cX2_noteFollower 66 = .ok (.iconst 0, 1) := by decide +kernel
theorem dX2_noteFollower_67 : decode cX2_noteFollower 67 = .ok (.istore 7, 2) := by decide +kernel
theorem dX2_noteFollower_69 : decode cX2_noteFollower 69 = .ok (.iload_n 3, 1) := by decide +kernel
theorem dX2_noteFollower_70 : decode cX2_noteFollower 70 = .ok (.iload 6, 2) := by decide +kernel
theorem dX2_noteFollower_72 : decode cX2_noteFollower 72 = .ok (.iadd, 1) := by decide +kernel
theorem dX2_noteFollower_73 : decode cX2_noteFollower 73 = .ok (.ifCond .lt 29, 3) := by decide +kernel
theorem dX2_noteFollower_76 : decode cX2_noteFollower 76 = .ok (.iload_n 1, 1) := by decide +kernel
theorem dX2_noteFollower_77 : decode cX2_noteFollower 77 = .ok (.iload_n 2, 1) := by decide +kernel
theorem dX2_noteFollower_78 : decode cX2_noteFollower 78 = .ok (.if_icmp .lt 8, 3) := by decide +kernel
theorem dX2_noteFollower_81 : decode cX2_noteFollower 81 = .ok (.iload 7, 2) := by decide +kernel
theorem dX2_noteFollower_83 : decode cX2_noteFollower 83 = .ok (.ifCond .ne 19, 3) := by decide +kernel
theorem dX2_noteFollower_86 : decode cX2_noteFollower 86 = .ok (.aload_n 0, 1) := by decide +kernel
theorem dX2_noteFollower_87 : decode cX2_noteFollower 87 = .ok (.getfield 33, 3) := by decide +kernel
theorem dX2_noteFollower_90 : decode cX2_noteFollower 90 = .ok (.iload 4, 2) := by decide +kernel
theorem dX2_noteFollower_92 : decode cX2_noteFollower 92 = .ok (.iload 5, 2) := by decide +kernel
theorem dX2_noteFollower_94 : decode cX2_noteFollower 94 = .ok (.iadd, 1) := by decide +kernel
theorem dX2_noteFollower_95 : decode cX2_noteFollower 95 = .ok (.dup2, 1) := by decide +kernel
theorem dX2_noteFollower_96 : decode cX2_noteFollower 96 = .ok (.iaload, 1) := by decide +kernel
theorem dX2_noteFollower_97 : decode cX2_noteFollower 97 = .ok (.iconst 1, 1) := by decide +kernel
theorem dX2_noteFollower_98 : decode cX2_noteFollower 98 = .ok (.iload_n 2, 1) := by decide +kernel
theorem dX2_noteFollower_99 : decode cX2_noteFollower 99 = .ok (.ishl, 1) := by decide +kernel
theorem dX2_noteFollower_100 : decode cX2_noteFollower 100 = .ok (.ior, 1) := by decide +kernel
theorem dX2_noteFollower_101 : decode cX2_noteFollower 101 = .ok (.iastore, 1) := by decide +kernel
theorem dX2_noteFollower_102 : decode cX2_noteFollower 102 = .ok (.iinc 5 1, 3) := by decide +kernel
theorem dX2_noteFollower_105 : decode cX2_noteFollower 105 = .ok (.goto (-87), 3) := by decide +kernel
theorem dX2_noteFollower_108 : decode cX2_noteFollower 108 = .ok (.return_, 1) := by decide +kernel
theorem dX2_busesUnshifted_0 : decode cX2_busesUnshifted 0 = .ok (.aload_n 0, 1) := by decide +kernel
theorem dX2_busesUnshifted_1 : decode cX2_busesUnshifted 1 = .ok (.getfield 30, 3) := by decide +kernel
theorem dX2_busesUnshifted_4 : decode cX2_busesUnshifted 4 = .ok (.iconst 0, 1) := by decide +kernel
theorem dX2_busesUnshifted_5 : decode cX2_busesUnshifted 5 = .ok (.invokestatic 94, 3) := by decide +kernel
theorem dX2_busesUnshifted_8 : decode cX2_busesUnshifted 8 = .ok (.aload_n 0, 1) := by decide +kernel
theorem dX2_busesUnshifted_9 : decode cX2_busesUnshifted 9 = .ok (.invokevirtual 111, 3) := by decide +kernel
theorem dX2_busesUnshifted_12 : decode cX2_busesUnshifted 12 = .ok (.ireturn, 1) := by decide +kernel
theorem dX2_findShifts_0 : decode cX2_findShifts 0 = .ok (.aload_n 0, 1) := by decide +kernel
theorem dX2_findShifts_1 : decode cX2_findShifts 1 = .ok (.getfield 64, 3) := by decide +kernel
theorem dX2_findShifts_4 : decode cX2_findShifts 4 = .ok (.ifCond .eq 4, 3) := by decide +kernel
theorem dX2_findShifts_7 : decode cX2_findShifts 7 = .ok (.return_, 1) := by decide +kernel
theorem dX2_findShifts_8 : decode cX2_findShifts 8 = .ok (.aload_n 0, 1) := by decide +kernel
theorem dX2_findShifts_9 : decode cX2_findShifts 9 = .ok (.iconst 1, 1) := by decide +kernel
theorem dX2_findShifts_10 : decode cX2_findShifts 10 = .ok (.putfield 64, 3) := by decide +kernel
theorem dX2_findShifts_13 : decode cX2_findShifts 13 = .ok (.aload_n 0, 1) := by decide +kernel
theorem dX2_findShifts_14 : decode cX2_findShifts 14 = .ok (.bipush 19, 2) := by decide +kernel
theorem dX2_findShifts_16 : decode cX2_findShifts 16 = .ok (.putfield 115, 3) := by decide +kernel
theorem dX2_findShifts_19 : decode cX2_findShifts 19 = .ok (.iconst 0, 1) := by decide +kernel
theorem dX2_findShifts_20 : decode cX2_findShifts 20 = .ok (.istore_n 1, 1) := by decide +kernel
theorem dX2_findShifts_21 : decode cX2_findShifts 21 = .ok (.iconst 0, 1) := by decide +kernel
theorem dX2_findShifts_22 : decode cX2_findShifts 22 = .ok (.istore_n 2, 1) := by decide +kernel
theorem dX2_findShifts_23 : decode cX2_findShifts 23 = .ok (.iload_n 2, 1) := by decide +kernel
theorem dX2_findShifts_24 : decode cX2_findShifts 24 = .ok (.bipush 125, 2) := by decide +kernel
theorem dX2_findShifts_26 : decode cX2_findShifts 26 = .ok (.if_icmp .ge 105, 3) := by decide +kernel
theorem dX2_findShifts_29 : decode cX2_findShifts 29 = .ok (.aload_n 0, 1) := by decide +kernel
theorem dX2_findShifts_30 : decode cX2_findShifts 30 = .ok (.iload_n 2, 1) := by decide +kernel
theorem dX2_findShifts_31 : decode cX2_findShifts 31 = .ok (.invokevirtual 118, 3) := by decide +kernel
theorem dX2_findShifts_34 : decode cX2_findShifts 34 = .ok (.aload_n 0, 1) := by decide +kernel
theorem dX2_findShifts_35 : decode cX2_findShifts 35 = .ok (.getfield 30, 3) := by decide +kernel
theorem dX2_findShifts_38 : decode cX2_findShifts 38 = .ok (.iconst 0, 1) := by decide +kernel
theorem dX2_findShifts_39 : decode cX2_findShifts 39 = .ok (.iaload, 1) := by decide +kernel
theorem dX2_findShifts_40 : decode cX2_findShifts 40 = .ok (.invokestatic 122, 3) := by decide +kernel
theorem dX2_findShifts_43 : decode cX2_findShifts 43 = .ok (.aload_n 0, 1) := by decide +kernel
theorem dX2_findShifts_44 : decode cX2_findShifts 44 = .ok (.getfield 30, 3) := by decide +kernel
theorem dX2_findShifts_47 : decode cX2_findShifts 47 = .ok (.iconst 1, 1) := by decide +kernel
theorem dX2_findShifts_48 : decode cX2_findShifts 48 = .ok (.iaload, 1) := by decide +kernel
theorem dX2_findShifts_49 : decode cX2_findShifts 49 = .ok (.invokestatic 122, 3) := by decide +kernel
theorem dX2_findShifts_52 : decode cX2_findShifts 52 = .ok (.iadd, 1) := by decide +kernel
theorem dX2_findShifts_53 : decode cX2_findShifts 53 = .ok (.aload_n 0, 1) := by decide +kernel
theorem dX2_findShifts_54 : decode cX2_findShifts 54 = .ok (.getfield 30, 3) := by decide +kernel
theorem dX2_findShifts_57 : decode cX2_findShifts 57 = .ok (.iconst 2, 1) := by decide +kernel
theorem dX2_findShifts_58 : decode cX2_findShifts 58 = .ok (.iaload, 1) := by decide +kernel
theorem dX2_findShifts_59 : decode cX2_findShifts 59 = .ok (.invokestatic 122, 3) := by decide +kernel
theorem dX2_findShifts_62 : decode cX2_findShifts 62 = .ok (.iadd, 1) := by decide +kernel
theorem dX2_findShifts_63 : decode cX2_findShifts 63 = .ok (.istore_n 3, 1) := by decide +kernel
theorem dX2_findShifts_64 : decode cX2_findShifts 64 = .ok (.aload_n 0, 1) := by decide +kernel
theorem dX2_findShifts_65 : decode cX2_findShifts 65 = .ok (.invokevirtual 128, 3) := by decide +kernel
theorem dX2_findShifts_68 : decode cX2_findShifts 68 = .ok (.ifCond .eq 57, 3) := by decide +kernel
theorem dX2_findShifts_71 : decode cX2_findShifts 71 = .ok (.iload_n 3, 1) := by decide +kernel
theorem dX2_findShifts_72 : decode cX2_findShifts 72 = .ok (.iload_n 1, 1) := by decide +kernel
theorem dX2_findShifts_73 : decode cX2_findShifts 73 = .ok (.if_icmp .lt 11, 3) := by decide +kernel
theorem dX2_findShifts_76 : decode cX2_findShifts 76 = .ok (.aload_n 0, 1) := by decide +kernel
theorem dX2_findShifts_77 : decode cX2_findShifts 77 = .ok (.getfield 115, 3) := by decide +kernel
theorem dX2_findShifts_80 : decode cX2_findShifts 80 = .ok (.iconst 1, 1) := by decide +kernel
theorem dX2_findShifts_81 : decode cX2_findShifts 81 = .ok (.if_icmp .le 44, 3) := by decide +kernel
theorem dX2_findShifts_84 : decode cX2_findShifts 84 = .ok (.aload_n 0, 1) := by decide +kernel
theorem dX2_findShifts_85 : decode cX2_findShifts 85 = .ok (.invokevirtual 111, 3) := by decide +kernel
theorem dX2_findShifts_88 : decode cX2_findShifts 88 = .ok (.istore 4, 2) := by decide +kernel
theorem dX2_findShifts_90 : decode cX2_findShifts 90 = .ok (.iload 4, 2) := by decide +kernel
theorem dX2_findShifts_92 : decode cX2_findShifts 92 = .ok (.aload_n 0, 1) := by decide +kernel
theorem dX2_findShifts_93 : decode cX2_findShifts 93 = .ok (.getfield 115, 3) := by decide +kernel
theorem dX2_findShifts_96 : decode cX2_findShifts 96 = .ok (.if_icmp .lt 17, 3) := by decide +kernel
theorem dX2_findShifts_99 : decode cX2_findShifts 99 = .ok (.iload 4, 2) := by decide +kernel
theorem dX2_findShifts_101 : decode cX2_findShifts 101 = .ok (.aload_n 0, 1) := by decide +kernel
theorem dX2_findShifts_102 : decode cX2_findShifts 102 = .ok (.getfield 115, 3) := by decide +kernel
theorem dX2_findShifts_105 : decode cX2_findShifts 105 = .ok (.if_icmp .ne 20, 3) := by decide +kernel
theorem dX2_findShifts_108 : decode cX2_findShifts 108 = .ok (.iload_n 3, 1) := by decide +kernel
theorem dX2_findShifts_109 : decode cX2_findShifts 109 = .ok (.iload_n 1, 1) := by decide +kernel
theorem dX2_findShifts_110 : decode cX2_findShifts 110 = .ok (.if_icmp .ge 15, 3) := by decide +kernel
theorem dX2_findShifts_113 : decode cX2_findShifts 113 = .ok (.aload_n 0, 1) := by decide +kernel
theorem dX2_findShifts_114 : decode cX2_findShifts 114 = .ok (.iload 4, 2) := by decide +kernel
theorem dX2_findShifts_116 : decode cX2_findShifts 116 = .ok (.putfield 115, 3) := by decide +kernel
theorem dX2_findShifts_119 : decode cX2_findShifts 119 = .ok (.iload_n 3, 1) := by decide +kernel
theorem dX2_findShifts_120 : decode cX2_findShifts 120 = .ok (.istore_n 1, 1) := by decide +kernel
theorem dX2_findShifts_121 : decode cX2_findShifts 121 = .ok (.aload_n 0, 1) := by decide +kernel
theorem dX2_findShifts_122 : decode cX2_findShifts 122 = .ok (.invokevirtual 132, 3) := by decide +kernel
theorem dX2_findShifts_125 : decode cX2_findShifts 125 = .ok (.iinc 2 1, 3) := by decide +kernel
theorem dX2_findShifts_128 : decode cX2_findShifts 128 = .ok (.goto (-105), 3) := by decide +kernel
theorem dX2_findShifts_131 : decode cX2_findShifts 131 = .ok (.return_, 1) := by decide +kernel
theorem dX2_putBells_0 : decode cX2_putBells 0 = .ok (.aload_n 0, 1) := by decide +kernel
theorem dX2_putBells_1 : decode cX2_putBells 1 = .ok (.getfield 30, 3) := by decide +kernel
theorem dX2_putBells_4 : decode cX2_putBells 4 = .ok (.iconst 0, 1) := by decide +kernel
theorem dX2_putBells_5 : decode cX2_putBells 5 = .ok (.iload_n 1, 1) := by decide +kernel
theorem dX2_putBells_6 : decode cX2_putBells 6 = .ok (.bipush 25, 2) := by decide +kernel
theorem dX2_putBells_8 : decode cX2_putBells 8 = .ok (.idiv, 1) := by decide +kernel
theorem dX2_putBells_9 : decode cX2_putBells 9 = .ok (.iconst 2, 1) := by decide +kernel
theorem dX2_putBells_10 : decode cX2_putBells 10 = .ok (.isub, 1) := by decide +kernel
theorem dX2_putBells_11 : decode cX2_putBells 11 = .ok (.iastore, 1) := by decide +kernel
theorem dX2_putBells_12 : decode cX2_putBells 12 = .ok (.aload_n 0, 1) := by decide +kernel
theorem dX2_putBells_13 : decode cX2_putBells 13 = .ok (.getfield 30, 3) := by decide +kernel
theorem dX2_putBells_16 : decode cX2_putBells 16 = .ok (.iconst 1, 1) := by decide +kernel
theorem dX2_putBells_17 : decode cX2_putBells 17 = .ok (.iload_n 1, 1) := by decide +kernel
theorem dX2_putBells_18 : decode cX2_putBells 18 = .ok (.iconst 5, 1) := by decide +kernel
theorem dX2_putBells_19 : decode cX2_putBells 19 = .ok (.idiv, 1) := by decide +kernel
theorem dX2_putBells_20 : decode cX2_putBells 20 = .ok (.iconst 5, 1) := by decide +kernel
theorem dX2_putBells_21 : decode cX2_putBells 21 = .ok (.irem, 1) := by decide +kernel
theorem dX2_putBells_22 : decode cX2_putBells 22 = .ok (.iconst 2, 1) := by decide +kernel
theorem dX2_putBells_23 : decode cX2_putBells 23 = .ok (.isub, 1) := by decide +kernel
theorem dX2_putBells_24 : decode cX2_putBells 24 = .ok (.iastore, 1) := by decide +kernel
theorem dX2_putBells_25 : decode cX2_putBells 25 = .ok (.aload_n 0, 1) := by decide +kernel
theorem dX2_putBells_26 : decode cX2_putBells 26 = .ok (.getfield 30, 3) := by decide +kernel
theorem dX2_putBells_29 : decode cX2_putBells 29 = .ok (.iconst 2, 1) := by decide +kernel
theorem dX2_putBells_30 : decode cX2_putBells 30 = .ok (.iload_n 1, 1) := by decide +kernel
theorem dX2_putBells_31 : decode cX2_putBells 31 = .ok (.iconst 5, 1) := by decide +kernel
theorem dX2_putBells_32 : decode cX2_putBells 32 = .ok (.irem, 1) := by decide +kernel
theorem dX2_putBells_33 : decode cX2_putBells 33 = .ok (.iconst 2, 1) := by decide +kernel
theorem dX2_putBells_34 : decode cX2_putBells 34 = .ok (.isub, 1) := by decide +kernel
theorem dX2_putBells_35 : decode cX2_putBells 35 = .ok (.iastore, 1) := by decide +kernel
theorem dX2_putBells_36 : decode cX2_putBells 36 = .ok (.return_, 1) := by decide +kernel
theorem dX2_keepPuts_0 : decode cX2_keepPuts 0 = .ok (.iconst 0, 1) := by decide +kernel
theorem dX2_keepPuts_1 : decode cX2_keepPuts 1 = .ok (.istore_n 1, 1) := by decide +kernel
theorem dX2_keepPuts_2 : decode cX2_keepPuts 2 = .ok (.iload_n 1, 1) := by decide +kernel
theorem dX2_keepPuts_3 : decode cX2_keepPuts 3 = .ok (.iconst 3, 1) := by decide +kernel
theorem dX2_keepPuts_4 : decode cX2_keepPuts 4 = .ok (.if_icmp .ge 24, 3) := by decide +kernel
theorem dX2_keepPuts_7 : decode cX2_keepPuts 7 = .ok (.aload_n 0, 1) := by decide +kernel
theorem dX2_keepPuts_8 : decode cX2_keepPuts 8 = .ok (.getfield 11, 3) := by decide +kernel
theorem dX2_keepPuts_11 : decode cX2_keepPuts 11 = .ok (.iload_n 1, 1) := by decide +kernel
theorem dX2_keepPuts_12 : decode cX2_keepPuts 12 = .ok (.aload_n 0, 1) := by decide +kernel
theorem dX2_keepPuts_13 : decode cX2_keepPuts 13 = .ok (.getfield 30, 3) := by decide +kernel
theorem dX2_keepPuts_16 : decode cX2_keepPuts 16 = .ok (.iload_n 1, 1) := by decide +kernel
theorem dX2_keepPuts_17 : decode cX2_keepPuts 17 = .ok (.iaload, 1) := by decide +kernel
theorem dX2_keepPuts_18 : decode cX2_keepPuts 18 = .ok (.bipush 10, 2) := by decide +kernel
theorem dX2_keepPuts_20 : decode cX2_keepPuts 20 = .ok (.imul, 1) := by decide +kernel
theorem dX2_keepPuts_21 : decode cX2_keepPuts 21 = .ok (.iastore, 1) := by decide +kernel
theorem dX2_keepPuts_22 : decode cX2_keepPuts 22 = .ok (.iinc 1 1, 3) := by decide +kernel
theorem dX2_keepPuts_25 : decode cX2_keepPuts 25 = .ok (.goto (-23), 3) := by decide +kernel
theorem dX2_keepPuts_28 : decode cX2_keepPuts 28 = .ok (.return_, 1) := by decide +kernel
theorem dX2_putsExistingAlone_0 : decode cX2_putsExistingAlone 0 = .ok (.aload_n 0, 1) := by decide +kernel
theorem dX2_putsExistingAlone_1 : decode cX2_putsExistingAlone 1 = .ok (.getfield 63, 3) := by decide +kernel
theorem dX2_putsExistingAlone_4 : decode cX2_putsExistingAlone 4 = .ok (.istore_n 1, 1) := by decide +kernel
theorem dX2_putsExistingAlone_5 : decode cX2_putsExistingAlone 5 = .ok (.iload_n 1, 1) := by decide +kernel
theorem dX2_putsExistingAlone_6 : decode cX2_putsExistingAlone 6 = .ok (.iconst 3, 1) := by decide +kernel
theorem dX2_putsExistingAlone_7 : decode cX2_putsExistingAlone 7 = .ok (.if_icmp .ge 20, 3) := by decide +kernel
theorem dX2_putsExistingAlone_10 : decode cX2_putsExistingAlone 10 = .ok (.aload_n 0, 1) := by decide +kernel
theorem dX2_putsExistingAlone_11 : decode cX2_putsExistingAlone 11 = .ok (.getfield 30, 3) := by decide +kernel
theorem dX2_putsExistingAlone_14 : decode cX2_putsExistingAlone 14 = .ok (.iload_n 1, 1) := by decide +kernel
theorem dX2_putsExistingAlone_15 : decode cX2_putsExistingAlone 15 = .ok (.iaload, 1) := by decide +kernel
theorem dX2_putsExistingAlone_16 : decode cX2_putsExistingAlone 16 = .ok (.ifCond .eq 5, 3) := by decide +kernel
theorem dX2_putsExistingAlone_19 : decode cX2_putsExistingAlone 19 = .ok (.iconst 0, 1) := by decide +kernel
theorem dX2_putsExistingAlone_20 : decode cX2_putsExistingAlone 20 = .ok (.ireturn, 1) := by decide +kernel
theorem dX2_putsExistingAlone_21 : decode cX2_putsExistingAlone 21 = .ok (.iinc 1 1, 3) := by decide +kernel
theorem dX2_putsExistingAlone_24 : decode cX2_putsExistingAlone 24 = .ok (.goto (-19), 3) := by decide +kernel
theorem dX2_putsExistingAlone_27 : decode cX2_putsExistingAlone 27 = .ok (.iconst 1, 1) := by decide +kernel
theorem dX2_putsExistingAlone_28 : decode cX2_putsExistingAlone 28 = .ok (.ireturn, 1) := by decide +kernel
theorem dX2_fewestBuses_0 : decode cX2_fewestBuses 0 = .ok (.iconst 0, 1) := by decide +kernel
theorem dX2_fewestBuses_1 : decode cX2_fewestBuses 1 = .ok (.istore_n 1, 1) := by decide +kernel
theorem dX2_fewestBuses_2 : decode cX2_fewestBuses 2 = .ok (.iload_n 1, 1) := by decide +kernel
theorem dX2_fewestBuses_3 : decode cX2_fewestBuses 3 = .ok (.aload_n 0, 1) := by decide +kernel
theorem dX2_fewestBuses_4 : decode cX2_fewestBuses 4 = .ok (.getfield 55, 3) := by decide +kernel
theorem dX2_fewestBuses_7 : decode cX2_fewestBuses 7 = .ok (.if_icmp .ge 34, 3) := by decide +kernel
theorem dX2_fewestBuses_10 : decode cX2_fewestBuses 10 = .ok (.aload_n 0, 1) := by decide +kernel
theorem dX2_fewestBuses_11 : decode cX2_fewestBuses 11 = .ok (.getfield 36, 3) := by decide +kernel
theorem dX2_fewestBuses_14 : decode cX2_fewestBuses 14 = .ok (.iload_n 1, 1) := by decide +kernel
theorem dX2_fewestBuses_15 : decode cX2_fewestBuses 15 = .ok (.aload_n 0, 1) := by decide +kernel
theorem dX2_fewestBuses_16 : decode cX2_fewestBuses 16 = .ok (.iload_n 1, 1) := by decide +kernel
theorem dX2_fewestBuses_17 : decode cX2_fewestBuses 17 = .ok (.invokevirtual 135, 3) := by decide +kernel
theorem dX2_fewestBuses_20 : decode cX2_fewestBuses 20 = .ok (.iastore, 1) := by decide +kernel
theorem dX2_fewestBuses_21 : decode cX2_fewestBuses 21 = .ok (.aload_n 0, 1) := by decide +kernel
theorem dX2_fewestBuses_22 : decode cX2_fewestBuses 22 = .ok (.getfield 39, 3) := by decide +kernel
theorem dX2_fewestBuses_25 : decode cX2_fewestBuses 25 = .ok (.iload_n 1, 1) := by decide +kernel
theorem dX2_fewestBuses_26 : decode cX2_fewestBuses 26 = .ok (.iconst (-1), 1) := by decide +kernel
theorem dX2_fewestBuses_27 : decode cX2_fewestBuses 27 = .ok (.iastore, 1) := by decide +kernel
theorem dX2_fewestBuses_28 : decode cX2_fewestBuses 28 = .ok (.aload_n 0, 1) := by decide +kernel
theorem dX2_fewestBuses_29 : decode cX2_fewestBuses 29 = .ok (.getfield 42, 3) := by decide +kernel
theorem dX2_fewestBuses_32 : decode cX2_fewestBuses 32 = .ok (.iload_n 1, 1) := by decide +kernel
theorem dX2_fewestBuses_33 : decode cX2_fewestBuses 33 = .ok (.iconst (-1), 1) := by decide +kernel
theorem dX2_fewestBuses_34 : decode cX2_fewestBuses 34 = .ok (.iastore, 1) := by decide +kernel
theorem dX2_fewestBuses_35 : decode cX2_fewestBuses 35 = .ok (.iinc 1 1, 3) := by decide +kernel
theorem dX2_fewestBuses_38 : decode cX2_fewestBuses 38 = .ok (.goto (-36), 3) := by decide +kernel
theorem dX2_fewestBuses_41 : decode cX2_fewestBuses 41 = .ok (.aload_n 0, 1) := by decide +kernel
theorem dX2_fewestBuses_42 : decode cX2_fewestBuses 42 = .ok (.getfield 55, 3) := by decide +kernel
theorem dX2_fewestBuses_45 : decode cX2_fewestBuses 45 = .ok (.istore_n 1, 1) := by decide +kernel
theorem dX2_fewestBuses_46 : decode cX2_fewestBuses 46 = .ok (.iconst 0, 1) := by decide +kernel
theorem dX2_fewestBuses_47 : decode cX2_fewestBuses 47 = .ok (.istore_n 2, 1) := by decide +kernel
theorem dX2_fewestBuses_48 : decode cX2_fewestBuses 48 = .ok (.iload_n 2, 1) := by decide +kernel
theorem dX2_fewestBuses_49 : decode cX2_fewestBuses 49 = .ok (.aload_n 0, 1) := by decide +kernel
theorem dX2_fewestBuses_50 : decode cX2_fewestBuses 50 = .ok (.getfield 55, 3) := by decide +kernel
theorem dX2_fewestBuses_53 : decode cX2_fewestBuses 53 = .ok (.if_icmp .ge 20, 3) := by decide +kernel
theorem dX2_fewestBuses_56 : decode cX2_fewestBuses 56 = .ok (.aload_n 0, 1) := by decide +kernel
theorem dX2_fewestBuses_57 : decode cX2_fewestBuses 57 = .ok (.iload_n 2, 1) := by decide +kernel
theorem dX2_fewestBuses_58 : decode cX2_fewestBuses 58 = .ok (.invokevirtual 138, 3) := by decide +kernel
theorem dX2_fewestBuses_61 : decode cX2_fewestBuses 61 = .ok (.ifCond .eq 6, 3) := by decide +kernel
theorem dX2_fewestBuses_64 : decode cX2_fewestBuses 64 = .ok (.iinc 1 (-1), 3) := by decide +kernel
theorem dX2_fewestBuses_67 : decode cX2_fewestBuses 67 = .ok (.iinc 2 1, 3) := by decide +kernel
theorem dX2_fewestBuses_70 : decode cX2_fewestBuses 70 = .ok (.goto (-22), 3) := by decide +kernel
theorem dX2_fewestBuses_73 : decode cX2_fewestBuses 73 = .ok (.iload_n 1, 1) := by decide +kernel
theorem dX2_fewestBuses_74 : decode cX2_fewestBuses 74 = .ok (.ireturn, 1) := by decide +kernel
theorem dX2_followersOf_0 : decode cX2_followersOf 0 = .ok (.iconst 0, 1) := by decide +kernel
theorem dX2_followersOf_1 : decode cX2_followersOf 1 = .ok (.istore_n 2, 1) := by decide +kernel
theorem dX2_followersOf_2 : decode cX2_followersOf 2 = .ok (.iconst 0, 1) := by decide +kernel
theorem dX2_followersOf_3 : decode cX2_followersOf 3 = .ok (.istore_n 3, 1) := by decide +kernel
theorem dX2_followersOf_4 : decode cX2_followersOf 4 = .ok (.iload_n 3, 1) := by decide +kernel
theorem dX2_followersOf_5 : decode cX2_followersOf 5 = .ok (.aload_n 0, 1) := by decide +kernel
theorem dX2_followersOf_6 : decode cX2_followersOf 6 = .ok (.getfield 63, 3) := by decide +kernel
theorem dX2_followersOf_9 : decode cX2_followersOf 9 = .ok (.if_icmp .ge 50, 3) := by decide +kernel
theorem dX2_followersOf_12 : decode cX2_followersOf 12 = .ok (.aload_n 0, 1) := by decide +kernel
theorem dX2_followersOf_13 : decode cX2_followersOf 13 = .ok (.getfield 30, 3) := by decide +kernel
theorem dX2_followersOf_16 : decode cX2_followersOf 16 = .ok (.iload_n 3, 1) := by decide +kernel
theorem dX2_followersOf_17 : decode cX2_followersOf 17 = .ok (.iaload, 1) := by decide +kernel
theorem dX2_followersOf_18 : decode cX2_followersOf 18 = .ok (.aload_n 0, 1) := by decide +kernel
theorem dX2_followersOf_19 : decode cX2_followersOf 19 = .ok (.getfield 30, 3) := by decide +kernel
theorem dX2_followersOf_22 : decode cX2_followersOf 22 = .ok (.aload_n 0, 1) := by decide +kernel
theorem dX2_followersOf_23 : decode cX2_followersOf 23 = .ok (.getfield 15, 3) := by decide +kernel
theorem dX2_followersOf_26 : decode cX2_followersOf 26 = .ok (.iload_n 1, 1) := by decide +kernel
theorem dX2_followersOf_27 : decode cX2_followersOf 27 = .ok (.iaload, 1) := by decide +kernel
theorem dX2_followersOf_28 : decode cX2_followersOf 28 = .ok (.iaload, 1) := by decide +kernel
theorem dX2_followersOf_29 : decode cX2_followersOf 29 = .ok (.isub, 1) := by decide +kernel
theorem dX2_followersOf_30 : decode cX2_followersOf 30 = .ok (.iconst 4, 1) := by decide +kernel
theorem dX2_followersOf_31 : decode cX2_followersOf 31 = .ok (.iadd, 1) := by decide +kernel
theorem dX2_followersOf_32 : decode cX2_followersOf 32 = .ok (.istore 4, 2) := by decide +kernel
theorem dX2_followersOf_34 : decode cX2_followersOf 34 = .ok (.iload_n 2, 1) := by decide +kernel
theorem dX2_followersOf_35 : decode cX2_followersOf 35 = .ok (.aload_n 0, 1) := by decide +kernel
theorem dX2_followersOf_36 : decode cX2_followersOf 36 = .ok (.getfield 33, 3) := by decide +kernel
theorem dX2_followersOf_39 : decode cX2_followersOf 39 = .ok (.iload_n 1, 1) := by decide +kernel
theorem dX2_followersOf_40 : decode cX2_followersOf 40 = .ok (.iconst 3, 1) := by decide +kernel
theorem dX2_followersOf_41 : decode cX2_followersOf 41 = .ok (.imul, 1) := by decide +kernel
theorem dX2_followersOf_42 : decode cX2_followersOf 42 = .ok (.iload_n 3, 1) := by decide +kernel
theorem dX2_followersOf_43 : decode cX2_followersOf 43 = .ok (.iadd, 1) := by decide +kernel
theorem dX2_followersOf_44 : decode cX2_followersOf 44 = .ok (.bipush 9, 2) := by decide +kernel
theorem dX2_followersOf_46 : decode cX2_followersOf 46 = .ok (.imul, 1) := by decide +kernel
theorem dX2_followersOf_47 : decode cX2_followersOf 47 = .ok (.iload 4, 2) := by decide +kernel
theorem dX2_followersOf_49 : decode cX2_followersOf 49 = .ok (.iadd, 1) := by decide +kernel
theorem dX2_followersOf_50 : decode cX2_followersOf 50 = .ok (.iaload, 1) := by decide +kernel
theorem dX2_followersOf_51 : decode cX2_followersOf 51 = .ok (.ior, 1) := by decide +kernel
theorem dX2_followersOf_52 : decode cX2_followersOf 52 = .ok (.istore_n 2, 1) := by decide +kernel
theorem dX2_followersOf_53 : decode cX2_followersOf 53 = .ok (.iinc 3 1, 3) := by decide +kernel
theorem dX2_followersOf_56 : decode cX2_followersOf 56 = .ok (.goto (-52), 3) := by decide +kernel
theorem dX2_followersOf_59 : decode cX2_followersOf 59 = .ok (.iload_n 2, 1) := by decide +kernel
theorem dX2_followersOf_60 : decode cX2_followersOf 60 = .ok (.ireturn, 1) := by decide +kernel
theorem dX2_findFollower_0 : decode cX2_findFollower 0 = .ok (.iconst 0, 1) := by decide +kernel
theorem dX2_findFollower_1 : decode cX2_findFollower 1 = .ok (.istore_n 2, 1) := by decide +kernel
theorem dX2_findFollower_2 : decode cX2_findFollower 2 = .ok (.iconst 1, 1) := by decide +kernel
theorem dX2_findFollower_3 : decode cX2_findFollower 3 = .ok (.istore_n 3, 1) := by decide +kernel
theorem dX2_findFollower_4 : decode cX2_findFollower 4 = .ok (.aload_n 0, 1) := by decide +kernel
theorem dX2_findFollower_5 : decode cX2_findFollower 5 = .ok (.getfield 48, 3) := by decide +kernel
theorem dX2_findFollower_8 : decode cX2_findFollower 8 = .ok (.iconst 0, 1) := by decide +kernel
theorem dX2_findFollower_9 : decode cX2_findFollower 9 = .ok (.iload_n 1, 1) := by decide +kernel
theorem dX2_findFollower_10 : decode cX2_findFollower 10 = .ok (.iastore, 1) := by decide +kernel
theorem dX2_findFollower_11 : decode cX2_findFollower 11 = .ok (.iconst 0, 1) := by decide +kernel
theorem dX2_findFollower_12 : decode cX2_findFollower 12 = .ok (.istore 4, 2) := by decide +kernel
theorem dX2_findFollower_14 : decode cX2_findFollower 14 = .ok (.iload 4, 2) := by decide +kernel
theorem dX2_findFollower_16 : decode cX2_findFollower 16 = .ok (.iload_n 3, 1) := by decide +kernel
theorem dX2_findFollower_17 : decode cX2_findFollower 17 = .ok (.if_icmp .ge 143, 3) := by decide +kernel
theorem dX2_findFollower_20 : decode cX2_findFollower 20 = .ok (.iload 4, 2) := by decide +kernel
theorem dX2_findFollower_22 : decode cX2_findFollower 22 = .ok (.aload_n 0, 1) := by decide +kernel
theorem dX2_findFollower_23 : decode cX2_findFollower 23 = .ok (.getfield 48, 3) := by decide +kernel
theorem dX2_findFollower_26 : decode cX2_findFollower 26 = .ok (.arraylength, 1) := by decide +kernel
theorem dX2_findFollower_27 : decode cX2_findFollower 27 = .ok (.if_icmp .ge 133, 3) := by decide +kernel
theorem dX2_findFollower_30 : decode cX2_findFollower 30 = .ok (.aload_n 0, 1) := by decide +kernel
theorem dX2_findFollower_31 : decode cX2_findFollower 31 = .ok (.getfield 36, 3) := by decide +kernel
theorem dX2_findFollower_34 : decode cX2_findFollower 34 = .ok (.aload_n 0, 1) := by decide +kernel
theorem dX2_findFollower_35 : decode cX2_findFollower 35 = .ok (.getfield 48, 3) := by decide +kernel
theorem dX2_findFollower_38 : decode cX2_findFollower 38 = .ok (.iload 4, 2) := by decide +kernel
theorem dX2_findFollower_40 : decode cX2_findFollower 40 = .ok (.iaload, 1) := by decide +kernel
theorem dX2_findFollower_41 : decode cX2_findFollower 41 = .ok (.iaload, 1) := by decide +kernel
theorem dX2_findFollower_42 : decode cX2_findFollower 42 = .ok (.iload_n 2, 1) := by decide +kernel
theorem dX2_findFollower_43 : decode cX2_findFollower 43 = .ok (.iconst (-1), 1) := by decide +kernel
theorem dX2_findFollower_44 : decode cX2_findFollower 44 = .ok (.ixor, 1) := by decide +kernel
theorem dX2_findFollower_45 : decode cX2_findFollower 45 = .ok (.iand, 1) := by decide +kernel
theorem dX2_findFollower_46 : decode cX2_findFollower 46 = .ok (.istore 5, 2) := by decide +kernel
theorem dX2_findFollower_48 : decode cX2_findFollower 48 = .ok (.iload_n 2, 1) := by decide +kernel
theorem dX2_findFollower_49 : decode cX2_findFollower 49 = .ok (.iload 5, 2) := by decide +kernel
theorem dX2_findFollower_51 : decode cX2_findFollower 51 = .ok (.ior, 1) := by decide +kernel
theorem dX2_findFollower_52 : decode cX2_findFollower 52 = .ok (.istore_n 2, 1) := by decide +kernel
theorem dX2_findFollower_53 : decode cX2_findFollower 53 = .ok (.iconst 0, 1) := by decide +kernel
theorem dX2_findFollower_54 : decode cX2_findFollower 54 = .ok (.istore 6, 2) := by decide +kernel
theorem dX2_findFollower_56 : decode cX2_findFollower 56 = .ok (.iload 6, 2) := by decide +kernel
theorem dX2_findFollower_58 : decode cX2_findFollower 58 = .ok (.bipush 18, 2) := by decide +kernel
theorem dX2_findFollower_60 : decode cX2_findFollower 60 = .ok (.if_icmp .ge 94, 3) := by decide +kernel
theorem dX2_findFollower_63 : decode cX2_findFollower 63 = .ok (.iload 5, 2) := by decide +kernel
theorem dX2_findFollower_65 : decode cX2_findFollower 65 = .ok (.ifCond .eq 89, 3) := by decide +kernel
theorem dX2_findFollower_68 : decode cX2_findFollower 68 = .ok (.iload 5, 2) := by decide +kernel
theorem dX2_findFollower_70 : decode cX2_findFollower 70 = .ok (.iload 5, 2) := by decide +kernel
theorem dX2_findFollower_72 : decode cX2_findFollower 72 = .ok (.ineg, 1) := by decide +kernel
theorem dX2_findFollower_73 : decode cX2_findFollower 73 = .ok (.iand, 1) := by decide +kernel
theorem dX2_findFollower_74 : decode cX2_findFollower 74 = .ok (.iconst 1, 1) := by decide +kernel
theorem dX2_findFollower_75 : decode cX2_findFollower 75 = .ok (.isub, 1) := by decide +kernel
theorem dX2_findFollower_76 : decode cX2_findFollower 76 = .ok (.invokestatic 142, 3) := by decide +kernel
theorem dX2_findFollower_79 : decode cX2_findFollower 79 = .ok (.istore 7, 2) := by decide +kernel
theorem dX2_findFollower_81 : decode cX2_findFollower 81 = .ok (.iload 5, 2) := by decide +kernel
theorem dX2_findFollower_83 : decode cX2_findFollower 83 = .ok (.iload 5, 2) := by decide +kernel
theorem dX2_findFollower_85 : decode cX2_findFollower 85 = .ok (.iconst 1, 1) := by decide +kernel
theorem dX2_findFollower_86 : decode cX2_findFollower 86 = .ok (.isub, 1) := by decide +kernel
theorem dX2_findFollower_87 : decode cX2_findFollower 87 = .ok (.iand, 1) := by decide +kernel
theorem dX2_findFollower_88 : decode cX2_findFollower 88 = .ok (.istore 5, 2) := by decide +kernel
theorem dX2_findFollower_90 : decode cX2_findFollower 90 = .ok (.aload_n 0, 1) := by decide +kernel
theorem dX2_findFollower_91 : decode cX2_findFollower 91 = .ok (.getfield 45, 3) := by decide +kernel
theorem dX2_findFollower_94 : decode cX2_findFollower 94 = .ok (.iload 7, 2) := by decide +kernel
theorem dX2_findFollower_96 : decode cX2_findFollower 96 = .ok (.aload_n 0, 1) := by decide +kernel
theorem dX2_findFollower_97 : decode cX2_findFollower 97 = .ok (.getfield 48, 3) := by decide +kernel
theorem dX2_findFollower_100 : decode cX2_findFollower 100 = .ok (.iload 4, 2) := by decide +kernel
theorem dX2_findFollower_102 : decode cX2_findFollower 102 = .ok (.iaload, 1) := by decide +kernel
theorem dX2_findFollower_103 : decode cX2_findFollower 103 = .ok (.iastore, 1) := by decide +kernel
theorem dX2_findFollower_104 : decode cX2_findFollower 104 = .ok (.aload_n 0, 1) := by decide +kernel
theorem dX2_findFollower_105 : decode cX2_findFollower 105 = .ok (.getfield 42, 3) := by decide +kernel
theorem dX2_findFollower_108 : decode cX2_findFollower 108 = .ok (.iload 7, 2) := by decide +kernel
theorem dX2_findFollower_110 : decode cX2_findFollower 110 = .ok (.iaload, 1) := by decide +kernel
theorem dX2_findFollower_111 : decode cX2_findFollower 111 = .ok (.iconst (-1), 1) := by decide +kernel
theorem dX2_findFollower_112 : decode cX2_findFollower 112 = .ok (.if_icmp .ne 11, 3) := by decide +kernel
theorem dX2_findFollower_115 : decode cX2_findFollower 115 = .ok (.aload_n 0, 1) := by decide +kernel
theorem dX2_findFollower_116 : decode cX2_findFollower 116 = .ok (.iload 7, 2) := by decide +kernel
theorem dX2_findFollower_118 : decode cX2_findFollower 118 = .ok (.invokevirtual 147, 3) := by decide +kernel
theorem dX2_findFollower_121 : decode cX2_findFollower 121 = .ok (.iconst 1, 1) := by decide +kernel
theorem dX2_findFollower_122 : decode cX2_findFollower 122 = .ok (.ireturn, 1) := by decide +kernel
theorem dX2_findFollower_123 : decode cX2_findFollower 123 = .ok (.iload_n 3, 1) := by decide +kernel
theorem dX2_findFollower_124 : decode cX2_findFollower 124 = .ok (.aload_n 0, 1) := by decide +kernel
theorem dX2_findFollower_125 : decode cX2_findFollower 125 = .ok (.getfield 48, 3) := by decide +kernel
theorem dX2_findFollower_128 : decode cX2_findFollower 128 = .ok (.arraylength, 1) := by decide +kernel
theorem dX2_findFollower_129 : decode cX2_findFollower 129 = .ok (.if_icmp .ge 19, 3) := by decide +kernel
theorem dX2_findFollower_132 : decode cX2_findFollower 132 = .ok (.aload_n 0, 1) := by decide +kernel
theorem dX2_findFollower_133 : decode cX2_findFollower 133 = .ok (.getfield 48, 3) := by decide +kernel
theorem dX2_findFollower_136 : decode cX2_findFollower 136 = .ok (.iload_n 3, 1) := by decide +kernel
theorem dX2_findFollower_137 : decode cX2_findFollower 137 = .ok (.aload_n 0, 1) := by decide +kernel
theorem dX2_findFollower_138 : decode cX2_findFollower 138 = .ok (.getfield 42, 3) := by decide +kernel
theorem dX2_findFollower_141 : decode cX2_findFollower 141 = .ok (.iload 7, 2) := by decide +kernel
theorem dX2_findFollower_143 : decode cX2_findFollower 143 = .ok (.iaload, 1) := by decide +kernel
theorem dX2_findFollower_144 : decode cX2_findFollower 144 = .ok (.iastore, 1) := by decide +kernel
theorem dX2_findFollower_145 : decode cX2_findFollower 145 = .ok (.iinc 3 1, 3) := by decide +kernel
theorem dX2_findFollower_148 : decode cX2_findFollower 148 = .ok (.iinc 6 1, 3) := by decide +kernel
theorem dX2_findFollower_151 : decode cX2_findFollower 151 = .ok (.goto (-95), 3) := by decide +kernel
theorem dX2_findFollower_154 : decode cX2_findFollower 154 = .ok (.iinc 4 1, 3) := by decide +kernel
theorem dX2_findFollower_157 : decode cX2_findFollower 157 = .ok (.goto (-143), 3) := by decide +kernel
theorem dX2_findFollower_160 : decode cX2_findFollower 160 = .ok (.iconst 0, 1) := by decide +kernel
theorem dX2_findFollower_161 : decode cX2_findFollower 161 = .ok (.ireturn, 1) := by decide +kernel
theorem dX2_joinBack_0 : decode cX2_joinBack 0 = .ok (.iload_n 1, 1) := by decide +kernel
theorem dX2_joinBack_1 : decode cX2_joinBack 1 = .ok (.istore_n 2, 1) := by decide +kernel
theorem dX2_joinBack_2 : decode cX2_joinBack 2 = .ok (.iconst 0, 1) := by decide +kernel
theorem dX2_joinBack_3 : decode cX2_joinBack 3 = .ok (.istore_n 3, 1) := by decide +kernel
theorem dX2_joinBack_4 : decode cX2_joinBack 4 = .ok (.iload_n 3, 1) := by decide +kernel
theorem dX2_joinBack_5 : decode cX2_joinBack 5 = .ok (.bipush 18, 2) := by decide +kernel
theorem dX2_joinBack_7 : decode cX2_joinBack 7 = .ok (.if_icmp .ge 50, 3) := by decide +kernel
theorem dX2_joinBack_10 : decode cX2_joinBack 10 = .ok (.iload_n 2, 1) := by decide +kernel
theorem dX2_joinBack_11 : decode cX2_joinBack 11 = .ok (.iconst (-1), 1) := by decide +kernel
theorem dX2_joinBack_12 : decode cX2_joinBack 12 = .ok (.if_icmp .eq 45, 3) := by decide +kernel
theorem dX2_joinBack_15 : decode cX2_joinBack 15 = .ok (.aload_n 0, 1) := by decide +kernel
theorem dX2_joinBack_16 : decode cX2_joinBack 16 = .ok (.getfield 45, 3) := by decide +kernel
theorem dX2_joinBack_19 : decode cX2_joinBack 19 = .ok (.iload_n 2, 1) := by decide +kernel
theorem dX2_joinBack_20 : decode cX2_joinBack 20 = .ok (.iaload, 1) := by decide +kernel
theorem dX2_joinBack_21 : decode cX2_joinBack 21 = .ok (.istore 4, 2) := by decide +kernel
theorem dX2_joinBack_23 : decode cX2_joinBack 23 = .ok (.aload_n 0, 1) := by decide +kernel
theorem dX2_joinBack_24 : decode cX2_joinBack 24 = .ok (.getfield 39, 3) := by decide +kernel
theorem dX2_joinBack_27 : decode cX2_joinBack 27 = .ok (.iload 4, 2) := by decide +kernel
theorem dX2_joinBack_29 : decode cX2_joinBack 29 = .ok (.iaload, 1) := by decide +kernel
theorem dX2_joinBack_30 : decode cX2_joinBack 30 = .ok (.istore 5, 2) := by decide +kernel
theorem dX2_joinBack_32 : decode cX2_joinBack 32 = .ok (.aload_n 0, 1) := by decide +kernel
theorem dX2_joinBack_33 : decode cX2_joinBack 33 = .ok (.getfield 39, 3) := by decide +kernel
theorem dX2_joinBack_36 : decode cX2_joinBack 36 = .ok (.iload 4, 2) := by decide +kernel
theorem dX2_joinBack_38 : decode cX2_joinBack 38 = .ok (.iload_n 2, 1) := by decide +kernel
theorem dX2_joinBack_39 : decode cX2_joinBack 39 = .ok (.iastore, 1) := by decide +kernel
theorem dX2_joinBack_40 : decode cX2_joinBack 40 = .ok (.aload_n 0, 1) := by decide +kernel
theorem dX2_joinBack_41 : decode cX2_joinBack 41 = .ok (.getfield 42, 3) := by decide +kernel
theorem dX2_joinBack_44 : decode cX2_joinBack 44 = .ok (.iload_n 2, 1) := by decide +kernel
theorem dX2_joinBack_45 : decode cX2_joinBack 45 = .ok (.iload 4, 2) := by decide +kernel
theorem dX2_joinBack_47 : decode cX2_joinBack 47 = .ok (.iastore, 1) := by decide +kernel
theorem dX2_joinBack_48 : decode cX2_joinBack 48 = .ok (.iload 5, 2) := by decide +kernel
theorem dX2_joinBack_50 : decode cX2_joinBack 50 = .ok (.istore_n 2, 1) := by decide +kernel
theorem dX2_joinBack_51 : decode cX2_joinBack 51 = .ok (.iinc 3 1, 3) := by decide +kernel
theorem dX2_joinBack_54 : decode cX2_joinBack 54 = .ok (.goto (-50), 3) := by decide +kernel
theorem dX2_joinBack_57 : decode cX2_joinBack 57 = .ok (.return_, 1) := by decide +kernel
theorem dX3_init_0 : decode cX3_init 0 = .ok (.aload_n 0, 1) := by decide +kernel
theorem dX3_init_1 : decode cX3_init 1 = .ok (.invokespecial 5, 3) := by decide +kernel
theorem dX3_init_4 : decode cX3_init 4 = .ok (.aload_n 0, 1) := by decide +kernel
theorem dX3_init_5 : decode cX3_init 5 = .ok (.bipush 6, 2) := by decide +kernel
theorem dX3_init_7 : decode cX3_init 7 = .ok (.newarray .int, 2) := by decide +kernel
theorem dX3_init_9 : decode cX3_init 9 = .ok (.putfield 11, 3) := by decide +kernel
theorem dX3_init_12 : decode cX3_init 12 = .ok (.aload_n 0, 1) := by decide +kernel
theorem dX3_init_13 : decode cX3_init 13 = .ok (.bipush 64, 2) := by decide +kernel
theorem dX3_init_15 : decode cX3_init 15 = .ok (.newarray .int, 2) := by decide +kernel
theorem dX3_init_17 : decode cX3_init 17 = .ok (.putfield 17, 3) := by decide +kernel
theorem dX3_init_20 : decode cX3_init 20 = .ok (.aload_n 0, 1) := by decide +kernel
theorem dX3_init_21 : decode cX3_init 21 = .ok (.bipush 64, 2) := by decide +kernel
theorem dX3_init_23 : decode cX3_init 23 = .ok (.newarray .boolean, 2) := by decide +kernel
theorem dX3_init_25 : decode cX3_init 25 = .ok (.putfield 20, 3) := by decide +kernel
theorem dX3_init_28 : decode cX3_init 28 = .ok (.aload_n 0, 1) := by decide +kernel
theorem dX3_init_29 : decode cX3_init 29 = .ok (.bipush 6, 2) := by decide +kernel
theorem dX3_init_31 : decode cX3_init 31 = .ok (.newarray .int, 2) := by decide +kernel
theorem dX3_init_33 : decode cX3_init 33 = .ok (.putfield 24, 3) := by decide +kernel
theorem dX3_init_36 : decode cX3_init 36 = .ok (.aload_n 0, 1) := by decide +kernel
theorem dX3_init_37 : decode cX3_init 37 = .ok (.bipush 6, 2) := by decide +kernel
theorem dX3_init_39 : decode cX3_init 39 = .ok (.newarray .int, 2) := by decide +kernel
theorem dX3_init_41 : decode cX3_init 41 = .ok (.putfield 27, 3) := by decide +kernel
theorem dX3_init_44 : decode cX3_init 44 = .ok (.aload_n 0, 1) := by decide +kernel
theorem dX3_init_45 : decode cX3_init 45 = .ok (.bipush 6, 2) := by decide +kernel
theorem dX3_init_47 : decode cX3_init 47 = .ok (.newarray .int, 2) := by decide +kernel
theorem dX3_init_49 : decode cX3_init 49 = .ok (.putfield 30, 3) := by decide +kernel
theorem dX3_init_52 : decode cX3_init 52 = .ok (.aload_n 0, 1) := by decide +kernel
theorem dX3_init_53 : decode cX3_init 53 = .ok (.bipush 6, 2) := by decide +kernel
theorem dX3_init_55 : decode cX3_init 55 = .ok (.newarray .int, 2) := by decide +kernel
theorem dX3_init_57 : decode cX3_init 57 = .ok (.putfield 33, 3) := by decide +kernel
theorem dX3_init_60 : decode cX3_init 60 = .ok (.aload_n 0, 1) := by decide +kernel
theorem dX3_init_61 : decode cX3_init 61 = .ok (.bipush 36, 2) := by decide +kernel
theorem dX3_init_63 : decode cX3_init 63 = .ok (.newarray .int, 2) := by decide +kernel
theorem dX3_init_65 : decode cX3_init 65 = .ok (.putfield 36, 3) := by decide +kernel
theorem dX3_init_68 : decode cX3_init 68 = .ok (.aload_n 0, 1) := by decide +kernel
theorem dX3_init_69 : decode cX3_init 69 = .ok (.sipush 384, 3) := by decide +kernel
theorem dX3_init_72 : decode cX3_init 72 = .ok (.newarray .int, 2) := by decide +kernel
theorem dX3_init_74 : decode cX3_init 74 = .ok (.putfield 39, 3) := by decide +kernel
theorem dX3_init_77 : decode cX3_init 77 = .ok (.aload_n 0, 1) := by decide +kernel
theorem dX3_init_78 : decode cX3_init 78 = .ok (.bipush 64, 2) := by decide +kernel
theorem dX3_init_80 : decode cX3_init 80 = .ok (.newarray .int, 2) := by decide +kernel
theorem dX3_init_82 : decode cX3_init 82 = .ok (.putfield 42, 3) := by decide +kernel
theorem dX3_init_85 : decode cX3_init 85 = .ok (.aload_n 0, 1) := by decide +kernel
theorem dX3_init_86 : decode cX3_init 86 = .ok (.bipush 64, 2) := by decide +kernel
theorem dX3_init_88 : decode cX3_init 88 = .ok (.newarray .int, 2) := by decide +kernel
theorem dX3_init_90 : decode cX3_init 90 = .ok (.putfield 45, 3) := by decide +kernel
theorem dX3_init_93 : decode cX3_init 93 = .ok (.aload_n 0, 1) := by decide +kernel
theorem dX3_init_94 : decode cX3_init 94 = .ok (.bipush 64, 2) := by decide +kernel
theorem dX3_init_96 : decode cX3_init 96 = .ok (.newarray .int, 2) := by decide +kernel
theorem dX3_init_98 : decode cX3_init 98 = .ok (.putfield 48, 3) := by decide +kernel
theorem dX3_init_101 : decode cX3_init 101 = .ok (.aload_n 0, 1) := by decide +kernel
theorem dX3_init_102 : decode cX3_init 102 = .ok (.bipush 64, 2) := by decide +kernel
theorem dX3_init_104 : decode cX3_init 104 = .ok (.newarray .int, 2) := by decide +kernel
theorem dX3_init_106 : decode cX3_init 106 = .ok (.putfield 51, 3) := by decide +kernel
theorem dX3_init_109 : decode cX3_init 109 = .ok (.return_, 1) := by decide +kernel
theorem dX3_make_0 : decode cX3_make 0 = .ok (.aload_n 0, 1) := by decide +kernel
theorem dX3_make_1 : decode cX3_make 1 = .ok (.aload_n 1, 1) := by decide +kernel
theorem dX3_make_2 : decode cX3_make 2 = .ok (.getfield 54, 3) := by decide +kernel
theorem dX3_make_5 : decode cX3_make 5 = .ok (.putfield 60, 3) := by decide +kernel
theorem dX3_make_8 : decode cX3_make 8 = .ok (.aload_n 0, 1) := by decide +kernel
theorem dX3_make_9 : decode cX3_make 9 = .ok (.aload_n 1, 1) := by decide +kernel
theorem dX3_make_10 : decode cX3_make 10 = .ok (.iload_n 2, 1) := by decide +kernel
theorem dX3_make_11 : decode cX3_make 11 = .ok (.invokevirtual 61, 3) := by decide +kernel
theorem dX3_make_14 : decode cX3_make 14 = .ok (.aload_n 0, 1) := by decide +kernel
theorem dX3_make_15 : decode cX3_make 15 = .ok (.aload_n 1, 1) := by decide +kernel
theorem dX3_make_16 : decode cX3_make 16 = .ok (.iload_n 2, 1) := by decide +kernel
theorem dX3_make_17 : decode cX3_make 17 = .ok (.invokevirtual 65, 3) := by decide +kernel
theorem dX3_make_20 : decode cX3_make 20 = .ok (.aload_n 0, 1) := by decide +kernel
theorem dX3_make_21 : decode cX3_make 21 = .ok (.aload_n 1, 1) := by decide +kernel
theorem dX3_make_22 : decode cX3_make 22 = .ok (.iload_n 2, 1) := by decide +kernel
theorem dX3_make_23 : decode cX3_make 23 = .ok (.invokevirtual 68, 3) := by decide +kernel
theorem dX3_make_26 : decode cX3_make 26 = .ok (.iconst 1, 1) := by decide +kernel
theorem dX3_make_27 : decode cX3_make 27 = .ok (.istore_n 3, 1) := by decide +kernel
theorem dX3_make_28 : decode cX3_make 28 = .ok (.iload_n 3, 1) := by decide +kernel
theorem dX3_make_29 : decode cX3_make 29 = .ok (.bipush 64, 2) := by decide +kernel
theorem dX3_make_31 : decode cX3_make 31 = .ok (.if_icmp .ge 58, 3) := by decide +kernel
theorem dX3_make_34 : decode cX3_make 34 = .ok (.aload_n 0, 1) := by decide +kernel
theorem dX3_make_35 : decode cX3_make 35 = .ok (.getfield 17, 3) := by decide +kernel
theorem dX3_make_38 : decode cX3_make 38 = .ok (.iload_n 3, 1) := by decide +kernel
theorem dX3_make_39 : decode cX3_make 39 = .ok (.ldc 71, 2) := by decide +kernel
theorem dX3_make_41 : decode cX3_make 41 = .ok (.iastore, 1) := by decide +kernel
theorem dX3_make_42 : decode cX3_make 42 = .ok (.aload_n 0, 1) := by decide +kernel
theorem dX3_make_43 : decode cX3_make 43 = .ok (.getfield 20, 3) := by decide +kernel
theorem dX3_make_46 : decode cX3_make 46 = .ok (.iload_n 3, 1) := by decide +kernel
theorem dX3_make_47 : decode cX3_make 47 = .ok (.iconst 0, 1) := by decide +kernel
theorem dX3_make_48 : decode cX3_make 48 = .ok (.bastore, 1) := by decide +kernel
theorem dX3_make_49 : decode cX3_make 49 = .ok (.iload_n 3, 1) := by decide +kernel
theorem dX3_make_50 : decode cX3_make 50 = .ok (.aload_n 0, 1) := by decide +kernel
theorem dX3_make_51 : decode cX3_make 51 = .ok (.getfield 72, 3) := by decide +kernel
theorem dX3_make_54 : decode cX3_make 54 = .ok (.iconst (-1), 1) := by decide +kernel
theorem dX3_make_55 : decode cX3_make 55 = .ok (.ixor, 1) := by decide +kernel
theorem dX3_make_56 : decode cX3_make 56 = .ok (.iand, 1) := by decide +kernel
theorem dX3_make_57 : decode cX3_make 57 = .ok (.ifCond .ne 26, 3) := by decide +kernel
theorem dX3_make_60 : decode cX3_make 60 = .ok (.aload_n 0, 1) := by decide +kernel
theorem dX3_make_61 : decode cX3_make 61 = .ok (.iload_n 3, 1) := by decide +kernel
theorem dX3_make_62 : decode cX3_make 62 = .ok (.invokevirtual 75, 3) := by decide +kernel
theorem dX3_make_65 : decode cX3_make 65 = .ok (.aload_n 0, 1) := by decide +kernel
theorem dX3_make_66 : decode cX3_make 66 = .ok (.getfield 20, 3) := by decide +kernel
theorem dX3_make_69 : decode cX3_make 69 = .ok (.iload_n 3, 1) := by decide +kernel
theorem dX3_make_70 : decode cX3_make 70 = .ok (.aload_n 0, 1) := by decide +kernel
theorem dX3_make_71 : decode cX3_make 71 = .ok (.iload_n 3, 1) := by decide +kernel
theorem dX3_make_72 : decode cX3_make 72 = .ok (.aload_n 1, 1) := by decide +kernel
theorem dX3_make_73 : decode cX3_make 73 = .ok (.getfield 79, 3) := by decide +kernel
theorem dX3_make_76 : decode cX3_make 76 = .ok (.getfield 83, 3) := by decide +kernel
theorem dX3_make_79 : decode cX3_make 79 = .ok (.invokevirtual 88, 3) := by decide +kernel
theorem dX3_make_82 : decode cX3_make 82 = .ok (.bastore, 1) := by decide +kernel
theorem dX3_make_83 : decode cX3_make 83 = .ok (.iinc 3 1, 3) := by decide +kernel
theorem dX3_make_86 : decode cX3_make 86 = .ok (.goto (-58), 3) := by decide +kernel
theorem dX3_make_89 : decode cX3_make 89 = .ok (.iconst 1, 1) := by decide +kernel
theorem dX3_make_90 : decode cX3_make 90 = .ok (.istore_n 3, 1) := by decide +kernel
theorem dX3_make_91 : decode cX3_make 91 = .ok (.iload_n 3, 1) := by decide +kernel
theorem dX3_make_92 : decode cX3_make 92 = .ok (.bipush 64, 2) := by decide +kernel
theorem dX3_make_94 : decode cX3_make 94 = .ok (.if_icmp .ge 32, 3) := by decide +kernel
theorem dX3_make_97 : decode cX3_make 97 = .ok (.iload_n 3, 1) := by decide +kernel
theorem dX3_make_98 : decode cX3_make 98 = .ok (.aload_n 0, 1) := by decide +kernel
theorem dX3_make_99 : decode cX3_make 99 = .ok (.getfield 72, 3) := by decide +kernel
theorem dX3_make_102 : decode cX3_make 102 = .ok (.iconst (-1), 1) := by decide +kernel
theorem dX3_make_103 : decode cX3_make 103 = .ok (.ixor, 1) := by decide +kernel
theorem dX3_make_104 : decode cX3_make 104 = .ok (.iand, 1) := by decide +kernel
theorem dX3_make_105 : decode cX3_make 105 = .ok (.ifCond .ne 15, 3) := by decide +kernel
theorem dX3_make_108 : decode cX3_make 108 = .ok (.aload_n 0, 1) := by decide +kernel
theorem dX3_make_109 : decode cX3_make 109 = .ok (.iload_n 3, 1) := by decide +kernel
theorem dX3_make_110 : decode cX3_make 110 = .ok (.aload_n 1, 1) := by decide +kernel
theorem dX3_make_111 : decode cX3_make 111 = .ok (.getfield 79, 3) := by decide +kernel
theorem dX3_make_114 : decode cX3_make 114 = .ok (.getfield 83, 3) := by decide +kernel
theorem dX3_make_117 : decode cX3_make 117 = .ok (.invokevirtual 92, 3) := by decide +kernel
theorem dX3_make_120 : decode cX3_make 120 = .ok (.iinc 3 1, 3) := by decide +kernel
theorem dX3_make_123 : decode cX3_make 123 = .ok (.goto (-32), 3) := by decide +kernel
theorem dX3_make_126 : decode cX3_make 126 = .ok (.aload_n 0, 1) := by decide +kernel
theorem dX3_make_127 : decode cX3_make 127 = .ok (.invokevirtual 96, 3) := by decide +kernel
theorem dX3_make_130 : decode cX3_make 130 = .ok (.return_, 1) := by decide +kernel
theorem dX3_gatherRiders_0 : decode cX3_gatherRiders 0 = .ok (.aload_n 0, 1) := by decide +kernel
theorem dX3_gatherRiders_1 : decode cX3_gatherRiders 1 = .ok (.getfield 11, 3) := by decide +kernel
theorem dX3_gatherRiders_4 : decode cX3_gatherRiders 4 = .ok (.iconst 0, 1) := by decide +kernel
theorem dX3_gatherRiders_5 : decode cX3_gatherRiders 5 = .ok (.invokestatic 99, 3) := by decide +kernel
theorem dX3_gatherRiders_8 : decode cX3_gatherRiders 8 = .ok (.aload_n 0, 1) := by decide +kernel
theorem dX3_gatherRiders_9 : decode cX3_gatherRiders 9 = .ok (.getfield 27, 3) := by decide +kernel
theorem dX3_gatherRiders_12 : decode cX3_gatherRiders 12 = .ok (.iconst 0, 1) := by decide +kernel
theorem dX3_gatherRiders_13 : decode cX3_gatherRiders 13 = .ok (.invokestatic 99, 3) := by decide +kernel
theorem dX3_gatherRiders_16 : decode cX3_gatherRiders 16 = .ok (.aload_n 0, 1) := by decide +kernel
theorem dX3_gatherRiders_17 : decode cX3_gatherRiders 17 = .ok (.iconst 0, 1) := by decide +kernel
theorem dX3_gatherRiders_18 : decode cX3_gatherRiders 18 = .ok (.putfield 72, 3) := by decide +kernel
theorem dX3_gatherRiders_21 : decode cX3_gatherRiders 21 = .ok (.aload_n 0, 1) := by decide +kernel
theorem dX3_gatherRiders_22 : decode cX3_gatherRiders 22 = .ok (.iconst 0, 1) := by decide +kernel
theorem dX3_gatherRiders_23 : decode cX3_gatherRiders 23 = .ok (.putfield 105, 3) := by decide +kernel
theorem dX3_gatherRiders_26 : decode cX3_gatherRiders 26 = .ok (.iconst 0, 1) := by decide +kernel
theorem dX3_gatherRiders_27 : decode cX3_gatherRiders 27 = .ok (.istore_n 3, 1) := by decide +kernel
theorem dX3_gatherRiders_28 : decode cX3_gatherRiders 28 = .ok (.iload_n 3, 1) := by decide +kernel
theorem dX3_gatherRiders_29 : decode cX3_gatherRiders 29 = .ok (.aload_n 1, 1) := by decide +kernel
theorem dX3_gatherRiders_30 : decode cX3_gatherRiders 30 = .ok (.getfield 108, 3) := by decide +kernel
theorem dX3_gatherRiders_33 : decode cX3_gatherRiders 33 = .ok (.if_icmp .ge 122, 3) := by decide +kernel
theorem dX3_gatherRiders_36 : decode cX3_gatherRiders 36 = .ok (.aload_n 1, 1) := by decide +kernel
theorem dX3_gatherRiders_37 : decode cX3_gatherRiders 37 = .ok (.getfield 111, 3) := by decide +kernel
theorem dX3_gatherRiders_40 : decode cX3_gatherRiders 40 = .ok (.getfield 115, 3) := by decide +kernel
theorem dX3_gatherRiders_43 : decode cX3_gatherRiders 43 = .ok (.iload_n 3, 1) := by decide +kernel
theorem dX3_gatherRiders_44 : decode cX3_gatherRiders 44 = .ok (.iaload, 1) := by decide +kernel
theorem dX3_gatherRiders_45 : decode cX3_gatherRiders 45 = .ok (.istore 4, 2) := by decide +kernel
theorem dX3_gatherRiders_47 : decode cX3_gatherRiders 47 = .ok (.aload_n 1, 1) := by decide +kernel
theorem dX3_gatherRiders_48 : decode cX3_gatherRiders 48 = .ok (.getfield 120, 3) := by decide +kernel
theorem dX3_gatherRiders_51 : decode cX3_gatherRiders 51 = .ok (.iload_n 3, 1) := by decide +kernel
theorem dX3_gatherRiders_52 : decode cX3_gatherRiders 52 = .ok (.iaload, 1) := by decide +kernel
theorem dX3_gatherRiders_53 : decode cX3_gatherRiders 53 = .ok (.istore 5, 2) := by decide +kernel
theorem dX3_gatherRiders_55 : decode cX3_gatherRiders 55 = .ok (.iload 5, 2) := by decide +kernel
theorem dX3_gatherRiders_57 : decode cX3_gatherRiders 57 = .ok (.iconst (-1), 1) := by decide +kernel
theorem dX3_gatherRiders_58 : decode cX3_gatherRiders 58 = .ok (.if_icmp .eq 91, 3) := by decide +kernel
theorem dX3_gatherRiders_61 : decode cX3_gatherRiders 61 = .ok (.aload_n 1, 1) := by decide +kernel
theorem dX3_gatherRiders_62 : decode cX3_gatherRiders 62 = .ok (.getfield 111, 3) := by decide +kernel
theorem dX3_gatherRiders_65 : decode cX3_gatherRiders 65 = .ok (.getfield 123, 3) := by decide +kernel
theorem dX3_gatherRiders_68 : decode cX3_gatherRiders 68 = .ok (.iload 4, 2) := by decide +kernel
theorem dX3_gatherRiders_70 : decode cX3_gatherRiders 70 = .ok (.iaload, 1) := by decide +kernel
theorem dX3_gatherRiders_71 : decode cX3_gatherRiders 71 = .ok (.iload_n 2, 1) := by decide +kernel
theorem dX3_gatherRiders_72 : decode cX3_gatherRiders 72 = .ok (.if_icmp .ne 77, 3) := by decide +kernel
theorem dX3_gatherRiders_75 : decode cX3_gatherRiders 75 = .ok (.aload_n 1, 1) := by decide +kernel
theorem dX3_gatherRiders_76 : decode cX3_gatherRiders 76 = .ok (.getfield 111, 3) := by decide +kernel
theorem dX3_gatherRiders_79 : decode cX3_gatherRiders 79 = .ok (.getfield 126, 3) := by decide +kernel
theorem dX3_gatherRiders_82 : decode cX3_gatherRiders 82 = .ok (.iload 4, 2) := by decide +kernel
theorem dX3_gatherRiders_84 : decode cX3_gatherRiders 84 = .ok (.iaload, 1) := by decide +kernel
theorem dX3_gatherRiders_85 : decode cX3_gatherRiders 85 = .ok (.istore 6, 2) := by decide +kernel
theorem dX3_gatherRiders_87 : decode cX3_gatherRiders 87 = .ok (.aload_n 0, 1) := by decide +kernel
theorem dX3_gatherRiders_88 : decode cX3_gatherRiders 88 = .ok (.getfield 27, 3) := by decide +kernel
theorem dX3_gatherRiders_91 : decode cX3_gatherRiders 91 = .ok (.iload 5, 2) := by decide +kernel
theorem dX3_gatherRiders_93 : decode cX3_gatherRiders 93 = .ok (.dup2, 1) := by decide +kernel
theorem dX3_gatherRiders_94 : decode cX3_gatherRiders 94 = .ok (.iaload, 1) := by decide +kernel
theorem dX3_gatherRiders_95 : decode cX3_gatherRiders 95 = .ok (.iconst 1, 1) := by decide +kernel
theorem dX3_gatherRiders_96 : decode cX3_gatherRiders 96 = .ok (.iadd, 1) := by decide +kernel
theorem dX3_gatherRiders_97 : decode cX3_gatherRiders 97 = .ok (.iastore, 1) := by decide +kernel
theorem dX3_gatherRiders_98 : decode cX3_gatherRiders 98 = .ok (.aload_n 0, 1) := by decide +kernel
theorem dX3_gatherRiders_99 : decode cX3_gatherRiders 99 = .ok (.getfield 11, 3) := by decide +kernel
theorem dX3_gatherRiders_102 : decode cX3_gatherRiders 102 = .ok (.iload 5, 2) := by decide +kernel
theorem dX3_gatherRiders_104 : decode cX3_gatherRiders 104 = .ok (.dup2, 1) := by decide +kernel
theorem dX3_gatherRiders_105 : decode cX3_gatherRiders 105 = .ok (.iaload, 1) := by decide +kernel
theorem dX3_gatherRiders_106 : decode cX3_gatherRiders 106 = .ok (.iload 6, 2) := by decide +kernel
theorem dX3_gatherRiders_108 : decode cX3_gatherRiders 108 = .ok (.iconst 2, 1) := by decide +kernel
theorem dX3_gatherRiders_109 : decode cX3_gatherRiders 109 = .ok (.iand, 1) := by decide +kernel
theorem dX3_gatherRiders_110 : decode cX3_gatherRiders 110 = .ok (.ifCond .eq 7, 3) := by decide +kernel
theorem dX3_gatherRiders_113 : decode cX3_gatherRiders 113 = .ok (.iconst 2, 1) := by decide +kernel
theorem dX3_gatherRiders_114 : decode cX3_gatherRiders 114 = .ok (.goto 4, 3) := by decide +kernel
theorem dX3_gatherRiders_117 : decode cX3_gatherRiders 117 = .ok (.iconst 1, 1) := by decide +kernel
theorem dX3_gatherRiders_118 : decode cX3_gatherRiders 118 = .ok (.iadd, 1) := by decide +kernel
theorem dX3_gatherRiders_119 : decode cX3_gatherRiders 119 = .ok (.iastore, 1) := by decide +kernel
theorem dX3_gatherRiders_120 : decode cX3_gatherRiders 120 = .ok (.aload_n 0, 1) := by decide +kernel
theorem dX3_gatherRiders_121 : decode cX3_gatherRiders 121 = .ok (.dup, 1) := by decide +kernel
theorem dX3_gatherRiders_122 : decode cX3_gatherRiders 122 = .ok (.getfield 72, 3) := by decide +kernel
theorem dX3_gatherRiders_125 : decode cX3_gatherRiders 125 = .ok (.iconst 1, 1) := by decide +kernel
theorem dX3_gatherRiders_126 : decode cX3_gatherRiders 126 = .ok (.iload 5, 2) := by decide +kernel
theorem dX3_gatherRiders_128 : decode cX3_gatherRiders 128 = .ok (.ishl, 1) := by decide +kernel
theorem dX3_gatherRiders_129 : decode cX3_gatherRiders 129 = .ok (.ior, 1) := by decide +kernel
theorem dX3_gatherRiders_130 : decode cX3_gatherRiders 130 = .ok (.putfield 72, 3) := by decide +kernel
theorem dX3_gatherRiders_133 : decode cX3_gatherRiders 133 = .ok (.aload_n 0, 1) := by decide +kernel
theorem dX3_gatherRiders_134 : decode cX3_gatherRiders 134 = .ok (.dup, 1) := by decide +kernel
theorem dX3_gatherRiders_135 : decode cX3_gatherRiders 135 = .ok (.getfield 105, 3) := by decide +kernel
theorem dX3_gatherRiders_138 : decode cX3_gatherRiders 138 = .ok (.iload 6, 2) := by decide +kernel
theorem dX3_gatherRiders_140 : decode cX3_gatherRiders 140 = .ok (.iconst 1, 1) := by decide +kernel
theorem dX3_gatherRiders_141 : decode cX3_gatherRiders 141 = .ok (.iand, 1) := by decide +kernel
theorem dX3_gatherRiders_142 : decode cX3_gatherRiders 142 = .ok (.iload 5, 2) := by decide +kernel
theorem dX3_gatherRiders_144 : decode cX3_gatherRiders 144 = .ok (.ishl, 1) := by decide +kernel
theorem dX3_gatherRiders_145 : decode cX3_gatherRiders 145 = .ok (.ior, 1) := by decide +kernel
theorem dX3_gatherRiders_146 : decode cX3_gatherRiders 146 = .ok (.putfield 105, 3) := by decide +kernel
theorem dX3_gatherRiders_149 : decode cX3_gatherRiders 149 = .ok (.iinc 3 1, 3) := by decide +kernel
theorem dX3_gatherRiders_152 : decode cX3_gatherRiders 152 = .ok (.goto (-124), 3) := by decide +kernel
theorem dX3_gatherRiders_155 : decode cX3_gatherRiders 155 = .ok (.return_, 1) := by decide +kernel
theorem dX3_gatherParted_0 : decode cX3_gatherParted 0 = .ok (.aload_n 0, 1) := by decide +kernel
theorem dX3_gatherParted_1 : decode cX3_gatherParted 1 = .ok (.getfield 30, 3) := by decide +kernel
theorem dX3_gatherParted_4 : decode cX3_gatherParted 4 = .ok (.iconst 0, 1) := by decide +kernel
theorem dX3_gatherParted_5 : decode cX3_gatherParted 5 = .ok (.invokestatic 99, 3) := by decide +kernel
theorem dX3_gatherParted_8 : decode cX3_gatherParted 8 = .ok (.iconst 0, 1) := by decide +kernel
theorem dX3_gatherParted_9 : decode cX3_gatherParted 9 = .ok (.istore_n 3, 1) := by decide +kernel
theorem dX3_gatherParted_10 : decode cX3_gatherParted 10 = .ok (.iload_n 3, 1) := by decide +kernel
theorem dX3_gatherParted_11 : decode cX3_gatherParted 11 = .ok (.aload_n 1, 1) := by decide +kernel
theorem dX3_gatherParted_12 : decode cX3_gatherParted 12 = .ok (.getfield 129, 3) := by decide +kernel
theorem dX3_gatherParted_15 : decode cX3_gatherParted 15 = .ok (.if_icmp .ge 83, 3) := by decide +kernel
theorem dX3_gatherParted_18 : decode cX3_gatherParted 18 = .ok (.aload_n 1, 1) := by decide +kernel
theorem dX3_gatherParted_19 : decode cX3_gatherParted 19 = .ok (.getfield 111, 3) := by decide +kernel
theorem dX3_gatherParted_22 : decode cX3_gatherParted 22 = .ok (.iload_n 3, 1) := by decide +kernel
theorem dX3_gatherParted_23 : decode cX3_gatherParted 23 = .ok (.iconst 4, 1) := by decide +kernel
theorem dX3_gatherParted_24 : decode cX3_gatherParted 24 = .ok (.aload_n 1, 1) := by decide +kernel
theorem dX3_gatherParted_25 : decode cX3_gatherParted 25 = .ok (.getfield 129, 3) := by decide +kernel
theorem dX3_gatherParted_28 : decode cX3_gatherParted 28 = .ok (.invokevirtual 132, 3) := by decide +kernel
theorem dX3_gatherParted_31 : decode cX3_gatherParted 31 = .ok (.ifCond .eq 61, 3) := by decide +kernel
theorem dX3_gatherParted_34 : decode cX3_gatherParted 34 = .ok (.aload_n 1, 1) := by decide +kernel
theorem dX3_gatherParted_35 : decode cX3_gatherParted 35 = .ok (.iload_n 2, 1) := by decide +kernel
theorem dX3_gatherParted_36 : decode cX3_gatherParted 36 = .ok (.aload_n 1, 1) := by decide +kernel
theorem dX3_gatherParted_37 : decode cX3_gatherParted 37 = .ok (.getfield 111, 3) := by decide +kernel
theorem dX3_gatherParted_40 : decode cX3_gatherParted 40 = .ok (.getfield 136, 3) := by decide +kernel
theorem dX3_gatherParted_43 : decode cX3_gatherParted 43 = .ok (.iload_n 3, 1) := by decide +kernel
theorem dX3_gatherParted_44 : decode cX3_gatherParted 44 = .ok (.iaload, 1) := by decide +kernel
theorem dX3_gatherParted_45 : decode cX3_gatherParted 45 = .ok (.invokestatic 139, 3) := by decide +kernel
theorem dX3_gatherParted_48 : decode cX3_gatherParted 48 = .ok (.istore 4, 2) := by decide +kernel
theorem dX3_gatherParted_50 : decode cX3_gatherParted 50 = .ok (.aload_n 1, 1) := by decide +kernel
theorem dX3_gatherParted_51 : decode cX3_gatherParted 51 = .ok (.iload_n 2, 1) := by decide +kernel
theorem dX3_gatherParted_52 : decode cX3_gatherParted 52 = .ok (.aload_n 1, 1) := by decide +kernel
theorem dX3_gatherParted_53 : decode cX3_gatherParted 53 = .ok (.getfield 111, 3) := by decide +kernel
theorem dX3_gatherParted_56 : decode cX3_gatherParted 56 = .ok (.getfield 123, 3) := by decide +kernel
theorem dX3_gatherParted_59 : decode cX3_gatherParted 59 = .ok (.iload_n 3, 1) := by decide +kernel
theorem dX3_gatherParted_60 : decode cX3_gatherParted 60 = .ok (.iaload, 1) := by decide +kernel
theorem dX3_gatherParted_61 : decode cX3_gatherParted 61 = .ok (.invokestatic 139, 3) := by decide +kernel
theorem dX3_gatherParted_64 : decode cX3_gatherParted 64 = .ok (.istore 5, 2) := by decide +kernel
theorem dX3_gatherParted_66 : decode cX3_gatherParted 66 = .ok (.iload 4, 2) := by decide +kernel
theorem dX3_gatherParted_68 : decode cX3_gatherParted 68 = .ok (.iconst (-1), 1) := by decide +kernel
theorem dX3_gatherParted_69 : decode cX3_gatherParted 69 = .ok (.if_icmp .eq 23, 3) := by decide +kernel
theorem dX3_gatherParted_72 : decode cX3_gatherParted 72 = .ok (.iload 5, 2) := by decide +kernel
theorem dX3_gatherParted_74 : decode cX3_gatherParted 74 = .ok (.iconst (-1), 1) := by decide +kernel
theorem dX3_gatherParted_75 : decode cX3_gatherParted 75 = .ok (.if_icmp .eq 17, 3) := by decide +kernel
theorem dX3_gatherParted_78 : decode cX3_gatherParted 78 = .ok (.aload_n 0, 1) := by decide +kernel
theorem dX3_gatherParted_79 : decode cX3_gatherParted 79 = .ok (.getfield 30, 3) := by decide +kernel
theorem dX3_gatherParted_82 : decode cX3_gatherParted 82 = .ok (.iload 4, 2) := by decide +kernel
theorem dX3_gatherParted_84 : decode cX3_gatherParted 84 = .ok (.dup2, 1) := by decide +kernel
theorem dX3_gatherParted_85 : decode cX3_gatherParted 85 = .ok (.iaload, 1) := by decide +kernel
theorem dX3_gatherParted_86 : decode cX3_gatherParted 86 = .ok (.iconst 1, 1) := by decide +kernel
theorem dX3_gatherParted_87 : decode cX3_gatherParted 87 = .ok (.iload 5, 2) := by decide +kernel
theorem dX3_gatherParted_89 : decode cX3_gatherParted 89 = .ok (.ishl, 1) := by decide +kernel
theorem dX3_gatherParted_90 : decode cX3_gatherParted 90 = .ok (.ior, 1) := by decide +kernel
theorem dX3_gatherParted_91 : decode cX3_gatherParted 91 = .ok (.iastore, 1) := by decide +kernel
theorem dX3_gatherParted_92 : decode cX3_gatherParted 92 = .ok (.iinc 3 1, 3) := by decide +kernel
theorem dX3_gatherParted_95 : decode cX3_gatherParted 95 = .ok (.goto (-85), 3) := by decide +kernel
theorem dX3_gatherParted_98 : decode cX3_gatherParted 98 = .ok (.return_, 1) := by decide +kernel
theorem dX3_riderStop_0 : decode cX3_riderStop 0 = .ok (.aload_n 0, 1) := by decide +kernel
theorem dX3_riderStop_1 : decode cX3_riderStop 1 = .ok (.getfield 111, 3) := by decide +kernel
theorem dX3_riderStop_4 : decode cX3_riderStop 4 = .ok (.getfield 123, 3) := by decide +kernel
theorem dX3_riderStop_7 : decode cX3_riderStop 7 = .ok (.aload_n 0, 1) := by decide +kernel
theorem dX3_riderStop_8 : decode cX3_riderStop 8 = .ok (.getfield 111, 3) := by decide +kernel
theorem dX3_riderStop_11 : decode cX3_riderStop 11 = .ok (.getfield 115, 3) := by decide +kernel
theorem dX3_riderStop_14 : decode cX3_riderStop 14 = .ok (.iload_n 2, 1) := by decide +kernel
theorem dX3_riderStop_15 : decode cX3_riderStop 15 = .ok (.iaload, 1) := by decide +kernel
theorem dX3_riderStop_16 : decode cX3_riderStop 16 = .ok (.iaload, 1) := by decide +kernel
theorem dX3_riderStop_17 : decode cX3_riderStop 17 = .ok (.iload_n 1, 1) := by decide +kernel
theorem dX3_riderStop_18 : decode cX3_riderStop 18 = .ok (.if_icmp .ne 12, 3) := by decide +kernel
theorem dX3_riderStop_21 : decode cX3_riderStop 21 = .ok (.aload_n 0, 1) := by decide +kernel
theorem dX3_riderStop_22 : decode cX3_riderStop 22 = .ok (.getfield 120, 3) := by decide +kernel
theorem dX3_riderStop_25 : decode cX3_riderStop 25 = .ok (.iload_n 2, 1) := by decide +kernel
theorem dX3_riderStop_26 : decode cX3_riderStop 26 = .ok (.iaload, 1) := by decide +kernel
theorem dX3_riderStop_27 : decode cX3_riderStop 27 = .ok (.goto 4, 3) := by decide +kernel
theorem dX3_riderStop_30 : decode cX3_riderStop 30 = .ok (.iconst (-1), 1) := by decide +kernel
theorem dX3_riderStop_31 : decode cX3_riderStop 31 = .ok (.ireturn, 1) := by decide +kernel
theorem dX3_measure_0 : decode cX3_measure 0 = .ok (.aload_n 1, 1) := by decide +kernel
theorem dX3_measure_1 : decode cX3_measure 1 = .ok (.getfield 79, 3) := by decide +kernel
theorem dX3_measure_4 : decode cX3_measure 4 = .ok (.getfield 143, 3) := by decide +kernel
theorem dX3_measure_7 : decode cX3_measure 7 = .ok (.iload_n 2, 1) := by decide +kernel
theorem dX3_measure_8 : decode cX3_measure 8 = .ok (.iaload, 1) := by decide +kernel
theorem dX3_measure_9 : decode cX3_measure 9 = .ok (.istore_n 3, 1) := by decide +kernel
theorem dX3_measure_10 : decode cX3_measure 10 = .ok (.aload_n 1, 1) := by decide +kernel
theorem dX3_measure_11 : decode cX3_measure 11 = .ok (.getfield 79, 3) := by decide +kernel
theorem dX3_measure_14 : decode cX3_measure 14 = .ok (.getfield 146, 3) := by decide +kernel
theorem dX3_measure_17 : decode cX3_measure 17 = .ok (.astore 4, 2) := by decide +kernel
theorem dX3_measure_19 : decode cX3_measure 19 = .ok (.iconst 0, 1) := by decide +kernel
theorem dX3_measure_20 : decode cX3_measure 20 = .ok (.istore 5, 2) := by decide +kernel
theorem dX3_measure_22 : decode cX3_measure 22 = .ok (.iload 5, 2) := by decide +kernel
theorem dX3_measure_24 : decode cX3_measure 24 = .ok (.aload_n 1, 1) := by decide +kernel
theorem dX3_measure_25 : decode cX3_measure 25 = .ok (.getfield 79, 3) := by decide +kernel
theorem dX3_measure_28 : decode cX3_measure 28 = .ok (.getfield 149, 3) := by decide +kernel
theorem dX3_measure_31 : decode cX3_measure 31 = .ok (.if_icmp .ge 88, 3) := by decide +kernel
theorem dX3_measure_34 : decode cX3_measure 34 = .ok (.aload_n 0, 1) := by decide +kernel
theorem dX3_measure_35 : decode cX3_measure 35 = .ok (.getfield 72, 3) := by decide +kernel
theorem dX3_measure_38 : decode cX3_measure 38 = .ok (.iload 5, 2) := by decide +kernel
theorem dX3_measure_40 : decode cX3_measure 40 = .ok (.ishr, 1) := by decide +kernel
theorem dX3_measure_41 : decode cX3_measure 41 = .ok (.iconst 1, 1) := by decide +kernel
theorem dX3_measure_42 : decode cX3_measure 42 = .ok (.iand, 1) := by decide +kernel
theorem dX3_measure_43 : decode cX3_measure 43 = .ok (.ifCond .eq 70, 3) := by decide +kernel
theorem dX3_measure_46 : decode cX3_measure 46 = .ok (.aload_n 0, 1) := by decide +kernel
theorem dX3_measure_47 : decode cX3_measure 47 = .ok (.getfield 33, 3) := by decide +kernel
theorem dX3_measure_50 : decode cX3_measure 50 = .ok (.iload 5, 2) := by decide +kernel
theorem dX3_measure_52 : decode cX3_measure 52 = .ok (.aload_n 1, 1) := by decide +kernel
theorem dX3_measure_53 : decode cX3_measure 53 = .ok (.iconst 2, 1) := by decide +kernel
theorem dX3_measure_54 : decode cX3_measure 54 = .ok (.aload 4, 2) := by decide +kernel
theorem dX3_measure_56 : decode cX3_measure 56 = .ok (.iload 5, 2) := by decide +kernel
theorem dX3_measure_58 : decode cX3_measure 58 = .ok (.iaload, 1) := by decide +kernel
theorem dX3_measure_59 : decode cX3_measure 59 = .ok (.iload_n 3, 1) := by decide +kernel
theorem dX3_measure_60 : decode cX3_measure 60 = .ok (.invokevirtual 152, 3) := by decide +kernel
theorem dX3_measure_63 : decode cX3_measure 63 = .ok (.iastore, 1) := by decide +kernel
theorem dX3_measure_64 : decode cX3_measure 64 = .ok (.iconst 0, 1) := by decide +kernel
theorem dX3_measure_65 : decode cX3_measure 65 = .ok (.istore 6, 2) := by decide +kernel
theorem dX3_measure_67 : decode cX3_measure 67 = .ok (.iload 6, 2) := by decide +kernel
theorem dX3_measure_69 : decode cX3_measure 69 = .ok (.aload_n 1, 1) := by decide +kernel
theorem dX3_measure_70 : decode cX3_measure 70 = .ok (.getfield 79, 3) := by decide +kernel
theorem dX3_measure_73 : decode cX3_measure 73 = .ok (.getfield 149, 3) := by decide +kernel
theorem dX3_measure_76 : decode cX3_measure 76 = .ok (.if_icmp .ge 37, 3) := by decide +kernel
theorem dX3_measure_79 : decode cX3_measure 79 = .ok (.aload_n 0, 1) := by decide +kernel
theorem dX3_measure_80 : decode cX3_measure 80 = .ok (.getfield 36, 3) := by decide +kernel
theorem dX3_measure_83 : decode cX3_measure 83 = .ok (.iload 5, 2) := by decide +kernel
theorem dX3_measure_85 : decode cX3_measure 85 = .ok (.bipush 6, 2) := by decide +kernel
theorem dX3_measure_87 : decode cX3_measure 87 = .ok (.imul, 1) := by decide +kernel
theorem dX3_measure_88 : decode cX3_measure 88 = .ok (.iload 6, 2) := by decide +kernel
theorem dX3_measure_90 : decode cX3_measure 90 = .ok (.iadd, 1) := by decide +kernel
theorem dX3_measure_91 : decode cX3_measure 91 = .ok (.aload_n 1, 1) := by decide +kernel
theorem dX3_measure_92 : decode cX3_measure 92 = .ok (.iconst 2, 1) := by decide +kernel
theorem dX3_measure_93 : decode cX3_measure 93 = .ok (.aload 4, 2) := by decide +kernel
theorem dX3_measure_95 : decode cX3_measure 95 = .ok (.iload 5, 2) := by decide +kernel
theorem dX3_measure_97 : decode cX3_measure 97 = .ok (.iaload, 1) := by decide +kernel
theorem dX3_measure_98 : decode cX3_measure 98 = .ok (.aload 4, 2) := by decide +kernel
theorem dX3_measure_100 : decode cX3_measure 100 = .ok (.iload 6, 2) := by decide +kernel
theorem dX3_measure_102 : decode cX3_measure 102 = .ok (.iaload, 1) := by decide +kernel
theorem dX3_measure_103 : decode cX3_measure 103 = .ok (.invokevirtual 152, 3) := by decide +kernel
theorem dX3_measure_106 : decode cX3_measure 106 = .ok (.iastore, 1) := by decide +kernel
theorem dX3_measure_107 : decode cX3_measure 107 = .ok (.iinc 6 1, 3) := by decide +kernel
theorem dX3_measure_110 : decode cX3_measure 110 = .ok (.goto (-43), 3) := by decide +kernel
theorem dX3_measure_113 : decode cX3_measure 113 = .ok (.iinc 5 1, 3) := by decide +kernel
theorem dX3_measure_116 : decode cX3_measure 116 = .ok (.goto (-94), 3) := by decide +kernel
theorem dX3_measure_119 : decode cX3_measure 119 = .ok (.return_, 1) := by decide +kernel
theorem dX3_findRoute_0 : decode cX3_findRoute 0 = .ok (.iconst 0, 1) := by decide +kernel
theorem dX3_findRoute_1 : decode cX3_findRoute 1 = .ok (.istore_n 2, 1) := by decide +kernel
theorem dX3_findRoute_2 : decode cX3_findRoute 2 = .ok (.iload_n 2, 1) := by decide +kernel
theorem dX3_findRoute_3 : decode cX3_findRoute 3 = .ok (.bipush 6, 2) := by decide +kernel
theorem dX3_findRoute_5 : decode cX3_findRoute 5 = .ok (.if_icmp .ge 56, 3) := by decide +kernel
theorem dX3_findRoute_8 : decode cX3_findRoute 8 = .ok (.iload_n 1, 1) := by decide +kernel
theorem dX3_findRoute_9 : decode cX3_findRoute 9 = .ok (.iload_n 2, 1) := by decide +kernel
theorem dX3_findRoute_10 : decode cX3_findRoute 10 = .ok (.ishr, 1) := by decide +kernel
theorem dX3_findRoute_11 : decode cX3_findRoute 11 = .ok (.iconst 1, 1) := by decide +kernel
theorem dX3_findRoute_12 : decode cX3_findRoute 12 = .ok (.iand, 1) := by decide +kernel
theorem dX3_findRoute_13 : decode cX3_findRoute 13 = .ok (.ifCond .eq 42, 3) := by decide +kernel
theorem dX3_findRoute_16 : decode cX3_findRoute 16 = .ok (.aload_n 0, 1) := by decide +kernel
theorem dX3_findRoute_17 : decode cX3_findRoute 17 = .ok (.iload_n 1, 1) := by decide +kernel
theorem dX3_findRoute_18 : decode cX3_findRoute 18 = .ok (.iconst 1, 1) := by decide +kernel
theorem dX3_findRoute_19 : decode cX3_findRoute 19 = .ok (.iload_n 2, 1) := by decide +kernel
theorem dX3_findRoute_20 : decode cX3_findRoute 20 = .ok (.ishl, 1) := by decide +kernel
theorem dX3_findRoute_21 : decode cX3_findRoute 21 = .ok (.ixor, 1) := by decide +kernel
theorem dX3_findRoute_22 : decode cX3_findRoute 22 = .ok (.iload_n 2, 1) := by decide +kernel
theorem dX3_findRoute_23 : decode cX3_findRoute 23 = .ok (.invokevirtual 156, 3) := by decide +kernel
theorem dX3_findRoute_26 : decode cX3_findRoute 26 = .ok (.istore_n 3, 1) := by decide +kernel
theorem dX3_findRoute_27 : decode cX3_findRoute 27 = .ok (.aload_n 0, 1) := by decide +kernel
theorem dX3_findRoute_28 : decode cX3_findRoute 28 = .ok (.getfield 39, 3) := by decide +kernel
theorem dX3_findRoute_31 : decode cX3_findRoute 31 = .ok (.iload_n 1, 1) := by decide +kernel
theorem dX3_findRoute_32 : decode cX3_findRoute 32 = .ok (.bipush 6, 2) := by decide +kernel
theorem dX3_findRoute_34 : decode cX3_findRoute 34 = .ok (.imul, 1) := by decide +kernel
theorem dX3_findRoute_35 : decode cX3_findRoute 35 = .ok (.iload_n 2, 1) := by decide +kernel
theorem dX3_findRoute_36 : decode cX3_findRoute 36 = .ok (.iadd, 1) := by decide +kernel
theorem dX3_findRoute_37 : decode cX3_findRoute 37 = .ok (.iload_n 3, 1) := by decide +kernel
theorem dX3_findRoute_38 : decode cX3_findRoute 38 = .ok (.iastore, 1) := by decide +kernel
theorem dX3_findRoute_39 : decode cX3_findRoute 39 = .ok (.aload_n 0, 1) := by decide +kernel
theorem dX3_findRoute_40 : decode cX3_findRoute 40 = .ok (.getfield 17, 3) := by decide +kernel
theorem dX3_findRoute_43 : decode cX3_findRoute 43 = .ok (.iload_n 1, 1) := by decide +kernel
theorem dX3_findRoute_44 : decode cX3_findRoute 44 = .ok (.aload_n 0, 1) := by decide +kernel
theorem dX3_findRoute_45 : decode cX3_findRoute 45 = .ok (.getfield 17, 3) := by decide +kernel
theorem dX3_findRoute_48 : decode cX3_findRoute 48 = .ok (.iload_n 1, 1) := by decide +kernel
theorem dX3_findRoute_49 : decode cX3_findRoute 49 = .ok (.iaload, 1) := by decide +kernel
theorem dX3_findRoute_50 : decode cX3_findRoute 50 = .ok (.iload_n 3, 1) := by decide +kernel
theorem dX3_findRoute_51 : decode cX3_findRoute 51 = .ok (.invokestatic 160, 3) := by decide +kernel
theorem dX3_findRoute_54 : decode cX3_findRoute 54 = .ok (.iastore, 1) := by decide +kernel
theorem dX3_findRoute_55 : decode cX3_findRoute 55 = .ok (.iinc 2 1, 3) := by decide +kernel
theorem dX3_findRoute_58 : decode cX3_findRoute 58 = .ok (.goto (-56), 3) := by decide +kernel
theorem dX3_findRoute_61 : decode cX3_findRoute 61 = .ok (.return_, 1) := by decide +kernel
theorem dX3_leastBehind_0 : decode cX3_leastBehind 0 = .ok (.iload_n 1, 1) := by decide +kernel
theorem dX3_leastBehind_1 : decode cX3_leastBehind 1 = .ok (.ifCond .ne 10, 3) := by decide +kernel
theorem dX3_leastBehind_4 : decode cX3_leastBehind 4 = .ok (.aload_n 0, 1) := by decide +kernel
theorem dX3_leastBehind_5 : decode cX3_leastBehind 5 = .ok (.getfield 33, 3) := by decide +kernel
theorem dX3_leastBehind_8 : decode cX3_leastBehind 8 = .ok (.iload_n 2, 1) := by decide +kernel
theorem dX3_leastBehind_9 : decode cX3_leastBehind 9 = .ok (.iaload, 1) := by decide +kernel
theorem dX3_leastBehind_10 : decode cX3_leastBehind 10 = .ok (.ireturn, 1) := by decide +kernel
theorem dX3_leastBehind_11 : decode cX3_leastBehind 11 = .ok (.ldc 71, 2) := by decide +kernel
theorem dX3_leastBehind_13 : decode cX3_leastBehind 13 = .ok (.istore_n 3, 1) := by decide +kernel
theorem dX3_leastBehind_14 : decode cX3_leastBehind 14 = .ok (.iconst 0, 1) := by decide +kernel
theorem dX3_leastBehind_15 : decode cX3_leastBehind 15 = .ok (.istore 4, 2) := by decide +kernel
theorem dX3_leastBehind_17 : decode cX3_leastBehind 17 = .ok (.iload 4, 2) := by decide +kernel
theorem dX3_leastBehind_19 : decode cX3_leastBehind 19 = .ok (.bipush 6, 2) := by decide +kernel
theorem dX3_leastBehind_21 : decode cX3_leastBehind 21 = .ok (.if_icmp .ge 48, 3) := by decide +kernel
theorem dX3_leastBehind_24 : decode cX3_leastBehind 24 = .ok (.iload_n 1, 1) := by decide +kernel
theorem dX3_leastBehind_25 : decode cX3_leastBehind 25 = .ok (.iload 4, 2) := by decide +kernel
theorem dX3_leastBehind_27 : decode cX3_leastBehind 27 = .ok (.ishr, 1) := by decide +kernel
theorem dX3_leastBehind_28 : decode cX3_leastBehind 28 = .ok (.iconst 1, 1) := by decide +kernel
theorem dX3_leastBehind_29 : decode cX3_leastBehind 29 = .ok (.iand, 1) := by decide +kernel
theorem dX3_leastBehind_30 : decode cX3_leastBehind 30 = .ok (.ifCond .eq 33, 3) := by decide +kernel
theorem dX3_leastBehind_33 : decode cX3_leastBehind 33 = .ok (.iload_n 3, 1) := by decide +kernel
theorem dX3_leastBehind_34 : decode cX3_leastBehind 34 = .ok (.aload_n 0, 1) := by decide +kernel
theorem dX3_leastBehind_35 : decode cX3_leastBehind 35 = .ok (.getfield 36, 3) := by decide +kernel
theorem dX3_leastBehind_38 : decode cX3_leastBehind 38 = .ok (.iload_n 2, 1) := by decide +kernel
theorem dX3_leastBehind_39 : decode cX3_leastBehind 39 = .ok (.bipush 6, 2) := by decide +kernel
theorem dX3_leastBehind_41 : decode cX3_leastBehind 41 = .ok (.imul, 1) := by decide +kernel
theorem dX3_leastBehind_42 : decode cX3_leastBehind 42 = .ok (.iload 4, 2) := by decide +kernel
theorem dX3_leastBehind_44 : decode cX3_leastBehind 44 = .ok (.iadd, 1) := by decide +kernel
theorem dX3_leastBehind_45 : decode cX3_leastBehind 45 = .ok (.iaload, 1) := by decide +kernel
theorem dX3_leastBehind_46 : decode cX3_leastBehind 46 = .ok (.aload_n 0, 1) := by decide +kernel
theorem dX3_leastBehind_47 : decode cX3_leastBehind 47 = .ok (.getfield 39, 3) := by decide +kernel
theorem dX3_leastBehind_50 : decode cX3_leastBehind 50 = .ok (.iload_n 1, 1) := by decide +kernel
theorem dX3_leastBehind_51 : decode cX3_leastBehind 51 = .ok (.bipush 6, 2) := by decide +kernel
theorem dX3_leastBehind_53 : decode cX3_leastBehind 53 = .ok (.imul, 1) := by decide +kernel
theorem dX3_leastBehind_54 : decode cX3_leastBehind 54 = .ok (.iload 4, 2) := by decide +kernel
theorem dX3_leastBehind_56 : decode cX3_leastBehind 56 = .ok (.iadd, 1) := by decide +kernel
theorem dX3_leastBehind_57 : decode cX3_leastBehind 57 = .ok (.iaload, 1) := by decide +kernel
theorem dX3_leastBehind_58 : decode cX3_leastBehind 58 = .ok (.iadd, 1) := by decide +kernel
theorem dX3_leastBehind_59 : decode cX3_leastBehind 59 = .ok (.invokestatic 160, 3) := by decide +kernel
theorem dX3_leastBehind_62 : decode cX3_leastBehind 62 = .ok (.istore_n 3, 1) := by decide +kernel
theorem dX3_leastBehind_63 : decode cX3_leastBehind 63 = .ok (.iinc 4 1, 3) := by decide +kernel
theorem dX3_leastBehind_66 : decode cX3_leastBehind 66 = .ok (.goto (-49), 3) := by decide +kernel
theorem dX3_leastBehind_69 : decode cX3_leastBehind 69 = .ok (.iload_n 3, 1) := by decide +kernel
theorem dX3_leastBehind_70 : decode cX3_leastBehind 70 = .ok (.ireturn, 1) := by decide +kernel
theorem dX3_stopInRoute_0 : decode cX3_stopInRoute 0 = .ok (.iload_n 1, 1) := by decide +kernel
theorem dX3_stopInRoute_1 : decode cX3_stopInRoute 1 = .ok (.bipush 64, 2) := by decide +kernel
theorem dX3_stopInRoute_3 : decode cX3_stopInRoute 3 = .ok (.invokestatic 165, 3) := by decide +kernel
theorem dX3_stopInRoute_6 : decode cX3_stopInRoute 6 = .ok (.ifCond .eq 27, 3) := by decide +kernel
theorem dX3_stopInRoute_9 : decode cX3_stopInRoute 9 = .ok (.iload_n 2, 1) := by decide +kernel
theorem dX3_stopInRoute_10 : decode cX3_stopInRoute 10 = .ok (.bipush 6, 2) := by decide +kernel
theorem dX3_stopInRoute_12 : decode cX3_stopInRoute 12 = .ok (.invokestatic 165, 3) := by decide +kernel
theorem dX3_stopInRoute_15 : decode cX3_stopInRoute 15 = .ok (.ifCond .eq 18, 3) := by decide +kernel
theorem dX3_stopInRoute_18 : decode cX3_stopInRoute 18 = .ok (.iload_n 1, 1) := by decide +kernel
theorem dX3_stopInRoute_19 : decode cX3_stopInRoute 19 = .ok (.ifCond .eq 14, 3) := by decide +kernel
theorem dX3_stopInRoute_22 : decode cX3_stopInRoute 22 = .ok (.aload_n 0, 1) := by decide +kernel
theorem dX3_stopInRoute_23 : decode cX3_stopInRoute 23 = .ok (.getfield 17, 3) := by decide +kernel
theorem dX3_stopInRoute_26 : decode cX3_stopInRoute 26 = .ok (.iload_n 1, 1) := by decide +kernel
theorem dX3_stopInRoute_27 : decode cX3_stopInRoute 27 = .ok (.iaload, 1) := by decide +kernel
theorem dX3_stopInRoute_28 : decode cX3_stopInRoute 28 = .ok (.ldc 71, 2) := by decide +kernel
theorem dX3_stopInRoute_30 : decode cX3_stopInRoute 30 = .ok (.if_icmp .lt 5, 3) := by decide +kernel
theorem dX3_stopInRoute_33 : decode cX3_stopInRoute 33 = .ok (.iconst (-1), 1) := by decide +kernel
theorem dX3_stopInRoute_34 : decode cX3_stopInRoute 34 = .ok (.ireturn, 1) := by decide +kernel
theorem dX3_stopInRoute_35 : decode cX3_stopInRoute 35 = .ok (.iload_n 1, 1) := by decide +kernel
theorem dX3_stopInRoute_36 : decode cX3_stopInRoute 36 = .ok (.istore_n 3, 1) := by decide +kernel
theorem dX3_stopInRoute_37 : decode cX3_stopInRoute 37 = .ok (.aload_n 0, 1) := by decide +kernel
theorem dX3_stopInRoute_38 : decode cX3_stopInRoute 38 = .ok (.getfield 17, 3) := by decide +kernel
theorem dX3_stopInRoute_41 : decode cX3_stopInRoute 41 = .ok (.iload_n 1, 1) := by decide +kernel
theorem dX3_stopInRoute_42 : decode cX3_stopInRoute 42 = .ok (.iaload, 1) := by decide +kernel
theorem dX3_stopInRoute_43 : decode cX3_stopInRoute 43 = .ok (.istore 4, 2) := by decide +kernel
theorem dX3_stopInRoute_45 : decode cX3_stopInRoute 45 = .ok (.iconst (-1), 1) := by decide +kernel
theorem dX3_stopInRoute_46 : decode cX3_stopInRoute 46 = .ok (.istore 5, 2) := by decide +kernel
theorem dX3_stopInRoute_48 : decode cX3_stopInRoute 48 = .ok (.iconst 0, 1) := by decide +kernel
theorem dX3_stopInRoute_49 : decode cX3_stopInRoute 49 = .ok (.istore 6, 2) := by decide +kernel
theorem dX3_stopInRoute_51 : decode cX3_stopInRoute 51 = .ok (.iload 6, 2) := by decide +kernel
theorem dX3_stopInRoute_53 : decode cX3_stopInRoute 53 = .ok (.iload_n 2, 1) := by decide +kernel
theorem dX3_stopInRoute_54 : decode cX3_stopInRoute 54 = .ok (.if_icmp .gt 49, 3) := by decide +kernel
theorem dX3_stopInRoute_57 : decode cX3_stopInRoute 57 = .ok (.aload_n 0, 1) := by decide +kernel
theorem dX3_stopInRoute_58 : decode cX3_stopInRoute 58 = .ok (.iload_n 3, 1) := by decide +kernel
theorem dX3_stopInRoute_59 : decode cX3_stopInRoute 59 = .ok (.iload 5, 2) := by decide +kernel
theorem dX3_stopInRoute_61 : decode cX3_stopInRoute 61 = .ok (.iload 4, 2) := by decide +kernel
theorem dX3_stopInRoute_63 : decode cX3_stopInRoute 63 = .ok (.invokevirtual 169, 3) := by decide +kernel
theorem dX3_stopInRoute_66 : decode cX3_stopInRoute 66 = .ok (.istore 5, 2) := by decide +kernel
theorem dX3_stopInRoute_68 : decode cX3_stopInRoute 68 = .ok (.iload 5, 2) := by decide +kernel
theorem dX3_stopInRoute_70 : decode cX3_stopInRoute 70 = .ok (.iconst (-1), 1) := by decide +kernel
theorem dX3_stopInRoute_71 : decode cX3_stopInRoute 71 = .ok (.if_icmp .ne 5, 3) := by decide +kernel
theorem dX3_stopInRoute_74 : decode cX3_stopInRoute 74 = .ok (.iconst (-1), 1) := by decide +kernel
theorem dX3_stopInRoute_75 : decode cX3_stopInRoute 75 = .ok (.ireturn, 1) := by decide +kernel
theorem dX3_stopInRoute_76 : decode cX3_stopInRoute 76 = .ok (.aload_n 0, 1) := by decide +kernel
theorem dX3_stopInRoute_77 : decode cX3_stopInRoute 77 = .ok (.getfield 39, 3) := by decide +kernel
theorem dX3_stopInRoute_80 : decode cX3_stopInRoute 80 = .ok (.iload_n 3, 1) := by decide +kernel
theorem dX3_stopInRoute_81 : decode cX3_stopInRoute 81 = .ok (.bipush 6, 2) := by decide +kernel
theorem dX3_stopInRoute_83 : decode cX3_stopInRoute 83 = .ok (.imul, 1) := by decide +kernel
theorem dX3_stopInRoute_84 : decode cX3_stopInRoute 84 = .ok (.iload 5, 2) := by decide +kernel
theorem dX3_stopInRoute_86 : decode cX3_stopInRoute 86 = .ok (.iadd, 1) := by decide +kernel
theorem dX3_stopInRoute_87 : decode cX3_stopInRoute 87 = .ok (.iaload, 1) := by decide +kernel
theorem dX3_stopInRoute_88 : decode cX3_stopInRoute 88 = .ok (.istore 4, 2) := by decide +kernel
theorem dX3_stopInRoute_90 : decode cX3_stopInRoute 90 = .ok (.iload_n 3, 1) := by decide +kernel
theorem dX3_stopInRoute_91 : decode cX3_stopInRoute 91 = .ok (.iconst 1, 1) := by decide +kernel
theorem dX3_stopInRoute_92 : decode cX3_stopInRoute 92 = .ok (.iload 5, 2) := by decide +kernel
theorem dX3_stopInRoute_94 : decode cX3_stopInRoute 94 = .ok (.ishl, 1) := by decide +kernel
theorem dX3_stopInRoute_95 : decode cX3_stopInRoute 95 = .ok (.ixor, 1) := by decide +kernel
theorem dX3_stopInRoute_96 : decode cX3_stopInRoute 96 = .ok (.istore_n 3, 1) := by decide +kernel
theorem dX3_stopInRoute_97 : decode cX3_stopInRoute 97 = .ok (.iinc 6 1, 3) := by decide +kernel
theorem dX3_stopInRoute_100 : decode cX3_stopInRoute 100 = .ok (.goto (-49), 3) := by decide +kernel
theorem dX3_stopInRoute_103 : decode cX3_stopInRoute 103 = .ok (.iload 5, 2) := by decide +kernel
theorem dX3_stopInRoute_105 : decode cX3_stopInRoute 105 = .ok (.ireturn, 1) := by decide +kernel
theorem dX3_firstWith_0 : decode cX3_firstWith 0 = .ok (.iconst 0, 1) := by decide +kernel
theorem dX3_firstWith_1 : decode cX3_firstWith 1 = .ok (.istore 4, 2) := by decide +kernel
theorem dX3_firstWith_3 : decode cX3_firstWith 3 = .ok (.iload 4, 2) := by decide +kernel
theorem dX3_firstWith_5 : decode cX3_firstWith 5 = .ok (.bipush 6, 2) := by decide +kernel
theorem dX3_firstWith_7 : decode cX3_firstWith 7 = .ok (.if_icmp .ge 63, 3) := by decide +kernel
theorem dX3_firstWith_10 : decode cX3_firstWith 10 = .ok (.iload_n 1, 1) := by decide +kernel
theorem dX3_firstWith_11 : decode cX3_firstWith 11 = .ok (.iload 4, 2) := by decide +kernel
theorem dX3_firstWith_13 : decode cX3_firstWith 13 = .ok (.ishr, 1) := by decide +kernel
theorem dX3_firstWith_14 : decode cX3_firstWith 14 = .ok (.iconst 1, 1) := by decide +kernel
theorem dX3_firstWith_15 : decode cX3_firstWith 15 = .ok (.iand, 1) := by decide +kernel
theorem dX3_firstWith_16 : decode cX3_firstWith 16 = .ok (.ifCond .eq 48, 3) := by decide +kernel
theorem dX3_firstWith_19 : decode cX3_firstWith 19 = .ok (.iload_n 2, 1) := by decide +kernel
theorem dX3_firstWith_20 : decode cX3_firstWith 20 = .ok (.iconst (-1), 1) := by decide +kernel
theorem dX3_firstWith_21 : decode cX3_firstWith 21 = .ok (.if_icmp .ne 7, 3) := by decide +kernel
theorem dX3_firstWith_24 : decode cX3_firstWith 24 = .ok (.iconst 0, 1) := by decide +kernel
theorem dX3_firstWith_25 : decode cX3_firstWith 25 = .ok (.goto 15, 3) := by decide +kernel
theorem dX3_firstWith_28 : decode cX3_firstWith 28 = .ok (.aload_n 0, 1) := by decide +kernel
theorem dX3_firstWith_29 : decode cX3_firstWith 29 = .ok (.getfield 36, 3) := by decide +kernel
theorem dX3_firstWith_32 : decode cX3_firstWith 32 = .ok (.iload_n 2, 1) := by decide +kernel
theorem dX3_firstWith_33 : decode cX3_firstWith 33 = .ok (.bipush 6, 2) := by decide +kernel
theorem dX3_firstWith_35 : decode cX3_firstWith 35 = .ok (.imul, 1) := by decide +kernel
theorem dX3_firstWith_36 : decode cX3_firstWith 36 = .ok (.iload 4, 2) := by decide +kernel
theorem dX3_firstWith_38 : decode cX3_firstWith 38 = .ok (.iadd, 1) := by decide +kernel
theorem dX3_firstWith_39 : decode cX3_firstWith 39 = .ok (.iaload, 1) := by decide +kernel
theorem dX3_firstWith_40 : decode cX3_firstWith 40 = .ok (.istore 5, 2) := by decide +kernel
theorem dX3_firstWith_42 : decode cX3_firstWith 42 = .ok (.iload 5, 2) := by decide +kernel
theorem dX3_firstWith_44 : decode cX3_firstWith 44 = .ok (.aload_n 0, 1) := by decide +kernel
theorem dX3_firstWith_45 : decode cX3_firstWith 45 = .ok (.getfield 39, 3) := by decide +kernel
theorem dX3_firstWith_48 : decode cX3_firstWith 48 = .ok (.iload_n 1, 1) := by decide +kernel
theorem dX3_firstWith_49 : decode cX3_firstWith 49 = .ok (.bipush 6, 2) := by decide +kernel
theorem dX3_firstWith_51 : decode cX3_firstWith 51 = .ok (.imul, 1) := by decide +kernel
theorem dX3_firstWith_52 : decode cX3_firstWith 52 = .ok (.iload 4, 2) := by decide +kernel
theorem dX3_firstWith_54 : decode cX3_firstWith 54 = .ok (.iadd, 1) := by decide +kernel
theorem dX3_firstWith_55 : decode cX3_firstWith 55 = .ok (.iaload, 1) := by decide +kernel
theorem dX3_firstWith_56 : decode cX3_firstWith 56 = .ok (.iadd, 1) := by decide +kernel
theorem dX3_firstWith_57 : decode cX3_firstWith 57 = .ok (.iload_n 3, 1) := by decide +kernel
theorem dX3_firstWith_58 : decode cX3_firstWith 58 = .ok (.if_icmp .ne 6, 3) := by decide +kernel
theorem dX3_firstWith_61 : decode cX3_firstWith 61 = .ok (.iload 4, 2) := by decide +kernel
theorem dX3_firstWith_63 : decode cX3_firstWith 63 = .ok (.ireturn, 1) := by decide +kernel
theorem dX3_firstWith_64 : decode cX3_firstWith 64 = .ok (.iinc 4 1, 3) := by decide +kernel
theorem dX3_firstWith_67 : decode cX3_firstWith 67 = .ok (.goto (-64), 3) := by decide +kernel
theorem dX3_firstWith_70 : decode cX3_firstWith 70 = .ok (.iconst (-1), 1) := by decide +kernel
theorem dX3_firstWith_71 : decode cX3_firstWith 71 = .ok (.ireturn, 1) := by decide +kernel
theorem dX3_canBeGood_0 : decode cX3_canBeGood 0 = .ok (.iconst 0, 1) := by decide +kernel
theorem dX3_canBeGood_1 : decode cX3_canBeGood 1 = .ok (.istore_n 3, 1) := by decide +kernel
theorem dX3_canBeGood_2 : decode cX3_canBeGood 2 = .ok (.iconst 0, 1) := by decide +kernel
theorem dX3_canBeGood_3 : decode cX3_canBeGood 3 = .ok (.istore 4, 2) := by decide +kernel
theorem dX3_canBeGood_5 : decode cX3_canBeGood 5 = .ok (.iload 4, 2) := by decide +kernel
theorem dX3_canBeGood_7 : decode cX3_canBeGood 7 = .ok (.bipush 6, 2) := by decide +kernel
theorem dX3_canBeGood_9 : decode cX3_canBeGood 9 = .ok (.if_icmp .ge 42, 3) := by decide +kernel
theorem dX3_canBeGood_12 : decode cX3_canBeGood 12 = .ok (.iload_n 1, 1) := by decide +kernel
theorem dX3_canBeGood_13 : decode cX3_canBeGood 13 = .ok (.iload 4, 2) := by decide +kernel
theorem dX3_canBeGood_15 : decode cX3_canBeGood 15 = .ok (.ishr, 1) := by decide +kernel
theorem dX3_canBeGood_16 : decode cX3_canBeGood 16 = .ok (.iconst 1, 1) := by decide +kernel
theorem dX3_canBeGood_17 : decode cX3_canBeGood 17 = .ok (.iand, 1) := by decide +kernel
theorem dX3_canBeGood_18 : decode cX3_canBeGood 18 = .ok (.ifCond .eq 27, 3) := by decide +kernel
theorem dX3_canBeGood_21 : decode cX3_canBeGood 21 = .ok (.iload_n 3, 1) := by decide +kernel
theorem dX3_canBeGood_22 : decode cX3_canBeGood 22 = .ok (.aload_n 0, 1) := by decide +kernel
theorem dX3_canBeGood_23 : decode cX3_canBeGood 23 = .ok (.getfield 11, 3) := by decide +kernel
theorem dX3_canBeGood_26 : decode cX3_canBeGood 26 = .ok (.iload 4, 2) := by decide +kernel
theorem dX3_canBeGood_28 : decode cX3_canBeGood 28 = .ok (.iaload, 1) := by decide +kernel
theorem dX3_canBeGood_29 : decode cX3_canBeGood 29 = .ok (.iadd, 1) := by decide +kernel
theorem dX3_canBeGood_30 : decode cX3_canBeGood 30 = .ok (.istore_n 3, 1) := by decide +kernel
theorem dX3_canBeGood_31 : decode cX3_canBeGood 31 = .ok (.aload_n 0, 1) := by decide +kernel
theorem dX3_canBeGood_32 : decode cX3_canBeGood 32 = .ok (.getfield 30, 3) := by decide +kernel
theorem dX3_canBeGood_35 : decode cX3_canBeGood 35 = .ok (.iload 4, 2) := by decide +kernel
theorem dX3_canBeGood_37 : decode cX3_canBeGood 37 = .ok (.iaload, 1) := by decide +kernel
theorem dX3_canBeGood_38 : decode cX3_canBeGood 38 = .ok (.iload_n 1, 1) := by decide +kernel
theorem dX3_canBeGood_39 : decode cX3_canBeGood 39 = .ok (.iand, 1) := by decide +kernel
theorem dX3_canBeGood_40 : decode cX3_canBeGood 40 = .ok (.ifCond .eq 5, 3) := by decide +kernel
theorem dX3_canBeGood_43 : decode cX3_canBeGood 43 = .ok (.iconst 0, 1) := by decide +kernel
theorem dX3_canBeGood_44 : decode cX3_canBeGood 44 = .ok (.ireturn, 1) := by decide +kernel
theorem dX3_canBeGood_45 : decode cX3_canBeGood 45 = .ok (.iinc 4 1, 3) := by decide +kernel
theorem dX3_canBeGood_48 : decode cX3_canBeGood 48 = .ok (.goto (-43), 3) := by decide +kernel
theorem dX3_canBeGood_51 : decode cX3_canBeGood 51 = .ok (.aload_n 0, 1) := by decide +kernel
theorem dX3_canBeGood_52 : decode cX3_canBeGood 52 = .ok (.getfield 17, 3) := by decide +kernel
theorem dX3_canBeGood_55 : decode cX3_canBeGood 55 = .ok (.iload_n 1, 1) := by decide +kernel
theorem dX3_canBeGood_56 : decode cX3_canBeGood 56 = .ok (.iaload, 1) := by decide +kernel
theorem dX3_canBeGood_57 : decode cX3_canBeGood 57 = .ok (.aload_n 2, 1) := by decide +kernel
theorem dX3_canBeGood_58 : decode cX3_canBeGood 58 = .ok (.iconst 1, 1) := by decide +kernel
theorem dX3_canBeGood_59 : decode cX3_canBeGood 59 = .ok (.iaload, 1) := by decide +kernel
theorem dX3_canBeGood_60 : decode cX3_canBeGood 60 = .ok (.if_icmp .gt 14, 3) := by decide +kernel
theorem dX3_canBeGood_63 : decode cX3_canBeGood 63 = .ok (.iload_n 3, 1) := by decide +kernel
theorem dX3_canBeGood_64 : decode cX3_canBeGood 64 = .ok (.aload_n 2, 1) := by decide +kernel
theorem dX3_canBeGood_65 : decode cX3_canBeGood 65 = .ok (.iconst 0, 1) := by decide +kernel
theorem dX3_canBeGood_66 : decode cX3_canBeGood 66 = .ok (.iaload, 1) := by decide +kernel
theorem dX3_canBeGood_67 : decode cX3_canBeGood 67 = .ok (.if_icmp .gt 7, 3) := by decide +kernel
theorem dX3_canBeGood_70 : decode cX3_canBeGood 70 = .ok (.iconst 1, 1) := by decide +kernel
theorem dX3_canBeGood_71 : decode cX3_canBeGood 71 = .ok (.goto 4, 3) := by decide +kernel
theorem dX3_canBeGood_74 : decode cX3_canBeGood 74 = .ok (.iconst 0, 1) := by decide +kernel
theorem dX3_canBeGood_75 : decode cX3_canBeGood 75 = .ok (.ireturn, 1) := by decide +kernel
theorem dX3_payOf_0 : decode cX3_payOf 0 = .ok (.iload_n 1, 1) := by decide +kernel
theorem dX3_payOf_1 : decode cX3_payOf 1 = .ok (.aload_n 0, 1) := by decide +kernel
theorem dX3_payOf_2 : decode cX3_payOf 2 = .ok (.getfield 105, 3) := by decide +kernel
theorem dX3_payOf_5 : decode cX3_payOf 5 = .ok (.iand, 1) := by decide +kernel
theorem dX3_payOf_6 : decode cX3_payOf 6 = .ok (.ifCond .eq 9, 3) := by decide +kernel
theorem dX3_payOf_9 : decode cX3_payOf 9 = .ok (.aload_n 2, 1) := by decide +kernel
theorem dX3_payOf_10 : decode cX3_payOf 10 = .ok (.iconst 4, 1) := by decide +kernel
theorem dX3_payOf_11 : decode cX3_payOf 11 = .ok (.iaload, 1) := by decide +kernel
theorem dX3_payOf_12 : decode cX3_payOf 12 = .ok (.goto 4, 3) := by decide +kernel
theorem dX3_payOf_15 : decode cX3_payOf 15 = .ok (.iconst 0, 1) := by decide +kernel
theorem dX3_payOf_16 : decode cX3_payOf 16 = .ok (.istore_n 3, 1) := by decide +kernel
theorem dX3_payOf_17 : decode cX3_payOf 17 = .ok (.aload_n 2, 1) := by decide +kernel
theorem dX3_payOf_18 : decode cX3_payOf 18 = .ok (.iconst 5, 1) := by decide +kernel
theorem dX3_payOf_19 : decode cX3_payOf 19 = .ok (.iaload, 1) := by decide +kernel
theorem dX3_payOf_20 : decode cX3_payOf 20 = .ok (.aload_n 2, 1) := by decide +kernel
theorem dX3_payOf_21 : decode cX3_payOf 21 = .ok (.bipush 6, 2) := by decide +kernel
theorem dX3_payOf_23 : decode cX3_payOf 23 = .ok (.iaload, 1) := by decide +kernel
theorem dX3_payOf_24 : decode cX3_payOf 24 = .ok (.aload_n 0, 1) := by decide +kernel
theorem dX3_payOf_25 : decode cX3_payOf 25 = .ok (.getfield 17, 3) := by decide +kernel
theorem dX3_payOf_28 : decode cX3_payOf 28 = .ok (.iload_n 1, 1) := by decide +kernel
theorem dX3_payOf_29 : decode cX3_payOf 29 = .ok (.iaload, 1) := by decide +kernel
theorem dX3_payOf_30 : decode cX3_payOf 30 = .ok (.imul, 1) := by decide +kernel
theorem dX3_payOf_31 : decode cX3_payOf 31 = .ok (.iadd, 1) := by decide +kernel
theorem dX3_payOf_32 : decode cX3_payOf 32 = .ok (.iload_n 3, 1) := by decide +kernel
theorem dX3_payOf_33 : decode cX3_payOf 33 = .ok (.iadd, 1) := by decide +kernel
theorem dX3_payOf_34 : decode cX3_payOf 34 = .ok (.ireturn, 1) := by decide +kernel
theorem dX3_choose_0 : decode cX3_choose 0 = .ok (.aload_n 0, 1) := by decide +kernel
theorem dX3_choose_1 : decode cX3_choose 1 = .ok (.getfield 42, 3) := by decide +kernel
theorem dX3_choose_4 : decode cX3_choose 4 = .ok (.iload_n 1, 1) := by decide +kernel
theorem dX3_choose_5 : decode cX3_choose 5 = .ok (.ldc 172, 2) := by decide +kernel
theorem dX3_choose_7 : decode cX3_choose 7 = .ok (.iastore, 1) := by decide +kernel
theorem dX3_choose_8 : decode cX3_choose 8 = .ok (.aload_n 0, 1) := by decide +kernel
theorem dX3_choose_9 : decode cX3_choose 9 = .ok (.getfield 45, 3) := by decide +kernel
theorem dX3_choose_12 : decode cX3_choose 12 = .ok (.iload_n 1, 1) := by decide +kernel
theorem dX3_choose_13 : decode cX3_choose 13 = .ok (.bipush 99, 2) := by decide +kernel
theorem dX3_choose_15 : decode cX3_choose 15 = .ok (.iastore, 1) := by decide +kernel
theorem dX3_choose_16 : decode cX3_choose 16 = .ok (.aload_n 0, 1) := by decide +kernel
theorem dX3_choose_17 : decode cX3_choose 17 = .ok (.getfield 51, 3) := by decide +kernel
theorem dX3_choose_20 : decode cX3_choose 20 = .ok (.iload_n 1, 1) := by decide +kernel
theorem dX3_choose_21 : decode cX3_choose 21 = .ok (.bipush 99, 2) := by decide +kernel
theorem dX3_choose_23 : decode cX3_choose 23 = .ok (.iastore, 1) := by decide +kernel
theorem dX3_choose_24 : decode cX3_choose 24 = .ok (.iload_n 1, 1) := by decide +kernel
theorem dX3_choose_25 : decode cX3_choose 25 = .ok (.iload_n 1, 1) := by decide +kernel
theorem dX3_choose_26 : decode cX3_choose 26 = .ok (.ineg, 1) := by decide +kernel
theorem dX3_choose_27 : decode cX3_choose 27 = .ok (.iand, 1) := by decide +kernel
theorem dX3_choose_28 : decode cX3_choose 28 = .ok (.istore_n 3, 1) := by decide +kernel
theorem dX3_choose_29 : decode cX3_choose 29 = .ok (.iload_n 3, 1) := by decide +kernel
theorem dX3_choose_30 : decode cX3_choose 30 = .ok (.iconst 1, 1) := by decide +kernel
theorem dX3_choose_31 : decode cX3_choose 31 = .ok (.isub, 1) := by decide +kernel
theorem dX3_choose_32 : decode cX3_choose 32 = .ok (.invokestatic 173, 3) := by decide +kernel
theorem dX3_choose_35 : decode cX3_choose 35 = .ok (.istore 4, 2) := by decide +kernel
theorem dX3_choose_37 : decode cX3_choose 37 = .ok (.aload_n 0, 1) := by decide +kernel
theorem dX3_choose_38 : decode cX3_choose 38 = .ok (.getfield 33, 3) := by decide +kernel
theorem dX3_choose_41 : decode cX3_choose 41 = .ok (.iload 4, 2) := by decide +kernel
theorem dX3_choose_43 : decode cX3_choose 43 = .ok (.iaload, 1) := by decide +kernel
theorem dX3_choose_44 : decode cX3_choose 44 = .ok (.ldc 71, 2) := by decide +kernel
theorem dX3_choose_46 : decode cX3_choose 46 = .ok (.if_icmp .ge 28, 3) := by decide +kernel
theorem dX3_choose_49 : decode cX3_choose 49 = .ok (.aload_n 0, 1) := by decide +kernel
theorem dX3_choose_50 : decode cX3_choose 50 = .ok (.iload_n 1, 1) := by decide +kernel
theorem dX3_choose_51 : decode cX3_choose 51 = .ok (.iload_n 3, 1) := by decide +kernel
theorem dX3_choose_52 : decode cX3_choose 52 = .ok (.aload_n 2, 1) := by decide +kernel
theorem dX3_choose_53 : decode cX3_choose 53 = .ok (.iconst 3, 1) := by decide +kernel
theorem dX3_choose_54 : decode cX3_choose 54 = .ok (.iaload, 1) := by decide +kernel
theorem dX3_choose_55 : decode cX3_choose 55 = .ok (.aload_n 0, 1) := by decide +kernel
theorem dX3_choose_56 : decode cX3_choose 56 = .ok (.getfield 27, 3) := by decide +kernel
theorem dX3_choose_59 : decode cX3_choose 59 = .ok (.iload 4, 2) := by decide +kernel
theorem dX3_choose_61 : decode cX3_choose 61 = .ok (.iaload, 1) := by decide +kernel
theorem dX3_choose_62 : decode cX3_choose 62 = .ok (.imul, 1) := by decide +kernel
theorem dX3_choose_63 : decode cX3_choose 63 = .ok (.aload_n 0, 1) := by decide +kernel
theorem dX3_choose_64 : decode cX3_choose 64 = .ok (.getfield 33, 3) := by decide +kernel
theorem dX3_choose_67 : decode cX3_choose 67 = .ok (.iload 4, 2) := by decide +kernel
theorem dX3_choose_69 : decode cX3_choose 69 = .ok (.iaload, 1) := by decide +kernel
theorem dX3_choose_70 : decode cX3_choose 70 = .ok (.imul, 1) := by decide +kernel
theorem dX3_choose_71 : decode cX3_choose 71 = .ok (.invokevirtual 177, 3) := by decide +kernel
theorem dX3_choose_74 : decode cX3_choose 74 = .ok (.iload_n 1, 1) := by decide +kernel
theorem dX3_choose_75 : decode cX3_choose 75 = .ok (.iload_n 3, 1) := by decide +kernel
theorem dX3_choose_76 : decode cX3_choose 76 = .ok (.ixor, 1) := by decide +kernel
theorem dX3_choose_77 : decode cX3_choose 77 = .ok (.istore 5, 2) := by decide +kernel
theorem dX3_choose_79 : decode cX3_choose 79 = .ok (.iconst 0, 1) := by decide +kernel
theorem dX3_choose_80 : decode cX3_choose 80 = .ok (.istore 6, 2) := by decide +kernel
theorem dX3_choose_82 : decode cX3_choose 82 = .ok (.iconst 0, 1) := by decide +kernel
theorem dX3_choose_83 : decode cX3_choose 83 = .ok (.istore 7, 2) := by decide +kernel
theorem dX3_choose_85 : decode cX3_choose 85 = .ok (.iload 7, 2) := by decide +kernel
theorem dX3_choose_87 : decode cX3_choose 87 = .ok (.bipush 64, 2) := by decide +kernel
theorem dX3_choose_89 : decode cX3_choose 89 = .ok (.if_icmp .ge 57, 3) := by decide +kernel
theorem dX3_choose_92 : decode cX3_choose 92 = .ok (.aload_n 0, 1) := by decide +kernel
theorem dX3_choose_93 : decode cX3_choose 93 = .ok (.getfield 20, 3) := by decide +kernel
theorem dX3_choose_96 : decode cX3_choose 96 = .ok (.iload_n 3, 1) := by decide +kernel
theorem dX3_choose_97 : decode cX3_choose 97 = .ok (.iload 6, 2) := by decide +kernel
theorem dX3_choose_99 : decode cX3_choose 99 = .ok (.ior, 1) := by decide +kernel
theorem dX3_choose_100 : decode cX3_choose 100 = .ok (.baload, 1) := by decide +kernel
theorem dX3_choose_101 : decode cX3_choose 101 = .ok (.ifCond .eq 21, 3) := by decide +kernel
theorem dX3_choose_104 : decode cX3_choose 104 = .ok (.aload_n 0, 1) := by decide +kernel
theorem dX3_choose_105 : decode cX3_choose 105 = .ok (.iload_n 1, 1) := by decide +kernel
theorem dX3_choose_106 : decode cX3_choose 106 = .ok (.iload_n 3, 1) := by decide +kernel
theorem dX3_choose_107 : decode cX3_choose 107 = .ok (.iload 6, 2) := by decide +kernel
theorem dX3_choose_109 : decode cX3_choose 109 = .ok (.ior, 1) := by decide +kernel
theorem dX3_choose_110 : decode cX3_choose 110 = .ok (.aload_n 0, 1) := by decide +kernel
theorem dX3_choose_111 : decode cX3_choose 111 = .ok (.iload_n 3, 1) := by decide +kernel
theorem dX3_choose_112 : decode cX3_choose 112 = .ok (.iload 6, 2) := by decide +kernel
theorem dX3_choose_114 : decode cX3_choose 114 = .ok (.ior, 1) := by decide +kernel
theorem dX3_choose_115 : decode cX3_choose 115 = .ok (.aload_n 2, 1) := by decide +kernel
theorem dX3_choose_116 : decode cX3_choose 116 = .ok (.invokevirtual 181, 3) := by decide +kernel
theorem dX3_choose_119 : decode cX3_choose 119 = .ok (.invokevirtual 185, 3) := by decide +kernel
theorem dX3_choose_122 : decode cX3_choose 122 = .ok (.iload 6, 2) := by decide +kernel
theorem dX3_choose_124 : decode cX3_choose 124 = .ok (.iload 5, 2) := by decide +kernel
theorem dX3_choose_126 : decode cX3_choose 126 = .ok (.if_icmp .ne 4, 3) := by decide +kernel
theorem dX3_choose_129 : decode cX3_choose 129 = .ok (.return_, 1) := by decide +kernel
theorem dX3_choose_130 : decode cX3_choose 130 = .ok (.iload 6, 2) := by decide +kernel
theorem dX3_choose_132 : decode cX3_choose 132 = .ok (.iload 5, 2) := by decide +kernel
theorem dX3_choose_134 : decode cX3_choose 134 = .ok (.isub, 1) := by decide +kernel
theorem dX3_choose_135 : decode cX3_choose 135 = .ok (.iload 5, 2) := by decide +kernel
theorem dX3_choose_137 : decode cX3_choose 137 = .ok (.iand, 1) := by decide +kernel
theorem dX3_choose_138 : decode cX3_choose 138 = .ok (.istore 6, 2) := by decide +kernel
theorem dX3_choose_140 : decode cX3_choose 140 = .ok (.iinc 7 1, 3) := by decide +kernel
theorem dX3_choose_143 : decode cX3_choose 143 = .ok (.goto (-58), 3) := by decide +kernel
theorem dX3_choose_146 : decode cX3_choose 146 = .ok (.return_, 1) := by decide +kernel
theorem dX3_weighTaxi_0 : decode cX3_weighTaxi 0 = .ok (.iload_n 1, 1) := by decide +kernel
theorem dX3_weighTaxi_1 : decode cX3_weighTaxi 1 = .ok (.iload_n 2, 1) := by decide +kernel
theorem dX3_weighTaxi_2 : decode cX3_weighTaxi 2 = .ok (.ixor, 1) := by decide +kernel
theorem dX3_weighTaxi_3 : decode cX3_weighTaxi 3 = .ok (.istore 4, 2) := by decide +kernel
theorem dX3_weighTaxi_5 : decode cX3_weighTaxi 5 = .ok (.aload_n 0, 1) := by decide +kernel
theorem dX3_weighTaxi_6 : decode cX3_weighTaxi 6 = .ok (.getfield 42, 3) := by decide +kernel
theorem dX3_weighTaxi_9 : decode cX3_weighTaxi 9 = .ok (.iload 4, 2) := by decide +kernel
theorem dX3_weighTaxi_11 : decode cX3_weighTaxi 11 = .ok (.iaload, 1) := by decide +kernel
theorem dX3_weighTaxi_12 : decode cX3_weighTaxi 12 = .ok (.ldc 172, 2) := by decide +kernel
theorem dX3_weighTaxi_14 : decode cX3_weighTaxi 14 = .ok (.if_icmp .eq 38, 3) := by decide +kernel
theorem dX3_weighTaxi_17 : decode cX3_weighTaxi 17 = .ok (.aload_n 0, 1) := by decide +kernel
theorem dX3_weighTaxi_18 : decode cX3_weighTaxi 18 = .ok (.getfield 42, 3) := by decide +kernel
theorem dX3_weighTaxi_21 : decode cX3_weighTaxi 21 = .ok (.iload_n 1, 1) := by decide +kernel
theorem dX3_weighTaxi_22 : decode cX3_weighTaxi 22 = .ok (.iload_n 3, 1) := by decide +kernel
theorem dX3_weighTaxi_23 : decode cX3_weighTaxi 23 = .ok (.aload_n 0, 1) := by decide +kernel
theorem dX3_weighTaxi_24 : decode cX3_weighTaxi 24 = .ok (.getfield 42, 3) := by decide +kernel
theorem dX3_weighTaxi_27 : decode cX3_weighTaxi 27 = .ok (.iload 4, 2) := by decide +kernel
theorem dX3_weighTaxi_29 : decode cX3_weighTaxi 29 = .ok (.iaload, 1) := by decide +kernel
theorem dX3_weighTaxi_30 : decode cX3_weighTaxi 30 = .ok (.iadd, 1) := by decide +kernel
theorem dX3_weighTaxi_31 : decode cX3_weighTaxi 31 = .ok (.iastore, 1) := by decide +kernel
theorem dX3_weighTaxi_32 : decode cX3_weighTaxi 32 = .ok (.aload_n 0, 1) := by decide +kernel
theorem dX3_weighTaxi_33 : decode cX3_weighTaxi 33 = .ok (.getfield 45, 3) := by decide +kernel
theorem dX3_weighTaxi_36 : decode cX3_weighTaxi 36 = .ok (.iload_n 1, 1) := by decide +kernel
theorem dX3_weighTaxi_37 : decode cX3_weighTaxi 37 = .ok (.aload_n 0, 1) := by decide +kernel
theorem dX3_weighTaxi_38 : decode cX3_weighTaxi 38 = .ok (.getfield 45, 3) := by decide +kernel
theorem dX3_weighTaxi_41 : decode cX3_weighTaxi 41 = .ok (.iload 4, 2) := by decide +kernel
theorem dX3_weighTaxi_43 : decode cX3_weighTaxi 43 = .ok (.iaload, 1) := by decide +kernel
theorem dX3_weighTaxi_44 : decode cX3_weighTaxi 44 = .ok (.iastore, 1) := by decide +kernel
theorem dX3_weighTaxi_45 : decode cX3_weighTaxi 45 = .ok (.aload_n 0, 1) := by decide +kernel
theorem dX3_weighTaxi_46 : decode cX3_weighTaxi 46 = .ok (.getfield 48, 3) := by decide +kernel
theorem dX3_weighTaxi_49 : decode cX3_weighTaxi 49 = .ok (.iload_n 1, 1) := by decide +kernel
theorem dX3_weighTaxi_50 : decode cX3_weighTaxi 50 = .ok (.iconst 0, 1) := by decide +kernel
theorem dX3_weighTaxi_51 : decode cX3_weighTaxi 51 = .ok (.iastore, 1) := by decide +kernel
theorem dX3_weighTaxi_52 : decode cX3_weighTaxi 52 = .ok (.return_, 1) := by decide +kernel
theorem dX3_weighRoute_0 : decode cX3_weighRoute 0 = .ok (.iload_n 1, 1) := by decide +kernel
theorem dX3_weighRoute_1 : decode cX3_weighRoute 1 = .ok (.iload_n 2, 1) := by decide +kernel
theorem dX3_weighRoute_2 : decode cX3_weighRoute 2 = .ok (.ixor, 1) := by decide +kernel
theorem dX3_weighRoute_3 : decode cX3_weighRoute 3 = .ok (.istore 4, 2) := by decide +kernel
theorem dX3_weighRoute_5 : decode cX3_weighRoute 5 = .ok (.aload_n 0, 1) := by decide +kernel
theorem dX3_weighRoute_6 : decode cX3_weighRoute 6 = .ok (.getfield 51, 3) := by decide +kernel
theorem dX3_weighRoute_9 : decode cX3_weighRoute 9 = .ok (.iload_n 1, 1) := by decide +kernel
theorem dX3_weighRoute_10 : decode cX3_weighRoute 10 = .ok (.aload_n 0, 1) := by decide +kernel
theorem dX3_weighRoute_11 : decode cX3_weighRoute 11 = .ok (.getfield 51, 3) := by decide +kernel
theorem dX3_weighRoute_14 : decode cX3_weighRoute 14 = .ok (.iload_n 1, 1) := by decide +kernel
theorem dX3_weighRoute_15 : decode cX3_weighRoute 15 = .ok (.iaload, 1) := by decide +kernel
theorem dX3_weighRoute_16 : decode cX3_weighRoute 16 = .ok (.iconst 1, 1) := by decide +kernel
theorem dX3_weighRoute_17 : decode cX3_weighRoute 17 = .ok (.aload_n 0, 1) := by decide +kernel
theorem dX3_weighRoute_18 : decode cX3_weighRoute 18 = .ok (.getfield 51, 3) := by decide +kernel
theorem dX3_weighRoute_21 : decode cX3_weighRoute 21 = .ok (.iload 4, 2) := by decide +kernel
theorem dX3_weighRoute_23 : decode cX3_weighRoute 23 = .ok (.iaload, 1) := by decide +kernel
theorem dX3_weighRoute_24 : decode cX3_weighRoute 24 = .ok (.iadd, 1) := by decide +kernel
theorem dX3_weighRoute_25 : decode cX3_weighRoute 25 = .ok (.invokestatic 160, 3) := by decide +kernel
theorem dX3_weighRoute_28 : decode cX3_weighRoute 28 = .ok (.iastore, 1) := by decide +kernel
theorem dX3_weighRoute_29 : decode cX3_weighRoute 29 = .ok (.aload_n 0, 1) := by decide +kernel
theorem dX3_weighRoute_30 : decode cX3_weighRoute 30 = .ok (.getfield 42, 3) := by decide +kernel
theorem dX3_weighRoute_33 : decode cX3_weighRoute 33 = .ok (.iload 4, 2) := by decide +kernel
theorem dX3_weighRoute_35 : decode cX3_weighRoute 35 = .ok (.iaload, 1) := by decide +kernel
theorem dX3_weighRoute_36 : decode cX3_weighRoute 36 = .ok (.ldc 172, 2) := by decide +kernel
theorem dX3_weighRoute_38 : decode cX3_weighRoute 38 = .ok (.if_icmp .ne 4, 3) := by decide +kernel
theorem dX3_weighRoute_41 : decode cX3_weighRoute 41 = .ok (.return_, 1) := by decide +kernel
theorem dX3_weighRoute_42 : decode cX3_weighRoute 42 = .ok (.iload_n 3, 1) := by decide +kernel
theorem dX3_weighRoute_43 : decode cX3_weighRoute 43 = .ok (.aload_n 0, 1) := by decide +kernel
theorem dX3_weighRoute_44 : decode cX3_weighRoute 44 = .ok (.getfield 42, 3) := by decide +kernel
theorem dX3_weighRoute_47 : decode cX3_weighRoute 47 = .ok (.iload 4, 2) := by decide +kernel
theorem dX3_weighRoute_49 : decode cX3_weighRoute 49 = .ok (.iaload, 1) := by decide +kernel
theorem dX3_weighRoute_50 : decode cX3_weighRoute 50 = .ok (.iadd, 1) := by decide +kernel
theorem dX3_weighRoute_51 : decode cX3_weighRoute 51 = .ok (.istore 5, 2) := by decide +kernel
theorem dX3_weighRoute_53 : decode cX3_weighRoute 53 = .ok (.iconst 1, 1) := by decide +kernel
theorem dX3_weighRoute_54 : decode cX3_weighRoute 54 = .ok (.aload_n 0, 1) := by decide +kernel
theorem dX3_weighRoute_55 : decode cX3_weighRoute 55 = .ok (.getfield 45, 3) := by decide +kernel
theorem dX3_weighRoute_58 : decode cX3_weighRoute 58 = .ok (.iload 4, 2) := by decide +kernel
theorem dX3_weighRoute_60 : decode cX3_weighRoute 60 = .ok (.iaload, 1) := by decide +kernel
theorem dX3_weighRoute_61 : decode cX3_weighRoute 61 = .ok (.iadd, 1) := by decide +kernel
theorem dX3_weighRoute_62 : decode cX3_weighRoute 62 = .ok (.istore 6, 2) := by decide +kernel
theorem dX3_weighRoute_64 : decode cX3_weighRoute 64 = .ok (.iload 5, 2) := by decide +kernel
theorem dX3_weighRoute_66 : decode cX3_weighRoute 66 = .ok (.aload_n 0, 1) := by decide +kernel
theorem dX3_weighRoute_67 : decode cX3_weighRoute 67 = .ok (.getfield 42, 3) := by decide +kernel
theorem dX3_weighRoute_70 : decode cX3_weighRoute 70 = .ok (.iload_n 1, 1) := by decide +kernel
theorem dX3_weighRoute_71 : decode cX3_weighRoute 71 = .ok (.iaload, 1) := by decide +kernel
theorem dX3_weighRoute_72 : decode cX3_weighRoute 72 = .ok (.if_icmp .lt 25, 3) := by decide +kernel
theorem dX3_weighRoute_75 : decode cX3_weighRoute 75 = .ok (.iload 5, 2) := by decide +kernel
theorem dX3_weighRoute_77 : decode cX3_weighRoute 77 = .ok (.aload_n 0, 1) := by decide +kernel
theorem dX3_weighRoute_78 : decode cX3_weighRoute 78 = .ok (.getfield 42, 3) := by decide +kernel
theorem dX3_weighRoute_81 : decode cX3_weighRoute 81 = .ok (.iload_n 1, 1) := by decide +kernel
theorem dX3_weighRoute_82 : decode cX3_weighRoute 82 = .ok (.iaload, 1) := by decide +kernel
theorem dX3_weighRoute_83 : decode cX3_weighRoute 83 = .ok (.if_icmp .ne 37, 3) := by decide +kernel
theorem dX3_weighRoute_86 : decode cX3_weighRoute 86 = .ok (.iload 6, 2) := by decide +kernel
theorem dX3_weighRoute_88 : decode cX3_weighRoute 88 = .ok (.aload_n 0, 1) := by decide +kernel
theorem dX3_weighRoute_89 : decode cX3_weighRoute 89 = .ok (.getfield 45, 3) := by decide +kernel
theorem dX3_weighRoute_92 : decode cX3_weighRoute 92 = .ok (.iload_n 1, 1) := by decide +kernel
theorem dX3_weighRoute_93 : decode cX3_weighRoute 93 = .ok (.iaload, 1) := by decide +kernel
theorem dX3_weighRoute_94 : decode cX3_weighRoute 94 = .ok (.if_icmp .ge 26, 3) := by decide +kernel
theorem dX3_weighRoute_97 : decode cX3_weighRoute 97 = .ok (.aload_n 0, 1) := by decide +kernel
theorem dX3_weighRoute_98 : decode cX3_weighRoute 98 = .ok (.getfield 42, 3) := by decide +kernel
theorem dX3_weighRoute_101 : decode cX3_weighRoute 101 = .ok (.iload_n 1, 1) := by decide +kernel
theorem dX3_weighRoute_102 : decode cX3_weighRoute 102 = .ok (.iload 5, 2) := by decide +kernel
theorem dX3_weighRoute_104 : decode cX3_weighRoute 104 = .ok (.iastore, 1) := by decide +kernel
theorem dX3_weighRoute_105 : decode cX3_weighRoute 105 = .ok (.aload_n 0, 1) := by decide +kernel
theorem dX3_weighRoute_106 : decode cX3_weighRoute 106 = .ok (.getfield 45, 3) := by decide +kernel
theorem dX3_weighRoute_109 : decode cX3_weighRoute 109 = .ok (.iload_n 1, 1) := by decide +kernel
theorem dX3_weighRoute_110 : decode cX3_weighRoute 110 = .ok (.iload 6, 2) := by decide +kernel
theorem dX3_weighRoute_112 : decode cX3_weighRoute 112 = .ok (.iastore, 1) := by decide +kernel
theorem dX3_weighRoute_113 : decode cX3_weighRoute 113 = .ok (.aload_n 0, 1) := by decide +kernel
theorem dX3_weighRoute_114 : decode cX3_weighRoute 114 = .ok (.getfield 48, 3) := by decide +kernel
theorem dX3_weighRoute_117 : decode cX3_weighRoute 117 = .ok (.iload_n 1, 1) := by decide +kernel
theorem dX3_weighRoute_118 : decode cX3_weighRoute 118 = .ok (.iload_n 2, 1) := by decide +kernel
theorem dX3_weighRoute_119 : decode cX3_weighRoute 119 = .ok (.iastore, 1) := by decide +kernel
theorem dX3_weighRoute_120 : decode cX3_weighRoute 120 = .ok (.return_, 1) := by decide +kernel
theorem dX3_listRoutes_0 : decode cX3_listRoutes 0 = .ok (.aload_n 0, 1) := by decide +kernel
theorem dX3_listRoutes_1 : decode cX3_listRoutes 1 = .ok (.iconst 0, 1) := by decide +kernel
theorem dX3_listRoutes_2 : decode cX3_listRoutes 2 = .ok (.putfield 188, 3) := by decide +kernel
theorem dX3_listRoutes_5 : decode cX3_listRoutes 5 = .ok (.aload_n 0, 1) := by decide +kernel
theorem dX3_listRoutes_6 : decode cX3_listRoutes 6 = .ok (.iconst 0, 1) := by decide +kernel
theorem dX3_listRoutes_7 : decode cX3_listRoutes 7 = .ok (.putfield 191, 3) := by decide +kernel
theorem dX3_listRoutes_10 : decode cX3_listRoutes 10 = .ok (.aload_n 0, 1) := by decide +kernel
theorem dX3_listRoutes_11 : decode cX3_listRoutes 11 = .ok (.invokevirtual 194, 3) := by decide +kernel
theorem dX3_listRoutes_14 : decode cX3_listRoutes 14 = .ok (.ifCond .ne 4, 3) := by decide +kernel
theorem dX3_listRoutes_17 : decode cX3_listRoutes 17 = .ok (.return_, 1) := by decide +kernel
theorem dX3_listRoutes_18 : decode cX3_listRoutes 18 = .ok (.aload_n 0, 1) := by decide +kernel
theorem dX3_listRoutes_19 : decode cX3_listRoutes 19 = .ok (.getfield 72, 3) := by decide +kernel
theorem dX3_listRoutes_22 : decode cX3_listRoutes 22 = .ok (.istore_n 1, 1) := by decide +kernel
theorem dX3_listRoutes_23 : decode cX3_listRoutes 23 = .ok (.iconst 0, 1) := by decide +kernel
theorem dX3_listRoutes_24 : decode cX3_listRoutes 24 = .ok (.istore_n 2, 1) := by decide +kernel
theorem dX3_listRoutes_25 : decode cX3_listRoutes 25 = .ok (.iload_n 2, 1) := by decide +kernel
theorem dX3_listRoutes_26 : decode cX3_listRoutes 26 = .ok (.bipush 6, 2) := by decide +kernel
theorem dX3_listRoutes_28 : decode cX3_listRoutes 28 = .ok (.if_icmp .ge 70, 3) := by decide +kernel
theorem dX3_listRoutes_31 : decode cX3_listRoutes 31 = .ok (.iload_n 1, 1) := by decide +kernel
theorem dX3_listRoutes_32 : decode cX3_listRoutes 32 = .ok (.ifCond .eq 66, 3) := by decide +kernel
theorem dX3_listRoutes_35 : decode cX3_listRoutes 35 = .ok (.aload_n 0, 1) := by decide +kernel
theorem dX3_listRoutes_36 : decode cX3_listRoutes 36 = .ok (.getfield 48, 3) := by decide +kernel
theorem dX3_listRoutes_39 : decode cX3_listRoutes 39 = .ok (.iload_n 1, 1) := by decide +kernel
theorem dX3_listRoutes_40 : decode cX3_listRoutes 40 = .ok (.iaload, 1) := by decide +kernel
theorem dX3_listRoutes_41 : decode cX3_listRoutes 41 = .ok (.istore_n 3, 1) := by decide +kernel
theorem dX3_listRoutes_42 : decode cX3_listRoutes 42 = .ok (.iload_n 3, 1) := by decide +kernel
theorem dX3_listRoutes_43 : decode cX3_listRoutes 43 = .ok (.ifCond .ne 25, 3) := by decide +kernel
theorem dX3_listRoutes_46 : decode cX3_listRoutes 46 = .ok (.aload_n 0, 1) := by decide +kernel
theorem dX3_listRoutes_47 : decode cX3_listRoutes 47 = .ok (.dup, 1) := by decide +kernel
theorem dX3_listRoutes_48 : decode cX3_listRoutes 48 = .ok (.getfield 191, 3) := by decide +kernel
theorem dX3_listRoutes_51 : decode cX3_listRoutes 51 = .ok (.iload_n 1, 1) := by decide +kernel
theorem dX3_listRoutes_52 : decode cX3_listRoutes 52 = .ok (.iload_n 1, 1) := by decide +kernel
theorem dX3_listRoutes_53 : decode cX3_listRoutes 53 = .ok (.ineg, 1) := by decide +kernel
theorem dX3_listRoutes_54 : decode cX3_listRoutes 54 = .ok (.iand, 1) := by decide +kernel
theorem dX3_listRoutes_55 : decode cX3_listRoutes 55 = .ok (.ior, 1) := by decide +kernel
theorem dX3_listRoutes_56 : decode cX3_listRoutes 56 = .ok (.putfield 191, 3) := by decide +kernel
theorem dX3_listRoutes_59 : decode cX3_listRoutes 59 = .ok (.iload_n 1, 1) := by decide +kernel
theorem dX3_listRoutes_60 : decode cX3_listRoutes 60 = .ok (.iload_n 1, 1) := by decide +kernel
theorem dX3_listRoutes_61 : decode cX3_listRoutes 61 = .ok (.iconst 1, 1) := by decide +kernel
theorem dX3_listRoutes_62 : decode cX3_listRoutes 62 = .ok (.isub, 1) := by decide +kernel
theorem dX3_listRoutes_63 : decode cX3_listRoutes 63 = .ok (.iand, 1) := by decide +kernel
theorem dX3_listRoutes_64 : decode cX3_listRoutes 64 = .ok (.istore_n 1, 1) := by decide +kernel
theorem dX3_listRoutes_65 : decode cX3_listRoutes 65 = .ok (.goto 27, 3) := by decide +kernel
theorem dX3_listRoutes_68 : decode cX3_listRoutes 68 = .ok (.aload_n 0, 1) := by decide +kernel
theorem dX3_listRoutes_69 : decode cX3_listRoutes 69 = .ok (.getfield 24, 3) := by decide +kernel
theorem dX3_listRoutes_72 : decode cX3_listRoutes 72 = .ok (.aload_n 0, 1) := by decide +kernel
theorem dX3_listRoutes_73 : decode cX3_listRoutes 73 = .ok (.getfield 188, 3) := by decide +kernel
theorem dX3_listRoutes_76 : decode cX3_listRoutes 76 = .ok (.iload_n 3, 1) := by decide +kernel
theorem dX3_listRoutes_77 : decode cX3_listRoutes 77 = .ok (.iastore, 1) := by decide +kernel
theorem dX3_listRoutes_78 : decode cX3_listRoutes 78 = .ok (.aload_n 0, 1) := by decide +kernel
theorem dX3_listRoutes_79 : decode cX3_listRoutes 79 = .ok (.dup, 1) := by decide +kernel
theorem dX3_listRoutes_80 : decode cX3_listRoutes 80 = .ok (.getfield 188, 3) := by decide +kernel
theorem dX3_listRoutes_83 : decode cX3_listRoutes 83 = .ok (.iconst 1, 1) := by decide +kernel
theorem dX3_listRoutes_84 : decode cX3_listRoutes 84 = .ok (.iadd, 1) := by decide +kernel
theorem dX3_listRoutes_85 : decode cX3_listRoutes 85 = .ok (.putfield 188, 3) := by decide +kernel
theorem dX3_listRoutes_88 : decode cX3_listRoutes 88 = .ok (.iload_n 1, 1) := by decide +kernel
theorem dX3_listRoutes_89 : decode cX3_listRoutes 89 = .ok (.iload_n 3, 1) := by decide +kernel
theorem dX3_listRoutes_90 : decode cX3_listRoutes 90 = .ok (.ixor, 1) := by decide +kernel
theorem dX3_listRoutes_91 : decode cX3_listRoutes 91 = .ok (.istore_n 1, 1) := by decide +kernel
theorem dX3_listRoutes_92 : decode cX3_listRoutes 92 = .ok (.iinc 2 1, 3) := by decide +kernel
theorem dX3_listRoutes_95 : decode cX3_listRoutes 95 = .ok (.goto (-70), 3) := by decide +kernel
theorem dX3_listRoutes_98 : decode cX3_listRoutes 98 = .ok (.return_, 1) := by decide +kernel
theorem dX3_hasPlan_0 : decode cX3_hasPlan 0 = .ok (.aload_n 0, 1) := by decide +kernel
theorem dX3_hasPlan_1 : decode cX3_hasPlan 1 = .ok (.getfield 42, 3) := by decide +kernel
theorem dX3_hasPlan_4 : decode cX3_hasPlan 4 = .ok (.aload_n 0, 1) := by decide +kernel
theorem dX3_hasPlan_5 : decode cX3_hasPlan 5 = .ok (.getfield 72, 3) := by decide +kernel
theorem dX3_hasPlan_8 : decode cX3_hasPlan 8 = .ok (.iaload, 1) := by decide +kernel
theorem dX3_hasPlan_9 : decode cX3_hasPlan 9 = .ok (.ldc 172, 2) := by decide +kernel
theorem dX3_hasPlan_11 : decode cX3_hasPlan 11 = .ok (.if_icmp .eq 7, 3) := by decide +kernel
theorem dX3_hasPlan_14 : decode cX3_hasPlan 14 = .ok (.iconst 1, 1) := by decide +kernel
theorem dX3_hasPlan_15 : decode cX3_hasPlan 15 = .ok (.goto 4, 3) := by decide +kernel
theorem dX3_hasPlan_18 : decode cX3_hasPlan 18 = .ok (.iconst 0, 1) := by decide +kernel
theorem dX3_hasPlan_19 : decode cX3_hasPlan 19 = .ok (.ireturn, 1) := by decide +kernel
theorem dX3_leastPay_0 : decode cX3_leastPay 0 = .ok (.aload_n 0, 1) := by decide +kernel
theorem dX3_leastPay_1 : decode cX3_leastPay 1 = .ok (.getfield 42, 3) := by decide +kernel
theorem dX3_leastPay_4 : decode cX3_leastPay 4 = .ok (.aload_n 0, 1) := by decide +kernel
theorem dX3_leastPay_5 : decode cX3_leastPay 5 = .ok (.getfield 72, 3) := by decide +kernel
theorem dX3_leastPay_8 : decode cX3_leastPay 8 = .ok (.iaload, 1) := by decide +kernel
theorem dX3_leastPay_9 : decode cX3_leastPay 9 = .ok (.ireturn, 1) := by decide +kernel
theorem dX3_fewestRoutes_0 : decode cX3_fewestRoutes 0 = .ok (.aload_n 0, 1) := by decide +kernel
theorem dX3_fewestRoutes_1 : decode cX3_fewestRoutes 1 = .ok (.getfield 51, 3) := by decide +kernel
theorem dX3_fewestRoutes_4 : decode cX3_fewestRoutes 4 = .ok (.aload_n 0, 1) := by decide +kernel
theorem dX3_fewestRoutes_5 : decode cX3_fewestRoutes 5 = .ok (.getfield 72, 3) := by decide +kernel
theorem dX3_fewestRoutes_8 : decode cX3_fewestRoutes 8 = .ok (.iaload, 1) := by decide +kernel
theorem dX3_fewestRoutes_9 : decode cX3_fewestRoutes 9 = .ok (.bipush 99, 2) := by decide +kernel
theorem dX3_fewestRoutes_11 : decode cX3_fewestRoutes 11 = .ok (.if_icmp .lt 8, 3) := by decide +kernel
theorem dX3_fewestRoutes_14 : decode cX3_fewestRoutes 14 = .ok (.bipush (-2), 2) := by decide +kernel
theorem dX3_fewestRoutes_16 : decode cX3_fewestRoutes 16 = .ok (.goto 12, 3) := by decide +kernel
theorem dX3_fewestRoutes_19 : decode cX3_fewestRoutes 19 = .ok (.aload_n 0, 1) := by decide +kernel
theorem dX3_fewestRoutes_20 : decode cX3_fewestRoutes 20 = .ok (.getfield 51, 3) := by decide +kernel
theorem dX3_fewestRoutes_23 : decode cX3_fewestRoutes 23 = .ok (.aload_n 0, 1) := by decide +kernel
theorem dX3_fewestRoutes_24 : decode cX3_fewestRoutes 24 = .ok (.getfield 72, 3) := by decide +kernel
theorem dX3_fewestRoutes_27 : decode cX3_fewestRoutes 27 = .ok (.iaload, 1) := by decide +kernel
theorem dX3_fewestRoutes_28 : decode cX3_fewestRoutes 28 = .ok (.ireturn, 1) := by decide +kernel
theorem dX4_init_0 : decode cX4_init 0 = .ok (.aload_n 0, 1) := by decide +kernel
theorem dX4_init_1 : decode cX4_init 1 = .ok (.invokespecial 3, 3) := by decide +kernel
theorem dX4_init_4 : decode cX4_init 4 = .ok (.aload_n 0, 1) := by decide +kernel
theorem dX4_init_5 : decode cX4_init 5 = .ok (.new 9, 3) := by decide +kernel
theorem dX4_init_8 : decode cX4_init 8 = .ok (.dup, 1) := by decide +kernel
theorem dX4_init_9 : decode cX4_init 9 = .ok (.invokespecial 11, 3) := by decide +kernel
theorem dX4_init_12 : decode cX4_init 12 = .ok (.putfield 12, 3) := by decide +kernel
theorem dX4_init_15 : decode cX4_init 15 = .ok (.aload_n 0, 1) := by decide +kernel
theorem dX4_init_16 : decode cX4_init 16 = .ok (.bipush 21, 2) := by decide +kernel
theorem dX4_init_18 : decode cX4_init 18 = .ok (.newarray .long, 2) := by decide +kernel
theorem dX4_init_20 : decode cX4_init 20 = .ok (.putfield 18, 3) := by decide +kernel
theorem dX4_init_23 : decode cX4_init 23 = .ok (.aload_n 0, 1) := by decide +kernel
theorem dX4_init_24 : decode cX4_init 24 = .ok (.bipush 21, 2) := by decide +kernel
theorem dX4_init_26 : decode cX4_init 26 = .ok (.newarray .int, 2) := by decide +kernel
theorem dX4_init_28 : decode cX4_init 28 = .ok (.putfield 22, 3) := by decide +kernel
theorem dX4_init_31 : decode cX4_init 31 = .ok (.aload_n 0, 1) := by decide +kernel
theorem dX4_init_32 : decode cX4_init 32 = .ok (.sipush 400, 3) := by decide +kernel
theorem dX4_init_35 : decode cX4_init 35 = .ok (.newarray .int, 2) := by decide +kernel
theorem dX4_init_37 : decode cX4_init 37 = .ok (.putfield 26, 3) := by decide +kernel
theorem dX4_init_40 : decode cX4_init 40 = .ok (.return_, 1) := by decide +kernel
theorem dX4_readTape_0 : decode cX4_readTape 0 = .ok (.aload_n 0, 1) := by decide +kernel
theorem dX4_readTape_1 : decode cX4_readTape 1 = .ok (.iconst 0, 1) := by decide +kernel
theorem dX4_readTape_2 : decode cX4_readTape 2 = .ok (.putfield 29, 3) := by decide +kernel
theorem dX4_readTape_5 : decode cX4_readTape 5 = .ok (.aload_n 0, 1) := by decide +kernel
theorem dX4_readTape_6 : decode cX4_readTape 6 = .ok (.iconst 0, 1) := by decide +kernel
theorem dX4_readTape_7 : decode cX4_readTape 7 = .ok (.putfield 33, 3) := by decide +kernel
theorem dX4_readTape_10 : decode cX4_readTape 10 = .ok (.aload_n 0, 1) := by decide +kernel
theorem dX4_readTape_11 : decode cX4_readTape 11 = .ok (.iconst 0, 1) := by decide +kernel
theorem dX4_readTape_12 : decode cX4_readTape 12 = .ok (.putfield 36, 3) := by decide +kernel
theorem dX4_readTape_15 : decode cX4_readTape 15 = .ok (.aload_n 0, 1) := by decide +kernel
theorem dX4_readTape_16 : decode cX4_readTape 16 = .ok (.iconst 0, 1) := by decide +kernel
theorem dX4_readTape_17 : decode cX4_readTape 17 = .ok (.putfield 39, 3) := by decide +kernel
theorem dX4_readTape_20 : decode cX4_readTape 20 = .ok (.aload_n 1, 1) := by decide +kernel
theorem dX4_readTape_21 : decode cX4_readTape 21 = .ok (.invokevirtual 42, 3) := by decide +kernel
theorem dX4_readTape_24 : decode cX4_readTape 24 = .ok (.aload_n 0, 1) := by decide +kernel
theorem dX4_readTape_25 : decode cX4_readTape 25 = .ok (.getfield 12, 3) := by decide +kernel
theorem dX4_readTape_28 : decode cX4_readTape 28 = .ok (.invokevirtual 47, 3) := by decide +kernel
theorem dX4_readTape_31 : decode cX4_readTape 31 = .ok (.iconst 0, 1) := by decide +kernel
theorem dX4_readTape_32 : decode cX4_readTape 32 = .ok (.istore_n 2, 1) := by decide +kernel
theorem dX4_readTape_33 : decode cX4_readTape 33 = .ok (.iload_n 2, 1) := by decide +kernel
theorem dX4_readTape_34 : decode cX4_readTape 34 = .ok (.sipush 400, 3) := by decide +kernel
theorem dX4_readTape_37 : decode cX4_readTape 37 = .ok (.if_icmp .gt 30, 3) := by decide +kernel
theorem dX4_readTape_40 : decode cX4_readTape 40 = .ok (.aload_n 0, 1) := by decide +kernel
theorem dX4_readTape_41 : decode cX4_readTape 41 = .ok (.getfield 29, 3) := by decide +kernel
theorem dX4_readTape_44 : decode cX4_readTape 44 = .ok (.ifCond .ne 23, 3) := by decide +kernel
theorem dX4_readTape_47 : decode cX4_readTape 47 = .ok (.aload_n 0, 1) := by decide +kernel
theorem dX4_readTape_48 : decode cX4_readTape 48 = .ok (.invokevirtual 50, 3) := by decide +kernel
theorem dX4_readTape_51 : decode cX4_readTape 51 = .ok (.bipush 34, 2) := by decide +kernel
theorem dX4_readTape_53 : decode cX4_readTape 53 = .ok (.if_icmp .eq 14, 3) := by decide +kernel
theorem dX4_readTape_56 : decode cX4_readTape 56 = .ok (.aload_n 0, 1) := by decide +kernel
theorem dX4_readTape_57 : decode cX4_readTape 57 = .ok (.aload_n 1, 1) := by decide +kernel
theorem dX4_readTape_58 : decode cX4_readTape 58 = .ok (.invokevirtual 54, 3) := by decide +kernel
theorem dX4_readTape_61 : decode cX4_readTape 61 = .ok (.iinc 2 1, 3) := by decide +kernel
theorem dX4_readTape_64 : decode cX4_readTape 64 = .ok (.goto (-31), 3) := by decide +kernel
theorem dX4_readTape_67 : decode cX4_readTape 67 = .ok (.aload_n 0, 1) := by decide +kernel
theorem dX4_readTape_68 : decode cX4_readTape 68 = .ok (.getfield 29, 3) := by decide +kernel
theorem dX4_readTape_71 : decode cX4_readTape 71 = .ok (.ifCond .ne 19, 3) := by decide +kernel
theorem dX4_readTape_74 : decode cX4_readTape 74 = .ok (.aload_n 0, 1) := by decide +kernel
theorem dX4_readTape_75 : decode cX4_readTape 75 = .ok (.aload_n 0, 1) := by decide +kernel
theorem dX4_readTape_76 : decode cX4_readTape 76 = .ok (.getfield 33, 3) := by decide +kernel
theorem dX4_readTape_79 : decode cX4_readTape 79 = .ok (.putfield 29, 3) := by decide +kernel
theorem dX4_readTape_82 : decode cX4_readTape 82 = .ok (.aload_n 0, 1) := by decide +kernel
theorem dX4_readTape_83 : decode cX4_readTape 83 = .ok (.aload_n 0, 1) := by decide +kernel
theorem dX4_readTape_84 : decode cX4_readTape 84 = .ok (.getfield 58, 3) := by decide +kernel
theorem dX4_readTape_87 : decode cX4_readTape 87 = .ok (.putfield 61, 3) := by decide +kernel
theorem dX4_readTape_90 : decode cX4_readTape 90 = .ok (.return_, 1) := by decide +kernel
theorem dX4_readTell_0 : decode cX4_readTell 0 = .ok (.aload_n 0, 1) := by decide +kernel
theorem dX4_readTell_1 : decode cX4_readTell 1 = .ok (.invokevirtual 50, 3) := by decide +kernel
theorem dX4_readTell_4 : decode cX4_readTell 4 = .ok (.tableswitch 120 0 10 #[60, 68, 76, 84, 92, 100, 100, 100, 100, 100, 112], 60) := by decide +kernel
theorem dX4_readTell_64 : decode cX4_readTell 64 = .ok (.aload_n 0, 1) := by decide +kernel
theorem dX4_readTell_65 : decode cX4_readTell 65 = .ok (.aload_n 1, 1) := by decide +kernel
theorem dX4_readTell_66 : decode cX4_readTell 66 = .ok (.invokevirtual 64, 3) := by decide +kernel
theorem dX4_readTell_69 : decode cX4_readTell 69 = .ok (.goto 60, 3) := by decide +kernel
theorem dX4_readTell_72 : decode cX4_readTell 72 = .ok (.aload_n 0, 1) := by decide +kernel
theorem dX4_readTell_73 : decode cX4_readTell 73 = .ok (.aload_n 1, 1) := by decide +kernel
theorem dX4_readTell_74 : decode cX4_readTell 74 = .ok (.invokevirtual 67, 3) := by decide +kernel
theorem dX4_readTell_77 : decode cX4_readTell 77 = .ok (.goto 52, 3) := by decide +kernel
theorem dX4_readTell_80 : decode cX4_readTell 80 = .ok (.aload_n 0, 1) := by decide +kernel
theorem dX4_readTell_81 : decode cX4_readTell 81 = .ok (.aload_n 1, 1) := by decide +kernel
theorem dX4_readTell_82 : decode cX4_readTell 82 = .ok (.invokevirtual 70, 3) := by decide +kernel
theorem dX4_readTell_85 : decode cX4_readTell 85 = .ok (.goto 44, 3) := by decide +kernel
theorem dX4_readTell_88 : decode cX4_readTell 88 = .ok (.aload_n 0, 1) := by decide +kernel
theorem dX4_readTell_89 : decode cX4_readTell 89 = .ok (.aload_n 1, 1) := by decide +kernel
theorem dX4_readTell_90 : decode cX4_readTell 90 = .ok (.invokevirtual 73, 3) := by decide +kernel
theorem dX4_readTell_93 : decode cX4_readTell 93 = .ok (.goto 36, 3) := by decide +kernel
theorem dX4_readTell_96 : decode cX4_readTell 96 = .ok (.aload_n 0, 1) := by decide +kernel
theorem dX4_readTell_97 : decode cX4_readTell 97 = .ok (.aload_n 1, 1) := by decide +kernel
theorem dX4_readTell_98 : decode cX4_readTell 98 = .ok (.invokevirtual 76, 3) := by decide +kernel
theorem dX4_readTell_101 : decode cX4_readTell 101 = .ok (.goto 28, 3) := by decide +kernel
theorem dX4_readTell_104 : decode cX4_readTell 104 = .ok (.aload_n 0, 1) := by decide +kernel
theorem dX4_readTell_105 : decode cX4_readTell 105 = .ok (.aload_n 1, 1) := by decide +kernel
theorem dX4_readTell_106 : decode cX4_readTell 106 = .ok (.aload_n 0, 1) := by decide +kernel
theorem dX4_readTell_107 : decode cX4_readTell 107 = .ok (.invokevirtual 50, 3) := by decide +kernel
theorem dX4_readTell_110 : decode cX4_readTell 110 = .ok (.invokevirtual 79, 3) := by decide +kernel
theorem dX4_readTell_113 : decode cX4_readTell 113 = .ok (.goto 16, 3) := by decide +kernel
theorem dX4_readTell_116 : decode cX4_readTell 116 = .ok (.aload_n 0, 1) := by decide +kernel
theorem dX4_readTell_117 : decode cX4_readTell 117 = .ok (.aload_n 1, 1) := by decide +kernel
theorem dX4_readTell_118 : decode cX4_readTell 118 = .ok (.invokevirtual 83, 3) := by decide +kernel
theorem dX4_readTell_121 : decode cX4_readTell 121 = .ok (.goto 8, 3) := by decide +kernel
theorem dX4_readTell_124 : decode cX4_readTell 124 = .ok (.aload_n 0, 1) := by decide +kernel
theorem dX4_readTell_125 : decode cX4_readTell 125 = .ok (.iconst 1, 1) := by decide +kernel
theorem dX4_readTell_126 : decode cX4_readTell 126 = .ok (.invokevirtual 86, 3) := by decide +kernel
theorem dX4_readTell_129 : decode cX4_readTell 129 = .ok (.return_, 1) := by decide +kernel
theorem dX4_readPlace_0 : decode cX4_readPlace 0 = .ok (.aload_n 0, 1) := by decide +kernel
theorem dX4_readPlace_1 : decode cX4_readPlace 1 = .ok (.aload_n 1, 1) := by decide +kernel
theorem dX4_readPlace_2 : decode cX4_readPlace 2 = .ok (.getfield 90, 3) := by decide +kernel
theorem dX4_readPlace_5 : decode cX4_readPlace 5 = .ok (.bipush 12, 2) := by decide +kernel
theorem dX4_readPlace_7 : decode cX4_readPlace 7 = .ok (.invokevirtual 93, 3) := by decide +kernel
theorem dX4_readPlace_10 : decode cX4_readPlace 10 = .ok (.aload_n 0, 1) := by decide +kernel
theorem dX4_readPlace_11 : decode cX4_readPlace 11 = .ok (.iconst 0, 1) := by decide +kernel
theorem dX4_readPlace_12 : decode cX4_readPlace 12 = .ok (.invokevirtual 97, 3) := by decide +kernel
theorem dX4_readPlace_15 : decode cX4_readPlace 15 = .ok (.aload_n 0, 1) := by decide +kernel
theorem dX4_readPlace_16 : decode cX4_readPlace 16 = .ok (.getfield 36, 3) := by decide +kernel
theorem dX4_readPlace_19 : decode cX4_readPlace 19 = .ok (.istore_n 2, 1) := by decide +kernel
theorem dX4_readPlace_20 : decode cX4_readPlace 20 = .ok (.aload_n 0, 1) := by decide +kernel
theorem dX4_readPlace_21 : decode cX4_readPlace 21 = .ok (.bipush 22, 2) := by decide +kernel
theorem dX4_readPlace_23 : decode cX4_readPlace 23 = .ok (.invokevirtual 97, 3) := by decide +kernel
theorem dX4_readPlace_26 : decode cX4_readPlace 26 = .ok (.aload_n 0, 1) := by decide +kernel
theorem dX4_readPlace_27 : decode cX4_readPlace 27 = .ok (.bipush 24, 2) := by decide +kernel
theorem dX4_readPlace_29 : decode cX4_readPlace 29 = .ok (.invokevirtual 97, 3) := by decide +kernel
theorem dX4_readPlace_32 : decode cX4_readPlace 32 = .ok (.aload_n 0, 1) := by decide +kernel
theorem dX4_readPlace_33 : decode cX4_readPlace 33 = .ok (.getfield 29, 3) := by decide +kernel
theorem dX4_readPlace_36 : decode cX4_readPlace 36 = .ok (.ifCond .ne 22, 3) := by decide +kernel
theorem dX4_readPlace_39 : decode cX4_readPlace 39 = .ok (.aload_n 0, 1) := by decide +kernel
theorem dX4_readPlace_40 : decode cX4_readPlace 40 = .ok (.iload_n 2, 1) := by decide +kernel
theorem dX4_readPlace_41 : decode cX4_readPlace 41 = .ok (.aload_n 1, 1) := by decide +kernel
theorem dX4_readPlace_42 : decode cX4_readPlace 42 = .ok (.getfield 90, 3) := by decide +kernel
theorem dX4_readPlace_45 : decode cX4_readPlace 45 = .ok (.invokevirtual 100, 3) := by decide +kernel
theorem dX4_readPlace_48 : decode cX4_readPlace 48 = .ok (.aload_n 1, 1) := by decide +kernel
theorem dX4_readPlace_49 : decode cX4_readPlace 49 = .ok (.dup, 1) := by decide +kernel
theorem dX4_readPlace_50 : decode cX4_readPlace 50 = .ok (.getfield 90, 3) := by decide +kernel
theorem dX4_readPlace_53 : decode cX4_readPlace 53 = .ok (.iconst 1, 1) := by decide +kernel
theorem dX4_readPlace_54 : decode cX4_readPlace 54 = .ok (.iadd, 1) := by decide +kernel
theorem dX4_readPlace_55 : decode cX4_readPlace 55 = .ok (.putfield 90, 3) := by decide +kernel
theorem dX4_readPlace_58 : decode cX4_readPlace 58 = .ok (.return_, 1) := by decide +kernel
theorem dX4_readWay_0 : decode cX4_readWay 0 = .ok (.aload_n 0, 1) := by decide +kernel
theorem dX4_readWay_1 : decode cX4_readWay 1 = .ok (.aload_n 1, 1) := by decide +kernel
theorem dX4_readWay_2 : decode cX4_readWay 2 = .ok (.getfield 103, 3) := by decide +kernel
theorem dX4_readWay_5 : decode cX4_readWay 5 = .ok (.bipush 24, 2) := by decide +kernel
theorem dX4_readWay_7 : decode cX4_readWay 7 = .ok (.invokevirtual 93, 3) := by decide +kernel
theorem dX4_readWay_10 : decode cX4_readWay 10 = .ok (.aload_n 0, 1) := by decide +kernel
theorem dX4_readWay_11 : decode cX4_readWay 11 = .ok (.iconst 1, 1) := by decide +kernel
theorem dX4_readWay_12 : decode cX4_readWay 12 = .ok (.invokevirtual 97, 3) := by decide +kernel
theorem dX4_readWay_15 : decode cX4_readWay 15 = .ok (.aload_n 0, 1) := by decide +kernel
theorem dX4_readWay_16 : decode cX4_readWay 16 = .ok (.getfield 36, 3) := by decide +kernel
theorem dX4_readWay_19 : decode cX4_readWay 19 = .ok (.istore_n 2, 1) := by decide +kernel
theorem dX4_readWay_20 : decode cX4_readWay 20 = .ok (.aload_n 0, 1) := by decide +kernel
theorem dX4_readWay_21 : decode cX4_readWay 21 = .ok (.bipush 22, 2) := by decide +kernel
theorem dX4_readWay_23 : decode cX4_readWay 23 = .ok (.invokevirtual 97, 3) := by decide +kernel
theorem dX4_readWay_26 : decode cX4_readWay 26 = .ok (.aload_n 0, 1) := by decide +kernel
theorem dX4_readWay_27 : decode cX4_readWay 27 = .ok (.bipush 22, 2) := by decide +kernel
theorem dX4_readWay_29 : decode cX4_readWay 29 = .ok (.invokevirtual 97, 3) := by decide +kernel
theorem dX4_readWay_32 : decode cX4_readWay 32 = .ok (.aload_n 0, 1) := by decide +kernel
theorem dX4_readWay_33 : decode cX4_readWay 33 = .ok (.bipush 23, 2) := by decide +kernel
theorem dX4_readWay_35 : decode cX4_readWay 35 = .ok (.invokevirtual 97, 3) := by decide +kernel
theorem dX4_readWay_38 : decode cX4_readWay 38 = .ok (.aload_n 0, 1) := by decide +kernel
theorem dX4_readWay_39 : decode cX4_readWay 39 = .ok (.bipush 23, 2) := by decide +kernel
theorem dX4_readWay_41 : decode cX4_readWay 41 = .ok (.invokevirtual 97, 3) := by decide +kernel
theorem dX4_readWay_44 : decode cX4_readWay 44 = .ok (.aload_n 0, 1) := by decide +kernel
theorem dX4_readWay_45 : decode cX4_readWay 45 = .ok (.invokevirtual 50, 3) := by decide +kernel
theorem dX4_readWay_48 : decode cX4_readWay 48 = .ok (.bipush 12, 2) := by decide +kernel
theorem dX4_readWay_50 : decode cX4_readWay 50 = .ok (.if_icmp .ne 7, 3) := by decide +kernel
theorem dX4_readWay_53 : decode cX4_readWay 53 = .ok (.iconst 1, 1) := by decide +kernel
theorem dX4_readWay_54 : decode cX4_readWay 54 = .ok (.goto 4, 3) := by decide +kernel
theorem dX4_readWay_57 : decode cX4_readWay 57 = .ok (.iconst 0, 1) := by decide +kernel
theorem dX4_readWay_58 : decode cX4_readWay 58 = .ok (.istore_n 3, 1) := by decide +kernel
theorem dX4_readWay_59 : decode cX4_readWay 59 = .ok (.iload_n 3, 1) := by decide +kernel
theorem dX4_readWay_60 : decode cX4_readWay 60 = .ok (.ifCond .eq 9, 3) := by decide +kernel
theorem dX4_readWay_63 : decode cX4_readWay 63 = .ok (.aload_n 0, 1) := by decide +kernel
theorem dX4_readWay_64 : decode cX4_readWay 64 = .ok (.bipush 12, 2) := by decide +kernel
theorem dX4_readWay_66 : decode cX4_readWay 66 = .ok (.invokevirtual 97, 3) := by decide +kernel
theorem dX4_readWay_69 : decode cX4_readWay 69 = .ok (.aload_n 0, 1) := by decide +kernel
theorem dX4_readWay_70 : decode cX4_readWay 70 = .ok (.bipush 24, 2) := by decide +kernel
theorem dX4_readWay_72 : decode cX4_readWay 72 = .ok (.invokevirtual 97, 3) := by decide +kernel
theorem dX4_readWay_75 : decode cX4_readWay 75 = .ok (.aload_n 0, 1) := by decide +kernel
theorem dX4_readWay_76 : decode cX4_readWay 76 = .ok (.getfield 29, 3) := by decide +kernel
theorem dX4_readWay_79 : decode cX4_readWay 79 = .ok (.ifCond .eq 4, 3) := by decide +kernel
theorem dX4_readWay_82 : decode cX4_readWay 82 = .ok (.return_, 1) := by decide +kernel
theorem dX4_readWay_83 : decode cX4_readWay 83 = .ok (.aload_n 0, 1) := by decide +kernel
theorem dX4_readWay_84 : decode cX4_readWay 84 = .ok (.iload_n 2, 1) := by decide +kernel
theorem dX4_readWay_85 : decode cX4_readWay 85 = .ok (.invokevirtual 106, 3) := by decide +kernel
theorem dX4_readWay_88 : decode cX4_readWay 88 = .ok (.istore 4, 2) := by decide +kernel
theorem dX4_readWay_90 : decode cX4_readWay 90 = .ok (.aload_n 0, 1) := by decide +kernel
theorem dX4_readWay_91 : decode cX4_readWay 91 = .ok (.iload_n 2, 1) := by decide +kernel
theorem dX4_readWay_92 : decode cX4_readWay 92 = .ok (.iconst 1, 1) := by decide +kernel
theorem dX4_readWay_93 : decode cX4_readWay 93 = .ok (.iadd, 1) := by decide +kernel
theorem dX4_readWay_94 : decode cX4_readWay 94 = .ok (.invokevirtual 106, 3) := by decide +kernel
theorem dX4_readWay_97 : decode cX4_readWay 97 = .ok (.istore 5, 2) := by decide +kernel
theorem dX4_readWay_99 : decode cX4_readWay 99 = .ok (.aload_n 0, 1) := by decide +kernel
theorem dX4_readWay_100 : decode cX4_readWay 100 = .ok (.iload 4, 2) := by decide +kernel
theorem dX4_readWay_102 : decode cX4_readWay 102 = .ok (.iconst (-1), 1) := by decide +kernel
theorem dX4_readWay_103 : decode cX4_readWay 103 = .ok (.if_icmp .eq 14, 3) := by decide +kernel
theorem dX4_readWay_106 : decode cX4_readWay 106 = .ok (.iload 4, 2) := by decide +kernel
theorem dX4_readWay_108 : decode cX4_readWay 108 = .ok (.iload 5, 2) := by decide +kernel
theorem dX4_readWay_110 : decode cX4_readWay 110 = .ok (.if_icmp .ne 7, 3) := by decide +kernel
theorem dX4_readWay_113 : decode cX4_readWay 113 = .ok (.iconst 1, 1) := by decide +kernel
theorem dX4_readWay_114 : decode cX4_readWay 114 = .ok (.goto 4, 3) := by decide +kernel
theorem dX4_readWay_117 : decode cX4_readWay 117 = .ok (.iconst 0, 1) := by decide +kernel
theorem dX4_readWay_118 : decode cX4_readWay 118 = .ok (.iload_n 2, 1) := by decide +kernel
theorem dX4_readWay_119 : decode cX4_readWay 119 = .ok (.iconst 1, 1) := by decide +kernel
theorem dX4_readWay_120 : decode cX4_readWay 120 = .ok (.iadd, 1) := by decide +kernel
theorem dX4_readWay_121 : decode cX4_readWay 121 = .ok (.invokevirtual 110, 3) := by decide +kernel
theorem dX4_readWay_124 : decode cX4_readWay 124 = .ok (.aload_n 0, 1) := by decide +kernel
theorem dX4_readWay_125 : decode cX4_readWay 125 = .ok (.iload_n 2, 1) := by decide +kernel
theorem dX4_readWay_126 : decode cX4_readWay 126 = .ok (.iconst 2, 1) := by decide +kernel
theorem dX4_readWay_127 : decode cX4_readWay 127 = .ok (.iadd, 1) := by decide +kernel
theorem dX4_readWay_128 : decode cX4_readWay 128 = .ok (.invokevirtual 114, 3) := by decide +kernel
theorem dX4_readWay_131 : decode cX4_readWay 131 = .ok (.istore 6, 2) := by decide +kernel
theorem dX4_readWay_133 : decode cX4_readWay 133 = .ok (.aload_n 0, 1) := by decide +kernel
theorem dX4_readWay_134 : decode cX4_readWay 134 = .ok (.iload 6, 2) := by decide +kernel
theorem dX4_readWay_136 : decode cX4_readWay 136 = .ok (.ifCond .ne 7, 3) := by decide +kernel
theorem dX4_readWay_139 : decode cX4_readWay 139 = .ok (.iconst 1, 1) := by decide +kernel
theorem dX4_readWay_140 : decode cX4_readWay 140 = .ok (.goto 4, 3) := by decide +kernel
theorem dX4_readWay_143 : decode cX4_readWay 143 = .ok (.iconst 0, 1) := by decide +kernel
theorem dX4_readWay_144 : decode cX4_readWay 144 = .ok (.iload_n 2, 1) := by decide +kernel
theorem dX4_readWay_145 : decode cX4_readWay 145 = .ok (.iconst 2, 1) := by decide +kernel
theorem dX4_readWay_146 : decode cX4_readWay 146 = .ok (.iadd, 1) := by decide +kernel
theorem dX4_readWay_147 : decode cX4_readWay 147 = .ok (.invokevirtual 110, 3) := by decide +kernel
theorem dX4_readWay_150 : decode cX4_readWay 150 = .ok (.aload_n 0, 1) := by decide +kernel
theorem dX4_readWay_151 : decode cX4_readWay 151 = .ok (.iload_n 2, 1) := by decide +kernel
theorem dX4_readWay_152 : decode cX4_readWay 152 = .ok (.iconst 3, 1) := by decide +kernel
theorem dX4_readWay_153 : decode cX4_readWay 153 = .ok (.iadd, 1) := by decide +kernel
theorem dX4_readWay_154 : decode cX4_readWay 154 = .ok (.invokevirtual 114, 3) := by decide +kernel
theorem dX4_readWay_157 : decode cX4_readWay 157 = .ok (.istore 7, 2) := by decide +kernel
theorem dX4_readWay_159 : decode cX4_readWay 159 = .ok (.aload_n 0, 1) := by decide +kernel
theorem dX4_readWay_160 : decode cX4_readWay 160 = .ok (.iload 7, 2) := by decide +kernel
theorem dX4_readWay_162 : decode cX4_readWay 162 = .ok (.ifCond .eq 10, 3) := by decide +kernel
theorem dX4_readWay_165 : decode cX4_readWay 165 = .ok (.iload 7, 2) := by decide +kernel
theorem dX4_readWay_167 : decode cX4_readWay 167 = .ok (.bipush 99, 2) := by decide +kernel
theorem dX4_readWay_169 : decode cX4_readWay 169 = .ok (.if_icmp .le 7, 3) := by decide +kernel
theorem dX4_readWay_172 : decode cX4_readWay 172 = .ok (.iconst 1, 1) := by decide +kernel
theorem dX4_readWay_173 : decode cX4_readWay 173 = .ok (.goto 4, 3) := by decide +kernel
theorem dX4_readWay_176 : decode cX4_readWay 176 = .ok (.iconst 0, 1) := by decide +kernel
theorem dX4_readWay_177 : decode cX4_readWay 177 = .ok (.iload_n 2, 1) := by decide +kernel
theorem dX4_readWay_178 : decode cX4_readWay 178 = .ok (.iconst 3, 1) := by decide +kernel
theorem dX4_readWay_179 : decode cX4_readWay 179 = .ok (.iadd, 1) := by decide +kernel
theorem dX4_readWay_180 : decode cX4_readWay 180 = .ok (.invokevirtual 110, 3) := by decide +kernel
theorem dX4_readWay_183 : decode cX4_readWay 183 = .ok (.aload_n 1, 1) := by decide +kernel
theorem dX4_readWay_184 : decode cX4_readWay 184 = .ok (.iload 4, 2) := by decide +kernel
theorem dX4_readWay_186 : decode cX4_readWay 186 = .ok (.iload 5, 2) := by decide +kernel
theorem dX4_readWay_188 : decode cX4_readWay 188 = .ok (.iload 6, 2) := by decide +kernel
theorem dX4_readWay_190 : decode cX4_readWay 190 = .ok (.iload 7, 2) := by decide +kernel
theorem dX4_readWay_192 : decode cX4_readWay 192 = .ok (.iload_n 3, 1) := by decide +kernel
theorem dX4_readWay_193 : decode cX4_readWay 193 = .ok (.invokevirtual 117, 3) := by decide +kernel
theorem dX4_readWay_196 : decode cX4_readWay 196 = .ok (.return_, 1) := by decide +kernel
theorem dX4_readSchool_0 : decode cX4_readSchool 0 = .ok (.aload_n 0, 1) := by decide +kernel
theorem dX4_readSchool_1 : decode cX4_readSchool 1 = .ok (.aload_n 1, 1) := by decide +kernel
theorem dX4_readSchool_2 : decode cX4_readSchool 2 = .ok (.getfield 121, 3) := by decide +kernel
theorem dX4_readSchool_5 : decode cX4_readSchool 5 = .ok (.iconst 3, 1) := by decide +kernel
theorem dX4_readSchool_6 : decode cX4_readSchool 6 = .ok (.invokevirtual 93, 3) := by decide +kernel
theorem dX4_readSchool_9 : decode cX4_readSchool 9 = .ok (.aload_n 0, 1) := by decide +kernel
theorem dX4_readSchool_10 : decode cX4_readSchool 10 = .ok (.iconst 2, 1) := by decide +kernel
theorem dX4_readSchool_11 : decode cX4_readSchool 11 = .ok (.invokevirtual 97, 3) := by decide +kernel
theorem dX4_readSchool_14 : decode cX4_readSchool 14 = .ok (.aload_n 0, 1) := by decide +kernel
theorem dX4_readSchool_15 : decode cX4_readSchool 15 = .ok (.getfield 36, 3) := by decide +kernel
theorem dX4_readSchool_18 : decode cX4_readSchool 18 = .ok (.istore_n 2, 1) := by decide +kernel
theorem dX4_readSchool_19 : decode cX4_readSchool 19 = .ok (.aload_n 0, 1) := by decide +kernel
theorem dX4_readSchool_20 : decode cX4_readSchool 20 = .ok (.bipush 22, 2) := by decide +kernel
theorem dX4_readSchool_22 : decode cX4_readSchool 22 = .ok (.invokevirtual 97, 3) := by decide +kernel
theorem dX4_readSchool_25 : decode cX4_readSchool 25 = .ok (.aload_n 0, 1) := by decide +kernel
theorem dX4_readSchool_26 : decode cX4_readSchool 26 = .ok (.bipush 11, 2) := by decide +kernel
theorem dX4_readSchool_28 : decode cX4_readSchool 28 = .ok (.invokevirtual 97, 3) := by decide +kernel
theorem dX4_readSchool_31 : decode cX4_readSchool 31 = .ok (.aload_n 0, 1) := by decide +kernel
theorem dX4_readSchool_32 : decode cX4_readSchool 32 = .ok (.bipush 22, 2) := by decide +kernel
theorem dX4_readSchool_34 : decode cX4_readSchool 34 = .ok (.invokevirtual 97, 3) := by decide +kernel
theorem dX4_readSchool_37 : decode cX4_readSchool 37 = .ok (.aload_n 0, 1) := by decide +kernel
theorem dX4_readSchool_38 : decode cX4_readSchool 38 = .ok (.bipush 23, 2) := by decide +kernel
theorem dX4_readSchool_40 : decode cX4_readSchool 40 = .ok (.invokevirtual 97, 3) := by decide +kernel
theorem dX4_readSchool_43 : decode cX4_readSchool 43 = .ok (.aload_n 0, 1) := by decide +kernel
theorem dX4_readSchool_44 : decode cX4_readSchool 44 = .ok (.bipush 24, 2) := by decide +kernel
theorem dX4_readSchool_46 : decode cX4_readSchool 46 = .ok (.invokevirtual 97, 3) := by decide +kernel
theorem dX4_readSchool_49 : decode cX4_readSchool 49 = .ok (.aload_n 0, 1) := by decide +kernel
theorem dX4_readSchool_50 : decode cX4_readSchool 50 = .ok (.getfield 29, 3) := by decide +kernel
theorem dX4_readSchool_53 : decode cX4_readSchool 53 = .ok (.ifCond .eq 4, 3) := by decide +kernel
theorem dX4_readSchool_56 : decode cX4_readSchool 56 = .ok (.return_, 1) := by decide +kernel
theorem dX4_readSchool_57 : decode cX4_readSchool 57 = .ok (.aload_n 0, 1) := by decide +kernel
theorem dX4_readSchool_58 : decode cX4_readSchool 58 = .ok (.iload_n 2, 1) := by decide +kernel
theorem dX4_readSchool_59 : decode cX4_readSchool 59 = .ok (.iconst (-1), 1) := by decide +kernel
theorem dX4_readSchool_60 : decode cX4_readSchool 60 = .ok (.invokevirtual 100, 3) := by decide +kernel
theorem dX4_readSchool_63 : decode cX4_readSchool 63 = .ok (.aload_n 0, 1) := by decide +kernel
theorem dX4_readSchool_64 : decode cX4_readSchool 64 = .ok (.iload_n 2, 1) := by decide +kernel
theorem dX4_readSchool_65 : decode cX4_readSchool 65 = .ok (.iconst 2, 1) := by decide +kernel
theorem dX4_readSchool_66 : decode cX4_readSchool 66 = .ok (.iadd, 1) := by decide +kernel
theorem dX4_readSchool_67 : decode cX4_readSchool 67 = .ok (.invokevirtual 106, 3) := by decide +kernel
theorem dX4_readSchool_70 : decode cX4_readSchool 70 = .ok (.istore_n 3, 1) := by decide +kernel
theorem dX4_readSchool_71 : decode cX4_readSchool 71 = .ok (.aload_n 0, 1) := by decide +kernel
theorem dX4_readSchool_72 : decode cX4_readSchool 72 = .ok (.iload_n 2, 1) := by decide +kernel
theorem dX4_readSchool_73 : decode cX4_readSchool 73 = .ok (.iconst 3, 1) := by decide +kernel
theorem dX4_readSchool_74 : decode cX4_readSchool 74 = .ok (.iadd, 1) := by decide +kernel
theorem dX4_readSchool_75 : decode cX4_readSchool 75 = .ok (.invokevirtual 114, 3) := by decide +kernel
theorem dX4_readSchool_78 : decode cX4_readSchool 78 = .ok (.istore 4, 2) := by decide +kernel
theorem dX4_readSchool_80 : decode cX4_readSchool 80 = .ok (.aload_n 0, 1) := by decide +kernel
theorem dX4_readSchool_81 : decode cX4_readSchool 81 = .ok (.iload 4, 2) := by decide +kernel
theorem dX4_readSchool_83 : decode cX4_readSchool 83 = .ok (.sipush 1440, 3) := by decide +kernel
theorem dX4_readSchool_86 : decode cX4_readSchool 86 = .ok (.if_icmp .lt 7, 3) := by decide +kernel
theorem dX4_readSchool_89 : decode cX4_readSchool 89 = .ok (.iconst 1, 1) := by decide +kernel
theorem dX4_readSchool_90 : decode cX4_readSchool 90 = .ok (.goto 4, 3) := by decide +kernel
theorem dX4_readSchool_93 : decode cX4_readSchool 93 = .ok (.iconst 0, 1) := by decide +kernel
theorem dX4_readSchool_94 : decode cX4_readSchool 94 = .ok (.iload_n 2, 1) := by decide +kernel
theorem dX4_readSchool_95 : decode cX4_readSchool 95 = .ok (.iconst 3, 1) := by decide +kernel
theorem dX4_readSchool_96 : decode cX4_readSchool 96 = .ok (.iadd, 1) := by decide +kernel
theorem dX4_readSchool_97 : decode cX4_readSchool 97 = .ok (.invokevirtual 110, 3) := by decide +kernel
theorem dX4_readSchool_100 : decode cX4_readSchool 100 = .ok (.aload_n 1, 1) := by decide +kernel
theorem dX4_readSchool_101 : decode cX4_readSchool 101 = .ok (.iload_n 3, 1) := by decide +kernel
theorem dX4_readSchool_102 : decode cX4_readSchool 102 = .ok (.iload 4, 2) := by decide +kernel
theorem dX4_readSchool_104 : decode cX4_readSchool 104 = .ok (.invokevirtual 124, 3) := by decide +kernel
theorem dX4_readSchool_107 : decode cX4_readSchool 107 = .ok (.return_, 1) := by decide +kernel
theorem dX4_readStop_0 : decode cX4_readStop 0 = .ok (.aload_n 0, 1) := by decide +kernel
theorem dX4_readStop_1 : decode cX4_readStop 1 = .ok (.aload_n 1, 1) := by decide +kernel
theorem dX4_readStop_2 : decode cX4_readStop 2 = .ok (.getfield 127, 3) := by decide +kernel
theorem dX4_readStop_5 : decode cX4_readStop 5 = .ok (.bipush 6, 2) := by decide +kernel
theorem dX4_readStop_7 : decode cX4_readStop 7 = .ok (.invokevirtual 93, 3) := by decide +kernel
theorem dX4_readStop_10 : decode cX4_readStop 10 = .ok (.aload_n 0, 1) := by decide +kernel
theorem dX4_readStop_11 : decode cX4_readStop 11 = .ok (.iconst 3, 1) := by decide +kernel
theorem dX4_readStop_12 : decode cX4_readStop 12 = .ok (.invokevirtual 97, 3) := by decide +kernel
theorem dX4_readStop_15 : decode cX4_readStop 15 = .ok (.aload_n 0, 1) := by decide +kernel
theorem dX4_readStop_16 : decode cX4_readStop 16 = .ok (.getfield 36, 3) := by decide +kernel
theorem dX4_readStop_19 : decode cX4_readStop 19 = .ok (.istore_n 2, 1) := by decide +kernel
theorem dX4_readStop_20 : decode cX4_readStop 20 = .ok (.aload_n 0, 1) := by decide +kernel
theorem dX4_readStop_21 : decode cX4_readStop 21 = .ok (.bipush 22, 2) := by decide +kernel
theorem dX4_readStop_23 : decode cX4_readStop 23 = .ok (.invokevirtual 97, 3) := by decide +kernel
theorem dX4_readStop_26 : decode cX4_readStop 26 = .ok (.aload_n 0, 1) := by decide +kernel
theorem dX4_readStop_27 : decode cX4_readStop 27 = .ok (.bipush 11, 2) := by decide +kernel
theorem dX4_readStop_29 : decode cX4_readStop 29 = .ok (.invokevirtual 97, 3) := by decide +kernel
theorem dX4_readStop_32 : decode cX4_readStop 32 = .ok (.aload_n 0, 1) := by decide +kernel
theorem dX4_readStop_33 : decode cX4_readStop 33 = .ok (.bipush 22, 2) := by decide +kernel
theorem dX4_readStop_35 : decode cX4_readStop 35 = .ok (.invokevirtual 97, 3) := by decide +kernel
theorem dX4_readStop_38 : decode cX4_readStop 38 = .ok (.aload_n 0, 1) := by decide +kernel
theorem dX4_readStop_39 : decode cX4_readStop 39 = .ok (.bipush 24, 2) := by decide +kernel
theorem dX4_readStop_41 : decode cX4_readStop 41 = .ok (.invokevirtual 97, 3) := by decide +kernel
theorem dX4_readStop_44 : decode cX4_readStop 44 = .ok (.aload_n 0, 1) := by decide +kernel
theorem dX4_readStop_45 : decode cX4_readStop 45 = .ok (.getfield 29, 3) := by decide +kernel
theorem dX4_readStop_48 : decode cX4_readStop 48 = .ok (.ifCond .ne 20, 3) := by decide +kernel
theorem dX4_readStop_51 : decode cX4_readStop 51 = .ok (.aload_n 0, 1) := by decide +kernel
theorem dX4_readStop_52 : decode cX4_readStop 52 = .ok (.iload_n 2, 1) := by decide +kernel
theorem dX4_readStop_53 : decode cX4_readStop 53 = .ok (.iconst (-1), 1) := by decide +kernel
theorem dX4_readStop_54 : decode cX4_readStop 54 = .ok (.invokevirtual 100, 3) := by decide +kernel
theorem dX4_readStop_57 : decode cX4_readStop 57 = .ok (.aload_n 1, 1) := by decide +kernel
theorem dX4_readStop_58 : decode cX4_readStop 58 = .ok (.aload_n 0, 1) := by decide +kernel
theorem dX4_readStop_59 : decode cX4_readStop 59 = .ok (.iload_n 2, 1) := by decide +kernel
theorem dX4_readStop_60 : decode cX4_readStop 60 = .ok (.iconst 2, 1) := by decide +kernel
theorem dX4_readStop_61 : decode cX4_readStop 61 = .ok (.iadd, 1) := by decide +kernel
theorem dX4_readStop_62 : decode cX4_readStop 62 = .ok (.invokevirtual 106, 3) := by decide +kernel
theorem dX4_readStop_65 : decode cX4_readStop 65 = .ok (.invokevirtual 130, 3) := by decide +kernel
theorem dX4_readStop_68 : decode cX4_readStop 68 = .ok (.return_, 1) := by decide +kernel
theorem dX4_readRule_0 : decode cX4_readRule 0 = .ok (.aload_n 0, 1) := by decide +kernel
theorem dX4_readRule_1 : decode cX4_readRule 1 = .ok (.iload_n 2, 1) := by decide +kernel
theorem dX4_readRule_2 : decode cX4_readRule 2 = .ok (.invokevirtual 97, 3) := by decide +kernel
theorem dX4_readRule_5 : decode cX4_readRule 5 = .ok (.aload_n 0, 1) := by decide +kernel
theorem dX4_readRule_6 : decode cX4_readRule 6 = .ok (.getfield 36, 3) := by decide +kernel
theorem dX4_readRule_9 : decode cX4_readRule 9 = .ok (.istore_n 3, 1) := by decide +kernel
theorem dX4_readRule_10 : decode cX4_readRule 10 = .ok (.aload_n 0, 1) := by decide +kernel
theorem dX4_readRule_11 : decode cX4_readRule 11 = .ok (.bipush 23, 2) := by decide +kernel
theorem dX4_readRule_13 : decode cX4_readRule 13 = .ok (.invokevirtual 97, 3) := by decide +kernel
theorem dX4_readRule_16 : decode cX4_readRule 16 = .ok (.aload_n 0, 1) := by decide +kernel
theorem dX4_readRule_17 : decode cX4_readRule 17 = .ok (.bipush 24, 2) := by decide +kernel
theorem dX4_readRule_19 : decode cX4_readRule 19 = .ok (.invokevirtual 97, 3) := by decide +kernel
theorem dX4_readRule_22 : decode cX4_readRule 22 = .ok (.aload_n 0, 1) := by decide +kernel
theorem dX4_readRule_23 : decode cX4_readRule 23 = .ok (.getfield 29, 3) := by decide +kernel
theorem dX4_readRule_26 : decode cX4_readRule 26 = .ok (.ifCond .eq 4, 3) := by decide +kernel
theorem dX4_readRule_29 : decode cX4_readRule 29 = .ok (.return_, 1) := by decide +kernel
theorem dX4_readRule_30 : decode cX4_readRule 30 = .ok (.aload_n 0, 1) := by decide +kernel
theorem dX4_readRule_31 : decode cX4_readRule 31 = .ok (.aload_n 0, 1) := by decide +kernel
theorem dX4_readRule_32 : decode cX4_readRule 32 = .ok (.iload_n 3, 1) := by decide +kernel
theorem dX4_readRule_33 : decode cX4_readRule 33 = .ok (.invokevirtual 114, 3) := by decide +kernel
theorem dX4_readRule_36 : decode cX4_readRule 36 = .ok (.ifCond .ne 18, 3) := by decide +kernel
theorem dX4_readRule_39 : decode cX4_readRule 39 = .ok (.iload_n 2, 1) := by decide +kernel
theorem dX4_readRule_40 : decode cX4_readRule 40 = .ok (.iconst 5, 1) := by decide +kernel
theorem dX4_readRule_41 : decode cX4_readRule 41 = .ok (.if_icmp .eq 9, 3) := by decide +kernel
theorem dX4_readRule_44 : decode cX4_readRule 44 = .ok (.iload_n 2, 1) := by decide +kernel
theorem dX4_readRule_45 : decode cX4_readRule 45 = .ok (.bipush 6, 2) := by decide +kernel
theorem dX4_readRule_47 : decode cX4_readRule 47 = .ok (.if_icmp .ne 7, 3) := by decide +kernel
theorem dX4_readRule_50 : decode cX4_readRule 50 = .ok (.iconst 1, 1) := by decide +kernel
theorem dX4_readRule_51 : decode cX4_readRule 51 = .ok (.goto 4, 3) := by decide +kernel
theorem dX4_readRule_54 : decode cX4_readRule 54 = .ok (.iconst 0, 1) := by decide +kernel
theorem dX4_readRule_55 : decode cX4_readRule 55 = .ok (.iload_n 3, 1) := by decide +kernel
theorem dX4_readRule_56 : decode cX4_readRule 56 = .ok (.invokevirtual 110, 3) := by decide +kernel
theorem dX4_readRule_59 : decode cX4_readRule 59 = .ok (.aload_n 1, 1) := by decide +kernel
theorem dX4_readRule_60 : decode cX4_readRule 60 = .ok (.getfield 133, 3) := by decide +kernel
theorem dX4_readRule_63 : decode cX4_readRule 63 = .ok (.iload_n 2, 1) := by decide +kernel
theorem dX4_readRule_64 : decode cX4_readRule 64 = .ok (.iconst 5, 1) := by decide +kernel
theorem dX4_readRule_65 : decode cX4_readRule 65 = .ok (.isub, 1) := by decide +kernel
theorem dX4_readRule_66 : decode cX4_readRule 66 = .ok (.aload_n 0, 1) := by decide +kernel
theorem dX4_readRule_67 : decode cX4_readRule 67 = .ok (.iload_n 3, 1) := by decide +kernel
theorem dX4_readRule_68 : decode cX4_readRule 68 = .ok (.invokevirtual 114, 3) := by decide +kernel
theorem dX4_readRule_71 : decode cX4_readRule 71 = .ok (.iastore, 1) := by decide +kernel
theorem dX4_readRule_72 : decode cX4_readRule 72 = .ok (.return_, 1) := by decide +kernel
theorem dX4_readBus_0 : decode cX4_readBus 0 = .ok (.aload_n 0, 1) := by decide +kernel
theorem dX4_readBus_1 : decode cX4_readBus 1 = .ok (.bipush 10, 2) := by decide +kernel
theorem dX4_readBus_3 : decode cX4_readBus 3 = .ok (.invokevirtual 97, 3) := by decide +kernel
theorem dX4_readBus_6 : decode cX4_readBus 6 = .ok (.aload_n 0, 1) := by decide +kernel
theorem dX4_readBus_7 : decode cX4_readBus 7 = .ok (.getfield 36, 3) := by decide +kernel
theorem dX4_readBus_10 : decode cX4_readBus 10 = .ok (.istore_n 2, 1) := by decide +kernel
theorem dX4_readBus_11 : decode cX4_readBus 11 = .ok (.aload_n 0, 1) := by decide +kernel
theorem dX4_readBus_12 : decode cX4_readBus 12 = .ok (.bipush 23, 2) := by decide +kernel
theorem dX4_readBus_14 : decode cX4_readBus 14 = .ok (.invokevirtual 97, 3) := by decide +kernel
theorem dX4_readBus_17 : decode cX4_readBus 17 = .ok (.aload_n 0, 1) := by decide +kernel
theorem dX4_readBus_18 : decode cX4_readBus 18 = .ok (.bipush 23, 2) := by decide +kernel
theorem dX4_readBus_20 : decode cX4_readBus 20 = .ok (.invokevirtual 97, 3) := by decide +kernel
theorem dX4_readBus_23 : decode cX4_readBus 23 = .ok (.aload_n 0, 1) := by decide +kernel
theorem dX4_readBus_24 : decode cX4_readBus 24 = .ok (.bipush 24, 2) := by decide +kernel
theorem dX4_readBus_26 : decode cX4_readBus 26 = .ok (.invokevirtual 97, 3) := by decide +kernel
theorem dX4_readBus_29 : decode cX4_readBus 29 = .ok (.aload_n 0, 1) := by decide +kernel
theorem dX4_readBus_30 : decode cX4_readBus 30 = .ok (.getfield 29, 3) := by decide +kernel
theorem dX4_readBus_33 : decode cX4_readBus 33 = .ok (.ifCond .ne 28, 3) := by decide +kernel
theorem dX4_readBus_36 : decode cX4_readBus 36 = .ok (.aload_n 1, 1) := by decide +kernel
theorem dX4_readBus_37 : decode cX4_readBus 37 = .ok (.getfield 133, 3) := by decide +kernel
theorem dX4_readBus_40 : decode cX4_readBus 40 = .ok (.iconst 5, 1) := by decide +kernel
theorem dX4_readBus_41 : decode cX4_readBus 41 = .ok (.aload_n 0, 1) := by decide +kernel
theorem dX4_readBus_42 : decode cX4_readBus 42 = .ok (.iload_n 2, 1) := by decide +kernel
theorem dX4_readBus_43 : decode cX4_readBus 43 = .ok (.invokevirtual 114, 3) := by decide +kernel
theorem dX4_readBus_46 : decode cX4_readBus 46 = .ok (.iastore, 1) := by decide +kernel
theorem dX4_readBus_47 : decode cX4_readBus 47 = .ok (.aload_n 1, 1) := by decide +kernel
theorem dX4_readBus_48 : decode cX4_readBus 48 = .ok (.getfield 133, 3) := by decide +kernel
theorem dX4_readBus_51 : decode cX4_readBus 51 = .ok (.bipush 6, 2) := by decide +kernel
theorem dX4_readBus_53 : decode cX4_readBus 53 = .ok (.aload_n 0, 1) := by decide +kernel
theorem dX4_readBus_54 : decode cX4_readBus 54 = .ok (.iload_n 2, 1) := by decide +kernel
theorem dX4_readBus_55 : decode cX4_readBus 55 = .ok (.iconst 1, 1) := by decide +kernel
theorem dX4_readBus_56 : decode cX4_readBus 56 = .ok (.iadd, 1) := by decide +kernel
theorem dX4_readBus_57 : decode cX4_readBus 57 = .ok (.invokevirtual 114, 3) := by decide +kernel
theorem dX4_readBus_60 : decode cX4_readBus 60 = .ok (.iastore, 1) := by decide +kernel
theorem dX4_readBus_61 : decode cX4_readBus 61 = .ok (.return_, 1) := by decide +kernel
theorem dX4_readRight_0 : decode cX4_readRight 0 = .ok (.aload_n 0, 1) := by decide +kernel
theorem dX4_readRight_1 : decode cX4_readRight 1 = .ok (.aload_n 1, 1) := by decide +kernel
theorem dX4_readRight_2 : decode cX4_readRight 2 = .ok (.getfield 136, 3) := by decide +kernel
theorem dX4_readRight_5 : decode cX4_readRight 5 = .ok (.bipush 8, 2) := by decide +kernel
theorem dX4_readRight_7 : decode cX4_readRight 7 = .ok (.invokevirtual 93, 3) := by decide +kernel
theorem dX4_readRight_10 : decode cX4_readRight 10 = .ok (.aload_n 0, 1) := by decide +kernel
theorem dX4_readRight_11 : decode cX4_readRight 11 = .ok (.iconst 4, 1) := by decide +kernel
theorem dX4_readRight_12 : decode cX4_readRight 12 = .ok (.invokevirtual 97, 3) := by decide +kernel
theorem dX4_readRight_15 : decode cX4_readRight 15 = .ok (.aload_n 0, 1) := by decide +kernel
theorem dX4_readRight_16 : decode cX4_readRight 16 = .ok (.bipush 13, 2) := by decide +kernel
theorem dX4_readRight_18 : decode cX4_readRight 18 = .ok (.invokevirtual 97, 3) := by decide +kernel
theorem dX4_readRight_21 : decode cX4_readRight 21 = .ok (.aload_n 0, 1) := by decide +kernel
theorem dX4_readRight_22 : decode cX4_readRight 22 = .ok (.iconst 0, 1) := by decide +kernel
theorem dX4_readRight_23 : decode cX4_readRight 23 = .ok (.putfield 139, 3) := by decide +kernel
theorem dX4_readRight_26 : decode cX4_readRight 26 = .ok (.aload_n 0, 1) := by decide +kernel
theorem dX4_readRight_27 : decode cX4_readRight 27 = .ok (.iconst 0, 1) := by decide +kernel
theorem dX4_readRight_28 : decode cX4_readRight 28 = .ok (.putfield 142, 3) := by decide +kernel
theorem dX4_readRight_31 : decode cX4_readRight 31 = .ok (.aload_n 0, 1) := by decide +kernel
theorem dX4_readRight_32 : decode cX4_readRight 32 = .ok (.invokevirtual 145, 3) := by decide +kernel
theorem dX4_readRight_35 : decode cX4_readRight 35 = .ok (.iconst 1, 1) := by decide +kernel
theorem dX4_readRight_36 : decode cX4_readRight 36 = .ok (.istore_n 2, 1) := by decide +kernel
theorem dX4_readRight_37 : decode cX4_readRight 37 = .ok (.iconst 0, 1) := by decide +kernel
theorem dX4_readRight_38 : decode cX4_readRight 38 = .ok (.istore_n 3, 1) := by decide +kernel
theorem dX4_readRight_39 : decode cX4_readRight 39 = .ok (.iload_n 3, 1) := by decide +kernel
theorem dX4_readRight_40 : decode cX4_readRight 40 = .ok (.sipush 400, 3) := by decide +kernel
theorem dX4_readRight_43 : decode cX4_readRight 43 = .ok (.if_icmp .gt 41, 3) := by decide +kernel
theorem dX4_readRight_46 : decode cX4_readRight 46 = .ok (.iload_n 2, 1) := by decide +kernel
theorem dX4_readRight_47 : decode cX4_readRight 47 = .ok (.ifCond .eq 37, 3) := by decide +kernel
theorem dX4_readRight_50 : decode cX4_readRight 50 = .ok (.aload_n 0, 1) := by decide +kernel
theorem dX4_readRight_51 : decode cX4_readRight 51 = .ok (.getfield 29, 3) := by decide +kernel
theorem dX4_readRight_54 : decode cX4_readRight 54 = .ok (.ifCond .ne 30, 3) := by decide +kernel
theorem dX4_readRight_57 : decode cX4_readRight 57 = .ok (.aload_n 0, 1) := by decide +kernel
theorem dX4_readRight_58 : decode cX4_readRight 58 = .ok (.getfield 148, 3) := by decide +kernel
theorem dX4_readRight_61 : decode cX4_readRight 61 = .ok (.ifCond .eq 11, 3) := by decide +kernel
theorem dX4_readRight_64 : decode cX4_readRight 64 = .ok (.aload_n 0, 1) := by decide +kernel
theorem dX4_readRight_65 : decode cX4_readRight 65 = .ok (.aload_n 1, 1) := by decide +kernel
theorem dX4_readRight_66 : decode cX4_readRight 66 = .ok (.invokevirtual 152, 3) := by decide +kernel
theorem dX4_readRight_69 : decode cX4_readRight 69 = .ok (.goto 9, 3) := by decide +kernel
theorem dX4_readRight_72 : decode cX4_readRight 72 = .ok (.aload_n 0, 1) := by decide +kernel
theorem dX4_readRight_73 : decode cX4_readRight 73 = .ok (.aload_n 1, 1) := by decide +kernel
theorem dX4_readRight_74 : decode cX4_readRight 74 = .ok (.invokevirtual 155, 3) := by decide +kernel
theorem dX4_readRight_77 : decode cX4_readRight 77 = .ok (.istore_n 2, 1) := by decide +kernel
theorem dX4_readRight_78 : decode cX4_readRight 78 = .ok (.iinc 3 1, 3) := by decide +kernel
theorem dX4_readRight_81 : decode cX4_readRight 81 = .ok (.goto (-42), 3) := by decide +kernel
theorem dX4_readRight_84 : decode cX4_readRight 84 = .ok (.aload_n 1, 1) := by decide +kernel
theorem dX4_readRight_85 : decode cX4_readRight 85 = .ok (.invokevirtual 159, 3) := by decide +kernel
theorem dX4_readRight_88 : decode cX4_readRight 88 = .ok (.return_, 1) := by decide +kernel
theorem dX4_beginLiteral_0 : decode cX4_beginLiteral 0 = .ok (.aload_n 0, 1) := by decide +kernel
theorem dX4_beginLiteral_1 : decode cX4_beginLiteral 1 = .ok (.iconst 1, 1) := by decide +kernel
theorem dX4_beginLiteral_2 : decode cX4_beginLiteral 2 = .ok (.putfield 148, 3) := by decide +kernel
theorem dX4_beginLiteral_5 : decode cX4_beginLiteral 5 = .ok (.aload_n 0, 1) := by decide +kernel
theorem dX4_beginLiteral_6 : decode cX4_beginLiteral 6 = .ok (.iconst 1, 1) := by decide +kernel
theorem dX4_beginLiteral_7 : decode cX4_beginLiteral 7 = .ok (.putfield 162, 3) := by decide +kernel
theorem dX4_beginLiteral_10 : decode cX4_beginLiteral 10 = .ok (.aload_n 0, 1) := by decide +kernel
theorem dX4_beginLiteral_11 : decode cX4_beginLiteral 11 = .ok (.iconst 1, 1) := by decide +kernel
theorem dX4_beginLiteral_12 : decode cX4_beginLiteral 12 = .ok (.putfield 165, 3) := by decide +kernel
theorem dX4_beginLiteral_15 : decode cX4_beginLiteral 15 = .ok (.return_, 1) := by decide +kernel
theorem dX4_readOperand_0 : decode cX4_readOperand 0 = .ok (.aload_n 0, 1) := by decide +kernel
theorem dX4_readOperand_1 : decode cX4_readOperand 1 = .ok (.invokevirtual 50, 3) := by decide +kernel
theorem dX4_readOperand_4 : decode cX4_readOperand 4 = .ok (.istore_n 2, 1) := by decide +kernel
theorem dX4_readOperand_5 : decode cX4_readOperand 5 = .ok (.iload_n 2, 1) := by decide +kernel
theorem dX4_readOperand_6 : decode cX4_readOperand 6 = .ok (.bipush 16, 2) := by decide +kernel
theorem dX4_readOperand_8 : decode cX4_readOperand 8 = .ok (.if_icmp .ne 21, 3) := by decide +kernel
theorem dX4_readOperand_11 : decode cX4_readOperand 11 = .ok (.aload_n 0, 1) := by decide +kernel
theorem dX4_readOperand_12 : decode cX4_readOperand 12 = .ok (.getfield 162, 3) := by decide +kernel
theorem dX4_readOperand_15 : decode cX4_readOperand 15 = .ok (.ifCond .eq 14, 3) := by decide +kernel
theorem dX4_readOperand_18 : decode cX4_readOperand 18 = .ok (.aload_n 0, 1) := by decide +kernel
theorem dX4_readOperand_19 : decode cX4_readOperand 19 = .ok (.iload_n 2, 1) := by decide +kernel
theorem dX4_readOperand_20 : decode cX4_readOperand 20 = .ok (.invokevirtual 97, 3) := by decide +kernel
theorem dX4_readOperand_23 : decode cX4_readOperand 23 = .ok (.aload_n 0, 1) := by decide +kernel
theorem dX4_readOperand_24 : decode cX4_readOperand 24 = .ok (.iload_n 2, 1) := by decide +kernel
theorem dX4_readOperand_25 : decode cX4_readOperand 25 = .ok (.invokevirtual 168, 3) := by decide +kernel
theorem dX4_readOperand_28 : decode cX4_readOperand 28 = .ok (.return_, 1) := by decide +kernel
theorem dX4_readOperand_29 : decode cX4_readOperand 29 = .ok (.iload_n 2, 1) := by decide +kernel
theorem dX4_readOperand_30 : decode cX4_readOperand 30 = .ok (.bipush 32, 2) := by decide +kernel
theorem dX4_readOperand_32 : decode cX4_readOperand 32 = .ok (.if_icmp .ne 39, 3) := by decide +kernel
theorem dX4_readOperand_35 : decode cX4_readOperand 35 = .ok (.aload_n 0, 1) := by decide +kernel
theorem dX4_readOperand_36 : decode cX4_readOperand 36 = .ok (.aload_n 0, 1) := by decide +kernel
theorem dX4_readOperand_37 : decode cX4_readOperand 37 = .ok (.getfield 142, 3) := by decide +kernel
theorem dX4_readOperand_40 : decode cX4_readOperand 40 = .ok (.bipush 6, 2) := by decide +kernel
theorem dX4_readOperand_42 : decode cX4_readOperand 42 = .ok (.invokevirtual 93, 3) := by decide +kernel
theorem dX4_readOperand_45 : decode cX4_readOperand 45 = .ok (.aload_n 0, 1) := by decide +kernel
theorem dX4_readOperand_46 : decode cX4_readOperand 46 = .ok (.iload_n 2, 1) := by decide +kernel
theorem dX4_readOperand_47 : decode cX4_readOperand 47 = .ok (.invokevirtual 97, 3) := by decide +kernel
theorem dX4_readOperand_50 : decode cX4_readOperand 50 = .ok (.aload_n 0, 1) := by decide +kernel
theorem dX4_readOperand_51 : decode cX4_readOperand 51 = .ok (.iload_n 2, 1) := by decide +kernel
theorem dX4_readOperand_52 : decode cX4_readOperand 52 = .ok (.invokevirtual 168, 3) := by decide +kernel
theorem dX4_readOperand_55 : decode cX4_readOperand 55 = .ok (.aload_n 0, 1) := by decide +kernel
theorem dX4_readOperand_56 : decode cX4_readOperand 56 = .ok (.dup, 1) := by decide +kernel
theorem dX4_readOperand_57 : decode cX4_readOperand 57 = .ok (.getfield 142, 3) := by decide +kernel
theorem dX4_readOperand_60 : decode cX4_readOperand 60 = .ok (.iconst 1, 1) := by decide +kernel
theorem dX4_readOperand_61 : decode cX4_readOperand 61 = .ok (.iadd, 1) := by decide +kernel
theorem dX4_readOperand_62 : decode cX4_readOperand 62 = .ok (.putfield 142, 3) := by decide +kernel
theorem dX4_readOperand_65 : decode cX4_readOperand 65 = .ok (.aload_n 0, 1) := by decide +kernel
theorem dX4_readOperand_66 : decode cX4_readOperand 66 = .ok (.iconst 0, 1) := by decide +kernel
theorem dX4_readOperand_67 : decode cX4_readOperand 67 = .ok (.putfield 162, 3) := by decide +kernel
theorem dX4_readOperand_70 : decode cX4_readOperand 70 = .ok (.return_, 1) := by decide +kernel
theorem dX4_readOperand_71 : decode cX4_readOperand 71 = .ok (.iload_n 2, 1) := by decide +kernel
theorem dX4_readOperand_72 : decode cX4_readOperand 72 = .ok (.bipush 23, 2) := by decide +kernel
theorem dX4_readOperand_74 : decode cX4_readOperand 74 = .ok (.if_icmp .ne 18, 3) := by decide +kernel
theorem dX4_readOperand_77 : decode cX4_readOperand 77 = .ok (.aload_n 1, 1) := by decide +kernel
theorem dX4_readOperand_78 : decode cX4_readOperand 78 = .ok (.aload_n 0, 1) := by decide +kernel
theorem dX4_readOperand_79 : decode cX4_readOperand 79 = .ok (.aload_n 0, 1) := by decide +kernel
theorem dX4_readOperand_80 : decode cX4_readOperand 80 = .ok (.getfield 36, 3) := by decide +kernel
theorem dX4_readOperand_83 : decode cX4_readOperand 83 = .ok (.invokevirtual 114, 3) := by decide +kernel
theorem dX4_readOperand_86 : decode cX4_readOperand 86 = .ok (.invokevirtual 171, 3) := by decide +kernel
theorem dX4_readOperand_89 : decode cX4_readOperand 89 = .ok (.goto 30, 3) := by decide +kernel
theorem dX4_readOperand_92 : decode cX4_readOperand 92 = .ok (.iload_n 2, 1) := by decide +kernel
theorem dX4_readOperand_93 : decode cX4_readOperand 93 = .ok (.bipush 17, 2) := by decide +kernel
theorem dX4_readOperand_95 : decode cX4_readOperand 95 = .ok (.if_icmp .lt 19, 3) := by decide +kernel
theorem dX4_readOperand_98 : decode cX4_readOperand 98 = .ok (.iload_n 2, 1) := by decide +kernel
theorem dX4_readOperand_99 : decode cX4_readOperand 99 = .ok (.bipush 21, 2) := by decide +kernel
theorem dX4_readOperand_101 : decode cX4_readOperand 101 = .ok (.if_icmp .gt 13, 3) := by decide +kernel
theorem dX4_readOperand_104 : decode cX4_readOperand 104 = .ok (.aload_n 1, 1) := by decide +kernel
theorem dX4_readOperand_105 : decode cX4_readOperand 105 = .ok (.iload_n 2, 1) := by decide +kernel
theorem dX4_readOperand_106 : decode cX4_readOperand 106 = .ok (.iconst (-1), 1) := by decide +kernel
theorem dX4_readOperand_107 : decode cX4_readOperand 107 = .ok (.ixor, 1) := by decide +kernel
theorem dX4_readOperand_108 : decode cX4_readOperand 108 = .ok (.invokevirtual 171, 3) := by decide +kernel
theorem dX4_readOperand_111 : decode cX4_readOperand 111 = .ok (.goto 8, 3) := by decide +kernel
theorem dX4_readOperand_114 : decode cX4_readOperand 114 = .ok (.aload_n 0, 1) := by decide +kernel
theorem dX4_readOperand_115 : decode cX4_readOperand 115 = .ok (.iconst 1, 1) := by decide +kernel
theorem dX4_readOperand_116 : decode cX4_readOperand 116 = .ok (.invokevirtual 86, 3) := by decide +kernel
theorem dX4_readOperand_119 : decode cX4_readOperand 119 = .ok (.aload_n 0, 1) := by decide +kernel
theorem dX4_readOperand_120 : decode cX4_readOperand 120 = .ok (.iload_n 2, 1) := by decide +kernel
theorem dX4_readOperand_121 : decode cX4_readOperand 121 = .ok (.invokevirtual 97, 3) := by decide +kernel
theorem dX4_readOperand_124 : decode cX4_readOperand 124 = .ok (.aload_n 0, 1) := by decide +kernel
theorem dX4_readOperand_125 : decode cX4_readOperand 125 = .ok (.iconst 0, 1) := by decide +kernel
theorem dX4_readOperand_126 : decode cX4_readOperand 126 = .ok (.putfield 162, 3) := by decide +kernel
theorem dX4_readOperand_129 : decode cX4_readOperand 129 = .ok (.aload_n 0, 1) := by decide +kernel
theorem dX4_readOperand_130 : decode cX4_readOperand 130 = .ok (.iconst 0, 1) := by decide +kernel
theorem dX4_readOperand_131 : decode cX4_readOperand 131 = .ok (.putfield 148, 3) := by decide +kernel
theorem dX4_readOperand_134 : decode cX4_readOperand 134 = .ok (.return_, 1) := by decide +kernel
theorem dX4_readOperator_0 : decode cX4_readOperator 0 = .ok (.aload_n 0, 1) := by decide +kernel
theorem dX4_readOperator_1 : decode cX4_readOperator 1 = .ok (.invokevirtual 50, 3) := by decide +kernel
theorem dX4_readOperator_4 : decode cX4_readOperator 4 = .ok (.istore_n 2, 1) := by decide +kernel
theorem dX4_readOperator_5 : decode cX4_readOperator 5 = .ok (.iload_n 2, 1) := by decide +kernel
theorem dX4_readOperator_6 : decode cX4_readOperator 6 = .ok (.bipush 33, 2) := by decide +kernel
theorem dX4_readOperator_8 : decode cX4_readOperator 8 = .ok (.if_icmp .ne 43, 3) := by decide +kernel
theorem dX4_readOperator_11 : decode cX4_readOperator 11 = .ok (.aload_n 0, 1) := by decide +kernel
theorem dX4_readOperator_12 : decode cX4_readOperator 12 = .ok (.getfield 142, 3) := by decide +kernel
theorem dX4_readOperator_15 : decode cX4_readOperator 15 = .ok (.ifCond .le 36, 3) := by decide +kernel
theorem dX4_readOperator_18 : decode cX4_readOperator 18 = .ok (.aload_n 0, 1) := by decide +kernel
theorem dX4_readOperator_19 : decode cX4_readOperator 19 = .ok (.iload_n 2, 1) := by decide +kernel
theorem dX4_readOperator_20 : decode cX4_readOperator 20 = .ok (.invokevirtual 97, 3) := by decide +kernel
theorem dX4_readOperator_23 : decode cX4_readOperator 23 = .ok (.aload_n 0, 1) := by decide +kernel
theorem dX4_readOperator_24 : decode cX4_readOperator 24 = .ok (.aload_n 1, 1) := by decide +kernel
theorem dX4_readOperator_25 : decode cX4_readOperator 25 = .ok (.iconst 1, 1) := by decide +kernel
theorem dX4_readOperator_26 : decode cX4_readOperator 26 = .ok (.invokevirtual 174, 3) := by decide +kernel
theorem dX4_readOperator_29 : decode cX4_readOperator 29 = .ok (.aload_n 0, 1) := by decide +kernel
theorem dX4_readOperator_30 : decode cX4_readOperator 30 = .ok (.dup, 1) := by decide +kernel
theorem dX4_readOperator_31 : decode cX4_readOperator 31 = .ok (.getfield 139, 3) := by decide +kernel
theorem dX4_readOperator_34 : decode cX4_readOperator 34 = .ok (.iconst 1, 1) := by decide +kernel
theorem dX4_readOperator_35 : decode cX4_readOperator 35 = .ok (.isub, 1) := by decide +kernel
theorem dX4_readOperator_36 : decode cX4_readOperator 36 = .ok (.putfield 139, 3) := by decide +kernel
theorem dX4_readOperator_39 : decode cX4_readOperator 39 = .ok (.aload_n 0, 1) := by decide +kernel
theorem dX4_readOperator_40 : decode cX4_readOperator 40 = .ok (.dup, 1) := by decide +kernel
theorem dX4_readOperator_41 : decode cX4_readOperator 41 = .ok (.getfield 142, 3) := by decide +kernel
theorem dX4_readOperator_44 : decode cX4_readOperator 44 = .ok (.iconst 1, 1) := by decide +kernel
theorem dX4_readOperator_45 : decode cX4_readOperator 45 = .ok (.isub, 1) := by decide +kernel
theorem dX4_readOperator_46 : decode cX4_readOperator 46 = .ok (.putfield 142, 3) := by decide +kernel
theorem dX4_readOperator_49 : decode cX4_readOperator 49 = .ok (.iconst 1, 1) := by decide +kernel
theorem dX4_readOperator_50 : decode cX4_readOperator 50 = .ok (.ireturn, 1) := by decide +kernel
theorem dX4_readOperator_51 : decode cX4_readOperator 51 = .ok (.aload_n 0, 1) := by decide +kernel
theorem dX4_readOperator_52 : decode cX4_readOperator 52 = .ok (.iload_n 2, 1) := by decide +kernel
theorem dX4_readOperator_53 : decode cX4_readOperator 53 = .ok (.invokevirtual 177, 3) := by decide +kernel
theorem dX4_readOperator_56 : decode cX4_readOperator 56 = .ok (.ifCond .ne 10, 3) := by decide +kernel
theorem dX4_readOperator_59 : decode cX4_readOperator 59 = .ok (.aload_n 0, 1) := by decide +kernel
theorem dX4_readOperator_60 : decode cX4_readOperator 60 = .ok (.iconst 1, 1) := by decide +kernel
theorem dX4_readOperator_61 : decode cX4_readOperator 61 = .ok (.invokevirtual 86, 3) := by decide +kernel
theorem dX4_readOperator_64 : decode cX4_readOperator 64 = .ok (.iconst 0, 1) := by decide +kernel
theorem dX4_readOperator_65 : decode cX4_readOperator 65 = .ok (.ireturn, 1) := by decide +kernel
theorem dX4_readOperator_66 : decode cX4_readOperator 66 = .ok (.aload_n 0, 1) := by decide +kernel
theorem dX4_readOperator_67 : decode cX4_readOperator 67 = .ok (.iload_n 2, 1) := by decide +kernel
theorem dX4_readOperator_68 : decode cX4_readOperator 68 = .ok (.invokevirtual 97, 3) := by decide +kernel
theorem dX4_readOperator_71 : decode cX4_readOperator 71 = .ok (.aload_n 0, 1) := by decide +kernel
theorem dX4_readOperator_72 : decode cX4_readOperator 72 = .ok (.aload_n 1, 1) := by decide +kernel
theorem dX4_readOperator_73 : decode cX4_readOperator 73 = .ok (.iload_n 2, 1) := by decide +kernel
theorem dX4_readOperator_74 : decode cX4_readOperator 74 = .ok (.invokestatic 181, 3) := by decide +kernel
theorem dX4_readOperator_77 : decode cX4_readOperator 77 = .ok (.invokevirtual 174, 3) := by decide +kernel
theorem dX4_readOperator_80 : decode cX4_readOperator 80 = .ok (.iload_n 2, 1) := by decide +kernel
theorem dX4_readOperator_81 : decode cX4_readOperator 81 = .ok (.bipush 24, 2) := by decide +kernel
theorem dX4_readOperator_83 : decode cX4_readOperator 83 = .ok (.if_icmp .ne 5, 3) := by decide +kernel
theorem dX4_readOperator_86 : decode cX4_readOperator 86 = .ok (.iconst 0, 1) := by decide +kernel
theorem dX4_readOperator_87 : decode cX4_readOperator 87 = .ok (.ireturn, 1) := by decide +kernel
theorem dX4_readOperator_88 : decode cX4_readOperator 88 = .ok (.aload_n 0, 1) := by decide +kernel
theorem dX4_readOperator_89 : decode cX4_readOperator 89 = .ok (.iload_n 2, 1) := by decide +kernel
theorem dX4_readOperator_90 : decode cX4_readOperator 90 = .ok (.invokevirtual 168, 3) := by decide +kernel
theorem dX4_readOperator_93 : decode cX4_readOperator 93 = .ok (.aload_n 0, 1) := by decide +kernel
theorem dX4_readOperator_94 : decode cX4_readOperator 94 = .ok (.iconst 1, 1) := by decide +kernel
theorem dX4_readOperator_95 : decode cX4_readOperator 95 = .ok (.putfield 148, 3) := by decide +kernel
theorem dX4_readOperator_98 : decode cX4_readOperator 98 = .ok (.iload_n 2, 1) := by decide +kernel
theorem dX4_readOperator_99 : decode cX4_readOperator 99 = .ok (.bipush 15, 2) := by decide +kernel
theorem dX4_readOperator_101 : decode cX4_readOperator 101 = .ok (.if_icmp .eq 9, 3) := by decide +kernel
theorem dX4_readOperator_104 : decode cX4_readOperator 104 = .ok (.iload_n 2, 1) := by decide +kernel
theorem dX4_readOperator_105 : decode cX4_readOperator 105 = .ok (.bipush 14, 2) := by decide +kernel
theorem dX4_readOperator_107 : decode cX4_readOperator 107 = .ok (.if_icmp .ne 10, 3) := by decide +kernel
theorem dX4_readOperator_110 : decode cX4_readOperator 110 = .ok (.aload_n 0, 1) := by decide +kernel
theorem dX4_readOperator_111 : decode cX4_readOperator 111 = .ok (.invokevirtual 145, 3) := by decide +kernel
theorem dX4_readOperator_114 : decode cX4_readOperator 114 = .ok (.goto 15, 3) := by decide +kernel
theorem dX4_readOperator_117 : decode cX4_readOperator 117 = .ok (.iload_n 2, 1) := by decide +kernel
theorem dX4_readOperator_118 : decode cX4_readOperator 118 = .ok (.invokestatic 184, 3) := by decide +kernel
theorem dX4_readOperator_121 : decode cX4_readOperator 121 = .ok (.ifCond .eq 8, 3) := by decide +kernel
theorem dX4_readOperator_124 : decode cX4_readOperator 124 = .ok (.aload_n 0, 1) := by decide +kernel
theorem dX4_readOperator_125 : decode cX4_readOperator 125 = .ok (.iconst 0, 1) := by decide +kernel
theorem dX4_readOperator_126 : decode cX4_readOperator 126 = .ok (.putfield 165, 3) := by decide +kernel
theorem dX4_readOperator_129 : decode cX4_readOperator 129 = .ok (.iconst 1, 1) := by decide +kernel
theorem dX4_readOperator_130 : decode cX4_readOperator 130 = .ok (.ireturn, 1) := by decide +kernel
theorem dX4_mayFollowOperand_0 : decode cX4_mayFollowOperand 0 = .ok (.iload_n 1, 1) := by decide +kernel
theorem dX4_mayFollowOperand_1 : decode cX4_mayFollowOperand 1 = .ok (.bipush 25, 2) := by decide +kernel
theorem dX4_mayFollowOperand_3 : decode cX4_mayFollowOperand 3 = .ok (.if_icmp .eq 15, 3) := by decide +kernel
theorem dX4_mayFollowOperand_6 : decode cX4_mayFollowOperand 6 = .ok (.iload_n 1, 1) := by decide +kernel
theorem dX4_mayFollowOperand_7 : decode cX4_mayFollowOperand 7 = .ok (.bipush 26, 2) := by decide +kernel
theorem dX4_mayFollowOperand_9 : decode cX4_mayFollowOperand 9 = .ok (.if_icmp .eq 9, 3) := by decide +kernel
theorem dX4_mayFollowOperand_12 : decode cX4_mayFollowOperand 12 = .ok (.iload_n 1, 1) := by decide +kernel
theorem dX4_mayFollowOperand_13 : decode cX4_mayFollowOperand 13 = .ok (.bipush 27, 2) := by decide +kernel
theorem dX4_mayFollowOperand_15 : decode cX4_mayFollowOperand 15 = .ok (.if_icmp .ne 5, 3) := by decide +kernel
theorem dX4_mayFollowOperand_18 : decode cX4_mayFollowOperand 18 = .ok (.iconst 1, 1) := by decide +kernel
theorem dX4_mayFollowOperand_19 : decode cX4_mayFollowOperand 19 = .ok (.ireturn, 1) := by decide +kernel
theorem dX4_mayFollowOperand_20 : decode cX4_mayFollowOperand 20 = .ok (.aload_n 0, 1) := by decide +kernel
theorem dX4_mayFollowOperand_21 : decode cX4_mayFollowOperand 21 = .ok (.getfield 142, 3) := by decide +kernel
theorem dX4_mayFollowOperand_24 : decode cX4_mayFollowOperand 24 = .ok (.ifCond .le 5, 3) := by decide +kernel
theorem dX4_mayFollowOperand_27 : decode cX4_mayFollowOperand 27 = .ok (.iconst 0, 1) := by decide +kernel
theorem dX4_mayFollowOperand_28 : decode cX4_mayFollowOperand 28 = .ok (.ireturn, 1) := by decide +kernel
theorem dX4_mayFollowOperand_29 : decode cX4_mayFollowOperand 29 = .ok (.aload_n 0, 1) := by decide +kernel
theorem dX4_mayFollowOperand_30 : decode cX4_mayFollowOperand 30 = .ok (.getfield 165, 3) := by decide +kernel
theorem dX4_mayFollowOperand_33 : decode cX4_mayFollowOperand 33 = .ok (.ifCond .eq 10, 3) := by decide +kernel
theorem dX4_mayFollowOperand_36 : decode cX4_mayFollowOperand 36 = .ok (.iload_n 1, 1) := by decide +kernel
theorem dX4_mayFollowOperand_37 : decode cX4_mayFollowOperand 37 = .ok (.invokestatic 184, 3) := by decide +kernel
theorem dX4_mayFollowOperand_40 : decode cX4_mayFollowOperand 40 = .ok (.goto 26, 3) := by decide +kernel
theorem dX4_mayFollowOperand_43 : decode cX4_mayFollowOperand 43 = .ok (.iload_n 1, 1) := by decide +kernel
theorem dX4_mayFollowOperand_44 : decode cX4_mayFollowOperand 44 = .ok (.bipush 15, 2) := by decide +kernel
theorem dX4_mayFollowOperand_46 : decode cX4_mayFollowOperand 46 = .ok (.if_icmp .eq 15, 3) := by decide +kernel
theorem dX4_mayFollowOperand_49 : decode cX4_mayFollowOperand 49 = .ok (.iload_n 1, 1) := by decide +kernel
theorem dX4_mayFollowOperand_50 : decode cX4_mayFollowOperand 50 = .ok (.bipush 14, 2) := by decide +kernel
theorem dX4_mayFollowOperand_52 : decode cX4_mayFollowOperand 52 = .ok (.if_icmp .eq 9, 3) := by decide +kernel
theorem dX4_mayFollowOperand_55 : decode cX4_mayFollowOperand 55 = .ok (.iload_n 1, 1) := by decide +kernel
theorem dX4_mayFollowOperand_56 : decode cX4_mayFollowOperand 56 = .ok (.bipush 24, 2) := by decide +kernel
theorem dX4_mayFollowOperand_58 : decode cX4_mayFollowOperand 58 = .ok (.if_icmp .ne 7, 3) := by decide +kernel
theorem dX4_mayFollowOperand_61 : decode cX4_mayFollowOperand 61 = .ok (.iconst 1, 1) := by decide +kernel
theorem dX4_mayFollowOperand_62 : decode cX4_mayFollowOperand 62 = .ok (.goto 4, 3) := by decide +kernel
theorem dX4_mayFollowOperand_65 : decode cX4_mayFollowOperand 65 = .ok (.iconst 0, 1) := by decide +kernel
theorem dX4_mayFollowOperand_66 : decode cX4_mayFollowOperand 66 = .ok (.ireturn, 1) := by decide +kernel
theorem dX4_isComparison_0 : decode cX4_isComparison 0 = .ok (.iload_n 0, 1) := by decide +kernel
theorem dX4_isComparison_1 : decode cX4_isComparison 1 = .ok (.bipush 28, 2) := by decide +kernel
theorem dX4_isComparison_3 : decode cX4_isComparison 3 = .ok (.if_icmp .lt 13, 3) := by decide +kernel
theorem dX4_isComparison_6 : decode cX4_isComparison 6 = .ok (.iload_n 0, 1) := by decide +kernel
theorem dX4_isComparison_7 : decode cX4_isComparison 7 = .ok (.bipush 31, 2) := by decide +kernel
theorem dX4_isComparison_9 : decode cX4_isComparison 9 = .ok (.if_icmp .gt 7, 3) := by decide +kernel
theorem dX4_isComparison_12 : decode cX4_isComparison 12 = .ok (.iconst 1, 1) := by decide +kernel
theorem dX4_isComparison_13 : decode cX4_isComparison 13 = .ok (.goto 4, 3) := by decide +kernel
theorem dX4_isComparison_16 : decode cX4_isComparison 16 = .ok (.iconst 0, 1) := by decide +kernel
theorem dX4_isComparison_17 : decode cX4_isComparison 17 = .ok (.ireturn, 1) := by decide +kernel
theorem dX4_strengthOf_0 : decode cX4_strengthOf 0 = .ok (.iload_n 0, 1) := by decide +kernel
theorem dX4_strengthOf_1 : decode cX4_strengthOf 1 = .ok (.tableswitch 104 14 32 #[93, 95, 97, 104, 104, 104, 104, 104, 104, 104, 93, 99, 99, 101, 104, 104, 104, 104, 91], 91) := by decide +kernel
theorem dX4_strengthOf_92 : decode cX4_strengthOf 92 = .ok (.iconst 0, 1) := by decide +kernel
theorem dX4_strengthOf_93 : decode cX4_strengthOf 93 = .ok (.ireturn, 1) := by decide +kernel
theorem dX4_strengthOf_94 : decode cX4_strengthOf 94 = .ok (.iconst 1, 1) := by decide +kernel
theorem dX4_strengthOf_95 : decode cX4_strengthOf 95 = .ok (.ireturn, 1) := by decide +kernel
theorem dX4_strengthOf_96 : decode cX4_strengthOf 96 = .ok (.iconst 2, 1) := by decide +kernel
theorem dX4_strengthOf_97 : decode cX4_strengthOf 97 = .ok (.ireturn, 1) := by decide +kernel
theorem dX4_strengthOf_98 : decode cX4_strengthOf 98 = .ok (.iconst 3, 1) := by decide +kernel
theorem dX4_strengthOf_99 : decode cX4_strengthOf 99 = .ok (.ireturn, 1) := by decide +kernel
theorem dX4_strengthOf_100 : decode cX4_strengthOf 100 = .ok (.iconst 5, 1) := by decide +kernel
theorem dX4_strengthOf_101 : decode cX4_strengthOf 101 = .ok (.ireturn, 1) := by decide +kernel
theorem dX4_strengthOf_102 : decode cX4_strengthOf 102 = .ok (.bipush 6, 2) := by decide +kernel
theorem dX4_strengthOf_104 : decode cX4_strengthOf 104 = .ok (.ireturn, 1) := by decide +kernel
theorem dX4_strengthOf_105 : decode cX4_strengthOf 105 = .ok (.iconst 4, 1) := by decide +kernel
theorem dX4_strengthOf_106 : decode cX4_strengthOf 106 = .ok (.ireturn, 1) := by decide +kernel
theorem dX4_await_0 : decode cX4_await 0 = .ok (.aload_n 0, 1) := by decide +kernel
theorem dX4_await_1 : decode cX4_await 1 = .ok (.getfield 139, 3) := by decide +kernel
theorem dX4_await_4 : decode cX4_await 4 = .ok (.aload_n 0, 1) := by decide +kernel
theorem dX4_await_5 : decode cX4_await 5 = .ok (.getfield 26, 3) := by decide +kernel
theorem dX4_await_8 : decode cX4_await 8 = .ok (.arraylength, 1) := by decide +kernel
theorem dX4_await_9 : decode cX4_await 9 = .ok (.if_icmp .ge 23, 3) := by decide +kernel
theorem dX4_await_12 : decode cX4_await 12 = .ok (.aload_n 0, 1) := by decide +kernel
theorem dX4_await_13 : decode cX4_await 13 = .ok (.getfield 26, 3) := by decide +kernel
theorem dX4_await_16 : decode cX4_await 16 = .ok (.aload_n 0, 1) := by decide +kernel
theorem dX4_await_17 : decode cX4_await 17 = .ok (.getfield 139, 3) := by decide +kernel
theorem dX4_await_20 : decode cX4_await 20 = .ok (.iload_n 1, 1) := by decide +kernel
theorem dX4_await_21 : decode cX4_await 21 = .ok (.iastore, 1) := by decide +kernel
theorem dX4_await_22 : decode cX4_await 22 = .ok (.aload_n 0, 1) := by decide +kernel
theorem dX4_await_23 : decode cX4_await 23 = .ok (.dup, 1) := by decide +kernel
theorem dX4_await_24 : decode cX4_await 24 = .ok (.getfield 139, 3) := by decide +kernel
theorem dX4_await_27 : decode cX4_await 27 = .ok (.iconst 1, 1) := by decide +kernel
theorem dX4_await_28 : decode cX4_await 28 = .ok (.iadd, 1) := by decide +kernel
theorem dX4_await_29 : decode cX4_await 29 = .ok (.putfield 139, 3) := by decide +kernel
theorem dX4_await_32 : decode cX4_await 32 = .ok (.return_, 1) := by decide +kernel
theorem dX4_settle_0 : decode cX4_settle 0 = .ok (.aload_n 0, 1) := by decide +kernel
theorem dX4_settle_1 : decode cX4_settle 1 = .ok (.getfield 139, 3) := by decide +kernel
theorem dX4_settle_4 : decode cX4_settle 4 = .ok (.ifCond .le 49, 3) := by decide +kernel
theorem dX4_settle_7 : decode cX4_settle 7 = .ok (.aload_n 0, 1) := by decide +kernel
theorem dX4_settle_8 : decode cX4_settle 8 = .ok (.getfield 26, 3) := by decide +kernel
theorem dX4_settle_11 : decode cX4_settle 11 = .ok (.aload_n 0, 1) := by decide +kernel
theorem dX4_settle_12 : decode cX4_settle 12 = .ok (.getfield 139, 3) := by decide +kernel
theorem dX4_settle_15 : decode cX4_settle 15 = .ok (.iconst 1, 1) := by decide +kernel
theorem dX4_settle_16 : decode cX4_settle 16 = .ok (.isub, 1) := by decide +kernel
theorem dX4_settle_17 : decode cX4_settle 17 = .ok (.iaload, 1) := by decide +kernel
theorem dX4_settle_18 : decode cX4_settle 18 = .ok (.invokestatic 181, 3) := by decide +kernel
theorem dX4_settle_21 : decode cX4_settle 21 = .ok (.iload_n 2, 1) := by decide +kernel
theorem dX4_settle_22 : decode cX4_settle 22 = .ok (.if_icmp .lt 31, 3) := by decide +kernel
theorem dX4_settle_25 : decode cX4_settle 25 = .ok (.aload_n 0, 1) := by decide +kernel
theorem dX4_settle_26 : decode cX4_settle 26 = .ok (.dup, 1) := by decide +kernel
theorem dX4_settle_27 : decode cX4_settle 27 = .ok (.getfield 139, 3) := by decide +kernel
theorem dX4_settle_30 : decode cX4_settle 30 = .ok (.iconst 1, 1) := by decide +kernel
theorem dX4_settle_31 : decode cX4_settle 31 = .ok (.isub, 1) := by decide +kernel
theorem dX4_settle_32 : decode cX4_settle 32 = .ok (.putfield 139, 3) := by decide +kernel
theorem dX4_settle_35 : decode cX4_settle 35 = .ok (.aload_n 1, 1) := by decide +kernel
theorem dX4_settle_36 : decode cX4_settle 36 = .ok (.aload_n 0, 1) := by decide +kernel
theorem dX4_settle_37 : decode cX4_settle 37 = .ok (.getfield 26, 3) := by decide +kernel
theorem dX4_settle_40 : decode cX4_settle 40 = .ok (.aload_n 0, 1) := by decide +kernel
theorem dX4_settle_41 : decode cX4_settle 41 = .ok (.getfield 139, 3) := by decide +kernel
theorem dX4_settle_44 : decode cX4_settle 44 = .ok (.iaload, 1) := by decide +kernel
theorem dX4_settle_45 : decode cX4_settle 45 = .ok (.iconst (-1), 1) := by decide +kernel
theorem dX4_settle_46 : decode cX4_settle 46 = .ok (.ixor, 1) := by decide +kernel
theorem dX4_settle_47 : decode cX4_settle 47 = .ok (.invokevirtual 171, 3) := by decide +kernel
theorem dX4_settle_50 : decode cX4_settle 50 = .ok (.goto (-50), 3) := by decide +kernel
theorem dX4_settle_53 : decode cX4_settle 53 = .ok (.return_, 1) := by decide +kernel
theorem dX4_kindAhead_0 : decode cX4_kindAhead 0 = .ok (.aload_n 0, 1) := by decide +kernel
theorem dX4_kindAhead_1 : decode cX4_kindAhead 1 = .ok (.getfield 12, 3) := by decide +kernel
theorem dX4_kindAhead_4 : decode cX4_kindAhead 4 = .ok (.getfield 187, 3) := by decide +kernel
theorem dX4_kindAhead_7 : decode cX4_kindAhead 7 = .ok (.aload_n 0, 1) := by decide +kernel
theorem dX4_kindAhead_8 : decode cX4_kindAhead 8 = .ok (.getfield 36, 3) := by decide +kernel
theorem dX4_kindAhead_11 : decode cX4_kindAhead 11 = .ok (.iaload, 1) := by decide +kernel
theorem dX4_kindAhead_12 : decode cX4_kindAhead 12 = .ok (.ireturn, 1) := by decide +kernel
theorem dX4_intAt_0 : decode cX4_intAt 0 = .ok (.aload_n 0, 1) := by decide +kernel
theorem dX4_intAt_1 : decode cX4_intAt 1 = .ok (.getfield 12, 3) := by decide +kernel
theorem dX4_intAt_4 : decode cX4_intAt 4 = .ok (.getfield 190, 3) := by decide +kernel
theorem dX4_intAt_7 : decode cX4_intAt 7 = .ok (.iload_n 1, 1) := by decide +kernel
theorem dX4_intAt_8 : decode cX4_intAt 8 = .ok (.laload, 1) := by decide +kernel
theorem dX4_intAt_9 : decode cX4_intAt 9 = .ok (.l2i, 1) := by decide +kernel
theorem dX4_intAt_10 : decode cX4_intAt 10 = .ok (.ireturn, 1) := by decide +kernel
theorem dX4_take_0 : decode cX4_take 0 = .ok (.aload_n 0, 1) := by decide +kernel
theorem dX4_take_1 : decode cX4_take 1 = .ok (.getfield 29, 3) := by decide +kernel
theorem dX4_take_4 : decode cX4_take 4 = .ok (.ifCond .eq 4, 3) := by decide +kernel
theorem dX4_take_7 : decode cX4_take 7 = .ok (.return_, 1) := by decide +kernel
theorem dX4_take_8 : decode cX4_take 8 = .ok (.aload_n 0, 1) := by decide +kernel
theorem dX4_take_9 : decode cX4_take 9 = .ok (.invokevirtual 50, 3) := by decide +kernel
theorem dX4_take_12 : decode cX4_take 12 = .ok (.iload_n 1, 1) := by decide +kernel
theorem dX4_take_13 : decode cX4_take 13 = .ok (.if_icmp .eq 11, 3) := by decide +kernel
theorem dX4_take_16 : decode cX4_take 16 = .ok (.aload_n 0, 1) := by decide +kernel
theorem dX4_take_17 : decode cX4_take 17 = .ok (.iconst 1, 1) := by decide +kernel
theorem dX4_take_18 : decode cX4_take 18 = .ok (.invokevirtual 86, 3) := by decide +kernel
theorem dX4_take_21 : decode cX4_take 21 = .ok (.goto 31, 3) := by decide +kernel
theorem dX4_take_24 : decode cX4_take 24 = .ok (.aload_n 0, 1) := by decide +kernel
theorem dX4_take_25 : decode cX4_take 25 = .ok (.getfield 36, 3) := by decide +kernel
theorem dX4_take_28 : decode cX4_take 28 = .ok (.sipush 400, 3) := by decide +kernel
theorem dX4_take_31 : decode cX4_take 31 = .ok (.if_icmp .lt 11, 3) := by decide +kernel
theorem dX4_take_34 : decode cX4_take 34 = .ok (.aload_n 0, 1) := by decide +kernel
theorem dX4_take_35 : decode cX4_take 35 = .ok (.iconst 2, 1) := by decide +kernel
theorem dX4_take_36 : decode cX4_take 36 = .ok (.invokevirtual 86, 3) := by decide +kernel
theorem dX4_take_39 : decode cX4_take 39 = .ok (.goto 13, 3) := by decide +kernel
theorem dX4_take_42 : decode cX4_take 42 = .ok (.aload_n 0, 1) := by decide +kernel
theorem dX4_take_43 : decode cX4_take 43 = .ok (.dup, 1) := by decide +kernel
theorem dX4_take_44 : decode cX4_take 44 = .ok (.getfield 36, 3) := by decide +kernel
theorem dX4_take_47 : decode cX4_take 47 = .ok (.iconst 1, 1) := by decide +kernel
theorem dX4_take_48 : decode cX4_take 48 = .ok (.iadd, 1) := by decide +kernel
theorem dX4_take_49 : decode cX4_take 49 = .ok (.putfield 36, 3) := by decide +kernel
theorem dX4_take_52 : decode cX4_take 52 = .ok (.return_, 1) := by decide +kernel
theorem dX4_needRoom_0 : decode cX4_needRoom 0 = .ok (.iload_n 1, 1) := by decide +kernel
theorem dX4_needRoom_1 : decode cX4_needRoom 1 = .ok (.iload_n 2, 1) := by decide +kernel
theorem dX4_needRoom_2 : decode cX4_needRoom 2 = .ok (.if_icmp .lt 8, 3) := by decide +kernel
theorem dX4_needRoom_5 : decode cX4_needRoom 5 = .ok (.aload_n 0, 1) := by decide +kernel
theorem dX4_needRoom_6 : decode cX4_needRoom 6 = .ok (.iconst 2, 1) := by decide +kernel
theorem dX4_needRoom_7 : decode cX4_needRoom 7 = .ok (.invokevirtual 86, 3) := by decide +kernel
theorem dX4_needRoom_10 : decode cX4_needRoom 10 = .ok (.return_, 1) := by decide +kernel
theorem dX4_fail_0 : decode cX4_fail 0 = .ok (.aload_n 0, 1) := by decide +kernel
theorem dX4_fail_1 : decode cX4_fail 1 = .ok (.getfield 29, 3) := by decide +kernel
theorem dX4_fail_4 : decode cX4_fail 4 = .ok (.ifCond .ne 24, 3) := by decide +kernel
theorem dX4_fail_7 : decode cX4_fail 7 = .ok (.aload_n 0, 1) := by decide +kernel
theorem dX4_fail_8 : decode cX4_fail 8 = .ok (.iload_n 1, 1) := by decide +kernel
theorem dX4_fail_9 : decode cX4_fail 9 = .ok (.putfield 29, 3) := by decide +kernel
theorem dX4_fail_12 : decode cX4_fail 12 = .ok (.aload_n 0, 1) := by decide +kernel
theorem dX4_fail_13 : decode cX4_fail 13 = .ok (.aload_n 0, 1) := by decide +kernel
theorem dX4_fail_14 : decode cX4_fail 14 = .ok (.getfield 12, 3) := by decide +kernel
theorem dX4_fail_17 : decode cX4_fail 17 = .ok (.getfield 193, 3) := by decide +kernel
theorem dX4_fail_20 : decode cX4_fail 20 = .ok (.aload_n 0, 1) := by decide +kernel
theorem dX4_fail_21 : decode cX4_fail 21 = .ok (.getfield 36, 3) := by decide +kernel
theorem dX4_fail_24 : decode cX4_fail 24 = .ok (.iaload, 1) := by decide +kernel
theorem dX4_fail_25 : decode cX4_fail 25 = .ok (.putfield 61, 3) := by decide +kernel
theorem dX4_fail_28 : decode cX4_fail 28 = .ok (.return_, 1) := by decide +kernel
theorem dX4_wrongIf_0 : decode cX4_wrongIf 0 = .ok (.iload_n 1, 1) := by decide +kernel
theorem dX4_wrongIf_1 : decode cX4_wrongIf 1 = .ok (.ifCond .eq 9, 3) := by decide +kernel
theorem dX4_wrongIf_4 : decode cX4_wrongIf 4 = .ok (.aload_n 0, 1) := by decide +kernel
theorem dX4_wrongIf_5 : decode cX4_wrongIf 5 = .ok (.iconst 5, 1) := by decide +kernel
theorem dX4_wrongIf_6 : decode cX4_wrongIf 6 = .ok (.iload_n 2, 1) := by decide +kernel
theorem dX4_wrongIf_7 : decode cX4_wrongIf 7 = .ok (.invokevirtual 196, 3) := by decide +kernel
theorem dX4_wrongIf_10 : decode cX4_wrongIf 10 = .ok (.return_, 1) := by decide +kernel
theorem dX4_failLate_0 : decode cX4_failLate 0 = .ok (.aload_n 0, 1) := by decide +kernel
theorem dX4_failLate_1 : decode cX4_failLate 1 = .ok (.getfield 33, 3) := by decide +kernel
theorem dX4_failLate_4 : decode cX4_failLate 4 = .ok (.ifCond .ne 21, 3) := by decide +kernel
theorem dX4_failLate_7 : decode cX4_failLate 7 = .ok (.aload_n 0, 1) := by decide +kernel
theorem dX4_failLate_8 : decode cX4_failLate 8 = .ok (.iload_n 1, 1) := by decide +kernel
theorem dX4_failLate_9 : decode cX4_failLate 9 = .ok (.putfield 33, 3) := by decide +kernel
theorem dX4_failLate_12 : decode cX4_failLate 12 = .ok (.aload_n 0, 1) := by decide +kernel
theorem dX4_failLate_13 : decode cX4_failLate 13 = .ok (.aload_n 0, 1) := by decide +kernel
theorem dX4_failLate_14 : decode cX4_failLate 14 = .ok (.getfield 12, 3) := by decide +kernel
theorem dX4_failLate_17 : decode cX4_failLate 17 = .ok (.getfield 193, 3) := by decide +kernel
theorem dX4_failLate_20 : decode cX4_failLate 20 = .ok (.iload_n 2, 1) := by decide +kernel
theorem dX4_failLate_21 : decode cX4_failLate 21 = .ok (.iaload, 1) := by decide +kernel
theorem dX4_failLate_22 : decode cX4_failLate 22 = .ok (.putfield 58, 3) := by decide +kernel
theorem dX4_failLate_25 : decode cX4_failLate 25 = .ok (.return_, 1) := by decide +kernel
theorem dX4_tellName_0 : decode cX4_tellName 0 = .ok (.aload_n 0, 1) := by decide +kernel
theorem dX4_tellName_1 : decode cX4_tellName 1 = .ok (.iload_n 1, 1) := by decide +kernel
theorem dX4_tellName_2 : decode cX4_tellName 2 = .ok (.invokevirtual 199, 3) := by decide +kernel
theorem dX4_tellName_5 : decode cX4_tellName 5 = .ok (.iconst (-1), 1) := by decide +kernel
theorem dX4_tellName_6 : decode cX4_tellName 6 = .ok (.if_icmp .eq 12, 3) := by decide +kernel
theorem dX4_tellName_9 : decode cX4_tellName 9 = .ok (.aload_n 0, 1) := by decide +kernel
theorem dX4_tellName_10 : decode cX4_tellName 10 = .ok (.iconst 3, 1) := by decide +kernel
theorem dX4_tellName_11 : decode cX4_tellName 11 = .ok (.iload_n 1, 1) := by decide +kernel
theorem dX4_tellName_12 : decode cX4_tellName 12 = .ok (.invokevirtual 196, 3) := by decide +kernel
theorem dX4_tellName_15 : decode cX4_tellName 15 = .ok (.goto 53, 3) := by decide +kernel
theorem dX4_tellName_18 : decode cX4_tellName 18 = .ok (.aload_n 0, 1) := by decide +kernel
theorem dX4_tellName_19 : decode cX4_tellName 19 = .ok (.getfield 39, 3) := by decide +kernel
theorem dX4_tellName_22 : decode cX4_tellName 22 = .ok (.aload_n 0, 1) := by decide +kernel
theorem dX4_tellName_23 : decode cX4_tellName 23 = .ok (.getfield 18, 3) := by decide +kernel
theorem dX4_tellName_26 : decode cX4_tellName 26 = .ok (.arraylength, 1) := by decide +kernel
theorem dX4_tellName_27 : decode cX4_tellName 27 = .ok (.if_icmp .ge 41, 3) := by decide +kernel
theorem dX4_tellName_30 : decode cX4_tellName 30 = .ok (.aload_n 0, 1) := by decide +kernel
theorem dX4_tellName_31 : decode cX4_tellName 31 = .ok (.getfield 18, 3) := by decide +kernel
theorem dX4_tellName_34 : decode cX4_tellName 34 = .ok (.aload_n 0, 1) := by decide +kernel
theorem dX4_tellName_35 : decode cX4_tellName 35 = .ok (.getfield 39, 3) := by decide +kernel
theorem dX4_tellName_38 : decode cX4_tellName 38 = .ok (.aload_n 0, 1) := by decide +kernel
theorem dX4_tellName_39 : decode cX4_tellName 39 = .ok (.getfield 12, 3) := by decide +kernel
theorem dX4_tellName_42 : decode cX4_tellName 42 = .ok (.getfield 190, 3) := by decide +kernel
theorem dX4_tellName_45 : decode cX4_tellName 45 = .ok (.iload_n 1, 1) := by decide +kernel
theorem dX4_tellName_46 : decode cX4_tellName 46 = .ok (.laload, 1) := by decide +kernel
theorem dX4_tellName_47 : decode cX4_tellName 47 = .ok (.lastore, 1) := by decide +kernel
theorem dX4_tellName_48 : decode cX4_tellName 48 = .ok (.aload_n 0, 1) := by decide +kernel
theorem dX4_tellName_49 : decode cX4_tellName 49 = .ok (.getfield 22, 3) := by decide +kernel
theorem dX4_tellName_52 : decode cX4_tellName 52 = .ok (.aload_n 0, 1) := by decide +kernel
theorem dX4_tellName_53 : decode cX4_tellName 53 = .ok (.getfield 39, 3) := by decide +kernel
theorem dX4_tellName_56 : decode cX4_tellName 56 = .ok (.iload_n 2, 1) := by decide +kernel
theorem dX4_tellName_57 : decode cX4_tellName 57 = .ok (.iastore, 1) := by decide +kernel
theorem dX4_tellName_58 : decode cX4_tellName 58 = .ok (.aload_n 0, 1) := by decide +kernel
theorem dX4_tellName_59 : decode cX4_tellName 59 = .ok (.dup, 1) := by decide +kernel
theorem dX4_tellName_60 : decode cX4_tellName 60 = .ok (.getfield 39, 3) := by decide +kernel
theorem dX4_tellName_63 : decode cX4_tellName 63 = .ok (.iconst 1, 1) := by decide +kernel
theorem dX4_tellName_64 : decode cX4_tellName 64 = .ok (.iadd, 1) := by decide +kernel
theorem dX4_tellName_65 : decode cX4_tellName 65 = .ok (.putfield 39, 3) := by decide +kernel
theorem dX4_tellName_68 : decode cX4_tellName 68 = .ok (.return_, 1) := by decide +kernel
theorem dX4_placeNamed_0 : decode cX4_placeNamed 0 = .ok (.aload_n 0, 1) := by decide +kernel
theorem dX4_placeNamed_1 : decode cX4_placeNamed 1 = .ok (.iload_n 1, 1) := by decide +kernel
theorem dX4_placeNamed_2 : decode cX4_placeNamed 2 = .ok (.invokevirtual 199, 3) := by decide +kernel
theorem dX4_placeNamed_5 : decode cX4_placeNamed 5 = .ok (.istore_n 2, 1) := by decide +kernel
theorem dX4_placeNamed_6 : decode cX4_placeNamed 6 = .ok (.iload_n 2, 1) := by decide +kernel
theorem dX4_placeNamed_7 : decode cX4_placeNamed 7 = .ok (.iconst (-1), 1) := by decide +kernel
theorem dX4_placeNamed_8 : decode cX4_placeNamed 8 = .ok (.if_icmp .ne 7, 3) := by decide +kernel
theorem dX4_placeNamed_11 : decode cX4_placeNamed 11 = .ok (.iconst (-1), 1) := by decide +kernel
theorem dX4_placeNamed_12 : decode cX4_placeNamed 12 = .ok (.goto 9, 3) := by decide +kernel
theorem dX4_placeNamed_15 : decode cX4_placeNamed 15 = .ok (.aload_n 0, 1) := by decide +kernel
theorem dX4_placeNamed_16 : decode cX4_placeNamed 16 = .ok (.getfield 22, 3) := by decide +kernel
theorem dX4_placeNamed_19 : decode cX4_placeNamed 19 = .ok (.iload_n 2, 1) := by decide +kernel
theorem dX4_placeNamed_20 : decode cX4_placeNamed 20 = .ok (.iaload, 1) := by decide +kernel
theorem dX4_placeNamed_21 : decode cX4_placeNamed 21 = .ok (.istore_n 3, 1) := by decide +kernel
theorem dX4_placeNamed_22 : decode cX4_placeNamed 22 = .ok (.iload_n 3, 1) := by decide +kernel
theorem dX4_placeNamed_23 : decode cX4_placeNamed 23 = .ok (.iconst (-1), 1) := by decide +kernel
theorem dX4_placeNamed_24 : decode cX4_placeNamed 24 = .ok (.if_icmp .ne 9, 3) := by decide +kernel
theorem dX4_placeNamed_27 : decode cX4_placeNamed 27 = .ok (.aload_n 0, 1) := by decide +kernel
theorem dX4_placeNamed_28 : decode cX4_placeNamed 28 = .ok (.iconst 4, 1) := by decide +kernel
theorem dX4_placeNamed_29 : decode cX4_placeNamed 29 = .ok (.iload_n 1, 1) := by decide +kernel
theorem dX4_placeNamed_30 : decode cX4_placeNamed 30 = .ok (.invokevirtual 196, 3) := by decide +kernel
theorem dX4_placeNamed_33 : decode cX4_placeNamed 33 = .ok (.iload_n 3, 1) := by decide +kernel
theorem dX4_placeNamed_34 : decode cX4_placeNamed 34 = .ok (.ireturn, 1) := by decide +kernel
theorem dX4_indexOfName_0 : decode cX4_indexOfName 0 = .ok (.iconst 0, 1) := by decide +kernel
theorem dX4_indexOfName_1 : decode cX4_indexOfName 1 = .ok (.istore_n 2, 1) := by decide +kernel
theorem dX4_indexOfName_2 : decode cX4_indexOfName 2 = .ok (.iload_n 2, 1) := by decide +kernel
theorem dX4_indexOfName_3 : decode cX4_indexOfName 3 = .ok (.aload_n 0, 1) := by decide +kernel
theorem dX4_indexOfName_4 : decode cX4_indexOfName 4 = .ok (.getfield 39, 3) := by decide +kernel
theorem dX4_indexOfName_7 : decode cX4_indexOfName 7 = .ok (.if_icmp .ge 30, 3) := by decide +kernel
theorem dX4_indexOfName_10 : decode cX4_indexOfName 10 = .ok (.aload_n 0, 1) := by decide +kernel
theorem dX4_indexOfName_11 : decode cX4_indexOfName 11 = .ok (.getfield 18, 3) := by decide +kernel
theorem dX4_indexOfName_14 : decode cX4_indexOfName 14 = .ok (.iload_n 2, 1) := by decide +kernel
theorem dX4_indexOfName_15 : decode cX4_indexOfName 15 = .ok (.laload, 1) := by decide +kernel
theorem dX4_indexOfName_16 : decode cX4_indexOfName 16 = .ok (.aload_n 0, 1) := by decide +kernel
theorem dX4_indexOfName_17 : decode cX4_indexOfName 17 = .ok (.getfield 12, 3) := by decide +kernel
theorem dX4_indexOfName_20 : decode cX4_indexOfName 20 = .ok (.getfield 190, 3) := by decide +kernel
theorem dX4_indexOfName_23 : decode cX4_indexOfName 23 = .ok (.iload_n 1, 1) := by decide +kernel
theorem dX4_indexOfName_24 : decode cX4_indexOfName 24 = .ok (.laload, 1) := by decide +kernel
theorem dX4_indexOfName_25 : decode cX4_indexOfName 25 = .ok (.lcmp, 1) := by decide +kernel
theorem dX4_indexOfName_26 : decode cX4_indexOfName 26 = .ok (.ifCond .ne 5, 3) := by decide +kernel
theorem dX4_indexOfName_29 : decode cX4_indexOfName 29 = .ok (.iload_n 2, 1) := by decide +kernel
theorem dX4_indexOfName_30 : decode cX4_indexOfName 30 = .ok (.ireturn, 1) := by decide +kernel
theorem dX4_indexOfName_31 : decode cX4_indexOfName 31 = .ok (.iinc 2 1, 3) := by decide +kernel
theorem dX4_indexOfName_34 : decode cX4_indexOfName 34 = .ok (.goto (-32), 3) := by decide +kernel
theorem dX4_indexOfName_37 : decode cX4_indexOfName 37 = .ok (.iconst (-1), 1) := by decide +kernel
theorem dX4_indexOfName_38 : decode cX4_indexOfName 38 = .ok (.ireturn, 1) := by decide +kernel
theorem dX5_init_0 : decode cX5_init 0 = .ok (.aload_n 0, 1) := by decide +kernel
theorem dX5_init_1 : decode cX5_init 1 = .ok (.invokespecial 3, 3) := by decide +kernel
theorem dX5_init_4 : decode cX5_init 4 = .ok (.aload_n 0, 1) := by decide +kernel
theorem dX5_init_5 : decode cX5_init 5 = .ok (.bipush 12, 2) := by decide +kernel
theorem dX5_init_7 : decode cX5_init 7 = .ok (.newarray .int, 2) := by decide +kernel
theorem dX5_init_9 : decode cX5_init 9 = .ok (.putfield 11, 3) := by decide +kernel
theorem dX5_init_12 : decode cX5_init 12 = .ok (.aload_n 0, 1) := by decide +kernel
theorem dX5_init_13 : decode cX5_init 13 = .ok (.bipush 30, 2) := by decide +kernel
theorem dX5_init_15 : decode cX5_init 15 = .ok (.newarray .int, 2) := by decide +kernel
theorem dX5_init_17 : decode cX5_init 17 = .ok (.putfield 15, 3) := by decide +kernel
theorem dX5_init_20 : decode cX5_init 20 = .ok (.aload_n 0, 1) := by decide +kernel
theorem dX5_init_21 : decode cX5_init 21 = .ok (.bipush 30, 2) := by decide +kernel
theorem dX5_init_23 : decode cX5_init 23 = .ok (.newarray .int, 2) := by decide +kernel
theorem dX5_init_25 : decode cX5_init 25 = .ok (.putfield 18, 3) := by decide +kernel
theorem dX5_init_28 : decode cX5_init 28 = .ok (.aload_n 0, 1) := by decide +kernel
theorem dX5_init_29 : decode cX5_init 29 = .ok (.bipush 30, 2) := by decide +kernel
theorem dX5_init_31 : decode cX5_init 31 = .ok (.newarray .int, 2) := by decide +kernel
theorem dX5_init_33 : decode cX5_init 33 = .ok (.putfield 21, 3) := by decide +kernel
theorem dX5_init_36 : decode cX5_init 36 = .ok (.aload_n 0, 1) := by decide +kernel
theorem dX5_init_37 : decode cX5_init 37 = .ok (.bipush 12, 2) := by decide +kernel
theorem dX5_init_39 : decode cX5_init 39 = .ok (.newarray .int, 2) := by decide +kernel
theorem dX5_init_41 : decode cX5_init 41 = .ok (.putfield 24, 3) := by decide +kernel
theorem dX5_init_44 : decode cX5_init 44 = .ok (.return_, 1) := by decide +kernel
theorem dX5_add_0 : decode cX5_add 0 = .ok (.aload_n 0, 1) := by decide +kernel
theorem dX5_add_1 : decode cX5_add 1 = .ok (.getfield 27, 3) := by decide +kernel
theorem dX5_add_4 : decode cX5_add 4 = .ok (.bipush 30, 2) := by decide +kernel
theorem dX5_add_6 : decode cX5_add 6 = .ok (.if_icmp .lt 5, 3) := by decide +kernel
theorem dX5_add_9 : decode cX5_add 9 = .ok (.iconst (-1), 1) := by decide +kernel
theorem dX5_add_10 : decode cX5_add 10 = .ok (.ireturn, 1) := by decide +kernel
theorem dX5_add_11 : decode cX5_add 11 = .ok (.aload_n 0, 1) := by decide +kernel
theorem dX5_add_12 : decode cX5_add 12 = .ok (.getfield 24, 3) := by decide +kernel
theorem dX5_add_15 : decode cX5_add 15 = .ok (.iload_n 1, 1) := by decide +kernel
theorem dX5_add_16 : decode cX5_add 16 = .ok (.dup2, 1) := by decide +kernel
theorem dX5_add_17 : decode cX5_add 17 = .ok (.iaload, 1) := by decide +kernel
theorem dX5_add_18 : decode cX5_add 18 = .ok (.iload_n 3, 1) := by decide +kernel
theorem dX5_add_19 : decode cX5_add 19 = .ok (.iadd, 1) := by decide +kernel
theorem dX5_add_20 : decode cX5_add 20 = .ok (.iastore, 1) := by decide +kernel
theorem dX5_add_21 : decode cX5_add 21 = .ok (.aload_n 0, 1) := by decide +kernel
theorem dX5_add_22 : decode cX5_add 22 = .ok (.getfield 15, 3) := by decide +kernel
theorem dX5_add_25 : decode cX5_add 25 = .ok (.aload_n 0, 1) := by decide +kernel
theorem dX5_add_26 : decode cX5_add 26 = .ok (.getfield 27, 3) := by decide +kernel
theorem dX5_add_29 : decode cX5_add 29 = .ok (.iload_n 1, 1) := by decide +kernel
theorem dX5_add_30 : decode cX5_add 30 = .ok (.iastore, 1) := by decide +kernel
theorem dX5_add_31 : decode cX5_add 31 = .ok (.aload_n 0, 1) := by decide +kernel
theorem dX5_add_32 : decode cX5_add 32 = .ok (.getfield 18, 3) := by decide +kernel
theorem dX5_add_35 : decode cX5_add 35 = .ok (.aload_n 0, 1) := by decide +kernel
theorem dX5_add_36 : decode cX5_add 36 = .ok (.getfield 27, 3) := by decide +kernel
theorem dX5_add_39 : decode cX5_add 39 = .ok (.iload_n 2, 1) := by decide +kernel
theorem dX5_add_40 : decode cX5_add 40 = .ok (.iastore, 1) := by decide +kernel
theorem dX5_add_41 : decode cX5_add 41 = .ok (.aload_n 0, 1) := by decide +kernel
theorem dX5_add_42 : decode cX5_add 42 = .ok (.getfield 21, 3) := by decide +kernel
theorem dX5_add_45 : decode cX5_add 45 = .ok (.aload_n 0, 1) := by decide +kernel
theorem dX5_add_46 : decode cX5_add 46 = .ok (.getfield 27, 3) := by decide +kernel
theorem dX5_add_49 : decode cX5_add 49 = .ok (.aload_n 0, 1) := by decide +kernel
theorem dX5_add_50 : decode cX5_add 50 = .ok (.getfield 24, 3) := by decide +kernel
theorem dX5_add_53 : decode cX5_add 53 = .ok (.iload_n 1, 1) := by decide +kernel
theorem dX5_add_54 : decode cX5_add 54 = .ok (.iaload, 1) := by decide +kernel
theorem dX5_add_55 : decode cX5_add 55 = .ok (.iastore, 1) := by decide +kernel
theorem dX5_add_56 : decode cX5_add 56 = .ok (.aload_n 0, 1) := by decide +kernel
theorem dX5_add_57 : decode cX5_add 57 = .ok (.dup, 1) := by decide +kernel
theorem dX5_add_58 : decode cX5_add 58 = .ok (.getfield 27, 3) := by decide +kernel
theorem dX5_add_61 : decode cX5_add 61 = .ok (.iconst 1, 1) := by decide +kernel
theorem dX5_add_62 : decode cX5_add 62 = .ok (.iadd, 1) := by decide +kernel
theorem dX5_add_63 : decode cX5_add 63 = .ok (.putfield 27, 3) := by decide +kernel
theorem dX5_add_66 : decode cX5_add 66 = .ok (.aload_n 0, 1) := by decide +kernel
theorem dX5_add_67 : decode cX5_add 67 = .ok (.getfield 27, 3) := by decide +kernel
theorem dX5_add_70 : decode cX5_add 70 = .ok (.ireturn, 1) := by decide +kernel
theorem dX5_spread_0 : decode cX5_spread 0 = .ok (.aload_n 0, 1) := by decide +kernel
theorem dX5_spread_1 : decode cX5_spread 1 = .ok (.getfield 11, 3) := by decide +kernel
theorem dX5_spread_4 : decode cX5_spread 4 = .ok (.ldc 31, 2) := by decide +kernel
theorem dX5_spread_6 : decode cX5_spread 6 = .ok (.invokestatic 32, 3) := by decide +kernel
theorem dX5_spread_9 : decode cX5_spread 9 = .ok (.aload_n 0, 1) := by decide +kernel
theorem dX5_spread_10 : decode cX5_spread 10 = .ok (.getfield 11, 3) := by decide +kernel
theorem dX5_spread_13 : decode cX5_spread 13 = .ok (.iload_n 1, 1) := by decide +kernel
theorem dX5_spread_14 : decode cX5_spread 14 = .ok (.iconst 0, 1) := by decide +kernel
theorem dX5_spread_15 : decode cX5_spread 15 = .ok (.iastore, 1) := by decide +kernel
theorem dX5_spread_16 : decode cX5_spread 16 = .ok (.iconst 1, 1) := by decide +kernel
theorem dX5_spread_17 : decode cX5_spread 17 = .ok (.istore_n 2, 1) := by decide +kernel
theorem dX5_spread_18 : decode cX5_spread 18 = .ok (.iconst 0, 1) := by decide +kernel
theorem dX5_spread_19 : decode cX5_spread 19 = .ok (.istore_n 3, 1) := by decide +kernel
theorem dX5_spread_20 : decode cX5_spread 20 = .ok (.iload_n 3, 1) := by decide +kernel
theorem dX5_spread_21 : decode cX5_spread 21 = .ok (.bipush 12, 2) := by decide +kernel
theorem dX5_spread_23 : decode cX5_spread 23 = .ok (.if_icmp .ge 88, 3) := by decide +kernel
theorem dX5_spread_26 : decode cX5_spread 26 = .ok (.iload_n 2, 1) := by decide +kernel
theorem dX5_spread_27 : decode cX5_spread 27 = .ok (.ifCond .eq 84, 3) := by decide +kernel
theorem dX5_spread_30 : decode cX5_spread 30 = .ok (.iconst 0, 1) := by decide +kernel
theorem dX5_spread_31 : decode cX5_spread 31 = .ok (.istore_n 2, 1) := by decide +kernel
theorem dX5_spread_32 : decode cX5_spread 32 = .ok (.iconst 0, 1) := by decide +kernel
theorem dX5_spread_33 : decode cX5_spread 33 = .ok (.istore 4, 2) := by decide +kernel
theorem dX5_spread_35 : decode cX5_spread 35 = .ok (.iload 4, 2) := by decide +kernel
theorem dX5_spread_37 : decode cX5_spread 37 = .ok (.aload_n 0, 1) := by decide +kernel
theorem dX5_spread_38 : decode cX5_spread 38 = .ok (.getfield 27, 3) := by decide +kernel
theorem dX5_spread_41 : decode cX5_spread 41 = .ok (.if_icmp .ge 64, 3) := by decide +kernel
theorem dX5_spread_44 : decode cX5_spread 44 = .ok (.aload_n 0, 1) := by decide +kernel
theorem dX5_spread_45 : decode cX5_spread 45 = .ok (.getfield 11, 3) := by decide +kernel
theorem dX5_spread_48 : decode cX5_spread 48 = .ok (.aload_n 0, 1) := by decide +kernel
theorem dX5_spread_49 : decode cX5_spread 49 = .ok (.getfield 15, 3) := by decide +kernel
theorem dX5_spread_52 : decode cX5_spread 52 = .ok (.iload 4, 2) := by decide +kernel
theorem dX5_spread_54 : decode cX5_spread 54 = .ok (.iaload, 1) := by decide +kernel
theorem dX5_spread_55 : decode cX5_spread 55 = .ok (.iaload, 1) := by decide +kernel
theorem dX5_spread_56 : decode cX5_spread 56 = .ok (.aload_n 0, 1) := by decide +kernel
theorem dX5_spread_57 : decode cX5_spread 57 = .ok (.getfield 21, 3) := by decide +kernel
theorem dX5_spread_60 : decode cX5_spread 60 = .ok (.iload 4, 2) := by decide +kernel
theorem dX5_spread_62 : decode cX5_spread 62 = .ok (.iaload, 1) := by decide +kernel
theorem dX5_spread_63 : decode cX5_spread 63 = .ok (.iadd, 1) := by decide +kernel
theorem dX5_spread_64 : decode cX5_spread 64 = .ok (.istore 5, 2) := by decide +kernel
theorem dX5_spread_66 : decode cX5_spread 66 = .ok (.iload 5, 2) := by decide +kernel
theorem dX5_spread_68 : decode cX5_spread 68 = .ok (.aload_n 0, 1) := by decide +kernel
theorem dX5_spread_69 : decode cX5_spread 69 = .ok (.getfield 11, 3) := by decide +kernel
theorem dX5_spread_72 : decode cX5_spread 72 = .ok (.aload_n 0, 1) := by decide +kernel
theorem dX5_spread_73 : decode cX5_spread 73 = .ok (.getfield 18, 3) := by decide +kernel
theorem dX5_spread_76 : decode cX5_spread 76 = .ok (.iload 4, 2) := by decide +kernel
theorem dX5_spread_78 : decode cX5_spread 78 = .ok (.iaload, 1) := by decide +kernel
theorem dX5_spread_79 : decode cX5_spread 79 = .ok (.iaload, 1) := by decide +kernel
theorem dX5_spread_80 : decode cX5_spread 80 = .ok (.if_icmp .ge 19, 3) := by decide +kernel
theorem dX5_spread_83 : decode cX5_spread 83 = .ok (.aload_n 0, 1) := by decide +kernel
theorem dX5_spread_84 : decode cX5_spread 84 = .ok (.getfield 11, 3) := by decide +kernel
theorem dX5_spread_87 : decode cX5_spread 87 = .ok (.aload_n 0, 1) := by decide +kernel
theorem dX5_spread_88 : decode cX5_spread 88 = .ok (.getfield 18, 3) := by decide +kernel
theorem dX5_spread_91 : decode cX5_spread 91 = .ok (.iload 4, 2) := by decide +kernel
theorem dX5_spread_93 : decode cX5_spread 93 = .ok (.iaload, 1) := by decide +kernel
theorem dX5_spread_94 : decode cX5_spread 94 = .ok (.iload 5, 2) := by decide +kernel
theorem dX5_spread_96 : decode cX5_spread 96 = .ok (.iastore, 1) := by decide +kernel
theorem dX5_spread_97 : decode cX5_spread 97 = .ok (.iconst 1, 1) := by decide +kernel
theorem dX5_spread_98 : decode cX5_spread 98 = .ok (.istore_n 2, 1) := by decide +kernel
theorem dX5_spread_99 : decode cX5_spread 99 = .ok (.iinc 4 1, 3) := by decide +kernel
theorem dX5_spread_102 : decode cX5_spread 102 = .ok (.goto (-67), 3) := by decide +kernel
theorem dX5_spread_105 : decode cX5_spread 105 = .ok (.iinc 3 1, 3) := by decide +kernel
theorem dX5_spread_108 : decode cX5_spread 108 = .ok (.goto (-88), 3) := by decide +kernel
theorem dX5_spread_111 : decode cX5_spread 111 = .ok (.return_, 1) := by decide +kernel
theorem dX5_bestFirst_0 : decode cX5_bestFirst 0 = .ok (.iconst (-1), 1) := by decide +kernel
theorem dX5_bestFirst_1 : decode cX5_bestFirst 1 = .ok (.istore_n 1, 1) := by decide +kernel
theorem dX5_bestFirst_2 : decode cX5_bestFirst 2 = .ok (.iconst 0, 1) := by decide +kernel
theorem dX5_bestFirst_3 : decode cX5_bestFirst 3 = .ok (.istore_n 2, 1) := by decide +kernel
theorem dX5_bestFirst_4 : decode cX5_bestFirst 4 = .ok (.iconst 0, 1) := by decide +kernel
theorem dX5_bestFirst_5 : decode cX5_bestFirst 5 = .ok (.istore_n 3, 1) := by decide +kernel
theorem dX5_bestFirst_6 : decode cX5_bestFirst 6 = .ok (.iconst 0, 1) := by decide +kernel
theorem dX5_bestFirst_7 : decode cX5_bestFirst 7 = .ok (.istore 4, 2) := by decide +kernel
theorem dX5_bestFirst_9 : decode cX5_bestFirst 9 = .ok (.iload 4, 2) := by decide +kernel
theorem dX5_bestFirst_11 : decode cX5_bestFirst 11 = .ok (.bipush 12, 2) := by decide +kernel
theorem dX5_bestFirst_13 : decode cX5_bestFirst 13 = .ok (.if_icmp .ge 93, 3) := by decide +kernel
theorem dX5_bestFirst_16 : decode cX5_bestFirst 16 = .ok (.aload_n 0, 1) := by decide +kernel
theorem dX5_bestFirst_17 : decode cX5_bestFirst 17 = .ok (.iload 4, 2) := by decide +kernel
theorem dX5_bestFirst_19 : decode cX5_bestFirst 19 = .ok (.invokevirtual 38, 3) := by decide +kernel
theorem dX5_bestFirst_22 : decode cX5_bestFirst 22 = .ok (.iconst 0, 1) := by decide +kernel
theorem dX5_bestFirst_23 : decode cX5_bestFirst 23 = .ok (.istore 5, 2) := by decide +kernel
theorem dX5_bestFirst_25 : decode cX5_bestFirst 25 = .ok (.iconst 0, 1) := by decide +kernel
theorem dX5_bestFirst_26 : decode cX5_bestFirst 26 = .ok (.istore 6, 2) := by decide +kernel
theorem dX5_bestFirst_28 : decode cX5_bestFirst 28 = .ok (.iconst 0, 1) := by decide +kernel
theorem dX5_bestFirst_29 : decode cX5_bestFirst 29 = .ok (.istore 7, 2) := by decide +kernel
theorem dX5_bestFirst_31 : decode cX5_bestFirst 31 = .ok (.iload 7, 2) := by decide +kernel
theorem dX5_bestFirst_33 : decode cX5_bestFirst 33 = .ok (.bipush 12, 2) := by decide +kernel
theorem dX5_bestFirst_35 : decode cX5_bestFirst 35 = .ok (.if_icmp .ge 38, 3) := by decide +kernel
theorem dX5_bestFirst_38 : decode cX5_bestFirst 38 = .ok (.aload_n 0, 1) := by decide +kernel
theorem dX5_bestFirst_39 : decode cX5_bestFirst 39 = .ok (.getfield 11, 3) := by decide +kernel
theorem dX5_bestFirst_42 : decode cX5_bestFirst 42 = .ok (.iload 7, 2) := by decide +kernel
theorem dX5_bestFirst_44 : decode cX5_bestFirst 44 = .ok (.iaload, 1) := by decide +kernel
theorem dX5_bestFirst_45 : decode cX5_bestFirst 45 = .ok (.ldc 31, 2) := by decide +kernel
theorem dX5_bestFirst_47 : decode cX5_bestFirst 47 = .ok (.if_icmp .ge 20, 3) := by decide +kernel
theorem dX5_bestFirst_50 : decode cX5_bestFirst 50 = .ok (.iinc 5 1, 3) := by decide +kernel
theorem dX5_bestFirst_53 : decode cX5_bestFirst 53 = .ok (.iload 6, 2) := by decide +kernel
theorem dX5_bestFirst_55 : decode cX5_bestFirst 55 = .ok (.aload_n 0, 1) := by decide +kernel
theorem dX5_bestFirst_56 : decode cX5_bestFirst 56 = .ok (.getfield 11, 3) := by decide +kernel
theorem dX5_bestFirst_59 : decode cX5_bestFirst 59 = .ok (.iload 7, 2) := by decide +kernel
theorem dX5_bestFirst_61 : decode cX5_bestFirst 61 = .ok (.iaload, 1) := by decide +kernel
theorem dX5_bestFirst_62 : decode cX5_bestFirst 62 = .ok (.invokestatic 42, 3) := by decide +kernel
theorem dX5_bestFirst_65 : decode cX5_bestFirst 65 = .ok (.istore 6, 2) := by decide +kernel
theorem dX5_bestFirst_67 : decode cX5_bestFirst 67 = .ok (.iinc 7 1, 3) := by decide +kernel
theorem dX5_bestFirst_70 : decode cX5_bestFirst 70 = .ok (.goto (-39), 3) := by decide +kernel
theorem dX5_bestFirst_73 : decode cX5_bestFirst 73 = .ok (.iload 5, 2) := by decide +kernel
theorem dX5_bestFirst_75 : decode cX5_bestFirst 75 = .ok (.iload_n 2, 1) := by decide +kernel
theorem dX5_bestFirst_76 : decode cX5_bestFirst 76 = .ok (.if_icmp .gt 15, 3) := by decide +kernel
theorem dX5_bestFirst_79 : decode cX5_bestFirst 79 = .ok (.iload 5, 2) := by decide +kernel
theorem dX5_bestFirst_81 : decode cX5_bestFirst 81 = .ok (.iload_n 2, 1) := by decide +kernel
theorem dX5_bestFirst_82 : decode cX5_bestFirst 82 = .ok (.if_icmp .ne 18, 3) := by decide +kernel
theorem dX5_bestFirst_85 : decode cX5_bestFirst 85 = .ok (.iload 6, 2) := by decide +kernel
theorem dX5_bestFirst_87 : decode cX5_bestFirst 87 = .ok (.iload_n 3, 1) := by decide +kernel
theorem dX5_bestFirst_88 : decode cX5_bestFirst 88 = .ok (.if_icmp .ge 12, 3) := by decide +kernel
theorem dX5_bestFirst_91 : decode cX5_bestFirst 91 = .ok (.iload 4, 2) := by decide +kernel
theorem dX5_bestFirst_93 : decode cX5_bestFirst 93 = .ok (.istore_n 1, 1) := by decide +kernel
theorem dX5_bestFirst_94 : decode cX5_bestFirst 94 = .ok (.iload 5, 2) := by decide +kernel
theorem dX5_bestFirst_96 : decode cX5_bestFirst 96 = .ok (.istore_n 2, 1) := by decide +kernel
theorem dX5_bestFirst_97 : decode cX5_bestFirst 97 = .ok (.iload 6, 2) := by decide +kernel
theorem dX5_bestFirst_99 : decode cX5_bestFirst 99 = .ok (.istore_n 3, 1) := by decide +kernel
theorem dX5_bestFirst_100 : decode cX5_bestFirst 100 = .ok (.iinc 4 1, 3) := by decide +kernel
theorem dX5_bestFirst_103 : decode cX5_bestFirst 103 = .ok (.goto (-94), 3) := by decide +kernel
theorem dX5_bestFirst_106 : decode cX5_bestFirst 106 = .ok (.iload_n 1, 1) := by decide +kernel
theorem dX5_bestFirst_107 : decode cX5_bestFirst 107 = .ok (.ireturn, 1) := by decide +kernel
theorem dX6_init_0 : decode cX6_init 0 = .ok (.aload_n 0, 1) := by decide +kernel
theorem dX6_init_1 : decode cX6_init 1 = .ok (.invokespecial 3, 3) := by decide +kernel
theorem dX6_init_4 : decode cX6_init 4 = .ok (.aload_n 0, 1) := by decide +kernel
theorem dX6_init_5 : decode cX6_init 5 = .ok (.sipush 2000, 3) := by decide +kernel
theorem dX6_init_8 : decode cX6_init 8 = .ok (.newarray .int, 2) := by decide +kernel
theorem dX6_init_10 : decode cX6_init 10 = .ok (.putfield 11, 3) := by decide +kernel
theorem dX6_init_13 : decode cX6_init 13 = .ok (.aload_n 0, 1) := by decide +kernel
theorem dX6_init_14 : decode cX6_init 14 = .ok (.sipush 401, 3) := by decide +kernel
theorem dX6_init_17 : decode cX6_init 17 = .ok (.newarray .int, 2) := by decide +kernel
theorem dX6_init_19 : decode cX6_init 19 = .ok (.putfield 15, 3) := by decide +kernel
theorem dX6_init_22 : decode cX6_init 22 = .ok (.aload_n 0, 1) := by decide +kernel
theorem dX6_init_23 : decode cX6_init 23 = .ok (.sipush 401, 3) := by decide +kernel
theorem dX6_init_26 : decode cX6_init 26 = .ok (.newarray .int, 2) := by decide +kernel
theorem dX6_init_28 : decode cX6_init 28 = .ok (.putfield 18, 3) := by decide +kernel
theorem dX6_init_31 : decode cX6_init 31 = .ok (.aload_n 0, 1) := by decide +kernel
theorem dX6_init_32 : decode cX6_init 32 = .ok (.sipush 401, 3) := by decide +kernel
theorem dX6_init_35 : decode cX6_init 35 = .ok (.newarray .long, 2) := by decide +kernel
theorem dX6_init_37 : decode cX6_init 37 = .ok (.putfield 21, 3) := by decide +kernel
theorem dX6_init_40 : decode cX6_init 40 = .ok (.aload_n 0, 1) := by decide +kernel
theorem dX6_init_41 : decode cX6_init 41 = .ok (.bipush 22, 2) := by decide +kernel
theorem dX6_init_43 : decode cX6_init 43 = .ok (.newarray .long, 2) := by decide +kernel
theorem dX6_init_45 : decode cX6_init 45 = .ok (.putfield 25, 3) := by decide +kernel
theorem dX6_init_48 : decode cX6_init 48 = .ok (.iconst 0, 1) := by decide +kernel
theorem dX6_init_49 : decode cX6_init 49 = .ok (.istore_n 1, 1) := by decide +kernel
theorem dX6_init_50 : decode cX6_init 50 = .ok (.iload_n 1, 1) := by decide +kernel
theorem dX6_init_51 : decode cX6_init 51 = .ok (.aload_n 0, 1) := by decide +kernel
theorem dX6_init_52 : decode cX6_init 52 = .ok (.getfield 25, 3) := by decide +kernel
theorem dX6_init_55 : decode cX6_init 55 = .ok (.arraylength, 1) := by decide +kernel
theorem dX6_init_56 : decode cX6_init 56 = .ok (.if_icmp .ge 66, 3) := by decide +kernel
theorem dX6_init_59 : decode cX6_init 59 = .ok (.iconst 0, 1) := by decide +kernel
theorem dX6_init_60 : decode cX6_init 60 = .ok (.istore_n 2, 1) := by decide +kernel
theorem dX6_init_61 : decode cX6_init 61 = .ok (.iload_n 2, 1) := by decide +kernel
theorem dX6_init_62 : decode cX6_init 62 = .ok (.bipush 8, 2) := by decide +kernel
theorem dX6_init_64 : decode cX6_init 64 = .ok (.if_icmp .ge 52, 3) := by decide +kernel
theorem dX6_init_67 : decode cX6_init 67 = .ok (.ldc 28, 2) := by decide +kernel
theorem dX6_init_69 : decode cX6_init 69 = .ok (.iload_n 1, 1) := by decide +kernel
theorem dX6_init_70 : decode cX6_init 70 = .ok (.bipush 8, 2) := by decide +kernel
theorem dX6_init_72 : decode cX6_init 72 = .ok (.imul, 1) := by decide +kernel
theorem dX6_init_73 : decode cX6_init 73 = .ok (.iload_n 2, 1) := by decide +kernel
theorem dX6_init_74 : decode cX6_init 74 = .ok (.iadd, 1) := by decide +kernel
theorem dX6_init_75 : decode cX6_init 75 = .ok (.invokevirtual 30, 3) := by decide +kernel
theorem dX6_init_78 : decode cX6_init 78 = .ok (.istore_n 3, 1) := by decide +kernel
theorem dX6_init_79 : decode cX6_init 79 = .ok (.aload_n 0, 1) := by decide +kernel
theorem dX6_init_80 : decode cX6_init 80 = .ok (.getfield 25, 3) := by decide +kernel
theorem dX6_init_83 : decode cX6_init 83 = .ok (.iload_n 1, 1) := by decide +kernel
theorem dX6_init_84 : decode cX6_init 84 = .ok (.iload_n 3, 1) := by decide +kernel
theorem dX6_init_85 : decode cX6_init 85 = .ok (.bipush 32, 2) := by decide +kernel
theorem dX6_init_87 : decode cX6_init 87 = .ok (.if_icmp .ne 12, 3) := by decide +kernel
theorem dX6_init_90 : decode cX6_init 90 = .ok (.aload_n 0, 1) := by decide +kernel
theorem dX6_init_91 : decode cX6_init 91 = .ok (.getfield 25, 3) := by decide +kernel
theorem dX6_init_94 : decode cX6_init 94 = .ok (.iload_n 1, 1) := by decide +kernel
theorem dX6_init_95 : decode cX6_init 95 = .ok (.laload, 1) := by decide +kernel
theorem dX6_init_96 : decode cX6_init 96 = .ok (.goto 13, 3) := by decide +kernel
theorem dX6_init_99 : decode cX6_init 99 = .ok (.aload_n 0, 1) := by decide +kernel
theorem dX6_init_100 : decode cX6_init 100 = .ok (.getfield 25, 3) := by decide +kernel
theorem dX6_init_103 : decode cX6_init 103 = .ok (.iload_n 1, 1) := by decide +kernel
theorem dX6_init_104 : decode cX6_init 104 = .ok (.laload, 1) := by decide +kernel
theorem dX6_init_105 : decode cX6_init 105 = .ok (.iload_n 3, 1) := by decide +kernel
theorem dX6_init_106 : decode cX6_init 106 = .ok (.invokestatic 36, 3) := by decide +kernel
theorem dX6_init_109 : decode cX6_init 109 = .ok (.lastore, 1) := by decide +kernel
theorem dX6_init_110 : decode cX6_init 110 = .ok (.iinc 2 1, 3) := by decide +kernel
theorem dX6_init_113 : decode cX6_init 113 = .ok (.goto (-52), 3) := by decide +kernel
theorem dX6_init_116 : decode cX6_init 116 = .ok (.iinc 1 1, 3) := by decide +kernel
theorem dX6_init_119 : decode cX6_init 119 = .ok (.goto (-69), 3) := by decide +kernel
theorem dX6_init_122 : decode cX6_init 122 = .ok (.return_, 1) := by decide +kernel
theorem dX6_append_0 : decode cX6_append 0 = .ok (.bipush 24, 2) := by decide +kernel
theorem dX6_append_2 : decode cX6_append 2 = .ok (.istore_n 2, 1) := by decide +kernel
theorem dX6_append_3 : decode cX6_append 3 = .ok (.iload_n 2, 1) := by decide +kernel
theorem dX6_append_4 : decode cX6_append 4 = .ok (.ifCond .lt 45, 3) := by decide +kernel
theorem dX6_append_7 : decode cX6_append 7 = .ok (.aload_n 0, 1) := by decide +kernel
theorem dX6_append_8 : decode cX6_append 8 = .ok (.getfield 40, 3) := by decide +kernel
theorem dX6_append_11 : decode cX6_append 11 = .ok (.sipush 2000, 3) := by decide +kernel
theorem dX6_append_14 : decode cX6_append 14 = .ok (.if_icmp .ge 35, 3) := by decide +kernel
theorem dX6_append_17 : decode cX6_append 17 = .ok (.aload_n 0, 1) := by decide +kernel
theorem dX6_append_18 : decode cX6_append 18 = .ok (.getfield 11, 3) := by decide +kernel
theorem dX6_append_21 : decode cX6_append 21 = .ok (.aload_n 0, 1) := by decide +kernel
theorem dX6_append_22 : decode cX6_append 22 = .ok (.getfield 40, 3) := by decide +kernel
theorem dX6_append_25 : decode cX6_append 25 = .ok (.iload_n 1, 1) := by decide +kernel
theorem dX6_append_26 : decode cX6_append 26 = .ok (.iload_n 2, 1) := by decide +kernel
theorem dX6_append_27 : decode cX6_append 27 = .ok (.ishr, 1) := by decide +kernel
theorem dX6_append_28 : decode cX6_append 28 = .ok (.sipush 255, 3) := by decide +kernel
theorem dX6_append_31 : decode cX6_append 31 = .ok (.iand, 1) := by decide +kernel
theorem dX6_append_32 : decode cX6_append 32 = .ok (.iastore, 1) := by decide +kernel
theorem dX6_append_33 : decode cX6_append 33 = .ok (.aload_n 0, 1) := by decide +kernel
theorem dX6_append_34 : decode cX6_append 34 = .ok (.dup, 1) := by decide +kernel
theorem dX6_append_35 : decode cX6_append 35 = .ok (.getfield 40, 3) := by decide +kernel
theorem dX6_append_38 : decode cX6_append 38 = .ok (.iconst 1, 1) := by decide +kernel
theorem dX6_append_39 : decode cX6_append 39 = .ok (.iadd, 1) := by decide +kernel
theorem dX6_append_40 : decode cX6_append 40 = .ok (.putfield 40, 3) := by decide +kernel
theorem dX6_append_43 : decode cX6_append 43 = .ok (.iinc 2 (-8), 3) := by decide +kernel
theorem dX6_append_46 : decode cX6_append 46 = .ok (.goto (-43), 3) := by decide +kernel
theorem dX6_append_49 : decode cX6_append 49 = .ok (.return_, 1) := by decide +kernel
theorem dX6_scan_0 : decode cX6_scan 0 = .ok (.iconst 0, 1) := by decide +kernel
theorem dX6_scan_1 : decode cX6_scan 1 = .ok (.istore_n 1, 1) := by decide +kernel
theorem dX6_scan_2 : decode cX6_scan 2 = .ok (.iconst 0, 1) := by decide +kernel
theorem dX6_scan_3 : decode cX6_scan 3 = .ok (.istore_n 2, 1) := by decide +kernel
theorem dX6_scan_4 : decode cX6_scan 4 = .ok (.iload_n 2, 1) := by decide +kernel
theorem dX6_scan_5 : decode cX6_scan 5 = .ok (.aload_n 0, 1) := by decide +kernel
theorem dX6_scan_6 : decode cX6_scan 6 = .ok (.getfield 15, 3) := by decide +kernel
theorem dX6_scan_9 : decode cX6_scan 9 = .ok (.arraylength, 1) := by decide +kernel
theorem dX6_scan_10 : decode cX6_scan 10 = .ok (.if_icmp .ge 52, 3) := by decide +kernel
theorem dX6_scan_13 : decode cX6_scan 13 = .ok (.aload_n 0, 1) := by decide +kernel
theorem dX6_scan_14 : decode cX6_scan 14 = .ok (.iload_n 1, 1) := by decide +kernel
theorem dX6_scan_15 : decode cX6_scan 15 = .ok (.invokevirtual 44, 3) := by decide +kernel
theorem dX6_scan_18 : decode cX6_scan 18 = .ok (.istore_n 1, 1) := by decide +kernel
theorem dX6_scan_19 : decode cX6_scan 19 = .ok (.aload_n 0, 1) := by decide +kernel
theorem dX6_scan_20 : decode cX6_scan 20 = .ok (.getfield 18, 3) := by decide +kernel
theorem dX6_scan_23 : decode cX6_scan 23 = .ok (.iload_n 2, 1) := by decide +kernel
theorem dX6_scan_24 : decode cX6_scan 24 = .ok (.iload_n 1, 1) := by decide +kernel
theorem dX6_scan_25 : decode cX6_scan 25 = .ok (.iastore, 1) := by decide +kernel
theorem dX6_scan_26 : decode cX6_scan 26 = .ok (.aload_n 0, 1) := by decide +kernel
theorem dX6_scan_27 : decode cX6_scan 27 = .ok (.iload_n 2, 1) := by decide +kernel
theorem dX6_scan_28 : decode cX6_scan 28 = .ok (.iload_n 1, 1) := by decide +kernel
theorem dX6_scan_29 : decode cX6_scan 29 = .ok (.invokevirtual 48, 3) := by decide +kernel
theorem dX6_scan_32 : decode cX6_scan 32 = .ok (.istore_n 1, 1) := by decide +kernel
theorem dX6_scan_33 : decode cX6_scan 33 = .ok (.aload_n 0, 1) := by decide +kernel
theorem dX6_scan_34 : decode cX6_scan 34 = .ok (.getfield 15, 3) := by decide +kernel
theorem dX6_scan_37 : decode cX6_scan 37 = .ok (.iload_n 2, 1) := by decide +kernel
theorem dX6_scan_38 : decode cX6_scan 38 = .ok (.iaload, 1) := by decide +kernel
theorem dX6_scan_39 : decode cX6_scan 39 = .ok (.bipush 34, 2) := by decide +kernel
theorem dX6_scan_41 : decode cX6_scan 41 = .ok (.if_icmp .eq 14, 3) := by decide +kernel
theorem dX6_scan_44 : decode cX6_scan 44 = .ok (.aload_n 0, 1) := by decide +kernel
theorem dX6_scan_45 : decode cX6_scan 45 = .ok (.getfield 15, 3) := by decide +kernel
theorem dX6_scan_48 : decode cX6_scan 48 = .ok (.iload_n 2, 1) := by decide +kernel
theorem dX6_scan_49 : decode cX6_scan 49 = .ok (.iaload, 1) := by decide +kernel
theorem dX6_scan_50 : decode cX6_scan 50 = .ok (.bipush 35, 2) := by decide +kernel
theorem dX6_scan_52 : decode cX6_scan 52 = .ok (.if_icmp .ne 4, 3) := by decide +kernel
theorem dX6_scan_55 : decode cX6_scan 55 = .ok (.return_, 1) := by decide +kernel
theorem dX6_scan_56 : decode cX6_scan 56 = .ok (.iinc 2 1, 3) := by decide +kernel
theorem dX6_scan_59 : decode cX6_scan 59 = .ok (.goto (-55), 3) := by decide +kernel
theorem dX6_scan_62 : decode cX6_scan 62 = .ok (.return_, 1) := by decide +kernel
theorem dX6_byteAt_0 : decode cX6_byteAt 0 = .ok (.iload_n 1, 1) := by decide +kernel
theorem dX6_byteAt_1 : decode cX6_byteAt 1 = .ok (.ifCond .lt 20, 3) := by decide +kernel
theorem dX6_byteAt_4 : decode cX6_byteAt 4 = .ok (.iload_n 1, 1) := by decide +kernel
theorem dX6_byteAt_5 : decode cX6_byteAt 5 = .ok (.aload_n 0, 1) := by decide +kernel
theorem dX6_byteAt_6 : decode cX6_byteAt 6 = .ok (.getfield 40, 3) := by decide +kernel
theorem dX6_byteAt_9 : decode cX6_byteAt 9 = .ok (.if_icmp .ge 12, 3) := by decide +kernel
theorem dX6_byteAt_12 : decode cX6_byteAt 12 = .ok (.aload_n 0, 1) := by decide +kernel
theorem dX6_byteAt_13 : decode cX6_byteAt 13 = .ok (.getfield 11, 3) := by decide +kernel
theorem dX6_byteAt_16 : decode cX6_byteAt 16 = .ok (.iload_n 1, 1) := by decide +kernel
theorem dX6_byteAt_17 : decode cX6_byteAt 17 = .ok (.iaload, 1) := by decide +kernel
theorem dX6_byteAt_18 : decode cX6_byteAt 18 = .ok (.goto 4, 3) := by decide +kernel
theorem dX6_byteAt_21 : decode cX6_byteAt 21 = .ok (.iconst (-1), 1) := by decide +kernel
theorem dX6_byteAt_22 : decode cX6_byteAt 22 = .ok (.ireturn, 1) := by decide +kernel
theorem dX6_skipBlanks_0 : decode cX6_skipBlanks 0 = .ok (.iload_n 1, 1) := by decide +kernel
theorem dX6_skipBlanks_1 : decode cX6_skipBlanks 1 = .ok (.istore_n 2, 1) := by decide +kernel
theorem dX6_skipBlanks_2 : decode cX6_skipBlanks 2 = .ok (.iload_n 2, 1) := by decide +kernel
theorem dX6_skipBlanks_3 : decode cX6_skipBlanks 3 = .ok (.aload_n 0, 1) := by decide +kernel
theorem dX6_skipBlanks_4 : decode cX6_skipBlanks 4 = .ok (.getfield 40, 3) := by decide +kernel
theorem dX6_skipBlanks_7 : decode cX6_skipBlanks 7 = .ok (.if_icmp .ge 20, 3) := by decide +kernel
theorem dX6_skipBlanks_10 : decode cX6_skipBlanks 10 = .ok (.aload_n 0, 1) := by decide +kernel
theorem dX6_skipBlanks_11 : decode cX6_skipBlanks 11 = .ok (.iload_n 2, 1) := by decide +kernel
theorem dX6_skipBlanks_12 : decode cX6_skipBlanks 12 = .ok (.invokevirtual 52, 3) := by decide +kernel
theorem dX6_skipBlanks_15 : decode cX6_skipBlanks 15 = .ok (.invokestatic 55, 3) := by decide +kernel
theorem dX6_skipBlanks_18 : decode cX6_skipBlanks 18 = .ok (.ifCond .eq 9, 3) := by decide +kernel
theorem dX6_skipBlanks_21 : decode cX6_skipBlanks 21 = .ok (.iinc 2 1, 3) := by decide +kernel
theorem dX6_skipBlanks_24 : decode cX6_skipBlanks 24 = .ok (.goto (-22), 3) := by decide +kernel
theorem dX6_skipBlanks_27 : decode cX6_skipBlanks 27 = .ok (.iload_n 2, 1) := by decide +kernel
theorem dX6_skipBlanks_28 : decode cX6_skipBlanks 28 = .ok (.ireturn, 1) := by decide +kernel
theorem dX6_scanToken_0 : decode cX6_scanToken 0 = .ok (.aload_n 0, 1) := by decide +kernel
theorem dX6_scanToken_1 : decode cX6_scanToken 1 = .ok (.iload_n 2, 1) := by decide +kernel
theorem dX6_scanToken_2 : decode cX6_scanToken 2 = .ok (.invokevirtual 52, 3) := by decide +kernel
theorem dX6_scanToken_5 : decode cX6_scanToken 5 = .ok (.istore_n 3, 1) := by decide +kernel
theorem dX6_scanToken_6 : decode cX6_scanToken 6 = .ok (.aload_n 0, 1) := by decide +kernel
theorem dX6_scanToken_7 : decode cX6_scanToken 7 = .ok (.getfield 21, 3) := by decide +kernel
theorem dX6_scanToken_10 : decode cX6_scanToken 10 = .ok (.iload_n 1, 1) := by decide +kernel
theorem dX6_scanToken_11 : decode cX6_scanToken 11 = .ok (.lconst 0, 1) := by decide +kernel
theorem dX6_scanToken_12 : decode cX6_scanToken 12 = .ok (.lastore, 1) := by decide +kernel
theorem dX6_scanToken_13 : decode cX6_scanToken 13 = .ok (.iload_n 3, 1) := by decide +kernel
theorem dX6_scanToken_14 : decode cX6_scanToken 14 = .ok (.iconst (-1), 1) := by decide +kernel
theorem dX6_scanToken_15 : decode cX6_scanToken 15 = .ok (.if_icmp .ne 13, 3) := by decide +kernel
theorem dX6_scanToken_18 : decode cX6_scanToken 18 = .ok (.aload_n 0, 1) := by decide +kernel
theorem dX6_scanToken_19 : decode cX6_scanToken 19 = .ok (.getfield 15, 3) := by decide +kernel
theorem dX6_scanToken_22 : decode cX6_scanToken 22 = .ok (.iload_n 1, 1) := by decide +kernel
theorem dX6_scanToken_23 : decode cX6_scanToken 23 = .ok (.bipush 34, 2) := by decide +kernel
theorem dX6_scanToken_25 : decode cX6_scanToken 25 = .ok (.iastore, 1) := by decide +kernel
theorem dX6_scanToken_26 : decode cX6_scanToken 26 = .ok (.iload_n 2, 1) := by decide +kernel
theorem dX6_scanToken_27 : decode cX6_scanToken 27 = .ok (.ireturn, 1) := by decide +kernel
theorem dX6_scanToken_28 : decode cX6_scanToken 28 = .ok (.iload_n 3, 1) := by decide +kernel
theorem dX6_scanToken_29 : decode cX6_scanToken 29 = .ok (.invokestatic 59, 3) := by decide +kernel
theorem dX6_scanToken_32 : decode cX6_scanToken 32 = .ok (.ifCond .eq 10, 3) := by decide +kernel
theorem dX6_scanToken_35 : decode cX6_scanToken 35 = .ok (.aload_n 0, 1) := by decide +kernel
theorem dX6_scanToken_36 : decode cX6_scanToken 36 = .ok (.iload_n 1, 1) := by decide +kernel
theorem dX6_scanToken_37 : decode cX6_scanToken 37 = .ok (.iload_n 2, 1) := by decide +kernel
theorem dX6_scanToken_38 : decode cX6_scanToken 38 = .ok (.invokevirtual 62, 3) := by decide +kernel
theorem dX6_scanToken_41 : decode cX6_scanToken 41 = .ok (.ireturn, 1) := by decide +kernel
theorem dX6_scanToken_42 : decode cX6_scanToken 42 = .ok (.iload_n 3, 1) := by decide +kernel
theorem dX6_scanToken_43 : decode cX6_scanToken 43 = .ok (.invokestatic 65, 3) := by decide +kernel
theorem dX6_scanToken_46 : decode cX6_scanToken 46 = .ok (.ifCond .eq 10, 3) := by decide +kernel
theorem dX6_scanToken_49 : decode cX6_scanToken 49 = .ok (.aload_n 0, 1) := by decide +kernel
theorem dX6_scanToken_50 : decode cX6_scanToken 50 = .ok (.iload_n 1, 1) := by decide +kernel
theorem dX6_scanToken_51 : decode cX6_scanToken 51 = .ok (.iload_n 2, 1) := by decide +kernel
theorem dX6_scanToken_52 : decode cX6_scanToken 52 = .ok (.invokevirtual 68, 3) := by decide +kernel
theorem dX6_scanToken_55 : decode cX6_scanToken 55 = .ok (.ireturn, 1) := by decide +kernel
theorem dX6_scanToken_56 : decode cX6_scanToken 56 = .ok (.aload_n 0, 1) := by decide +kernel
theorem dX6_scanToken_57 : decode cX6_scanToken 57 = .ok (.getfield 15, 3) := by decide +kernel
theorem dX6_scanToken_60 : decode cX6_scanToken 60 = .ok (.iload_n 1, 1) := by decide +kernel
theorem dX6_scanToken_61 : decode cX6_scanToken 61 = .ok (.iload_n 3, 1) := by decide +kernel
theorem dX6_scanToken_62 : decode cX6_scanToken 62 = .ok (.aload_n 0, 1) := by decide +kernel
theorem dX6_scanToken_63 : decode cX6_scanToken 63 = .ok (.iload_n 2, 1) := by decide +kernel
theorem dX6_scanToken_64 : decode cX6_scanToken 64 = .ok (.iconst 1, 1) := by decide +kernel
theorem dX6_scanToken_65 : decode cX6_scanToken 65 = .ok (.iadd, 1) := by decide +kernel
theorem dX6_scanToken_66 : decode cX6_scanToken 66 = .ok (.invokevirtual 52, 3) := by decide +kernel
theorem dX6_scanToken_69 : decode cX6_scanToken 69 = .ok (.invokestatic 71, 3) := by decide +kernel
theorem dX6_scanToken_72 : decode cX6_scanToken 72 = .ok (.iastore, 1) := by decide +kernel
theorem dX6_scanToken_73 : decode cX6_scanToken 73 = .ok (.aload_n 0, 1) := by decide +kernel
theorem dX6_scanToken_74 : decode cX6_scanToken 74 = .ok (.getfield 15, 3) := by decide +kernel
theorem dX6_scanToken_77 : decode cX6_scanToken 77 = .ok (.iload_n 1, 1) := by decide +kernel
theorem dX6_scanToken_78 : decode cX6_scanToken 78 = .ok (.iaload, 1) := by decide +kernel
theorem dX6_scanToken_79 : decode cX6_scanToken 79 = .ok (.bipush 28, 2) := by decide +kernel
theorem dX6_scanToken_81 : decode cX6_scanToken 81 = .ok (.if_icmp .eq 25, 3) := by decide +kernel
theorem dX6_scanToken_84 : decode cX6_scanToken 84 = .ok (.aload_n 0, 1) := by decide +kernel
theorem dX6_scanToken_85 : decode cX6_scanToken 85 = .ok (.getfield 15, 3) := by decide +kernel
theorem dX6_scanToken_88 : decode cX6_scanToken 88 = .ok (.iload_n 1, 1) := by decide +kernel
theorem dX6_scanToken_89 : decode cX6_scanToken 89 = .ok (.iaload, 1) := by decide +kernel
theorem dX6_scanToken_90 : decode cX6_scanToken 90 = .ok (.bipush 29, 2) := by decide +kernel
theorem dX6_scanToken_92 : decode cX6_scanToken 92 = .ok (.if_icmp .eq 14, 3) := by decide +kernel
theorem dX6_scanToken_95 : decode cX6_scanToken 95 = .ok (.aload_n 0, 1) := by decide +kernel
theorem dX6_scanToken_96 : decode cX6_scanToken 96 = .ok (.getfield 15, 3) := by decide +kernel
theorem dX6_scanToken_99 : decode cX6_scanToken 99 = .ok (.iload_n 1, 1) := by decide +kernel
theorem dX6_scanToken_100 : decode cX6_scanToken 100 = .ok (.iaload, 1) := by decide +kernel
theorem dX6_scanToken_101 : decode cX6_scanToken 101 = .ok (.bipush 31, 2) := by decide +kernel
theorem dX6_scanToken_103 : decode cX6_scanToken 103 = .ok (.if_icmp .ne 9, 3) := by decide +kernel
theorem dX6_scanToken_106 : decode cX6_scanToken 106 = .ok (.iload_n 2, 1) := by decide +kernel
theorem dX6_scanToken_107 : decode cX6_scanToken 107 = .ok (.iconst 2, 1) := by decide +kernel
theorem dX6_scanToken_108 : decode cX6_scanToken 108 = .ok (.iadd, 1) := by decide +kernel
theorem dX6_scanToken_109 : decode cX6_scanToken 109 = .ok (.goto 6, 3) := by decide +kernel
theorem dX6_scanToken_112 : decode cX6_scanToken 112 = .ok (.iload_n 2, 1) := by decide +kernel
theorem dX6_scanToken_113 : decode cX6_scanToken 113 = .ok (.iconst 1, 1) := by decide +kernel
theorem dX6_scanToken_114 : decode cX6_scanToken 114 = .ok (.iadd, 1) := by decide +kernel
theorem dX6_scanToken_115 : decode cX6_scanToken 115 = .ok (.ireturn, 1) := by decide +kernel
theorem dX6_scanWord_0 : decode cX6_scanWord 0 = .ok (.iload_n 2, 1) := by decide +kernel
theorem dX6_scanWord_1 : decode cX6_scanWord 1 = .ok (.istore_n 3, 1) := by decide +kernel
theorem dX6_scanWord_2 : decode cX6_scanWord 2 = .ok (.iload_n 3, 1) := by decide +kernel
theorem dX6_scanWord_3 : decode cX6_scanWord 3 = .ok (.aload_n 0, 1) := by decide +kernel
theorem dX6_scanWord_4 : decode cX6_scanWord 4 = .ok (.getfield 40, 3) := by decide +kernel
theorem dX6_scanWord_7 : decode cX6_scanWord 7 = .ok (.if_icmp .ge 40, 3) := by decide +kernel
theorem dX6_scanWord_10 : decode cX6_scanWord 10 = .ok (.aload_n 0, 1) := by decide +kernel
theorem dX6_scanWord_11 : decode cX6_scanWord 11 = .ok (.iload_n 3, 1) := by decide +kernel
theorem dX6_scanWord_12 : decode cX6_scanWord 12 = .ok (.invokevirtual 52, 3) := by decide +kernel
theorem dX6_scanWord_15 : decode cX6_scanWord 15 = .ok (.invokestatic 59, 3) := by decide +kernel
theorem dX6_scanWord_18 : decode cX6_scanWord 18 = .ok (.ifCond .eq 29, 3) := by decide +kernel
theorem dX6_scanWord_21 : decode cX6_scanWord 21 = .ok (.aload_n 0, 1) := by decide +kernel
theorem dX6_scanWord_22 : decode cX6_scanWord 22 = .ok (.getfield 21, 3) := by decide +kernel
theorem dX6_scanWord_25 : decode cX6_scanWord 25 = .ok (.iload_n 1, 1) := by decide +kernel
theorem dX6_scanWord_26 : decode cX6_scanWord 26 = .ok (.aload_n 0, 1) := by decide +kernel
theorem dX6_scanWord_27 : decode cX6_scanWord 27 = .ok (.getfield 21, 3) := by decide +kernel
theorem dX6_scanWord_30 : decode cX6_scanWord 30 = .ok (.iload_n 1, 1) := by decide +kernel
theorem dX6_scanWord_31 : decode cX6_scanWord 31 = .ok (.laload, 1) := by decide +kernel
theorem dX6_scanWord_32 : decode cX6_scanWord 32 = .ok (.aload_n 0, 1) := by decide +kernel
theorem dX6_scanWord_33 : decode cX6_scanWord 33 = .ok (.iload_n 3, 1) := by decide +kernel
theorem dX6_scanWord_34 : decode cX6_scanWord 34 = .ok (.invokevirtual 52, 3) := by decide +kernel
theorem dX6_scanWord_37 : decode cX6_scanWord 37 = .ok (.invokestatic 36, 3) := by decide +kernel
theorem dX6_scanWord_40 : decode cX6_scanWord 40 = .ok (.lastore, 1) := by decide +kernel
theorem dX6_scanWord_41 : decode cX6_scanWord 41 = .ok (.iinc 3 1, 3) := by decide +kernel
theorem dX6_scanWord_44 : decode cX6_scanWord 44 = .ok (.goto (-42), 3) := by decide +kernel
theorem dX6_scanWord_47 : decode cX6_scanWord 47 = .ok (.aload_n 0, 1) := by decide +kernel
theorem dX6_scanWord_48 : decode cX6_scanWord 48 = .ok (.getfield 15, 3) := by decide +kernel
theorem dX6_scanWord_51 : decode cX6_scanWord 51 = .ok (.iload_n 1, 1) := by decide +kernel
theorem dX6_scanWord_52 : decode cX6_scanWord 52 = .ok (.iload_n 3, 1) := by decide +kernel
theorem dX6_scanWord_53 : decode cX6_scanWord 53 = .ok (.iload_n 2, 1) := by decide +kernel
theorem dX6_scanWord_54 : decode cX6_scanWord 54 = .ok (.isub, 1) := by decide +kernel
theorem dX6_scanWord_55 : decode cX6_scanWord 55 = .ok (.bipush 8, 2) := by decide +kernel
theorem dX6_scanWord_57 : decode cX6_scanWord 57 = .ok (.if_icmp .le 8, 3) := by decide +kernel
theorem dX6_scanWord_60 : decode cX6_scanWord 60 = .ok (.bipush 35, 2) := by decide +kernel
theorem dX6_scanWord_62 : decode cX6_scanWord 62 = .ok (.goto 13, 3) := by decide +kernel
theorem dX6_scanWord_65 : decode cX6_scanWord 65 = .ok (.aload_n 0, 1) := by decide +kernel
theorem dX6_scanWord_66 : decode cX6_scanWord 66 = .ok (.aload_n 0, 1) := by decide +kernel
theorem dX6_scanWord_67 : decode cX6_scanWord 67 = .ok (.getfield 21, 3) := by decide +kernel
theorem dX6_scanWord_70 : decode cX6_scanWord 70 = .ok (.iload_n 1, 1) := by decide +kernel
theorem dX6_scanWord_71 : decode cX6_scanWord 71 = .ok (.laload, 1) := by decide +kernel
theorem dX6_scanWord_72 : decode cX6_scanWord 72 = .ok (.invokevirtual 74, 3) := by decide +kernel
theorem dX6_scanWord_75 : decode cX6_scanWord 75 = .ok (.iastore, 1) := by decide +kernel
theorem dX6_scanWord_76 : decode cX6_scanWord 76 = .ok (.iload_n 3, 1) := by decide +kernel
theorem dX6_scanWord_77 : decode cX6_scanWord 77 = .ok (.ireturn, 1) := by decide +kernel
theorem dX6_scanInt_0 : decode cX6_scanInt 0 = .ok (.iload_n 2, 1) := by decide +kernel
theorem dX6_scanInt_1 : decode cX6_scanInt 1 = .ok (.istore_n 3, 1) := by decide +kernel
theorem dX6_scanInt_2 : decode cX6_scanInt 2 = .ok (.iload_n 3, 1) := by decide +kernel
theorem dX6_scanInt_3 : decode cX6_scanInt 3 = .ok (.aload_n 0, 1) := by decide +kernel
theorem dX6_scanInt_4 : decode cX6_scanInt 4 = .ok (.getfield 40, 3) := by decide +kernel
theorem dX6_scanInt_7 : decode cX6_scanInt 7 = .ok (.if_icmp .ge 47, 3) := by decide +kernel
theorem dX6_scanInt_10 : decode cX6_scanInt 10 = .ok (.aload_n 0, 1) := by decide +kernel
theorem dX6_scanInt_11 : decode cX6_scanInt 11 = .ok (.iload_n 3, 1) := by decide +kernel
theorem dX6_scanInt_12 : decode cX6_scanInt 12 = .ok (.invokevirtual 52, 3) := by decide +kernel
theorem dX6_scanInt_15 : decode cX6_scanInt 15 = .ok (.invokestatic 65, 3) := by decide +kernel
theorem dX6_scanInt_18 : decode cX6_scanInt 18 = .ok (.ifCond .eq 36, 3) := by decide +kernel
theorem dX6_scanInt_21 : decode cX6_scanInt 21 = .ok (.aload_n 0, 1) := by decide +kernel
theorem dX6_scanInt_22 : decode cX6_scanInt 22 = .ok (.getfield 21, 3) := by decide +kernel
theorem dX6_scanInt_25 : decode cX6_scanInt 25 = .ok (.iload_n 1, 1) := by decide +kernel
theorem dX6_scanInt_26 : decode cX6_scanInt 26 = .ok (.aload_n 0, 1) := by decide +kernel
theorem dX6_scanInt_27 : decode cX6_scanInt 27 = .ok (.getfield 21, 3) := by decide +kernel
theorem dX6_scanInt_30 : decode cX6_scanInt 30 = .ok (.iload_n 1, 1) := by decide +kernel
theorem dX6_scanInt_31 : decode cX6_scanInt 31 = .ok (.laload, 1) := by decide +kernel
theorem dX6_scanInt_32 : decode cX6_scanInt 32 = .ok (.ldc2_w 78, 3) := by decide +kernel
theorem dX6_scanInt_35 : decode cX6_scanInt 35 = .ok (.lmul, 1) := by decide +kernel
theorem dX6_scanInt_36 : decode cX6_scanInt 36 = .ok (.aload_n 0, 1) := by decide +kernel
theorem dX6_scanInt_37 : decode cX6_scanInt 37 = .ok (.iload_n 3, 1) := by decide +kernel
theorem dX6_scanInt_38 : decode cX6_scanInt 38 = .ok (.invokevirtual 52, 3) := by decide +kernel
theorem dX6_scanInt_41 : decode cX6_scanInt 41 = .ok (.i2l, 1) := by decide +kernel
theorem dX6_scanInt_42 : decode cX6_scanInt 42 = .ok (.ladd, 1) := by decide +kernel
theorem dX6_scanInt_43 : decode cX6_scanInt 43 = .ok (.ldc2_w 80, 3) := by decide +kernel
theorem dX6_scanInt_46 : decode cX6_scanInt 46 = .ok (.lsub, 1) := by decide +kernel
theorem dX6_scanInt_47 : decode cX6_scanInt 47 = .ok (.lastore, 1) := by decide +kernel
theorem dX6_scanInt_48 : decode cX6_scanInt 48 = .ok (.iinc 3 1, 3) := by decide +kernel
theorem dX6_scanInt_51 : decode cX6_scanInt 51 = .ok (.goto (-49), 3) := by decide +kernel
theorem dX6_scanInt_54 : decode cX6_scanInt 54 = .ok (.aload_n 0, 1) := by decide +kernel
theorem dX6_scanInt_55 : decode cX6_scanInt 55 = .ok (.getfield 15, 3) := by decide +kernel
theorem dX6_scanInt_58 : decode cX6_scanInt 58 = .ok (.iload_n 1, 1) := by decide +kernel
theorem dX6_scanInt_59 : decode cX6_scanInt 59 = .ok (.iload_n 3, 1) := by decide +kernel
theorem dX6_scanInt_60 : decode cX6_scanInt 60 = .ok (.iload_n 2, 1) := by decide +kernel
theorem dX6_scanInt_61 : decode cX6_scanInt 61 = .ok (.isub, 1) := by decide +kernel
theorem dX6_scanInt_62 : decode cX6_scanInt 62 = .ok (.iconst 4, 1) := by decide +kernel
theorem dX6_scanInt_63 : decode cX6_scanInt 63 = .ok (.if_icmp .le 8, 3) := by decide +kernel
theorem dX6_scanInt_66 : decode cX6_scanInt 66 = .ok (.bipush 35, 2) := by decide +kernel
theorem dX6_scanInt_68 : decode cX6_scanInt 68 = .ok (.goto 5, 3) := by decide +kernel
theorem dX6_scanInt_71 : decode cX6_scanInt 71 = .ok (.bipush 23, 2) := by decide +kernel
theorem dX6_scanInt_73 : decode cX6_scanInt 73 = .ok (.iastore, 1) := by decide +kernel
theorem dX6_scanInt_74 : decode cX6_scanInt 74 = .ok (.iload_n 3, 1) := by decide +kernel
theorem dX6_scanInt_75 : decode cX6_scanInt 75 = .ok (.ireturn, 1) := by decide +kernel
theorem dX6_kindOfWord_0 : decode cX6_kindOfWord 0 = .ok (.iconst 0, 1) := by decide +kernel
theorem dX6_kindOfWord_1 : decode cX6_kindOfWord 1 = .ok (.istore_n 3, 1) := by decide +kernel
theorem dX6_kindOfWord_2 : decode cX6_kindOfWord 2 = .ok (.iload_n 3, 1) := by decide +kernel
theorem dX6_kindOfWord_3 : decode cX6_kindOfWord 3 = .ok (.aload_n 0, 1) := by decide +kernel
theorem dX6_kindOfWord_4 : decode cX6_kindOfWord 4 = .ok (.getfield 25, 3) := by decide +kernel
theorem dX6_kindOfWord_7 : decode cX6_kindOfWord 7 = .ok (.arraylength, 1) := by decide +kernel
theorem dX6_kindOfWord_8 : decode cX6_kindOfWord 8 = .ok (.if_icmp .ge 22, 3) := by decide +kernel
theorem dX6_kindOfWord_11 : decode cX6_kindOfWord 11 = .ok (.aload_n 0, 1) := by decide +kernel
theorem dX6_kindOfWord_12 : decode cX6_kindOfWord 12 = .ok (.getfield 25, 3) := by decide +kernel
theorem dX6_kindOfWord_15 : decode cX6_kindOfWord 15 = .ok (.iload_n 3, 1) := by decide +kernel
theorem dX6_kindOfWord_16 : decode cX6_kindOfWord 16 = .ok (.laload, 1) := by decide +kernel
theorem dX6_kindOfWord_17 : decode cX6_kindOfWord 17 = .ok (.lload_n 1, 1) := by decide +kernel
theorem dX6_kindOfWord_18 : decode cX6_kindOfWord 18 = .ok (.lcmp, 1) := by decide +kernel
theorem dX6_kindOfWord_19 : decode cX6_kindOfWord 19 = .ok (.ifCond .ne 5, 3) := by decide +kernel
theorem dX6_kindOfWord_22 : decode cX6_kindOfWord 22 = .ok (.iload_n 3, 1) := by decide +kernel
theorem dX6_kindOfWord_23 : decode cX6_kindOfWord 23 = .ok (.ireturn, 1) := by decide +kernel
theorem dX6_kindOfWord_24 : decode cX6_kindOfWord 24 = .ok (.iinc 3 1, 3) := by decide +kernel
theorem dX6_kindOfWord_27 : decode cX6_kindOfWord 27 = .ok (.goto (-25), 3) := by decide +kernel
theorem dX6_kindOfWord_30 : decode cX6_kindOfWord 30 = .ok (.bipush 22, 2) := by decide +kernel
theorem dX6_kindOfWord_32 : decode cX6_kindOfWord 32 = .ok (.ireturn, 1) := by decide +kernel
theorem dX6_kindOfSign_0 : decode cX6_kindOfSign 0 = .ok (.iload_n 0, 1) := by decide +kernel
theorem dX6_kindOfSign_1 : decode cX6_kindOfSign 1 = .ok (.tableswitch 191 33 61 #[177, 191, 191, 191, 191, 191, 191, 143, 146, 140, 134, 191, 137, 191, 191, 191, 191, 191, 191, 191, 191, 191, 191, 191, 191, 191, 131, 149, 163], 131) := by decide +kernel
theorem dX6_kindOfSign_132 : decode cX6_kindOfSign 132 = .ok (.bipush 24, 2) := by decide +kernel
theorem dX6_kindOfSign_134 : decode cX6_kindOfSign 134 = .ok (.ireturn, 1) := by decide +kernel
theorem dX6_kindOfSign_135 : decode cX6_kindOfSign 135 = .ok (.bipush 25, 2) := by decide +kernel
theorem dX6_kindOfSign_137 : decode cX6_kindOfSign 137 = .ok (.ireturn, 1) := by decide +kernel
theorem dX6_kindOfSign_138 : decode cX6_kindOfSign 138 = .ok (.bipush 26, 2) := by decide +kernel
theorem dX6_kindOfSign_140 : decode cX6_kindOfSign 140 = .ok (.ireturn, 1) := by decide +kernel
theorem dX6_kindOfSign_141 : decode cX6_kindOfSign 141 = .ok (.bipush 27, 2) := by decide +kernel
theorem dX6_kindOfSign_143 : decode cX6_kindOfSign 143 = .ok (.ireturn, 1) := by decide +kernel
theorem dX6_kindOfSign_144 : decode cX6_kindOfSign 144 = .ok (.bipush 32, 2) := by decide +kernel
theorem dX6_kindOfSign_146 : decode cX6_kindOfSign 146 = .ok (.ireturn, 1) := by decide +kernel
theorem dX6_kindOfSign_147 : decode cX6_kindOfSign 147 = .ok (.bipush 33, 2) := by decide +kernel
theorem dX6_kindOfSign_149 : decode cX6_kindOfSign 149 = .ok (.ireturn, 1) := by decide +kernel
theorem dX6_kindOfSign_150 : decode cX6_kindOfSign 150 = .ok (.iload_n 1, 1) := by decide +kernel
theorem dX6_kindOfSign_151 : decode cX6_kindOfSign 151 = .ok (.bipush 61, 2) := by decide +kernel
theorem dX6_kindOfSign_153 : decode cX6_kindOfSign 153 = .ok (.if_icmp .ne 8, 3) := by decide +kernel
theorem dX6_kindOfSign_156 : decode cX6_kindOfSign 156 = .ok (.bipush 31, 2) := by decide +kernel
theorem dX6_kindOfSign_158 : decode cX6_kindOfSign 158 = .ok (.goto 5, 3) := by decide +kernel
theorem dX6_kindOfSign_161 : decode cX6_kindOfSign 161 = .ok (.bipush 30, 2) := by decide +kernel
theorem dX6_kindOfSign_163 : decode cX6_kindOfSign 163 = .ok (.ireturn, 1) := by decide +kernel
theorem dX6_kindOfSign_164 : decode cX6_kindOfSign 164 = .ok (.iload_n 1, 1) := by decide +kernel
theorem dX6_kindOfSign_165 : decode cX6_kindOfSign 165 = .ok (.bipush 61, 2) := by decide +kernel
theorem dX6_kindOfSign_167 : decode cX6_kindOfSign 167 = .ok (.if_icmp .ne 8, 3) := by decide +kernel
theorem dX6_kindOfSign_170 : decode cX6_kindOfSign 170 = .ok (.bipush 28, 2) := by decide +kernel
theorem dX6_kindOfSign_172 : decode cX6_kindOfSign 172 = .ok (.goto 5, 3) := by decide +kernel
theorem dX6_kindOfSign_175 : decode cX6_kindOfSign 175 = .ok (.bipush 35, 2) := by decide +kernel
theorem dX6_kindOfSign_177 : decode cX6_kindOfSign 177 = .ok (.ireturn, 1) := by decide +kernel
theorem dX6_kindOfSign_178 : decode cX6_kindOfSign 178 = .ok (.iload_n 1, 1) := by decide +kernel
theorem dX6_kindOfSign_179 : decode cX6_kindOfSign 179 = .ok (.bipush 61, 2) := by decide +kernel
theorem dX6_kindOfSign_181 : decode cX6_kindOfSign 181 = .ok (.if_icmp .ne 8, 3) := by decide +kernel
theorem dX6_kindOfSign_184 : decode cX6_kindOfSign 184 = .ok (.bipush 29, 2) := by decide +kernel
theorem dX6_kindOfSign_186 : decode cX6_kindOfSign 186 = .ok (.goto 5, 3) := by decide +kernel
theorem dX6_kindOfSign_189 : decode cX6_kindOfSign 189 = .ok (.bipush 35, 2) := by decide +kernel
theorem dX6_kindOfSign_191 : decode cX6_kindOfSign 191 = .ok (.ireturn, 1) := by decide +kernel
theorem dX6_kindOfSign_192 : decode cX6_kindOfSign 192 = .ok (.bipush 35, 2) := by decide +kernel
theorem dX6_kindOfSign_194 : decode cX6_kindOfSign 194 = .ok (.ireturn, 1) := by decide +kernel
theorem dX6_withLetter_0 : decode cX6_withLetter 0 = .ok (.lload_n 0, 1) := by decide +kernel
theorem dX6_withLetter_1 : decode cX6_withLetter 1 = .ok (.ldc2_w 82, 3) := by decide +kernel
theorem dX6_withLetter_4 : decode cX6_withLetter 4 = .ok (.lmul, 1) := by decide +kernel
theorem dX6_withLetter_5 : decode cX6_withLetter 5 = .ok (.iload_n 2, 1) := by decide +kernel
theorem dX6_withLetter_6 : decode cX6_withLetter 6 = .ok (.i2l, 1) := by decide +kernel
theorem dX6_withLetter_7 : decode cX6_withLetter 7 = .ok (.ladd, 1) := by decide +kernel
theorem dX6_withLetter_8 : decode cX6_withLetter 8 = .ok (.ldc2_w 84, 3) := by decide +kernel
theorem dX6_withLetter_11 : decode cX6_withLetter 11 = .ok (.lsub, 1) := by decide +kernel
theorem dX6_withLetter_12 : decode cX6_withLetter 12 = .ok (.lconst 1, 1) := by decide +kernel
theorem dX6_withLetter_13 : decode cX6_withLetter 13 = .ok (.ladd, 1) := by decide +kernel
theorem dX6_withLetter_14 : decode cX6_withLetter 14 = .ok (.lreturn, 1) := by decide +kernel
theorem dX6_isBlank_0 : decode cX6_isBlank 0 = .ok (.iload_n 0, 1) := by decide +kernel
theorem dX6_isBlank_1 : decode cX6_isBlank 1 = .ok (.bipush 9, 2) := by decide +kernel
theorem dX6_isBlank_3 : decode cX6_isBlank 3 = .ok (.if_icmp .eq 21, 3) := by decide +kernel
theorem dX6_isBlank_6 : decode cX6_isBlank 6 = .ok (.iload_n 0, 1) := by decide +kernel
theorem dX6_isBlank_7 : decode cX6_isBlank 7 = .ok (.bipush 10, 2) := by decide +kernel
theorem dX6_isBlank_9 : decode cX6_isBlank 9 = .ok (.if_icmp .eq 15, 3) := by decide +kernel
theorem dX6_isBlank_12 : decode cX6_isBlank 12 = .ok (.iload_n 0, 1) := by decide +kernel
theorem dX6_isBlank_13 : decode cX6_isBlank 13 = .ok (.bipush 13, 2) := by decide +kernel
theorem dX6_isBlank_15 : decode cX6_isBlank 15 = .ok (.if_icmp .eq 9, 3) := by decide +kernel
theorem dX6_isBlank_18 : decode cX6_isBlank 18 = .ok (.iload_n 0, 1) := by decide +kernel
theorem dX6_isBlank_19 : decode cX6_isBlank 19 = .ok (.bipush 32, 2) := by decide +kernel
theorem dX6_isBlank_21 : decode cX6_isBlank 21 = .ok (.if_icmp .ne 7, 3) := by decide +kernel
theorem dX6_isBlank_24 : decode cX6_isBlank 24 = .ok (.iconst 1, 1) := by decide +kernel
theorem dX6_isBlank_25 : decode cX6_isBlank 25 = .ok (.goto 4, 3) := by decide +kernel
theorem dX6_isBlank_28 : decode cX6_isBlank 28 = .ok (.iconst 0, 1) := by decide +kernel
theorem dX6_isBlank_29 : decode cX6_isBlank 29 = .ok (.ireturn, 1) := by decide +kernel
theorem dX6_isLetter_0 : decode cX6_isLetter 0 = .ok (.iload_n 0, 1) := by decide +kernel
theorem dX6_isLetter_1 : decode cX6_isLetter 1 = .ok (.bipush 97, 2) := by decide +kernel
theorem dX6_isLetter_3 : decode cX6_isLetter 3 = .ok (.if_icmp .lt 13, 3) := by decide +kernel
theorem dX6_isLetter_6 : decode cX6_isLetter 6 = .ok (.iload_n 0, 1) := by decide +kernel
theorem dX6_isLetter_7 : decode cX6_isLetter 7 = .ok (.bipush 122, 2) := by decide +kernel
theorem dX6_isLetter_9 : decode cX6_isLetter 9 = .ok (.if_icmp .gt 7, 3) := by decide +kernel
theorem dX6_isLetter_12 : decode cX6_isLetter 12 = .ok (.iconst 1, 1) := by decide +kernel
theorem dX6_isLetter_13 : decode cX6_isLetter 13 = .ok (.goto 4, 3) := by decide +kernel
theorem dX6_isLetter_16 : decode cX6_isLetter 16 = .ok (.iconst 0, 1) := by decide +kernel
theorem dX6_isLetter_17 : decode cX6_isLetter 17 = .ok (.ireturn, 1) := by decide +kernel
theorem dX6_isDigit_0 : decode cX6_isDigit 0 = .ok (.iload_n 0, 1) := by decide +kernel
theorem dX6_isDigit_1 : decode cX6_isDigit 1 = .ok (.bipush 48, 2) := by decide +kernel
theorem dX6_isDigit_3 : decode cX6_isDigit 3 = .ok (.if_icmp .lt 13, 3) := by decide +kernel
theorem dX6_isDigit_6 : decode cX6_isDigit 6 = .ok (.iload_n 0, 1) := by decide +kernel
theorem dX6_isDigit_7 : decode cX6_isDigit 7 = .ok (.bipush 57, 2) := by decide +kernel
theorem dX6_isDigit_9 : decode cX6_isDigit 9 = .ok (.if_icmp .gt 7, 3) := by decide +kernel
theorem dX6_isDigit_12 : decode cX6_isDigit 12 = .ok (.iconst 1, 1) := by decide +kernel
theorem dX6_isDigit_13 : decode cX6_isDigit 13 = .ok (.goto 4, 3) := by decide +kernel
theorem dX6_isDigit_16 : decode cX6_isDigit 16 = .ok (.iconst 0, 1) := by decide +kernel
theorem dX6_isDigit_17 : decode cX6_isDigit 17 = .ok (.ireturn, 1) := by decide +kernel
theorem dX7_init_0 : decode cX7_init 0 = .ok (.aload_n 0, 1) := by decide +kernel
theorem dX7_init_1 : decode cX7_init 1 = .ok (.invokespecial 3, 3) := by decide +kernel
theorem dX7_init_4 : decode cX7_init 4 = .ok (.aload_n 0, 1) := by decide +kernel
theorem dX7_init_5 : decode cX7_init 5 = .ok (.sipush 1024, 3) := by decide +kernel
theorem dX7_init_8 : decode cX7_init 8 = .ok (.newarray .int, 2) := by decide +kernel
theorem dX7_init_10 : decode cX7_init 10 = .ok (.putfield 11, 3) := by decide +kernel
theorem dX7_init_13 : decode cX7_init 13 = .ok (.aload_n 0, 1) := by decide +kernel
theorem dX7_init_14 : decode cX7_init 14 = .ok (.bipush 20, 2) := by decide +kernel
theorem dX7_init_16 : decode cX7_init 16 = .ok (.newarray .int, 2) := by decide +kernel
theorem dX7_init_18 : decode cX7_init 18 = .ok (.putfield 15, 3) := by decide +kernel
theorem dX7_init_21 : decode cX7_init 21 = .ok (.aload_n 0, 1) := by decide +kernel
theorem dX7_init_22 : decode cX7_init 22 = .ok (.bipush 20, 2) := by decide +kernel
theorem dX7_init_24 : decode cX7_init 24 = .ok (.newarray .int, 2) := by decide +kernel
theorem dX7_init_26 : decode cX7_init 26 = .ok (.putfield 18, 3) := by decide +kernel
theorem dX7_init_29 : decode cX7_init 29 = .ok (.aload_n 0, 1) := by decide +kernel
theorem dX7_init_30 : decode cX7_init 30 = .ok (.bipush 20, 2) := by decide +kernel
theorem dX7_init_32 : decode cX7_init 32 = .ok (.newarray .int, 2) := by decide +kernel
theorem dX7_init_34 : decode cX7_init 34 = .ok (.putfield 21, 3) := by decide +kernel
theorem dX7_init_37 : decode cX7_init 37 = .ok (.aload_n 0, 1) := by decide +kernel
theorem dX7_init_38 : decode cX7_init 38 = .ok (.sipush 1024, 3) := by decide +kernel
theorem dX7_init_41 : decode cX7_init 41 = .ok (.newarray .int, 2) := by decide +kernel
theorem dX7_init_43 : decode cX7_init 43 = .ok (.putfield 24, 3) := by decide +kernel
theorem dX7_init_46 : decode cX7_init 46 = .ok (.aload_n 0, 1) := by decide +kernel
theorem dX7_init_47 : decode cX7_init 47 = .ok (.sipush 1024, 3) := by decide +kernel
