theorem dX11_offer_46 : decode cX11_offer 46 = .ok (.iload_n 1, 1) := by decide +kernel
theorem dX11_offer_47 : decode cX11_offer 47 = .ok (.iaload, 1) := by decide +kernel
theorem dX11_offer_48 : decode cX11_offer 48 = .ok (.if_icmp .gt 25, 3) := by decide +kernel
theorem dX11_offer_51 : decode cX11_offer 51 = .ok (.iload 5, 2) := by decide +kernel
theorem dX11_offer_53 : decode cX11_offer 53 = .ok (.aload_n 0, 1) := by decide +kernel
theorem dX11_offer_54 : decode cX11_offer 54 = .ok (.getfield 205, 3) := by decide +kernel
theorem dX11_offer_57 : decode cX11_offer 57 = .ok (.iload_n 1, 1) := by decide +kernel
theorem dX11_offer_58 : decode cX11_offer 58 = .ok (.iaload, 1) := by decide +kernel
theorem dX11_offer_59 : decode cX11_offer 59 = .ok (.if_icmp .ne 15, 3) := by decide +kernel
theorem dX11_offer_62 : decode cX11_offer 62 = .ok (.iload 6, 2) := by decide +kernel
theorem dX11_offer_64 : decode cX11_offer 64 = .ok (.aload_n 0, 1) := by decide +kernel
theorem dX11_offer_65 : decode cX11_offer 65 = .ok (.getfield 208, 3) := by decide +kernel
theorem dX11_offer_68 : decode cX11_offer 68 = .ok (.iload_n 1, 1) := by decide +kernel
theorem dX11_offer_69 : decode cX11_offer 69 = .ok (.iaload, 1) := by decide +kernel
theorem dX11_offer_70 : decode cX11_offer 70 = .ok (.if_icmp .lt 4, 3) := by decide +kernel
theorem dX11_offer_73 : decode cX11_offer 73 = .ok (.return_, 1) := by decide +kernel
theorem dX11_offer_74 : decode cX11_offer 74 = .ok (.aload_n 0, 1) := by decide +kernel
theorem dX11_offer_75 : decode cX11_offer 75 = .ok (.getfield 205, 3) := by decide +kernel
theorem dX11_offer_78 : decode cX11_offer 78 = .ok (.iload_n 1, 1) := by decide +kernel
theorem dX11_offer_79 : decode cX11_offer 79 = .ok (.iload 5, 2) := by decide +kernel
theorem dX11_offer_81 : decode cX11_offer 81 = .ok (.iastore, 1) := by decide +kernel
theorem dX11_offer_82 : decode cX11_offer 82 = .ok (.aload_n 0, 1) := by decide +kernel
theorem dX11_offer_83 : decode cX11_offer 83 = .ok (.getfield 208, 3) := by decide +kernel
theorem dX11_offer_86 : decode cX11_offer 86 = .ok (.iload_n 1, 1) := by decide +kernel
theorem dX11_offer_87 : decode cX11_offer 87 = .ok (.iload 6, 2) := by decide +kernel
theorem dX11_offer_89 : decode cX11_offer 89 = .ok (.iastore, 1) := by decide +kernel
theorem dX11_offer_90 : decode cX11_offer 90 = .ok (.return_, 1) := by decide +kernel
theorem dX11_plans_0 : decode cX11_plans 0 = .ok (.aload_n 0, 1) := by decide +kernel
theorem dX11_plans_1 : decode cX11_plans 1 = .ok (.invokevirtual 565, 3) := by decide +kernel
theorem dX11_plans_4 : decode cX11_plans 4 = .ok (.istore_n 1, 1) := by decide +kernel
theorem dX11_plans_5 : decode cX11_plans 5 = .ok (.aload_n 0, 1) := by decide +kernel
theorem dX11_plans_6 : decode cX11_plans 6 = .ok (.getfield 205, 3) := by decide +kernel
theorem dX11_plans_9 : decode cX11_plans 9 = .ok (.iconst 0, 1) := by decide +kernel
theorem dX11_plans_10 : decode cX11_plans 10 = .ok (.iconst 0, 1) := by decide +kernel
theorem dX11_plans_11 : decode cX11_plans 11 = .ok (.iastore, 1) := by decide +kernel
theorem dX11_plans_12 : decode cX11_plans 12 = .ok (.aload_n 0, 1) := by decide +kernel
theorem dX11_plans_13 : decode cX11_plans 13 = .ok (.getfield 208, 3) := by decide +kernel
theorem dX11_plans_16 : decode cX11_plans 16 = .ok (.iconst 0, 1) := by decide +kernel
theorem dX11_plans_17 : decode cX11_plans 17 = .ok (.iconst 0, 1) := by decide +kernel
theorem dX11_plans_18 : decode cX11_plans 18 = .ok (.iastore, 1) := by decide +kernel
theorem dX11_plans_19 : decode cX11_plans 19 = .ok (.iconst 1, 1) := by decide +kernel
theorem dX11_plans_20 : decode cX11_plans 20 = .ok (.istore_n 2, 1) := by decide +kernel
theorem dX11_plans_21 : decode cX11_plans 21 = .ok (.iload_n 2, 1) := by decide +kernel
theorem dX11_plans_22 : decode cX11_plans 22 = .ok (.iload_n 1, 1) := by decide +kernel
theorem dX11_plans_23 : decode cX11_plans 23 = .ok (.if_icmp .gt 121, 3) := by decide +kernel
theorem dX11_plans_26 : decode cX11_plans 26 = .ok (.aload_n 0, 1) := by decide +kernel
theorem dX11_plans_27 : decode cX11_plans 27 = .ok (.getfield 205, 3) := by decide +kernel
theorem dX11_plans_30 : decode cX11_plans 30 = .ok (.iload_n 2, 1) := by decide +kernel
theorem dX11_plans_31 : decode cX11_plans 31 = .ok (.iconst (-1), 1) := by decide +kernel
theorem dX11_plans_32 : decode cX11_plans 32 = .ok (.iastore, 1) := by decide +kernel
theorem dX11_plans_33 : decode cX11_plans 33 = .ok (.iload_n 2, 1) := by decide +kernel
theorem dX11_plans_34 : decode cX11_plans 34 = .ok (.iload_n 1, 1) := by decide +kernel
theorem dX11_plans_35 : decode cX11_plans 35 = .ok (.iconst (-1), 1) := by decide +kernel
theorem dX11_plans_36 : decode cX11_plans 36 = .ok (.ixor, 1) := by decide +kernel
theorem dX11_plans_37 : decode cX11_plans 37 = .ok (.iand, 1) := by decide +kernel
theorem dX11_plans_38 : decode cX11_plans 38 = .ok (.ifCond .eq 6, 3) := by decide +kernel
theorem dX11_plans_41 : decode cX11_plans 41 = .ok (.goto 97, 3) := by decide +kernel
theorem dX11_plans_44 : decode cX11_plans 44 = .ok (.iload_n 2, 1) := by decide +kernel
theorem dX11_plans_45 : decode cX11_plans 45 = .ok (.invokestatic 569, 3) := by decide +kernel
theorem dX11_plans_48 : decode cX11_plans 48 = .ok (.istore_n 3, 1) := by decide +kernel
theorem dX11_plans_49 : decode cX11_plans 49 = .ok (.aload_n 0, 1) := by decide +kernel
theorem dX11_plans_50 : decode cX11_plans 50 = .ok (.iload_n 3, 1) := by decide +kernel
theorem dX11_plans_51 : decode cX11_plans 51 = .ok (.invokevirtual 572, 3) := by decide +kernel
theorem dX11_plans_54 : decode cX11_plans 54 = .ok (.ifCond .lt 21, 3) := by decide +kernel
theorem dX11_plans_57 : decode cX11_plans 57 = .ok (.aload_n 0, 1) := by decide +kernel
theorem dX11_plans_58 : decode cX11_plans 58 = .ok (.iload_n 2, 1) := by decide +kernel
theorem dX11_plans_59 : decode cX11_plans 59 = .ok (.iload_n 2, 1) := by decide +kernel
theorem dX11_plans_60 : decode cX11_plans 60 = .ok (.iconst 1, 1) := by decide +kernel
theorem dX11_plans_61 : decode cX11_plans 61 = .ok (.iload_n 3, 1) := by decide +kernel
theorem dX11_plans_62 : decode cX11_plans 62 = .ok (.ishl, 1) := by decide +kernel
theorem dX11_plans_63 : decode cX11_plans 63 = .ok (.iconst (-1), 1) := by decide +kernel
theorem dX11_plans_64 : decode cX11_plans 64 = .ok (.ixor, 1) := by decide +kernel
theorem dX11_plans_65 : decode cX11_plans 65 = .ok (.iand, 1) := by decide +kernel
theorem dX11_plans_66 : decode cX11_plans 66 = .ok (.aload_n 0, 1) := by decide +kernel
theorem dX11_plans_67 : decode cX11_plans 67 = .ok (.iload_n 3, 1) := by decide +kernel
theorem dX11_plans_68 : decode cX11_plans 68 = .ok (.invokevirtual 572, 3) := by decide +kernel
theorem dX11_plans_71 : decode cX11_plans 71 = .ok (.iconst 0, 1) := by decide +kernel
theorem dX11_plans_72 : decode cX11_plans 72 = .ok (.invokevirtual 575, 3) := by decide +kernel
theorem dX11_plans_75 : decode cX11_plans 75 = .ok (.iconst 1, 1) := by decide +kernel
theorem dX11_plans_76 : decode cX11_plans 76 = .ok (.istore 4, 2) := by decide +kernel
theorem dX11_plans_78 : decode cX11_plans 78 = .ok (.iload 4, 2) := by decide +kernel
theorem dX11_plans_80 : decode cX11_plans 80 = .ok (.iload_n 2, 1) := by decide +kernel
theorem dX11_plans_81 : decode cX11_plans 81 = .ok (.if_icmp .gt 57, 3) := by decide +kernel
theorem dX11_plans_84 : decode cX11_plans 84 = .ok (.iload 4, 2) := by decide +kernel
theorem dX11_plans_86 : decode cX11_plans 86 = .ok (.iload_n 2, 1) := by decide +kernel
theorem dX11_plans_87 : decode cX11_plans 87 = .ok (.iconst (-1), 1) := by decide +kernel
theorem dX11_plans_88 : decode cX11_plans 88 = .ok (.ixor, 1) := by decide +kernel
theorem dX11_plans_89 : decode cX11_plans 89 = .ok (.iand, 1) := by decide +kernel
theorem dX11_plans_90 : decode cX11_plans 90 = .ok (.ifCond .ne 42, 3) := by decide +kernel
theorem dX11_plans_93 : decode cX11_plans 93 = .ok (.iload 4, 2) := by decide +kernel
theorem dX11_plans_95 : decode cX11_plans 95 = .ok (.iload_n 3, 1) := by decide +kernel
theorem dX11_plans_96 : decode cX11_plans 96 = .ok (.ishr, 1) := by decide +kernel
theorem dX11_plans_97 : decode cX11_plans 97 = .ok (.iconst 1, 1) := by decide +kernel
theorem dX11_plans_98 : decode cX11_plans 98 = .ok (.iand, 1) := by decide +kernel
theorem dX11_plans_99 : decode cX11_plans 99 = .ok (.iconst 1, 1) := by decide +kernel
theorem dX11_plans_100 : decode cX11_plans 100 = .ok (.if_icmp .ne 32, 3) := by decide +kernel
theorem dX11_plans_103 : decode cX11_plans 103 = .ok (.aload_n 0, 1) := by decide +kernel
theorem dX11_plans_104 : decode cX11_plans 104 = .ok (.getfield 193, 3) := by decide +kernel
theorem dX11_plans_107 : decode cX11_plans 107 = .ok (.iload 4, 2) := by decide +kernel
theorem dX11_plans_109 : decode cX11_plans 109 = .ok (.baload, 1) := by decide +kernel
theorem dX11_plans_110 : decode cX11_plans 110 = .ok (.ifCond .eq 22, 3) := by decide +kernel
theorem dX11_plans_113 : decode cX11_plans 113 = .ok (.aload_n 0, 1) := by decide +kernel
theorem dX11_plans_114 : decode cX11_plans 114 = .ok (.iload_n 2, 1) := by decide +kernel
theorem dX11_plans_115 : decode cX11_plans 115 = .ok (.iload_n 2, 1) := by decide +kernel
theorem dX11_plans_116 : decode cX11_plans 116 = .ok (.iload 4, 2) := by decide +kernel
theorem dX11_plans_118 : decode cX11_plans 118 = .ok (.iconst (-1), 1) := by decide +kernel
theorem dX11_plans_119 : decode cX11_plans 119 = .ok (.ixor, 1) := by decide +kernel
theorem dX11_plans_120 : decode cX11_plans 120 = .ok (.iand, 1) := by decide +kernel
theorem dX11_plans_121 : decode cX11_plans 121 = .ok (.aload_n 0, 1) := by decide +kernel
theorem dX11_plans_122 : decode cX11_plans 122 = .ok (.getfield 196, 3) := by decide +kernel
theorem dX11_plans_125 : decode cX11_plans 125 = .ok (.iload 4, 2) := by decide +kernel
theorem dX11_plans_127 : decode cX11_plans 127 = .ok (.iaload, 1) := by decide +kernel
theorem dX11_plans_128 : decode cX11_plans 128 = .ok (.iconst 1, 1) := by decide +kernel
theorem dX11_plans_129 : decode cX11_plans 129 = .ok (.invokevirtual 575, 3) := by decide +kernel
theorem dX11_plans_132 : decode cX11_plans 132 = .ok (.iinc 4 1, 3) := by decide +kernel
theorem dX11_plans_135 : decode cX11_plans 135 = .ok (.goto (-57), 3) := by decide +kernel
theorem dX11_plans_138 : decode cX11_plans 138 = .ok (.iinc 2 1, 3) := by decide +kernel
theorem dX11_plans_141 : decode cX11_plans 141 = .ok (.goto (-120), 3) := by decide +kernel
theorem dX11_plans_144 : decode cX11_plans 144 = .ok (.aload_n 0, 1) := by decide +kernel
theorem dX11_plans_145 : decode cX11_plans 145 = .ok (.iconst 0, 1) := by decide +kernel
theorem dX11_plans_146 : decode cX11_plans 146 = .ok (.putfield 578, 3) := by decide +kernel
theorem dX11_plans_149 : decode cX11_plans 149 = .ok (.aload_n 0, 1) := by decide +kernel
theorem dX11_plans_150 : decode cX11_plans 150 = .ok (.iconst 0, 1) := by decide +kernel
theorem dX11_plans_151 : decode cX11_plans 151 = .ok (.putfield 581, 3) := by decide +kernel
theorem dX11_plans_154 : decode cX11_plans 154 = .ok (.aload_n 0, 1) := by decide +kernel
theorem dX11_plans_155 : decode cX11_plans 155 = .ok (.getfield 205, 3) := by decide +kernel
theorem dX11_plans_158 : decode cX11_plans 158 = .ok (.iload_n 1, 1) := by decide +kernel
theorem dX11_plans_159 : decode cX11_plans 159 = .ok (.iaload, 1) := by decide +kernel
theorem dX11_plans_160 : decode cX11_plans 160 = .ok (.ifCond .ge 5, 3) := by decide +kernel
theorem dX11_plans_163 : decode cX11_plans 163 = .ok (.iconst 0, 1) := by decide +kernel
theorem dX11_plans_164 : decode cX11_plans 164 = .ok (.ireturn, 1) := by decide +kernel
theorem dX11_plans_165 : decode cX11_plans 165 = .ok (.iload_n 1, 1) := by decide +kernel
theorem dX11_plans_166 : decode cX11_plans 166 = .ok (.istore_n 2, 1) := by decide +kernel
theorem dX11_plans_167 : decode cX11_plans 167 = .ok (.iload_n 2, 1) := by decide +kernel
theorem dX11_plans_168 : decode cX11_plans 168 = .ok (.ifCond .eq 12, 3) := by decide +kernel
theorem dX11_plans_171 : decode cX11_plans 171 = .ok (.aload_n 0, 1) := by decide +kernel
theorem dX11_plans_172 : decode cX11_plans 172 = .ok (.iload_n 2, 1) := by decide +kernel
theorem dX11_plans_173 : decode cX11_plans 173 = .ok (.invokevirtual 584, 3) := by decide +kernel
theorem dX11_plans_176 : decode cX11_plans 176 = .ok (.istore_n 2, 1) := by decide +kernel
theorem dX11_plans_177 : decode cX11_plans 177 = .ok (.goto (-10), 3) := by decide +kernel
theorem dX11_plans_180 : decode cX11_plans 180 = .ok (.iconst 1, 1) := by decide +kernel
theorem dX11_plans_181 : decode cX11_plans 181 = .ok (.ireturn, 1) := by decide +kernel
theorem dX11_isBest_0 : decode cX11_isBest 0 = .ok (.aload_n 0, 1) := by decide +kernel
theorem dX11_isBest_1 : decode cX11_isBest 1 = .ok (.getfield 205, 3) := by decide +kernel
theorem dX11_isBest_4 : decode cX11_isBest 4 = .ok (.iload_n 2, 1) := by decide +kernel
theorem dX11_isBest_5 : decode cX11_isBest 5 = .ok (.iaload, 1) := by decide +kernel
theorem dX11_isBest_6 : decode cX11_isBest 6 = .ok (.ifCond .lt 42, 3) := by decide +kernel
theorem dX11_isBest_9 : decode cX11_isBest 9 = .ok (.aload_n 0, 1) := by decide +kernel
theorem dX11_isBest_10 : decode cX11_isBest 10 = .ok (.getfield 205, 3) := by decide +kernel
theorem dX11_isBest_13 : decode cX11_isBest 13 = .ok (.iload_n 2, 1) := by decide +kernel
theorem dX11_isBest_14 : decode cX11_isBest 14 = .ok (.iaload, 1) := by decide +kernel
theorem dX11_isBest_15 : decode cX11_isBest 15 = .ok (.iload_n 3, 1) := by decide +kernel
theorem dX11_isBest_16 : decode cX11_isBest 16 = .ok (.iadd, 1) := by decide +kernel
theorem dX11_isBest_17 : decode cX11_isBest 17 = .ok (.aload_n 0, 1) := by decide +kernel
theorem dX11_isBest_18 : decode cX11_isBest 18 = .ok (.getfield 205, 3) := by decide +kernel
theorem dX11_isBest_21 : decode cX11_isBest 21 = .ok (.iload_n 1, 1) := by decide +kernel
theorem dX11_isBest_22 : decode cX11_isBest 22 = .ok (.iaload, 1) := by decide +kernel
theorem dX11_isBest_23 : decode cX11_isBest 23 = .ok (.if_icmp .ne 25, 3) := by decide +kernel
theorem dX11_isBest_26 : decode cX11_isBest 26 = .ok (.aload_n 0, 1) := by decide +kernel
theorem dX11_isBest_27 : decode cX11_isBest 27 = .ok (.getfield 208, 3) := by decide +kernel
theorem dX11_isBest_30 : decode cX11_isBest 30 = .ok (.iload_n 2, 1) := by decide +kernel
theorem dX11_isBest_31 : decode cX11_isBest 31 = .ok (.iaload, 1) := by decide +kernel
theorem dX11_isBest_32 : decode cX11_isBest 32 = .ok (.iload 4, 2) := by decide +kernel
theorem dX11_isBest_34 : decode cX11_isBest 34 = .ok (.iadd, 1) := by decide +kernel
theorem dX11_isBest_35 : decode cX11_isBest 35 = .ok (.aload_n 0, 1) := by decide +kernel
theorem dX11_isBest_36 : decode cX11_isBest 36 = .ok (.getfield 208, 3) := by decide +kernel
theorem dX11_isBest_39 : decode cX11_isBest 39 = .ok (.iload_n 1, 1) := by decide +kernel
theorem dX11_isBest_40 : decode cX11_isBest 40 = .ok (.iaload, 1) := by decide +kernel
theorem dX11_isBest_41 : decode cX11_isBest 41 = .ok (.if_icmp .ne 7, 3) := by decide +kernel
theorem dX11_isBest_44 : decode cX11_isBest 44 = .ok (.iconst 1, 1) := by decide +kernel
theorem dX11_isBest_45 : decode cX11_isBest 45 = .ok (.goto 4, 3) := by decide +kernel
theorem dX11_isBest_48 : decode cX11_isBest 48 = .ok (.iconst 0, 1) := by decide +kernel
theorem dX11_isBest_49 : decode cX11_isBest 49 = .ok (.ireturn, 1) := by decide +kernel
theorem dX11_chosen_0 : decode cX11_chosen 0 = .ok (.iload_n 1, 1) := by decide +kernel
theorem dX11_chosen_1 : decode cX11_chosen 1 = .ok (.invokestatic 569, 3) := by decide +kernel
theorem dX11_chosen_4 : decode cX11_chosen 4 = .ok (.istore_n 2, 1) := by decide +kernel
theorem dX11_chosen_5 : decode cX11_chosen 5 = .ok (.aload_n 0, 1) := by decide +kernel
theorem dX11_chosen_6 : decode cX11_chosen 6 = .ok (.iload_n 2, 1) := by decide +kernel
theorem dX11_chosen_7 : decode cX11_chosen 7 = .ok (.invokevirtual 572, 3) := by decide +kernel
theorem dX11_chosen_10 : decode cX11_chosen 10 = .ok (.ifCond .lt 44, 3) := by decide +kernel
theorem dX11_chosen_13 : decode cX11_chosen 13 = .ok (.aload_n 0, 1) := by decide +kernel
theorem dX11_chosen_14 : decode cX11_chosen 14 = .ok (.iload_n 1, 1) := by decide +kernel
theorem dX11_chosen_15 : decode cX11_chosen 15 = .ok (.iload_n 1, 1) := by decide +kernel
theorem dX11_chosen_16 : decode cX11_chosen 16 = .ok (.iconst 1, 1) := by decide +kernel
theorem dX11_chosen_17 : decode cX11_chosen 17 = .ok (.iload_n 2, 1) := by decide +kernel
theorem dX11_chosen_18 : decode cX11_chosen 18 = .ok (.ishl, 1) := by decide +kernel
theorem dX11_chosen_19 : decode cX11_chosen 19 = .ok (.iconst (-1), 1) := by decide +kernel
theorem dX11_chosen_20 : decode cX11_chosen 20 = .ok (.ixor, 1) := by decide +kernel
theorem dX11_chosen_21 : decode cX11_chosen 21 = .ok (.iand, 1) := by decide +kernel
theorem dX11_chosen_22 : decode cX11_chosen 22 = .ok (.aload_n 0, 1) := by decide +kernel
theorem dX11_chosen_23 : decode cX11_chosen 23 = .ok (.iload_n 2, 1) := by decide +kernel
theorem dX11_chosen_24 : decode cX11_chosen 24 = .ok (.invokevirtual 572, 3) := by decide +kernel
theorem dX11_chosen_27 : decode cX11_chosen 27 = .ok (.iconst 0, 1) := by decide +kernel
theorem dX11_chosen_28 : decode cX11_chosen 28 = .ok (.invokevirtual 587, 3) := by decide +kernel
theorem dX11_chosen_31 : decode cX11_chosen 31 = .ok (.ifCond .eq 23, 3) := by decide +kernel
theorem dX11_chosen_34 : decode cX11_chosen 34 = .ok (.aload_n 0, 1) := by decide +kernel
theorem dX11_chosen_35 : decode cX11_chosen 35 = .ok (.dup, 1) := by decide +kernel
theorem dX11_chosen_36 : decode cX11_chosen 36 = .ok (.getfield 581, 3) := by decide +kernel
theorem dX11_chosen_39 : decode cX11_chosen 39 = .ok (.iconst 1, 1) := by decide +kernel
theorem dX11_chosen_40 : decode cX11_chosen 40 = .ok (.iload_n 2, 1) := by decide +kernel
theorem dX11_chosen_41 : decode cX11_chosen 41 = .ok (.ishl, 1) := by decide +kernel
theorem dX11_chosen_42 : decode cX11_chosen 42 = .ok (.ior, 1) := by decide +kernel
theorem dX11_chosen_43 : decode cX11_chosen 43 = .ok (.putfield 581, 3) := by decide +kernel
theorem dX11_chosen_46 : decode cX11_chosen 46 = .ok (.iload_n 1, 1) := by decide +kernel
theorem dX11_chosen_47 : decode cX11_chosen 47 = .ok (.iconst 1, 1) := by decide +kernel
theorem dX11_chosen_48 : decode cX11_chosen 48 = .ok (.iload_n 2, 1) := by decide +kernel
theorem dX11_chosen_49 : decode cX11_chosen 49 = .ok (.ishl, 1) := by decide +kernel
theorem dX11_chosen_50 : decode cX11_chosen 50 = .ok (.iconst (-1), 1) := by decide +kernel
theorem dX11_chosen_51 : decode cX11_chosen 51 = .ok (.ixor, 1) := by decide +kernel
theorem dX11_chosen_52 : decode cX11_chosen 52 = .ok (.iand, 1) := by decide +kernel
theorem dX11_chosen_53 : decode cX11_chosen 53 = .ok (.ireturn, 1) := by decide +kernel
theorem dX11_chosen_54 : decode cX11_chosen 54 = .ok (.iconst 1, 1) := by decide +kernel
theorem dX11_chosen_55 : decode cX11_chosen 55 = .ok (.istore_n 3, 1) := by decide +kernel
theorem dX11_chosen_56 : decode cX11_chosen 56 = .ok (.iload_n 3, 1) := by decide +kernel
theorem dX11_chosen_57 : decode cX11_chosen 57 = .ok (.iload_n 1, 1) := by decide +kernel
theorem dX11_chosen_58 : decode cX11_chosen 58 = .ok (.if_icmp .gt 83, 3) := by decide +kernel
theorem dX11_chosen_61 : decode cX11_chosen 61 = .ok (.iload_n 3, 1) := by decide +kernel
theorem dX11_chosen_62 : decode cX11_chosen 62 = .ok (.iload_n 1, 1) := by decide +kernel
theorem dX11_chosen_63 : decode cX11_chosen 63 = .ok (.iconst (-1), 1) := by decide +kernel
theorem dX11_chosen_64 : decode cX11_chosen 64 = .ok (.ixor, 1) := by decide +kernel
theorem dX11_chosen_65 : decode cX11_chosen 65 = .ok (.iand, 1) := by decide +kernel
theorem dX11_chosen_66 : decode cX11_chosen 66 = .ok (.ifCond .ne 69, 3) := by decide +kernel
theorem dX11_chosen_69 : decode cX11_chosen 69 = .ok (.iload_n 3, 1) := by decide +kernel
theorem dX11_chosen_70 : decode cX11_chosen 70 = .ok (.iload_n 2, 1) := by decide +kernel
theorem dX11_chosen_71 : decode cX11_chosen 71 = .ok (.ishr, 1) := by decide +kernel
theorem dX11_chosen_72 : decode cX11_chosen 72 = .ok (.iconst 1, 1) := by decide +kernel
theorem dX11_chosen_73 : decode cX11_chosen 73 = .ok (.iand, 1) := by decide +kernel
theorem dX11_chosen_74 : decode cX11_chosen 74 = .ok (.ifCond .eq 61, 3) := by decide +kernel
theorem dX11_chosen_77 : decode cX11_chosen 77 = .ok (.aload_n 0, 1) := by decide +kernel
theorem dX11_chosen_78 : decode cX11_chosen 78 = .ok (.getfield 193, 3) := by decide +kernel
theorem dX11_chosen_81 : decode cX11_chosen 81 = .ok (.iload_n 3, 1) := by decide +kernel
theorem dX11_chosen_82 : decode cX11_chosen 82 = .ok (.baload, 1) := by decide +kernel
theorem dX11_chosen_83 : decode cX11_chosen 83 = .ok (.ifCond .eq 52, 3) := by decide +kernel
theorem dX11_chosen_86 : decode cX11_chosen 86 = .ok (.aload_n 0, 1) := by decide +kernel
theorem dX11_chosen_87 : decode cX11_chosen 87 = .ok (.iload_n 1, 1) := by decide +kernel
theorem dX11_chosen_88 : decode cX11_chosen 88 = .ok (.iload_n 1, 1) := by decide +kernel
theorem dX11_chosen_89 : decode cX11_chosen 89 = .ok (.iload_n 3, 1) := by decide +kernel
theorem dX11_chosen_90 : decode cX11_chosen 90 = .ok (.iconst (-1), 1) := by decide +kernel
theorem dX11_chosen_91 : decode cX11_chosen 91 = .ok (.ixor, 1) := by decide +kernel
theorem dX11_chosen_92 : decode cX11_chosen 92 = .ok (.iand, 1) := by decide +kernel
theorem dX11_chosen_93 : decode cX11_chosen 93 = .ok (.aload_n 0, 1) := by decide +kernel
theorem dX11_chosen_94 : decode cX11_chosen 94 = .ok (.getfield 196, 3) := by decide +kernel
theorem dX11_chosen_97 : decode cX11_chosen 97 = .ok (.iload_n 3, 1) := by decide +kernel
theorem dX11_chosen_98 : decode cX11_chosen 98 = .ok (.iaload, 1) := by decide +kernel
theorem dX11_chosen_99 : decode cX11_chosen 99 = .ok (.iconst 1, 1) := by decide +kernel
theorem dX11_chosen_100 : decode cX11_chosen 100 = .ok (.invokevirtual 587, 3) := by decide +kernel
theorem dX11_chosen_103 : decode cX11_chosen 103 = .ok (.ifCond .ne 6, 3) := by decide +kernel
theorem dX11_chosen_106 : decode cX11_chosen 106 = .ok (.goto 29, 3) := by decide +kernel
theorem dX11_chosen_109 : decode cX11_chosen 109 = .ok (.aload_n 0, 1) := by decide +kernel
theorem dX11_chosen_110 : decode cX11_chosen 110 = .ok (.getfield 211, 3) := by decide +kernel
theorem dX11_chosen_113 : decode cX11_chosen 113 = .ok (.aload_n 0, 1) := by decide +kernel
theorem dX11_chosen_114 : decode cX11_chosen 114 = .ok (.getfield 578, 3) := by decide +kernel
theorem dX11_chosen_117 : decode cX11_chosen 117 = .ok (.iload_n 3, 1) := by decide +kernel
theorem dX11_chosen_118 : decode cX11_chosen 118 = .ok (.iastore, 1) := by decide +kernel
theorem dX11_chosen_119 : decode cX11_chosen 119 = .ok (.aload_n 0, 1) := by decide +kernel
theorem dX11_chosen_120 : decode cX11_chosen 120 = .ok (.dup, 1) := by decide +kernel
theorem dX11_chosen_121 : decode cX11_chosen 121 = .ok (.getfield 578, 3) := by decide +kernel
theorem dX11_chosen_124 : decode cX11_chosen 124 = .ok (.iconst 1, 1) := by decide +kernel
theorem dX11_chosen_125 : decode cX11_chosen 125 = .ok (.iadd, 1) := by decide +kernel
theorem dX11_chosen_126 : decode cX11_chosen 126 = .ok (.putfield 578, 3) := by decide +kernel
theorem dX11_chosen_129 : decode cX11_chosen 129 = .ok (.iload_n 1, 1) := by decide +kernel
theorem dX11_chosen_130 : decode cX11_chosen 130 = .ok (.iload_n 3, 1) := by decide +kernel
theorem dX11_chosen_131 : decode cX11_chosen 131 = .ok (.iconst (-1), 1) := by decide +kernel
theorem dX11_chosen_132 : decode cX11_chosen 132 = .ok (.ixor, 1) := by decide +kernel
theorem dX11_chosen_133 : decode cX11_chosen 133 = .ok (.iand, 1) := by decide +kernel
theorem dX11_chosen_134 : decode cX11_chosen 134 = .ok (.ireturn, 1) := by decide +kernel
theorem dX11_chosen_135 : decode cX11_chosen 135 = .ok (.iinc 3 1, 3) := by decide +kernel
theorem dX11_chosen_138 : decode cX11_chosen 138 = .ok (.goto (-82), 3) := by decide +kernel
theorem dX11_chosen_141 : decode cX11_chosen 141 = .ok (.iconst 0, 1) := by decide +kernel
theorem dX11_chosen_142 : decode cX11_chosen 142 = .ok (.ireturn, 1) := by decide +kernel
theorem dX11_planOf_0 : decode cX11_planOf 0 = .ok (.aload_n 0, 1) := by decide +kernel
theorem dX11_planOf_1 : decode cX11_planOf 1 = .ok (.iload_n 1, 1) := by decide +kernel
theorem dX11_planOf_2 : decode cX11_planOf 2 = .ok (.iload_n 2, 1) := by decide +kernel
theorem dX11_planOf_3 : decode cX11_planOf 3 = .ok (.iload_n 3, 1) := by decide +kernel
theorem dX11_planOf_4 : decode cX11_planOf 4 = .ok (.invokevirtual 528, 3) := by decide +kernel
theorem dX11_planOf_7 : decode cX11_planOf 7 = .ok (.ifCond .ne 5, 3) := by decide +kernel
theorem dX11_planOf_10 : decode cX11_planOf 10 = .ok (.iconst (-1), 1) := by decide +kernel
theorem dX11_planOf_11 : decode cX11_planOf 11 = .ok (.ireturn, 1) := by decide +kernel
theorem dX11_planOf_12 : decode cX11_planOf 12 = .ok (.aload_n 0, 1) := by decide +kernel
theorem dX11_planOf_13 : decode cX11_planOf 13 = .ok (.iload_n 2, 1) := by decide +kernel
theorem dX11_planOf_14 : decode cX11_planOf 14 = .ok (.iload_n 3, 1) := by decide +kernel
theorem dX11_planOf_15 : decode cX11_planOf 15 = .ok (.invokevirtual 501, 3) := by decide +kernel
theorem dX11_planOf_18 : decode cX11_planOf 18 = .ok (.aload_n 0, 1) := by decide +kernel
theorem dX11_planOf_19 : decode cX11_planOf 19 = .ok (.iload_n 1, 1) := by decide +kernel
theorem dX11_planOf_20 : decode cX11_planOf 20 = .ok (.iload_n 2, 1) := by decide +kernel
theorem dX11_planOf_21 : decode cX11_planOf 21 = .ok (.iload_n 3, 1) := by decide +kernel
theorem dX11_planOf_22 : decode cX11_planOf 22 = .ok (.invokevirtual 590, 3) := by decide +kernel
theorem dX11_planOf_25 : decode cX11_planOf 25 = .ok (.aload_n 0, 1) := by decide +kernel
theorem dX11_planOf_26 : decode cX11_planOf 26 = .ok (.invokevirtual 593, 3) := by decide +kernel
theorem dX11_planOf_29 : decode cX11_planOf 29 = .ok (.ifCond .eq 7, 3) := by decide +kernel
theorem dX11_planOf_32 : decode cX11_planOf 32 = .ok (.iconst 0, 1) := by decide +kernel
theorem dX11_planOf_33 : decode cX11_planOf 33 = .ok (.goto 5, 3) := by decide +kernel
theorem dX11_planOf_36 : decode cX11_planOf 36 = .ok (.bipush (-2), 2) := by decide +kernel
theorem dX11_planOf_38 : decode cX11_planOf 38 = .ok (.ireturn, 1) := by decide +kernel
theorem dX11_pay_0 : decode cX11_pay 0 = .ok (.aload_n 0, 1) := by decide +kernel
theorem dX11_pay_1 : decode cX11_pay 1 = .ok (.iload_n 1, 1) := by decide +kernel
theorem dX11_pay_2 : decode cX11_pay 2 = .ok (.iload_n 2, 1) := by decide +kernel
theorem dX11_pay_3 : decode cX11_pay 3 = .ok (.iload_n 3, 1) := by decide +kernel
theorem dX11_pay_4 : decode cX11_pay 4 = .ok (.invokevirtual 596, 3) := by decide +kernel
theorem dX11_pay_7 : decode cX11_pay 7 = .ok (.istore 4, 2) := by decide +kernel
theorem dX11_pay_9 : decode cX11_pay 9 = .ok (.iload 4, 2) := by decide +kernel
theorem dX11_pay_11 : decode cX11_pay 11 = .ok (.ifCond .ge 8, 3) := by decide +kernel
theorem dX11_pay_14 : decode cX11_pay 14 = .ok (.iload 4, 2) := by decide +kernel
theorem dX11_pay_16 : decode cX11_pay 16 = .ok (.goto 12, 3) := by decide +kernel
theorem dX11_pay_19 : decode cX11_pay 19 = .ok (.aload_n 0, 1) := by decide +kernel
theorem dX11_pay_20 : decode cX11_pay 20 = .ok (.getfield 205, 3) := by decide +kernel
theorem dX11_pay_23 : decode cX11_pay 23 = .ok (.aload_n 0, 1) := by decide +kernel
theorem dX11_pay_24 : decode cX11_pay 24 = .ok (.invokevirtual 565, 3) := by decide +kernel
theorem dX11_pay_27 : decode cX11_pay 27 = .ok (.iaload, 1) := by decide +kernel
theorem dX11_pay_28 : decode cX11_pay 28 = .ok (.ireturn, 1) := by decide +kernel
theorem dX11_routes_0 : decode cX11_routes 0 = .ok (.aload_n 0, 1) := by decide +kernel
theorem dX11_routes_1 : decode cX11_routes 1 = .ok (.iload_n 1, 1) := by decide +kernel
theorem dX11_routes_2 : decode cX11_routes 2 = .ok (.iload_n 2, 1) := by decide +kernel
theorem dX11_routes_3 : decode cX11_routes 3 = .ok (.iload_n 3, 1) := by decide +kernel
theorem dX11_routes_4 : decode cX11_routes 4 = .ok (.invokevirtual 596, 3) := by decide +kernel
theorem dX11_routes_7 : decode cX11_routes 7 = .ok (.istore 4, 2) := by decide +kernel
theorem dX11_routes_9 : decode cX11_routes 9 = .ok (.iload 4, 2) := by decide +kernel
theorem dX11_routes_11 : decode cX11_routes 11 = .ok (.ifCond .ge 8, 3) := by decide +kernel
theorem dX11_routes_14 : decode cX11_routes 14 = .ok (.iload 4, 2) := by decide +kernel
theorem dX11_routes_16 : decode cX11_routes 16 = .ok (.goto 7, 3) := by decide +kernel
theorem dX11_routes_19 : decode cX11_routes 19 = .ok (.aload_n 0, 1) := by decide +kernel
theorem dX11_routes_20 : decode cX11_routes 20 = .ok (.getfield 578, 3) := by decide +kernel
theorem dX11_routes_23 : decode cX11_routes 23 = .ok (.ireturn, 1) := by decide +kernel
theorem dX11_routeSet_0 : decode cX11_routeSet 0 = .ok (.aload_n 0, 1) := by decide +kernel
theorem dX11_routeSet_1 : decode cX11_routeSet 1 = .ok (.iload_n 1, 1) := by decide +kernel
theorem dX11_routeSet_2 : decode cX11_routeSet 2 = .ok (.iload_n 2, 1) := by decide +kernel
theorem dX11_routeSet_3 : decode cX11_routeSet 3 = .ok (.iload_n 3, 1) := by decide +kernel
theorem dX11_routeSet_4 : decode cX11_routeSet 4 = .ok (.invokevirtual 596, 3) := by decide +kernel
theorem dX11_routeSet_7 : decode cX11_routeSet 7 = .ok (.ifCond .lt 17, 3) := by decide +kernel
theorem dX11_routeSet_10 : decode cX11_routeSet 10 = .ok (.iload 4, 2) := by decide +kernel
theorem dX11_routeSet_12 : decode cX11_routeSet 12 = .ok (.ifCond .lt 12, 3) := by decide +kernel
theorem dX11_routeSet_15 : decode cX11_routeSet 15 = .ok (.iload 4, 2) := by decide +kernel
theorem dX11_routeSet_17 : decode cX11_routeSet 17 = .ok (.aload_n 0, 1) := by decide +kernel
theorem dX11_routeSet_18 : decode cX11_routeSet 18 = .ok (.getfield 578, 3) := by decide +kernel
theorem dX11_routeSet_21 : decode cX11_routeSet 21 = .ok (.if_icmp .lt 7, 3) := by decide +kernel
theorem dX11_routeSet_24 : decode cX11_routeSet 24 = .ok (.iconst (-1), 1) := by decide +kernel
theorem dX11_routeSet_25 : decode cX11_routeSet 25 = .ok (.goto 10, 3) := by decide +kernel
theorem dX11_routeSet_28 : decode cX11_routeSet 28 = .ok (.aload_n 0, 1) := by decide +kernel
theorem dX11_routeSet_29 : decode cX11_routeSet 29 = .ok (.getfield 211, 3) := by decide +kernel
theorem dX11_routeSet_32 : decode cX11_routeSet 32 = .ok (.iload 4, 2) := by decide +kernel
theorem dX11_routeSet_34 : decode cX11_routeSet 34 = .ok (.iaload, 1) := by decide +kernel
theorem dX11_routeSet_35 : decode cX11_routeSet 35 = .ok (.ireturn, 1) := by decide +kernel
theorem dX11_taxis_0 : decode cX11_taxis 0 = .ok (.aload_n 0, 1) := by decide +kernel
theorem dX11_taxis_1 : decode cX11_taxis 1 = .ok (.iload_n 1, 1) := by decide +kernel
theorem dX11_taxis_2 : decode cX11_taxis 2 = .ok (.iload_n 2, 1) := by decide +kernel
theorem dX11_taxis_3 : decode cX11_taxis 3 = .ok (.iload_n 3, 1) := by decide +kernel
theorem dX11_taxis_4 : decode cX11_taxis 4 = .ok (.invokevirtual 596, 3) := by decide +kernel
theorem dX11_taxis_7 : decode cX11_taxis 7 = .ok (.istore 4, 2) := by decide +kernel
theorem dX11_taxis_9 : decode cX11_taxis 9 = .ok (.iload 4, 2) := by decide +kernel
theorem dX11_taxis_11 : decode cX11_taxis 11 = .ok (.ifCond .ge 8, 3) := by decide +kernel
theorem dX11_taxis_14 : decode cX11_taxis 14 = .ok (.iload 4, 2) := by decide +kernel
theorem dX11_taxis_16 : decode cX11_taxis 16 = .ok (.goto 7, 3) := by decide +kernel
theorem dX11_taxis_19 : decode cX11_taxis 19 = .ok (.aload_n 0, 1) := by decide +kernel
theorem dX11_taxis_20 : decode cX11_taxis 20 = .ok (.getfield 581, 3) := by decide +kernel
theorem dX11_taxis_23 : decode cX11_taxis 23 = .ok (.ireturn, 1) := by decide +kernel
theorem dX11_fewest_0 : decode cX11_fewest 0 = .ok (.aload_n 0, 1) := by decide +kernel
theorem dX11_fewest_1 : decode cX11_fewest 1 = .ok (.iload_n 1, 1) := by decide +kernel
theorem dX11_fewest_2 : decode cX11_fewest 2 = .ok (.iload_n 2, 1) := by decide +kernel
theorem dX11_fewest_3 : decode cX11_fewest 3 = .ok (.iload_n 3, 1) := by decide +kernel
theorem dX11_fewest_4 : decode cX11_fewest 4 = .ok (.invokevirtual 528, 3) := by decide +kernel
theorem dX11_fewest_7 : decode cX11_fewest 7 = .ok (.ifCond .ne 5, 3) := by decide +kernel
theorem dX11_fewest_10 : decode cX11_fewest 10 = .ok (.iconst (-1), 1) := by decide +kernel
theorem dX11_fewest_11 : decode cX11_fewest 11 = .ok (.ireturn, 1) := by decide +kernel
theorem dX11_fewest_12 : decode cX11_fewest 12 = .ok (.aload_n 0, 1) := by decide +kernel
theorem dX11_fewest_13 : decode cX11_fewest 13 = .ok (.iload_n 2, 1) := by decide +kernel
theorem dX11_fewest_14 : decode cX11_fewest 14 = .ok (.iload_n 3, 1) := by decide +kernel
theorem dX11_fewest_15 : decode cX11_fewest 15 = .ok (.invokevirtual 501, 3) := by decide +kernel
theorem dX11_fewest_18 : decode cX11_fewest 18 = .ok (.aload_n 0, 1) := by decide +kernel
theorem dX11_fewest_19 : decode cX11_fewest 19 = .ok (.iload_n 1, 1) := by decide +kernel
theorem dX11_fewest_20 : decode cX11_fewest 20 = .ok (.iload_n 2, 1) := by decide +kernel
theorem dX11_fewest_21 : decode cX11_fewest 21 = .ok (.iload_n 3, 1) := by decide +kernel
theorem dX11_fewest_22 : decode cX11_fewest 22 = .ok (.invokevirtual 590, 3) := by decide +kernel
theorem dX11_fewest_25 : decode cX11_fewest 25 = .ok (.aload_n 0, 1) := by decide +kernel
theorem dX11_fewest_26 : decode cX11_fewest 26 = .ok (.invokevirtual 565, 3) := by decide +kernel
theorem dX11_fewest_29 : decode cX11_fewest 29 = .ok (.istore 4, 2) := by decide +kernel
theorem dX11_fewest_31 : decode cX11_fewest 31 = .ok (.aload_n 0, 1) := by decide +kernel
theorem dX11_fewest_32 : decode cX11_fewest 32 = .ok (.getfield 208, 3) := by decide +kernel
theorem dX11_fewest_35 : decode cX11_fewest 35 = .ok (.iconst 0, 1) := by decide +kernel
theorem dX11_fewest_36 : decode cX11_fewest 36 = .ok (.iconst 0, 1) := by decide +kernel
theorem dX11_fewest_37 : decode cX11_fewest 37 = .ok (.iastore, 1) := by decide +kernel
theorem dX11_fewest_38 : decode cX11_fewest 38 = .ok (.iconst 1, 1) := by decide +kernel
theorem dX11_fewest_39 : decode cX11_fewest 39 = .ok (.istore 5, 2) := by decide +kernel
theorem dX11_fewest_41 : decode cX11_fewest 41 = .ok (.iload 5, 2) := by decide +kernel
theorem dX11_fewest_43 : decode cX11_fewest 43 = .ok (.iload 4, 2) := by decide +kernel
theorem dX11_fewest_45 : decode cX11_fewest 45 = .ok (.if_icmp .gt 140, 3) := by decide +kernel
theorem dX11_fewest_48 : decode cX11_fewest 48 = .ok (.aload_n 0, 1) := by decide +kernel
theorem dX11_fewest_49 : decode cX11_fewest 49 = .ok (.getfield 208, 3) := by decide +kernel
theorem dX11_fewest_52 : decode cX11_fewest 52 = .ok (.iload 5, 2) := by decide +kernel
theorem dX11_fewest_54 : decode cX11_fewest 54 = .ok (.iconst (-1), 1) := by decide +kernel
theorem dX11_fewest_55 : decode cX11_fewest 55 = .ok (.iastore, 1) := by decide +kernel
theorem dX11_fewest_56 : decode cX11_fewest 56 = .ok (.iload 5, 2) := by decide +kernel
theorem dX11_fewest_58 : decode cX11_fewest 58 = .ok (.iload 4, 2) := by decide +kernel
theorem dX11_fewest_60 : decode cX11_fewest 60 = .ok (.iconst (-1), 1) := by decide +kernel
theorem dX11_fewest_61 : decode cX11_fewest 61 = .ok (.ixor, 1) := by decide +kernel
theorem dX11_fewest_62 : decode cX11_fewest 62 = .ok (.iand, 1) := by decide +kernel
theorem dX11_fewest_63 : decode cX11_fewest 63 = .ok (.ifCond .eq 6, 3) := by decide +kernel
theorem dX11_fewest_66 : decode cX11_fewest 66 = .ok (.goto 113, 3) := by decide +kernel
theorem dX11_fewest_69 : decode cX11_fewest 69 = .ok (.iload 5, 2) := by decide +kernel
theorem dX11_fewest_71 : decode cX11_fewest 71 = .ok (.invokestatic 569, 3) := by decide +kernel
theorem dX11_fewest_74 : decode cX11_fewest 74 = .ok (.istore 6, 2) := by decide +kernel
theorem dX11_fewest_76 : decode cX11_fewest 76 = .ok (.iconst 1, 1) := by decide +kernel
theorem dX11_fewest_77 : decode cX11_fewest 77 = .ok (.istore 7, 2) := by decide +kernel
theorem dX11_fewest_79 : decode cX11_fewest 79 = .ok (.iload 7, 2) := by decide +kernel
theorem dX11_fewest_81 : decode cX11_fewest 81 = .ok (.iload 5, 2) := by decide +kernel
theorem dX11_fewest_83 : decode cX11_fewest 83 = .ok (.if_icmp .gt 96, 3) := by decide +kernel
theorem dX11_fewest_86 : decode cX11_fewest 86 = .ok (.iload 7, 2) := by decide +kernel
theorem dX11_fewest_88 : decode cX11_fewest 88 = .ok (.iload 5, 2) := by decide +kernel
theorem dX11_fewest_90 : decode cX11_fewest 90 = .ok (.iconst (-1), 1) := by decide +kernel
theorem dX11_fewest_91 : decode cX11_fewest 91 = .ok (.ixor, 1) := by decide +kernel
theorem dX11_fewest_92 : decode cX11_fewest 92 = .ok (.iand, 1) := by decide +kernel
theorem dX11_fewest_93 : decode cX11_fewest 93 = .ok (.ifCond .ne 80, 3) := by decide +kernel
theorem dX11_fewest_96 : decode cX11_fewest 96 = .ok (.iload 7, 2) := by decide +kernel
theorem dX11_fewest_98 : decode cX11_fewest 98 = .ok (.iload 6, 2) := by decide +kernel
theorem dX11_fewest_100 : decode cX11_fewest 100 = .ok (.ishr, 1) := by decide +kernel
theorem dX11_fewest_101 : decode cX11_fewest 101 = .ok (.iconst 1, 1) := by decide +kernel
theorem dX11_fewest_102 : decode cX11_fewest 102 = .ok (.iand, 1) := by decide +kernel
theorem dX11_fewest_103 : decode cX11_fewest 103 = .ok (.ifCond .eq 70, 3) := by decide +kernel
theorem dX11_fewest_106 : decode cX11_fewest 106 = .ok (.aload_n 0, 1) := by decide +kernel
theorem dX11_fewest_107 : decode cX11_fewest 107 = .ok (.getfield 193, 3) := by decide +kernel
theorem dX11_fewest_110 : decode cX11_fewest 110 = .ok (.iload 7, 2) := by decide +kernel
theorem dX11_fewest_112 : decode cX11_fewest 112 = .ok (.baload, 1) := by decide +kernel
theorem dX11_fewest_113 : decode cX11_fewest 113 = .ok (.ifCond .ne 6, 3) := by decide +kernel
theorem dX11_fewest_116 : decode cX11_fewest 116 = .ok (.goto 57, 3) := by decide +kernel
theorem dX11_fewest_119 : decode cX11_fewest 119 = .ok (.aload_n 0, 1) := by decide +kernel
theorem dX11_fewest_120 : decode cX11_fewest 120 = .ok (.getfield 208, 3) := by decide +kernel
theorem dX11_fewest_123 : decode cX11_fewest 123 = .ok (.iload 5, 2) := by decide +kernel
theorem dX11_fewest_125 : decode cX11_fewest 125 = .ok (.iload 7, 2) := by decide +kernel
theorem dX11_fewest_127 : decode cX11_fewest 127 = .ok (.iconst (-1), 1) := by decide +kernel
theorem dX11_fewest_128 : decode cX11_fewest 128 = .ok (.ixor, 1) := by decide +kernel
theorem dX11_fewest_129 : decode cX11_fewest 129 = .ok (.iand, 1) := by decide +kernel
theorem dX11_fewest_130 : decode cX11_fewest 130 = .ok (.iaload, 1) := by decide +kernel
theorem dX11_fewest_131 : decode cX11_fewest 131 = .ok (.istore 8, 2) := by decide +kernel
theorem dX11_fewest_133 : decode cX11_fewest 133 = .ok (.iload 8, 2) := by decide +kernel
theorem dX11_fewest_135 : decode cX11_fewest 135 = .ok (.ifCond .lt 38, 3) := by decide +kernel
theorem dX11_fewest_138 : decode cX11_fewest 138 = .ok (.aload_n 0, 1) := by decide +kernel
theorem dX11_fewest_139 : decode cX11_fewest 139 = .ok (.getfield 208, 3) := by decide +kernel
theorem dX11_fewest_142 : decode cX11_fewest 142 = .ok (.iload 5, 2) := by decide +kernel
theorem dX11_fewest_144 : decode cX11_fewest 144 = .ok (.iaload, 1) := by decide +kernel
theorem dX11_fewest_145 : decode cX11_fewest 145 = .ok (.ifCond .lt 17, 3) := by decide +kernel
theorem dX11_fewest_148 : decode cX11_fewest 148 = .ok (.iload 8, 2) := by decide +kernel
theorem dX11_fewest_150 : decode cX11_fewest 150 = .ok (.iconst 1, 1) := by decide +kernel
theorem dX11_fewest_151 : decode cX11_fewest 151 = .ok (.iadd, 1) := by decide +kernel
theorem dX11_fewest_152 : decode cX11_fewest 152 = .ok (.aload_n 0, 1) := by decide +kernel
theorem dX11_fewest_153 : decode cX11_fewest 153 = .ok (.getfield 208, 3) := by decide +kernel
theorem dX11_fewest_156 : decode cX11_fewest 156 = .ok (.iload 5, 2) := by decide +kernel
theorem dX11_fewest_158 : decode cX11_fewest 158 = .ok (.iaload, 1) := by decide +kernel
theorem dX11_fewest_159 : decode cX11_fewest 159 = .ok (.if_icmp .ge 14, 3) := by decide +kernel
theorem dX11_fewest_162 : decode cX11_fewest 162 = .ok (.aload_n 0, 1) := by decide +kernel
theorem dX11_fewest_163 : decode cX11_fewest 163 = .ok (.getfield 208, 3) := by decide +kernel
theorem dX11_fewest_166 : decode cX11_fewest 166 = .ok (.iload 5, 2) := by decide +kernel
theorem dX11_fewest_168 : decode cX11_fewest 168 = .ok (.iload 8, 2) := by decide +kernel
theorem dX11_fewest_170 : decode cX11_fewest 170 = .ok (.iconst 1, 1) := by decide +kernel
theorem dX11_fewest_171 : decode cX11_fewest 171 = .ok (.iadd, 1) := by decide +kernel
theorem dX11_fewest_172 : decode cX11_fewest 172 = .ok (.iastore, 1) := by decide +kernel
theorem dX11_fewest_173 : decode cX11_fewest 173 = .ok (.iinc 7 1, 3) := by decide +kernel
theorem dX11_fewest_176 : decode cX11_fewest 176 = .ok (.goto (-97), 3) := by decide +kernel
theorem dX11_fewest_179 : decode cX11_fewest 179 = .ok (.iinc 5 1, 3) := by decide +kernel
theorem dX11_fewest_182 : decode cX11_fewest 182 = .ok (.goto (-141), 3) := by decide +kernel
theorem dX11_fewest_185 : decode cX11_fewest 185 = .ok (.aload_n 0, 1) := by decide +kernel
theorem dX11_fewest_186 : decode cX11_fewest 186 = .ok (.getfield 208, 3) := by decide +kernel
theorem dX11_fewest_189 : decode cX11_fewest 189 = .ok (.iload 4, 2) := by decide +kernel
theorem dX11_fewest_191 : decode cX11_fewest 191 = .ok (.iaload, 1) := by decide +kernel
theorem dX11_fewest_192 : decode cX11_fewest 192 = .ok (.ifCond .ge 8, 3) := by decide +kernel
theorem dX11_fewest_195 : decode cX11_fewest 195 = .ok (.bipush (-2), 2) := by decide +kernel
theorem dX11_fewest_197 : decode cX11_fewest 197 = .ok (.goto 10, 3) := by decide +kernel
theorem dX11_fewest_200 : decode cX11_fewest 200 = .ok (.aload_n 0, 1) := by decide +kernel
theorem dX11_fewest_201 : decode cX11_fewest 201 = .ok (.getfield 208, 3) := by decide +kernel
theorem dX11_fewest_204 : decode cX11_fewest 204 = .ok (.iload 4, 2) := by decide +kernel
theorem dX11_fewest_206 : decode cX11_fewest 206 = .ok (.iaload, 1) := by decide +kernel
theorem dX11_fewest_207 : decode cX11_fewest 207 = .ok (.ireturn, 1) := by decide +kernel
theorem dX11_collects_0 : decode cX11_collects 0 = .ok (.aload_n 0, 1) := by decide +kernel
theorem dX11_collects_1 : decode cX11_collects 1 = .ok (.iload_n 1, 1) := by decide +kernel
theorem dX11_collects_2 : decode cX11_collects 2 = .ok (.iload_n 2, 1) := by decide +kernel
theorem dX11_collects_3 : decode cX11_collects 3 = .ok (.invokevirtual 501, 3) := by decide +kernel
theorem dX11_collects_6 : decode cX11_collects 6 = .ok (.aload_n 0, 1) := by decide +kernel
theorem dX11_collects_7 : decode cX11_collects 7 = .ok (.iconst 0, 1) := by decide +kernel
theorem dX11_collects_8 : decode cX11_collects 8 = .ok (.putfield 599, 3) := by decide +kernel
theorem dX11_collects_11 : decode cX11_collects 11 = .ok (.iconst 0, 1) := by decide +kernel
theorem dX11_collects_12 : decode cX11_collects 12 = .ok (.istore_n 3, 1) := by decide +kernel
theorem dX11_collects_13 : decode cX11_collects 13 = .ok (.iload_n 3, 1) := by decide +kernel
theorem dX11_collects_14 : decode cX11_collects 14 = .ok (.aload_n 0, 1) := by decide +kernel
theorem dX11_collects_15 : decode cX11_collects 15 = .ok (.getfield 58, 3) := by decide +kernel
theorem dX11_collects_18 : decode cX11_collects 18 = .ok (.aload_n 0, 1) := by decide +kernel
theorem dX11_collects_19 : decode cX11_collects 19 = .ok (.getfield 477, 3) := by decide +kernel
theorem dX11_collects_22 : decode cX11_collects 22 = .ok (.iaload, 1) := by decide +kernel
theorem dX11_collects_23 : decode cX11_collects 23 = .ok (.if_icmp .ge 112, 3) := by decide +kernel
theorem dX11_collects_26 : decode cX11_collects 26 = .ok (.aload_n 0, 1) := by decide +kernel
theorem dX11_collects_27 : decode cX11_collects 27 = .ok (.iload_n 3, 1) := by decide +kernel
theorem dX11_collects_28 : decode cX11_collects 28 = .ok (.iload_n 1, 1) := by decide +kernel
theorem dX11_collects_29 : decode cX11_collects 29 = .ok (.iload_n 2, 1) := by decide +kernel
theorem dX11_collects_30 : decode cX11_collects 30 = .ok (.invokevirtual 590, 3) := by decide +kernel
theorem dX11_collects_33 : decode cX11_collects 33 = .ok (.aload_n 0, 1) := by decide +kernel
theorem dX11_collects_34 : decode cX11_collects 34 = .ok (.invokevirtual 593, 3) := by decide +kernel
theorem dX11_collects_37 : decode cX11_collects 37 = .ok (.ifCond .ne 5, 3) := by decide +kernel
theorem dX11_collects_40 : decode cX11_collects 40 = .ok (.iconst 0, 1) := by decide +kernel
theorem dX11_collects_41 : decode cX11_collects 41 = .ok (.ireturn, 1) := by decide +kernel
theorem dX11_collects_42 : decode cX11_collects 42 = .ok (.iconst 0, 1) := by decide +kernel
theorem dX11_collects_43 : decode cX11_collects 43 = .ok (.istore 4, 2) := by decide +kernel
theorem dX11_collects_45 : decode cX11_collects 45 = .ok (.iload 4, 2) := by decide +kernel
theorem dX11_collects_47 : decode cX11_collects 47 = .ok (.aload_n 0, 1) := by decide +kernel
theorem dX11_collects_48 : decode cX11_collects 48 = .ok (.getfield 578, 3) := by decide +kernel
theorem dX11_collects_51 : decode cX11_collects 51 = .ok (.if_icmp .ge 78, 3) := by decide +kernel
theorem dX11_collects_54 : decode cX11_collects 54 = .ok (.aload_n 0, 1) := by decide +kernel
theorem dX11_collects_55 : decode cX11_collects 55 = .ok (.getfield 214, 3) := by decide +kernel
theorem dX11_collects_58 : decode cX11_collects 58 = .ok (.aload_n 0, 1) := by decide +kernel
theorem dX11_collects_59 : decode cX11_collects 59 = .ok (.getfield 599, 3) := by decide +kernel
theorem dX11_collects_62 : decode cX11_collects 62 = .ok (.iload_n 3, 1) := by decide +kernel
theorem dX11_collects_63 : decode cX11_collects 63 = .ok (.iastore, 1) := by decide +kernel
theorem dX11_collects_64 : decode cX11_collects 64 = .ok (.aload_n 0, 1) := by decide +kernel
theorem dX11_collects_65 : decode cX11_collects 65 = .ok (.getfield 217, 3) := by decide +kernel
theorem dX11_collects_68 : decode cX11_collects 68 = .ok (.aload_n 0, 1) := by decide +kernel
theorem dX11_collects_69 : decode cX11_collects 69 = .ok (.getfield 599, 3) := by decide +kernel
theorem dX11_collects_72 : decode cX11_collects 72 = .ok (.aload_n 0, 1) := by decide +kernel
theorem dX11_collects_73 : decode cX11_collects 73 = .ok (.aload_n 0, 1) := by decide +kernel
theorem dX11_collects_74 : decode cX11_collects 74 = .ok (.getfield 190, 3) := by decide +kernel
theorem dX11_collects_77 : decode cX11_collects 77 = .ok (.bipush 6, 2) := by decide +kernel
theorem dX11_collects_79 : decode cX11_collects 79 = .ok (.aload_n 0, 1) := by decide +kernel
theorem dX11_collects_80 : decode cX11_collects 80 = .ok (.getfield 211, 3) := by decide +kernel
theorem dX11_collects_83 : decode cX11_collects 83 = .ok (.iload 4, 2) := by decide +kernel
theorem dX11_collects_85 : decode cX11_collects 85 = .ok (.iaload, 1) := by decide +kernel
theorem dX11_collects_86 : decode cX11_collects 86 = .ok (.imul, 1) := by decide +kernel
theorem dX11_collects_87 : decode cX11_collects 87 = .ok (.iaload, 1) := by decide +kernel
theorem dX11_collects_88 : decode cX11_collects 88 = .ok (.invokevirtual 534, 3) := by decide +kernel
theorem dX11_collects_91 : decode cX11_collects 91 = .ok (.iastore, 1) := by decide +kernel
theorem dX11_collects_92 : decode cX11_collects 92 = .ok (.aload_n 0, 1) := by decide +kernel
theorem dX11_collects_93 : decode cX11_collects 93 = .ok (.getfield 220, 3) := by decide +kernel
theorem dX11_collects_96 : decode cX11_collects 96 = .ok (.aload_n 0, 1) := by decide +kernel
theorem dX11_collects_97 : decode cX11_collects 97 = .ok (.getfield 599, 3) := by decide +kernel
theorem dX11_collects_100 : decode cX11_collects 100 = .ok (.aload_n 0, 1) := by decide +kernel
theorem dX11_collects_101 : decode cX11_collects 101 = .ok (.getfield 187, 3) := by decide +kernel
theorem dX11_collects_104 : decode cX11_collects 104 = .ok (.aload_n 0, 1) := by decide +kernel
theorem dX11_collects_105 : decode cX11_collects 105 = .ok (.getfield 211, 3) := by decide +kernel
theorem dX11_collects_108 : decode cX11_collects 108 = .ok (.iload 4, 2) := by decide +kernel
theorem dX11_collects_110 : decode cX11_collects 110 = .ok (.iaload, 1) := by decide +kernel
theorem dX11_collects_111 : decode cX11_collects 111 = .ok (.iaload, 1) := by decide +kernel
theorem dX11_collects_112 : decode cX11_collects 112 = .ok (.iastore, 1) := by decide +kernel
theorem dX11_collects_113 : decode cX11_collects 113 = .ok (.aload_n 0, 1) := by decide +kernel
theorem dX11_collects_114 : decode cX11_collects 114 = .ok (.dup, 1) := by decide +kernel
theorem dX11_collects_115 : decode cX11_collects 115 = .ok (.getfield 599, 3) := by decide +kernel
theorem dX11_collects_118 : decode cX11_collects 118 = .ok (.iconst 1, 1) := by decide +kernel
theorem dX11_collects_119 : decode cX11_collects 119 = .ok (.iadd, 1) := by decide +kernel
theorem dX11_collects_120 : decode cX11_collects 120 = .ok (.putfield 599, 3) := by decide +kernel
theorem dX11_collects_123 : decode cX11_collects 123 = .ok (.iinc 4 1, 3) := by decide +kernel
theorem dX11_collects_126 : decode cX11_collects 126 = .ok (.goto (-81), 3) := by decide +kernel
theorem dX11_collects_129 : decode cX11_collects 129 = .ok (.iinc 3 1, 3) := by decide +kernel
theorem dX11_collects_132 : decode cX11_collects 132 = .ok (.goto (-119), 3) := by decide +kernel
theorem dX11_collects_135 : decode cX11_collects 135 = .ok (.iconst 1, 1) := by decide +kernel
theorem dX11_collects_136 : decode cX11_collects 136 = .ok (.ireturn, 1) := by decide +kernel
theorem dX11_bellOf_0 : decode cX11_bellOf 0 = .ok (.aload_n 0, 1) := by decide +kernel
theorem dX11_bellOf_1 : decode cX11_bellOf 1 = .ok (.getfield 64, 3) := by decide +kernel
theorem dX11_bellOf_4 : decode cX11_bellOf 4 = .ok (.iconst 3, 1) := by decide +kernel
theorem dX11_bellOf_5 : decode cX11_bellOf 5 = .ok (.aload_n 0, 1) := by decide +kernel
theorem dX11_bellOf_6 : decode cX11_bellOf 6 = .ok (.getfield 477, 3) := by decide +kernel
theorem dX11_bellOf_9 : decode cX11_bellOf 9 = .ok (.imul, 1) := by decide +kernel
theorem dX11_bellOf_10 : decode cX11_bellOf 10 = .ok (.iload_n 1, 1) := by decide +kernel
theorem dX11_bellOf_11 : decode cX11_bellOf 11 = .ok (.iadd, 1) := by decide +kernel
theorem dX11_bellOf_12 : decode cX11_bellOf 12 = .ok (.iaload, 1) := by decide +kernel
theorem dX11_bellOf_13 : decode cX11_bellOf 13 = .ok (.aload_n 0, 1) := by decide +kernel
theorem dX11_bellOf_14 : decode cX11_bellOf 14 = .ok (.getfield 223, 3) := by decide +kernel
theorem dX11_bellOf_17 : decode cX11_bellOf 17 = .ok (.iload_n 1, 1) := by decide +kernel
theorem dX11_bellOf_18 : decode cX11_bellOf 18 = .ok (.iaload, 1) := by decide +kernel
theorem dX11_bellOf_19 : decode cX11_bellOf 19 = .ok (.iadd, 1) := by decide +kernel
theorem dX11_bellOf_20 : decode cX11_bellOf 20 = .ok (.ireturn, 1) := by decide +kernel
theorem dX11_isBehind_0 : decode cX11_isBehind 0 = .ok (.aload_n 0, 1) := by decide +kernel
theorem dX11_isBehind_1 : decode cX11_isBehind 1 = .ok (.iconst 2, 1) := by decide +kernel
theorem dX11_isBehind_2 : decode cX11_isBehind 2 = .ok (.aload_n 0, 1) := by decide +kernel
theorem dX11_isBehind_3 : decode cX11_isBehind 3 = .ok (.aload_n 0, 1) := by decide +kernel
theorem dX11_isBehind_4 : decode cX11_isBehind 4 = .ok (.getfield 214, 3) := by decide +kernel
theorem dX11_isBehind_7 : decode cX11_isBehind 7 = .ok (.iload_n 1, 1) := by decide +kernel
theorem dX11_isBehind_8 : decode cX11_isBehind 8 = .ok (.iaload, 1) := by decide +kernel
theorem dX11_isBehind_9 : decode cX11_isBehind 9 = .ok (.invokevirtual 537, 3) := by decide +kernel
theorem dX11_isBehind_12 : decode cX11_isBehind 12 = .ok (.aload_n 0, 1) := by decide +kernel
theorem dX11_isBehind_13 : decode cX11_isBehind 13 = .ok (.getfield 217, 3) := by decide +kernel
theorem dX11_isBehind_16 : decode cX11_isBehind 16 = .ok (.iload_n 2, 1) := by decide +kernel
theorem dX11_isBehind_17 : decode cX11_isBehind 17 = .ok (.iaload, 1) := by decide +kernel
theorem dX11_isBehind_18 : decode cX11_isBehind 18 = .ok (.invokevirtual 504, 3) := by decide +kernel
theorem dX11_isBehind_21 : decode cX11_isBehind 21 = .ok (.istore_n 3, 1) := by decide +kernel
theorem dX11_isBehind_22 : decode cX11_isBehind 22 = .ok (.iload_n 1, 1) := by decide +kernel
theorem dX11_isBehind_23 : decode cX11_isBehind 23 = .ok (.iload_n 2, 1) := by decide +kernel
theorem dX11_isBehind_24 : decode cX11_isBehind 24 = .ok (.if_icmp .eq 39, 3) := by decide +kernel
theorem dX11_isBehind_27 : decode cX11_isBehind 27 = .ok (.iload_n 3, 1) := by decide +kernel
theorem dX11_isBehind_28 : decode cX11_isBehind 28 = .ok (.ifCond .lt 35, 3) := by decide +kernel
theorem dX11_isBehind_31 : decode cX11_isBehind 31 = .ok (.aload_n 0, 1) := by decide +kernel
theorem dX11_isBehind_32 : decode cX11_isBehind 32 = .ok (.aload_n 0, 1) := by decide +kernel
theorem dX11_isBehind_33 : decode cX11_isBehind 33 = .ok (.getfield 214, 3) := by decide +kernel
theorem dX11_isBehind_36 : decode cX11_isBehind 36 = .ok (.iload_n 1, 1) := by decide +kernel
theorem dX11_isBehind_37 : decode cX11_isBehind 37 = .ok (.iaload, 1) := by decide +kernel
theorem dX11_isBehind_38 : decode cX11_isBehind 38 = .ok (.invokevirtual 602, 3) := by decide +kernel
theorem dX11_isBehind_41 : decode cX11_isBehind 41 = .ok (.iload_n 3, 1) := by decide +kernel
theorem dX11_isBehind_42 : decode cX11_isBehind 42 = .ok (.iadd, 1) := by decide +kernel
theorem dX11_isBehind_43 : decode cX11_isBehind 43 = .ok (.aload_n 0, 1) := by decide +kernel
theorem dX11_isBehind_44 : decode cX11_isBehind 44 = .ok (.aload_n 0, 1) := by decide +kernel
theorem dX11_isBehind_45 : decode cX11_isBehind 45 = .ok (.getfield 214, 3) := by decide +kernel
theorem dX11_isBehind_48 : decode cX11_isBehind 48 = .ok (.iload_n 2, 1) := by decide +kernel
theorem dX11_isBehind_49 : decode cX11_isBehind 49 = .ok (.iaload, 1) := by decide +kernel
theorem dX11_isBehind_50 : decode cX11_isBehind 50 = .ok (.invokevirtual 602, 3) := by decide +kernel
theorem dX11_isBehind_53 : decode cX11_isBehind 53 = .ok (.aload_n 0, 1) := by decide +kernel
theorem dX11_isBehind_54 : decode cX11_isBehind 54 = .ok (.getfield 220, 3) := by decide +kernel
theorem dX11_isBehind_57 : decode cX11_isBehind 57 = .ok (.iload_n 2, 1) := by decide +kernel
theorem dX11_isBehind_58 : decode cX11_isBehind 58 = .ok (.iaload, 1) := by decide +kernel
theorem dX11_isBehind_59 : decode cX11_isBehind 59 = .ok (.isub, 1) := by decide +kernel
theorem dX11_isBehind_60 : decode cX11_isBehind 60 = .ok (.if_icmp .le 5, 3) := by decide +kernel
theorem dX11_isBehind_63 : decode cX11_isBehind 63 = .ok (.iconst 0, 1) := by decide +kernel
theorem dX11_isBehind_64 : decode cX11_isBehind 64 = .ok (.ireturn, 1) := by decide +kernel
theorem dX11_isBehind_65 : decode cX11_isBehind 65 = .ok (.aload_n 0, 1) := by decide +kernel
theorem dX11_isBehind_66 : decode cX11_isBehind 66 = .ok (.aload_n 0, 1) := by decide +kernel
theorem dX11_isBehind_67 : decode cX11_isBehind 67 = .ok (.getfield 214, 3) := by decide +kernel
theorem dX11_isBehind_70 : decode cX11_isBehind 70 = .ok (.iload_n 1, 1) := by decide +kernel
theorem dX11_isBehind_71 : decode cX11_isBehind 71 = .ok (.iaload, 1) := by decide +kernel
theorem dX11_isBehind_72 : decode cX11_isBehind 72 = .ok (.invokevirtual 602, 3) := by decide +kernel
theorem dX11_isBehind_75 : decode cX11_isBehind 75 = .ok (.aload_n 0, 1) := by decide +kernel
theorem dX11_isBehind_76 : decode cX11_isBehind 76 = .ok (.aload_n 0, 1) := by decide +kernel
theorem dX11_isBehind_77 : decode cX11_isBehind 77 = .ok (.getfield 214, 3) := by decide +kernel
theorem dX11_isBehind_80 : decode cX11_isBehind 80 = .ok (.iload_n 2, 1) := by decide +kernel
theorem dX11_isBehind_81 : decode cX11_isBehind 81 = .ok (.iaload, 1) := by decide +kernel
theorem dX11_isBehind_82 : decode cX11_isBehind 82 = .ok (.invokevirtual 602, 3) := by decide +kernel
theorem dX11_isBehind_85 : decode cX11_isBehind 85 = .ok (.if_icmp .ne 8, 3) := by decide +kernel
theorem dX11_isBehind_88 : decode cX11_isBehind 88 = .ok (.iload_n 1, 1) := by decide +kernel
theorem dX11_isBehind_89 : decode cX11_isBehind 89 = .ok (.iload_n 2, 1) := by decide +kernel
theorem dX11_isBehind_90 : decode cX11_isBehind 90 = .ok (.if_icmp .ge 7, 3) := by decide +kernel
theorem dX11_isBehind_93 : decode cX11_isBehind 93 = .ok (.iconst 1, 1) := by decide +kernel
theorem dX11_isBehind_94 : decode cX11_isBehind 94 = .ok (.goto 4, 3) := by decide +kernel
theorem dX11_isBehind_97 : decode cX11_isBehind 97 = .ok (.iconst 0, 1) := by decide +kernel
theorem dX11_isBehind_98 : decode cX11_isBehind 98 = .ok (.ireturn, 1) := by decide +kernel
theorem dX11_finds_0 : decode cX11_finds 0 = .ok (.iconst 0, 1) := by decide +kernel
theorem dX11_finds_1 : decode cX11_finds 1 = .ok (.istore_n 2, 1) := by decide +kernel
theorem dX11_finds_2 : decode cX11_finds 2 = .ok (.iload_n 2, 1) := by decide +kernel
theorem dX11_finds_3 : decode cX11_finds 3 = .ok (.aload_n 0, 1) := by decide +kernel
theorem dX11_finds_4 : decode cX11_finds 4 = .ok (.getfield 599, 3) := by decide +kernel
theorem dX11_finds_7 : decode cX11_finds 7 = .ok (.if_icmp .ge 16, 3) := by decide +kernel
theorem dX11_finds_10 : decode cX11_finds 10 = .ok (.aload_n 0, 1) := by decide +kernel
theorem dX11_finds_11 : decode cX11_finds 11 = .ok (.getfield 229, 3) := by decide +kernel
theorem dX11_finds_14 : decode cX11_finds 14 = .ok (.iload_n 2, 1) := by decide +kernel
theorem dX11_finds_15 : decode cX11_finds 15 = .ok (.iconst 0, 1) := by decide +kernel
theorem dX11_finds_16 : decode cX11_finds 16 = .ok (.bastore, 1) := by decide +kernel
theorem dX11_finds_17 : decode cX11_finds 17 = .ok (.iinc 2 1, 3) := by decide +kernel
theorem dX11_finds_20 : decode cX11_finds 20 = .ok (.goto (-18), 3) := by decide +kernel
theorem dX11_finds_23 : decode cX11_finds 23 = .ok (.iconst 0, 1) := by decide +kernel
theorem dX11_finds_24 : decode cX11_finds 24 = .ok (.istore_n 2, 1) := by decide +kernel
theorem dX11_finds_25 : decode cX11_finds 25 = .ok (.aload_n 0, 1) := by decide +kernel
theorem dX11_finds_26 : decode cX11_finds 26 = .ok (.getfield 232, 3) := by decide +kernel
theorem dX11_finds_29 : decode cX11_finds 29 = .ok (.iconst 0, 1) := by decide +kernel
theorem dX11_finds_30 : decode cX11_finds 30 = .ok (.iload_n 1, 1) := by decide +kernel
theorem dX11_finds_31 : decode cX11_finds 31 = .ok (.iastore, 1) := by decide +kernel
theorem dX11_finds_32 : decode cX11_finds 32 = .ok (.aload_n 0, 1) := by decide +kernel
theorem dX11_finds_33 : decode cX11_finds 33 = .ok (.getfield 235, 3) := by decide +kernel
theorem dX11_finds_36 : decode cX11_finds 36 = .ok (.iconst 0, 1) := by decide +kernel
theorem dX11_finds_37 : decode cX11_finds 37 = .ok (.iconst (-1), 1) := by decide +kernel
theorem dX11_finds_38 : decode cX11_finds 38 = .ok (.iastore, 1) := by decide +kernel
theorem dX11_finds_39 : decode cX11_finds 39 = .ok (.iload_n 2, 1) := by decide +kernel
theorem dX11_finds_40 : decode cX11_finds 40 = .ok (.ifCond .lt 136, 3) := by decide +kernel
theorem dX11_finds_43 : decode cX11_finds 43 = .ok (.aload_n 0, 1) := by decide +kernel
theorem dX11_finds_44 : decode cX11_finds 44 = .ok (.getfield 235, 3) := by decide +kernel
theorem dX11_finds_47 : decode cX11_finds 47 = .ok (.iload_n 2, 1) := by decide +kernel
theorem dX11_finds_48 : decode cX11_finds 48 = .ok (.dup2, 1) := by decide +kernel
theorem dX11_finds_49 : decode cX11_finds 49 = .ok (.iaload, 1) := by decide +kernel
theorem dX11_finds_50 : decode cX11_finds 50 = .ok (.iconst 1, 1) := by decide +kernel
theorem dX11_finds_51 : decode cX11_finds 51 = .ok (.iadd, 1) := by decide +kernel
theorem dX11_finds_52 : decode cX11_finds 52 = .ok (.iastore, 1) := by decide +kernel
theorem dX11_finds_53 : decode cX11_finds 53 = .ok (.aload_n 0, 1) := by decide +kernel
theorem dX11_finds_54 : decode cX11_finds 54 = .ok (.getfield 235, 3) := by decide +kernel
theorem dX11_finds_57 : decode cX11_finds 57 = .ok (.iload_n 2, 1) := by decide +kernel
theorem dX11_finds_58 : decode cX11_finds 58 = .ok (.iaload, 1) := by decide +kernel
theorem dX11_finds_59 : decode cX11_finds 59 = .ok (.istore_n 3, 1) := by decide +kernel
theorem dX11_finds_60 : decode cX11_finds 60 = .ok (.iload_n 3, 1) := by decide +kernel
theorem dX11_finds_61 : decode cX11_finds 61 = .ok (.aload_n 0, 1) := by decide +kernel
theorem dX11_finds_62 : decode cX11_finds 62 = .ok (.getfield 599, 3) := by decide +kernel
theorem dX11_finds_65 : decode cX11_finds 65 = .ok (.if_icmp .lt 9, 3) := by decide +kernel
theorem dX11_finds_68 : decode cX11_finds 68 = .ok (.iinc 2 (-1), 3) := by decide +kernel
theorem dX11_finds_71 : decode cX11_finds 71 = .ok (.goto (-32), 3) := by decide +kernel
theorem dX11_finds_74 : decode cX11_finds 74 = .ok (.aload_n 0, 1) := by decide +kernel
theorem dX11_finds_75 : decode cX11_finds 75 = .ok (.getfield 229, 3) := by decide +kernel
theorem dX11_finds_78 : decode cX11_finds 78 = .ok (.iload_n 3, 1) := by decide +kernel
theorem dX11_finds_79 : decode cX11_finds 79 = .ok (.baload, 1) := by decide +kernel
theorem dX11_finds_80 : decode cX11_finds 80 = .ok (.ifCond .ne (-41), 3) := by decide +kernel
theorem dX11_finds_83 : decode cX11_finds 83 = .ok (.aload_n 0, 1) := by decide +kernel
theorem dX11_finds_84 : decode cX11_finds 84 = .ok (.aload_n 0, 1) := by decide +kernel
theorem dX11_finds_85 : decode cX11_finds 85 = .ok (.getfield 232, 3) := by decide +kernel
theorem dX11_finds_88 : decode cX11_finds 88 = .ok (.iload_n 2, 1) := by decide +kernel
theorem dX11_finds_89 : decode cX11_finds 89 = .ok (.iaload, 1) := by decide +kernel
theorem dX11_finds_90 : decode cX11_finds 90 = .ok (.iload_n 3, 1) := by decide +kernel
theorem dX11_finds_91 : decode cX11_finds 91 = .ok (.invokevirtual 605, 3) := by decide +kernel
theorem dX11_finds_94 : decode cX11_finds 94 = .ok (.ifCond .ne 6, 3) := by decide +kernel
theorem dX11_finds_97 : decode cX11_finds 97 = .ok (.goto (-58), 3) := by decide +kernel
theorem dX11_finds_100 : decode cX11_finds 100 = .ok (.aload_n 0, 1) := by decide +kernel
theorem dX11_finds_101 : decode cX11_finds 101 = .ok (.getfield 229, 3) := by decide +kernel
theorem dX11_finds_104 : decode cX11_finds 104 = .ok (.iload_n 3, 1) := by decide +kernel
theorem dX11_finds_105 : decode cX11_finds 105 = .ok (.iconst 1, 1) := by decide +kernel
theorem dX11_finds_106 : decode cX11_finds 106 = .ok (.bastore, 1) := by decide +kernel
theorem dX11_finds_107 : decode cX11_finds 107 = .ok (.aload_n 0, 1) := by decide +kernel
theorem dX11_finds_108 : decode cX11_finds 108 = .ok (.getfield 226, 3) := by decide +kernel
theorem dX11_finds_111 : decode cX11_finds 111 = .ok (.iload_n 3, 1) := by decide +kernel
theorem dX11_finds_112 : decode cX11_finds 112 = .ok (.iaload, 1) := by decide +kernel
theorem dX11_finds_113 : decode cX11_finds 113 = .ok (.ifCond .ge 38, 3) := by decide +kernel
theorem dX11_finds_116 : decode cX11_finds 116 = .ok (.iload_n 2, 1) := by decide +kernel
theorem dX11_finds_117 : decode cX11_finds 117 = .ok (.istore 4, 2) := by decide +kernel
theorem dX11_finds_119 : decode cX11_finds 119 = .ok (.iload 4, 2) := by decide +kernel
theorem dX11_finds_121 : decode cX11_finds 121 = .ok (.ifCond .lt 28, 3) := by decide +kernel
theorem dX11_finds_124 : decode cX11_finds 124 = .ok (.aload_n 0, 1) := by decide +kernel
theorem dX11_finds_125 : decode cX11_finds 125 = .ok (.getfield 226, 3) := by decide +kernel
theorem dX11_finds_128 : decode cX11_finds 128 = .ok (.aload_n 0, 1) := by decide +kernel
theorem dX11_finds_129 : decode cX11_finds 129 = .ok (.getfield 235, 3) := by decide +kernel
theorem dX11_finds_132 : decode cX11_finds 132 = .ok (.iload 4, 2) := by decide +kernel
theorem dX11_finds_134 : decode cX11_finds 134 = .ok (.iaload, 1) := by decide +kernel
theorem dX11_finds_135 : decode cX11_finds 135 = .ok (.aload_n 0, 1) := by decide +kernel
theorem dX11_finds_136 : decode cX11_finds 136 = .ok (.getfield 232, 3) := by decide +kernel
theorem dX11_finds_139 : decode cX11_finds 139 = .ok (.iload 4, 2) := by decide +kernel
theorem dX11_finds_141 : decode cX11_finds 141 = .ok (.iaload, 1) := by decide +kernel
theorem dX11_finds_142 : decode cX11_finds 142 = .ok (.iastore, 1) := by decide +kernel
theorem dX11_finds_143 : decode cX11_finds 143 = .ok (.iinc 4 (-1), 3) := by decide +kernel
theorem dX11_finds_146 : decode cX11_finds 146 = .ok (.goto (-27), 3) := by decide +kernel
theorem dX11_finds_149 : decode cX11_finds 149 = .ok (.iconst 1, 1) := by decide +kernel
theorem dX11_finds_150 : decode cX11_finds 150 = .ok (.ireturn, 1) := by decide +kernel
theorem dX11_finds_151 : decode cX11_finds 151 = .ok (.iinc 2 1, 3) := by decide +kernel
theorem dX11_finds_154 : decode cX11_finds 154 = .ok (.aload_n 0, 1) := by decide +kernel
theorem dX11_finds_155 : decode cX11_finds 155 = .ok (.getfield 232, 3) := by decide +kernel
theorem dX11_finds_158 : decode cX11_finds 158 = .ok (.iload_n 2, 1) := by decide +kernel
theorem dX11_finds_159 : decode cX11_finds 159 = .ok (.aload_n 0, 1) := by decide +kernel
theorem dX11_finds_160 : decode cX11_finds 160 = .ok (.getfield 226, 3) := by decide +kernel
theorem dX11_finds_163 : decode cX11_finds 163 = .ok (.iload_n 3, 1) := by decide +kernel
theorem dX11_finds_164 : decode cX11_finds 164 = .ok (.iaload, 1) := by decide +kernel
theorem dX11_finds_165 : decode cX11_finds 165 = .ok (.iastore, 1) := by decide +kernel
theorem dX11_finds_166 : decode cX11_finds 166 = .ok (.aload_n 0, 1) := by decide +kernel
theorem dX11_finds_167 : decode cX11_finds 167 = .ok (.getfield 235, 3) := by decide +kernel
theorem dX11_finds_170 : decode cX11_finds 170 = .ok (.iload_n 2, 1) := by decide +kernel
theorem dX11_finds_171 : decode cX11_finds 171 = .ok (.iconst (-1), 1) := by decide +kernel
theorem dX11_finds_172 : decode cX11_finds 172 = .ok (.iastore, 1) := by decide +kernel
theorem dX11_finds_173 : decode cX11_finds 173 = .ok (.goto (-134), 3) := by decide +kernel
theorem dX11_finds_176 : decode cX11_finds 176 = .ok (.iconst 0, 1) := by decide +kernel
theorem dX11_finds_177 : decode cX11_finds 177 = .ok (.ireturn, 1) := by decide +kernel
theorem dX11_busesOf_0 : decode cX11_busesOf 0 = .ok (.aload_n 0, 1) := by decide +kernel
theorem dX11_busesOf_1 : decode cX11_busesOf 1 = .ok (.getfield 599, 3) := by decide +kernel
theorem dX11_busesOf_4 : decode cX11_busesOf 4 = .ok (.istore_n 1, 1) := by decide +kernel
theorem dX11_busesOf_5 : decode cX11_busesOf 5 = .ok (.iconst 0, 1) := by decide +kernel
theorem dX11_busesOf_6 : decode cX11_busesOf 6 = .ok (.istore_n 2, 1) := by decide +kernel
theorem dX11_busesOf_7 : decode cX11_busesOf 7 = .ok (.iload_n 2, 1) := by decide +kernel
theorem dX11_busesOf_8 : decode cX11_busesOf 8 = .ok (.aload_n 0, 1) := by decide +kernel
theorem dX11_busesOf_9 : decode cX11_busesOf 9 = .ok (.getfield 599, 3) := by decide +kernel
theorem dX11_busesOf_12 : decode cX11_busesOf 12 = .ok (.if_icmp .ge 16, 3) := by decide +kernel
theorem dX11_busesOf_15 : decode cX11_busesOf 15 = .ok (.aload_n 0, 1) := by decide +kernel
theorem dX11_busesOf_16 : decode cX11_busesOf 16 = .ok (.getfield 226, 3) := by decide +kernel
theorem dX11_busesOf_19 : decode cX11_busesOf 19 = .ok (.iload_n 2, 1) := by decide +kernel
theorem dX11_busesOf_20 : decode cX11_busesOf 20 = .ok (.iconst (-1), 1) := by decide +kernel
theorem dX11_busesOf_21 : decode cX11_busesOf 21 = .ok (.iastore, 1) := by decide +kernel
theorem dX11_busesOf_22 : decode cX11_busesOf 22 = .ok (.iinc 2 1, 3) := by decide +kernel
theorem dX11_busesOf_25 : decode cX11_busesOf 25 = .ok (.goto (-18), 3) := by decide +kernel
theorem dX11_busesOf_28 : decode cX11_busesOf 28 = .ok (.iconst 0, 1) := by decide +kernel
theorem dX11_busesOf_29 : decode cX11_busesOf 29 = .ok (.istore_n 2, 1) := by decide +kernel
theorem dX11_busesOf_30 : decode cX11_busesOf 30 = .ok (.iload_n 2, 1) := by decide +kernel
theorem dX11_busesOf_31 : decode cX11_busesOf 31 = .ok (.aload_n 0, 1) := by decide +kernel
theorem dX11_busesOf_32 : decode cX11_busesOf 32 = .ok (.getfield 599, 3) := by decide +kernel
theorem dX11_busesOf_35 : decode cX11_busesOf 35 = .ok (.if_icmp .ge 25, 3) := by decide +kernel
theorem dX11_busesOf_38 : decode cX11_busesOf 38 = .ok (.iload_n 1, 1) := by decide +kernel
theorem dX11_busesOf_39 : decode cX11_busesOf 39 = .ok (.aload_n 0, 1) := by decide +kernel
theorem dX11_busesOf_40 : decode cX11_busesOf 40 = .ok (.iload_n 2, 1) := by decide +kernel
theorem dX11_busesOf_41 : decode cX11_busesOf 41 = .ok (.invokevirtual 608, 3) := by decide +kernel
theorem dX11_busesOf_44 : decode cX11_busesOf 44 = .ok (.ifCond .eq 7, 3) := by decide +kernel
theorem dX11_busesOf_47 : decode cX11_busesOf 47 = .ok (.iconst 1, 1) := by decide +kernel
theorem dX11_busesOf_48 : decode cX11_busesOf 48 = .ok (.goto 4, 3) := by decide +kernel
theorem dX11_busesOf_51 : decode cX11_busesOf 51 = .ok (.iconst 0, 1) := by decide +kernel
theorem dX11_busesOf_52 : decode cX11_busesOf 52 = .ok (.isub, 1) := by decide +kernel
theorem dX11_busesOf_53 : decode cX11_busesOf 53 = .ok (.istore_n 1, 1) := by decide +kernel
theorem dX11_busesOf_54 : decode cX11_busesOf 54 = .ok (.iinc 2 1, 3) := by decide +kernel
theorem dX11_busesOf_57 : decode cX11_busesOf 57 = .ok (.goto (-27), 3) := by decide +kernel
theorem dX11_busesOf_60 : decode cX11_busesOf 60 = .ok (.iload_n 1, 1) := by decide +kernel
theorem dX11_busesOf_61 : decode cX11_busesOf 61 = .ok (.ireturn, 1) := by decide +kernel
theorem dX11_fleet_0 : decode cX11_fleet 0 = .ok (.aload_n 0, 1) := by decide +kernel
theorem dX11_fleet_1 : decode cX11_fleet 1 = .ok (.iload_n 1, 1) := by decide +kernel
theorem dX11_fleet_2 : decode cX11_fleet 2 = .ok (.iload_n 2, 1) := by decide +kernel
theorem dX11_fleet_3 : decode cX11_fleet 3 = .ok (.invokevirtual 494, 3) := by decide +kernel
theorem dX11_fleet_6 : decode cX11_fleet 6 = .ok (.ifCond .ne 5, 3) := by decide +kernel
theorem dX11_fleet_9 : decode cX11_fleet 9 = .ok (.iconst (-1), 1) := by decide +kernel
theorem dX11_fleet_10 : decode cX11_fleet 10 = .ok (.ireturn, 1) := by decide +kernel
theorem dX11_fleet_11 : decode cX11_fleet 11 = .ok (.aload_n 0, 1) := by decide +kernel
theorem dX11_fleet_12 : decode cX11_fleet 12 = .ok (.iload_n 1, 1) := by decide +kernel
theorem dX11_fleet_13 : decode cX11_fleet 13 = .ok (.iload_n 2, 1) := by decide +kernel
theorem dX11_fleet_14 : decode cX11_fleet 14 = .ok (.invokevirtual 611, 3) := by decide +kernel
theorem dX11_fleet_17 : decode cX11_fleet 17 = .ok (.ifCond .ne 6, 3) := by decide +kernel
theorem dX11_fleet_20 : decode cX11_fleet 20 = .ok (.bipush (-2), 2) := by decide +kernel
theorem dX11_fleet_22 : decode cX11_fleet 22 = .ok (.ireturn, 1) := by decide +kernel
theorem dX11_fleet_23 : decode cX11_fleet 23 = .ok (.iconst 0, 1) := by decide +kernel
theorem dX11_fleet_24 : decode cX11_fleet 24 = .ok (.istore_n 3, 1) := by decide +kernel
theorem dX11_fleet_25 : decode cX11_fleet 25 = .ok (.iload_n 3, 1) := by decide +kernel
theorem dX11_fleet_26 : decode cX11_fleet 26 = .ok (.iconst 3, 1) := by decide +kernel
theorem dX11_fleet_27 : decode cX11_fleet 27 = .ok (.if_icmp .ge 16, 3) := by decide +kernel
theorem dX11_fleet_30 : decode cX11_fleet 30 = .ok (.aload_n 0, 1) := by decide +kernel
theorem dX11_fleet_31 : decode cX11_fleet 31 = .ok (.getfield 223, 3) := by decide +kernel
theorem dX11_fleet_34 : decode cX11_fleet 34 = .ok (.iload_n 3, 1) := by decide +kernel
theorem dX11_fleet_35 : decode cX11_fleet 35 = .ok (.iconst 0, 1) := by decide +kernel
theorem dX11_fleet_36 : decode cX11_fleet 36 = .ok (.iastore, 1) := by decide +kernel
theorem dX11_fleet_37 : decode cX11_fleet 37 = .ok (.iinc 3 1, 3) := by decide +kernel
theorem dX11_fleet_40 : decode cX11_fleet 40 = .ok (.goto (-15), 3) := by decide +kernel
theorem dX11_fleet_43 : decode cX11_fleet 43 = .ok (.aload_n 0, 1) := by decide +kernel
theorem dX11_fleet_44 : decode cX11_fleet 44 = .ok (.invokevirtual 614, 3) := by decide +kernel
theorem dX11_fleet_47 : decode cX11_fleet 47 = .ok (.ireturn, 1) := by decide +kernel
theorem dX11_plain_0 : decode cX11_plain 0 = .ok (.iload_n 0, 1) := by decide +kernel
theorem dX11_plain_1 : decode cX11_plain 1 = .ok (.ifCond .ge 8, 3) := by decide +kernel
theorem dX11_plain_4 : decode cX11_plain 4 = .ok (.iload_n 0, 1) := by decide +kernel
theorem dX11_plain_5 : decode cX11_plain 5 = .ok (.ineg, 1) := by decide +kernel
theorem dX11_plain_6 : decode cX11_plain 6 = .ok (.goto 4, 3) := by decide +kernel
theorem dX11_plain_9 : decode cX11_plain 9 = .ok (.iload_n 0, 1) := by decide +kernel
theorem dX11_plain_10 : decode cX11_plain 10 = .ok (.ireturn, 1) := by decide +kernel
theorem dX11_shiftedFleet_0 : decode cX11_shiftedFleet 0 = .ok (.aload_n 0, 1) := by decide +kernel
theorem dX11_shiftedFleet_1 : decode cX11_shiftedFleet 1 = .ok (.iload_n 1, 1) := by decide +kernel
theorem dX11_shiftedFleet_2 : decode cX11_shiftedFleet 2 = .ok (.iload_n 2, 1) := by decide +kernel
theorem dX11_shiftedFleet_3 : decode cX11_shiftedFleet 3 = .ok (.invokevirtual 611, 3) := by decide +kernel
theorem dX11_shiftedFleet_6 : decode cX11_shiftedFleet 6 = .ok (.ifCond .ne 6, 3) := by decide +kernel
theorem dX11_shiftedFleet_9 : decode cX11_shiftedFleet 9 = .ok (.bipush (-2), 2) := by decide +kernel
theorem dX11_shiftedFleet_11 : decode cX11_shiftedFleet 11 = .ok (.ireturn, 1) := by decide +kernel
theorem dX11_shiftedFleet_12 : decode cX11_shiftedFleet 12 = .ok (.iconst (-1), 1) := by decide +kernel
theorem dX11_shiftedFleet_13 : decode cX11_shiftedFleet 13 = .ok (.istore_n 3, 1) := by decide +kernel
theorem dX11_shiftedFleet_14 : decode cX11_shiftedFleet 14 = .ok (.iconst 0, 1) := by decide +kernel
theorem dX11_shiftedFleet_15 : decode cX11_shiftedFleet 15 = .ok (.istore 4, 2) := by decide +kernel
theorem dX11_shiftedFleet_17 : decode cX11_shiftedFleet 17 = .ok (.iconst 1, 1) := by decide +kernel
theorem dX11_shiftedFleet_18 : decode cX11_shiftedFleet 18 = .ok (.istore 5, 2) := by decide +kernel
theorem dX11_shiftedFleet_20 : decode cX11_shiftedFleet 20 = .ok (.iconst 0, 1) := by decide +kernel
theorem dX11_shiftedFleet_21 : decode cX11_shiftedFleet 21 = .ok (.istore 6, 2) := by decide +kernel
theorem dX11_shiftedFleet_23 : decode cX11_shiftedFleet 23 = .ok (.iload 6, 2) := by decide +kernel
theorem dX11_shiftedFleet_25 : decode cX11_shiftedFleet 25 = .ok (.aload_n 0, 1) := by decide +kernel
theorem dX11_shiftedFleet_26 : decode cX11_shiftedFleet 26 = .ok (.getfield 58, 3) := by decide +kernel
theorem dX11_shiftedFleet_29 : decode cX11_shiftedFleet 29 = .ok (.aload_n 0, 1) := by decide +kernel
theorem dX11_shiftedFleet_30 : decode cX11_shiftedFleet 30 = .ok (.getfield 477, 3) := by decide +kernel
theorem dX11_shiftedFleet_33 : decode cX11_shiftedFleet 33 = .ok (.iaload, 1) := by decide +kernel
theorem dX11_shiftedFleet_34 : decode cX11_shiftedFleet 34 = .ok (.if_icmp .ge 15, 3) := by decide +kernel
theorem dX11_shiftedFleet_37 : decode cX11_shiftedFleet 37 = .ok (.iload 5, 2) := by decide +kernel
theorem dX11_shiftedFleet_39 : decode cX11_shiftedFleet 39 = .ok (.iconst 5, 1) := by decide +kernel
theorem dX11_shiftedFleet_40 : decode cX11_shiftedFleet 40 = .ok (.imul, 1) := by decide +kernel
theorem dX11_shiftedFleet_41 : decode cX11_shiftedFleet 41 = .ok (.istore 5, 2) := by decide +kernel
theorem dX11_shiftedFleet_43 : decode cX11_shiftedFleet 43 = .ok (.iinc 6 1, 3) := by decide +kernel
theorem dX11_shiftedFleet_46 : decode cX11_shiftedFleet 46 = .ok (.goto (-23), 3) := by decide +kernel
theorem dX11_shiftedFleet_49 : decode cX11_shiftedFleet 49 = .ok (.iconst 0, 1) := by decide +kernel
theorem dX11_shiftedFleet_50 : decode cX11_shiftedFleet 50 = .ok (.istore 6, 2) := by decide +kernel
theorem dX11_shiftedFleet_52 : decode cX11_shiftedFleet 52 = .ok (.iload 6, 2) := by decide +kernel
theorem dX11_shiftedFleet_54 : decode cX11_shiftedFleet 54 = .ok (.iload 5, 2) := by decide +kernel
theorem dX11_shiftedFleet_56 : decode cX11_shiftedFleet 56 = .ok (.if_icmp .ge 160, 3) := by decide +kernel
theorem dX11_shiftedFleet_59 : decode cX11_shiftedFleet 59 = .ok (.iload 6, 2) := by decide +kernel
theorem dX11_shiftedFleet_61 : decode cX11_shiftedFleet 61 = .ok (.istore 7, 2) := by decide +kernel
theorem dX11_shiftedFleet_63 : decode cX11_shiftedFleet 63 = .ok (.iconst 0, 1) := by decide +kernel
theorem dX11_shiftedFleet_64 : decode cX11_shiftedFleet 64 = .ok (.istore 8, 2) := by decide +kernel
theorem dX11_shiftedFleet_66 : decode cX11_shiftedFleet 66 = .ok (.iconst 2, 1) := by decide +kernel
theorem dX11_shiftedFleet_67 : decode cX11_shiftedFleet 67 = .ok (.istore 9, 2) := by decide +kernel
theorem dX11_shiftedFleet_69 : decode cX11_shiftedFleet 69 = .ok (.iload 9, 2) := by decide +kernel
theorem dX11_shiftedFleet_71 : decode cX11_shiftedFleet 71 = .ok (.ifCond .lt 71, 3) := by decide +kernel
theorem dX11_shiftedFleet_74 : decode cX11_shiftedFleet 74 = .ok (.aload_n 0, 1) := by decide +kernel
theorem dX11_shiftedFleet_75 : decode cX11_shiftedFleet 75 = .ok (.getfield 223, 3) := by decide +kernel
theorem dX11_shiftedFleet_78 : decode cX11_shiftedFleet 78 = .ok (.iload 9, 2) := by decide +kernel
theorem dX11_shiftedFleet_80 : decode cX11_shiftedFleet 80 = .ok (.iconst 0, 1) := by decide +kernel
theorem dX11_shiftedFleet_81 : decode cX11_shiftedFleet 81 = .ok (.iastore, 1) := by decide +kernel
theorem dX11_shiftedFleet_82 : decode cX11_shiftedFleet 82 = .ok (.iload 9, 2) := by decide +kernel
theorem dX11_shiftedFleet_84 : decode cX11_shiftedFleet 84 = .ok (.aload_n 0, 1) := by decide +kernel
theorem dX11_shiftedFleet_85 : decode cX11_shiftedFleet 85 = .ok (.getfield 58, 3) := by decide +kernel
theorem dX11_shiftedFleet_88 : decode cX11_shiftedFleet 88 = .ok (.aload_n 0, 1) := by decide +kernel
theorem dX11_shiftedFleet_89 : decode cX11_shiftedFleet 89 = .ok (.getfield 477, 3) := by decide +kernel
theorem dX11_shiftedFleet_92 : decode cX11_shiftedFleet 92 = .ok (.iaload, 1) := by decide +kernel
theorem dX11_shiftedFleet_93 : decode cX11_shiftedFleet 93 = .ok (.if_icmp .lt 6, 3) := by decide +kernel
theorem dX11_shiftedFleet_96 : decode cX11_shiftedFleet 96 = .ok (.goto 40, 3) := by decide +kernel
theorem dX11_shiftedFleet_99 : decode cX11_shiftedFleet 99 = .ok (.aload_n 0, 1) := by decide +kernel
theorem dX11_shiftedFleet_100 : decode cX11_shiftedFleet 100 = .ok (.getfield 223, 3) := by decide +kernel
theorem dX11_shiftedFleet_103 : decode cX11_shiftedFleet 103 = .ok (.iload 9, 2) := by decide +kernel
theorem dX11_shiftedFleet_105 : decode cX11_shiftedFleet 105 = .ok (.bipush 10, 2) := by decide +kernel
theorem dX11_shiftedFleet_107 : decode cX11_shiftedFleet 107 = .ok (.iload 7, 2) := by decide +kernel
theorem dX11_shiftedFleet_109 : decode cX11_shiftedFleet 109 = .ok (.iconst 5, 1) := by decide +kernel
theorem dX11_shiftedFleet_110 : decode cX11_shiftedFleet 110 = .ok (.irem, 1) := by decide +kernel
theorem dX11_shiftedFleet_111 : decode cX11_shiftedFleet 111 = .ok (.iconst 2, 1) := by decide +kernel
theorem dX11_shiftedFleet_112 : decode cX11_shiftedFleet 112 = .ok (.isub, 1) := by decide +kernel
theorem dX11_shiftedFleet_113 : decode cX11_shiftedFleet 113 = .ok (.imul, 1) := by decide +kernel
theorem dX11_shiftedFleet_114 : decode cX11_shiftedFleet 114 = .ok (.iastore, 1) := by decide +kernel
theorem dX11_shiftedFleet_115 : decode cX11_shiftedFleet 115 = .ok (.iload 7, 2) := by decide +kernel
theorem dX11_shiftedFleet_117 : decode cX11_shiftedFleet 117 = .ok (.iconst 5, 1) := by decide +kernel
theorem dX11_shiftedFleet_118 : decode cX11_shiftedFleet 118 = .ok (.idiv, 1) := by decide +kernel
theorem dX11_shiftedFleet_119 : decode cX11_shiftedFleet 119 = .ok (.istore 7, 2) := by decide +kernel
theorem dX11_shiftedFleet_121 : decode cX11_shiftedFleet 121 = .ok (.iload 8, 2) := by decide +kernel
theorem dX11_shiftedFleet_123 : decode cX11_shiftedFleet 123 = .ok (.aload_n 0, 1) := by decide +kernel
theorem dX11_shiftedFleet_124 : decode cX11_shiftedFleet 124 = .ok (.getfield 223, 3) := by decide +kernel
theorem dX11_shiftedFleet_127 : decode cX11_shiftedFleet 127 = .ok (.iload 9, 2) := by decide +kernel
theorem dX11_shiftedFleet_129 : decode cX11_shiftedFleet 129 = .ok (.iaload, 1) := by decide +kernel
theorem dX11_shiftedFleet_130 : decode cX11_shiftedFleet 130 = .ok (.invokestatic 617, 3) := by decide +kernel
theorem dX11_shiftedFleet_133 : decode cX11_shiftedFleet 133 = .ok (.iadd, 1) := by decide +kernel
theorem dX11_shiftedFleet_134 : decode cX11_shiftedFleet 134 = .ok (.istore 8, 2) := by decide +kernel
theorem dX11_shiftedFleet_136 : decode cX11_shiftedFleet 136 = .ok (.iinc 9 (-1), 3) := by decide +kernel
theorem dX11_shiftedFleet_139 : decode cX11_shiftedFleet 139 = .ok (.goto (-70), 3) := by decide +kernel
theorem dX11_shiftedFleet_142 : decode cX11_shiftedFleet 142 = .ok (.aload_n 0, 1) := by decide +kernel
theorem dX11_shiftedFleet_143 : decode cX11_shiftedFleet 143 = .ok (.invokevirtual 614, 3) := by decide +kernel
theorem dX11_shiftedFleet_146 : decode cX11_shiftedFleet 146 = .ok (.istore 9, 2) := by decide +kernel
theorem dX11_shiftedFleet_148 : decode cX11_shiftedFleet 148 = .ok (.iload_n 3, 1) := by decide +kernel
theorem dX11_shiftedFleet_149 : decode cX11_shiftedFleet 149 = .ok (.ifCond .lt 25, 3) := by decide +kernel
theorem dX11_shiftedFleet_152 : decode cX11_shiftedFleet 152 = .ok (.iload 9, 2) := by decide +kernel
theorem dX11_shiftedFleet_154 : decode cX11_shiftedFleet 154 = .ok (.iload_n 3, 1) := by decide +kernel
theorem dX11_shiftedFleet_155 : decode cX11_shiftedFleet 155 = .ok (.if_icmp .gt 55, 3) := by decide +kernel
theorem dX11_shiftedFleet_158 : decode cX11_shiftedFleet 158 = .ok (.iload 9, 2) := by decide +kernel
theorem dX11_shiftedFleet_160 : decode cX11_shiftedFleet 160 = .ok (.iload_n 3, 1) := by decide +kernel
theorem dX11_shiftedFleet_161 : decode cX11_shiftedFleet 161 = .ok (.if_icmp .ne 13, 3) := by decide +kernel
theorem dX11_shiftedFleet_164 : decode cX11_shiftedFleet 164 = .ok (.iload 8, 2) := by decide +kernel
theorem dX11_shiftedFleet_166 : decode cX11_shiftedFleet 166 = .ok (.iload 4, 2) := by decide +kernel
theorem dX11_shiftedFleet_168 : decode cX11_shiftedFleet 168 = .ok (.if_icmp .lt 6, 3) := by decide +kernel
theorem dX11_shiftedFleet_171 : decode cX11_shiftedFleet 171 = .ok (.goto 39, 3) := by decide +kernel
theorem dX11_shiftedFleet_174 : decode cX11_shiftedFleet 174 = .ok (.iload 9, 2) := by decide +kernel
theorem dX11_shiftedFleet_176 : decode cX11_shiftedFleet 176 = .ok (.istore_n 3, 1) := by decide +kernel
theorem dX11_shiftedFleet_177 : decode cX11_shiftedFleet 177 = .ok (.iload 8, 2) := by decide +kernel
theorem dX11_shiftedFleet_179 : decode cX11_shiftedFleet 179 = .ok (.istore 4, 2) := by decide +kernel
theorem dX11_shiftedFleet_181 : decode cX11_shiftedFleet 181 = .ok (.iconst 0, 1) := by decide +kernel
theorem dX11_shiftedFleet_182 : decode cX11_shiftedFleet 182 = .ok (.istore 10, 2) := by decide +kernel
theorem dX11_shiftedFleet_184 : decode cX11_shiftedFleet 184 = .ok (.iload 10, 2) := by decide +kernel
theorem dX11_shiftedFleet_186 : decode cX11_shiftedFleet 186 = .ok (.iconst 3, 1) := by decide +kernel
theorem dX11_shiftedFleet_187 : decode cX11_shiftedFleet 187 = .ok (.if_icmp .ge 23, 3) := by decide +kernel
theorem dX11_shiftedFleet_190 : decode cX11_shiftedFleet 190 = .ok (.aload_n 0, 1) := by decide +kernel
theorem dX11_shiftedFleet_191 : decode cX11_shiftedFleet 191 = .ok (.getfield 238, 3) := by decide +kernel
theorem dX11_shiftedFleet_194 : decode cX11_shiftedFleet 194 = .ok (.iload 10, 2) := by decide +kernel
theorem dX11_shiftedFleet_196 : decode cX11_shiftedFleet 196 = .ok (.aload_n 0, 1) := by decide +kernel
theorem dX11_shiftedFleet_197 : decode cX11_shiftedFleet 197 = .ok (.getfield 223, 3) := by decide +kernel
theorem dX11_shiftedFleet_200 : decode cX11_shiftedFleet 200 = .ok (.iload 10, 2) := by decide +kernel
theorem dX11_shiftedFleet_202 : decode cX11_shiftedFleet 202 = .ok (.iaload, 1) := by decide +kernel
theorem dX11_shiftedFleet_203 : decode cX11_shiftedFleet 203 = .ok (.iastore, 1) := by decide +kernel
theorem dX11_shiftedFleet_204 : decode cX11_shiftedFleet 204 = .ok (.iinc 10 1, 3) := by decide +kernel
theorem dX11_shiftedFleet_207 : decode cX11_shiftedFleet 207 = .ok (.goto (-23), 3) := by decide +kernel
theorem dX11_shiftedFleet_210 : decode cX11_shiftedFleet 210 = .ok (.iinc 6 1, 3) := by decide +kernel
theorem dX11_shiftedFleet_213 : decode cX11_shiftedFleet 213 = .ok (.goto (-161), 3) := by decide +kernel
theorem dX11_shiftedFleet_216 : decode cX11_shiftedFleet 216 = .ok (.iload_n 3, 1) := by decide +kernel
theorem dX11_shiftedFleet_217 : decode cX11_shiftedFleet 217 = .ok (.ireturn, 1) := by decide +kernel
theorem dX11_shifted_0 : decode cX11_shifted 0 = .ok (.aload_n 0, 1) := by decide +kernel
theorem dX11_shifted_1 : decode cX11_shifted 1 = .ok (.iload_n 1, 1) := by decide +kernel
theorem dX11_shifted_2 : decode cX11_shifted 2 = .ok (.iload_n 2, 1) := by decide +kernel
theorem dX11_shifted_3 : decode cX11_shifted 3 = .ok (.invokevirtual 494, 3) := by decide +kernel
theorem dX11_shifted_6 : decode cX11_shifted 6 = .ok (.ifCond .eq 12, 3) := by decide +kernel
theorem dX11_shifted_9 : decode cX11_shifted 9 = .ok (.aload_n 0, 1) := by decide +kernel
theorem dX11_shifted_10 : decode cX11_shifted 10 = .ok (.iload_n 1, 1) := by decide +kernel
theorem dX11_shifted_11 : decode cX11_shifted 11 = .ok (.iload_n 2, 1) := by decide +kernel
theorem dX11_shifted_12 : decode cX11_shifted 12 = .ok (.invokevirtual 620, 3) := by decide +kernel
theorem dX11_shifted_15 : decode cX11_shifted 15 = .ok (.goto 4, 3) := by decide +kernel
theorem dX11_shifted_18 : decode cX11_shifted 18 = .ok (.iconst (-1), 1) := by decide +kernel
theorem dX11_shifted_19 : decode cX11_shifted 19 = .ok (.ireturn, 1) := by decide +kernel
theorem dX11_shift_0 : decode cX11_shift 0 = .ok (.aload_n 0, 1) := by decide +kernel
theorem dX11_shift_1 : decode cX11_shift 1 = .ok (.iload_n 1, 1) := by decide +kernel
theorem dX11_shift_2 : decode cX11_shift 2 = .ok (.iload_n 2, 1) := by decide +kernel
theorem dX11_shift_3 : decode cX11_shift 3 = .ok (.iload_n 3, 1) := by decide +kernel
theorem dX11_shift_4 : decode cX11_shift 4 = .ok (.invokevirtual 528, 3) := by decide +kernel
theorem dX11_shift_7 : decode cX11_shift 7 = .ok (.ifCond .eq 12, 3) := by decide +kernel
theorem dX11_shift_10 : decode cX11_shift 10 = .ok (.aload_n 0, 1) := by decide +kernel
theorem dX11_shift_11 : decode cX11_shift 11 = .ok (.iload_n 2, 1) := by decide +kernel
theorem dX11_shift_12 : decode cX11_shift 12 = .ok (.iload_n 3, 1) := by decide +kernel
theorem dX11_shift_13 : decode cX11_shift 13 = .ok (.invokevirtual 620, 3) := by decide +kernel
theorem dX11_shift_16 : decode cX11_shift 16 = .ok (.ifCond .ge 6, 3) := by decide +kernel
theorem dX11_shift_19 : decode cX11_shift 19 = .ok (.bipush (-100), 2) := by decide +kernel
theorem dX11_shift_21 : decode cX11_shift 21 = .ok (.ireturn, 1) := by decide +kernel
theorem dX11_shift_22 : decode cX11_shift 22 = .ok (.aload_n 0, 1) := by decide +kernel
theorem dX11_shift_23 : decode cX11_shift 23 = .ok (.getfield 238, 3) := by decide +kernel
theorem dX11_shift_26 : decode cX11_shift 26 = .ok (.iload_n 1, 1) := by decide +kernel
theorem dX11_shift_27 : decode cX11_shift 27 = .ok (.iaload, 1) := by decide +kernel
theorem dX11_shift_28 : decode cX11_shift 28 = .ok (.ireturn, 1) := by decide +kernel
theorem dX11_bid_0 : decode cX11_bid 0 = .ok (.aload_n 0, 1) := by decide +kernel
theorem dX11_bid_1 : decode cX11_bid 1 = .ok (.getfield 623, 3) := by decide +kernel
theorem dX11_bid_4 : decode cX11_bid 4 = .ok (.bipush 20, 2) := by decide +kernel
theorem dX11_bid_6 : decode cX11_bid 6 = .ok (.if_icmp .eq 34, 3) := by decide +kernel
theorem dX11_bid_9 : decode cX11_bid 9 = .ok (.iload_n 1, 1) := by decide +kernel
theorem dX11_bid_10 : decode cX11_bid 10 = .ok (.iconst 0, 1) := by decide +kernel
theorem dX11_bid_11 : decode cX11_bid 11 = .ok (.iconst 5, 1) := by decide +kernel
theorem dX11_bid_12 : decode cX11_bid 12 = .ok (.invokestatic 449, 3) := by decide +kernel
theorem dX11_bid_15 : decode cX11_bid 15 = .ok (.ifCond .eq 25, 3) := by decide +kernel
theorem dX11_bid_18 : decode cX11_bid 18 = .ok (.iload_n 2, 1) := by decide +kernel
theorem dX11_bid_19 : decode cX11_bid 19 = .ok (.iconst 1, 1) := by decide +kernel
theorem dX11_bid_20 : decode cX11_bid 20 = .ok (.sipush 1023, 3) := by decide +kernel
theorem dX11_bid_23 : decode cX11_bid 23 = .ok (.invokestatic 449, 3) := by decide +kernel
theorem dX11_bid_26 : decode cX11_bid 26 = .ok (.ifCond .eq 14, 3) := by decide +kernel
theorem dX11_bid_29 : decode cX11_bid 29 = .ok (.iload_n 3, 1) := by decide +kernel
theorem dX11_bid_30 : decode cX11_bid 30 = .ok (.iconst 0, 1) := by decide +kernel
theorem dX11_bid_31 : decode cX11_bid 31 = .ok (.sipush 9999, 3) := by decide +kernel
theorem dX11_bid_34 : decode cX11_bid 34 = .ok (.invokestatic 449, 3) := by decide +kernel
theorem dX11_bid_37 : decode cX11_bid 37 = .ok (.ifCond .ne 5, 3) := by decide +kernel
theorem dX11_bid_40 : decode cX11_bid 40 = .ok (.iconst (-1), 1) := by decide +kernel
theorem dX11_bid_41 : decode cX11_bid 41 = .ok (.ireturn, 1) := by decide +kernel
theorem dX11_bid_42 : decode cX11_bid 42 = .ok (.aload_n 0, 1) := by decide +kernel
theorem dX11_bid_43 : decode cX11_bid 43 = .ok (.getfield 136, 3) := by decide +kernel
theorem dX11_bid_46 : decode cX11_bid 46 = .ok (.aload_n 0, 1) := by decide +kernel
theorem dX11_bid_47 : decode cX11_bid 47 = .ok (.getfield 623, 3) := by decide +kernel
theorem dX11_bid_50 : decode cX11_bid 50 = .ok (.iload_n 1, 1) := by decide +kernel
theorem dX11_bid_51 : decode cX11_bid 51 = .ok (.iastore, 1) := by decide +kernel
theorem dX11_bid_52 : decode cX11_bid 52 = .ok (.aload_n 0, 1) := by decide +kernel
theorem dX11_bid_53 : decode cX11_bid 53 = .ok (.getfield 139, 3) := by decide +kernel
theorem dX11_bid_56 : decode cX11_bid 56 = .ok (.aload_n 0, 1) := by decide +kernel
theorem dX11_bid_57 : decode cX11_bid 57 = .ok (.getfield 623, 3) := by decide +kernel
theorem dX11_bid_60 : decode cX11_bid 60 = .ok (.iload_n 2, 1) := by decide +kernel
theorem dX11_bid_61 : decode cX11_bid 61 = .ok (.iastore, 1) := by decide +kernel
theorem dX11_bid_62 : decode cX11_bid 62 = .ok (.aload_n 0, 1) := by decide +kernel
theorem dX11_bid_63 : decode cX11_bid 63 = .ok (.getfield 142, 3) := by decide +kernel
theorem dX11_bid_66 : decode cX11_bid 66 = .ok (.aload_n 0, 1) := by decide +kernel
theorem dX11_bid_67 : decode cX11_bid 67 = .ok (.getfield 623, 3) := by decide +kernel
theorem dX11_bid_70 : decode cX11_bid 70 = .ok (.iload_n 3, 1) := by decide +kernel
theorem dX11_bid_71 : decode cX11_bid 71 = .ok (.iastore, 1) := by decide +kernel
theorem dX11_bid_72 : decode cX11_bid 72 = .ok (.aload_n 0, 1) := by decide +kernel
theorem dX11_bid_73 : decode cX11_bid 73 = .ok (.dup, 1) := by decide +kernel
theorem dX11_bid_74 : decode cX11_bid 74 = .ok (.getfield 623, 3) := by decide +kernel
theorem dX11_bid_77 : decode cX11_bid 77 = .ok (.iconst 1, 1) := by decide +kernel
theorem dX11_bid_78 : decode cX11_bid 78 = .ok (.iadd, 1) := by decide +kernel
theorem dX11_bid_79 : decode cX11_bid 79 = .ok (.putfield 623, 3) := by decide +kernel
theorem dX11_bid_82 : decode cX11_bid 82 = .ok (.aload_n 0, 1) := by decide +kernel
theorem dX11_bid_83 : decode cX11_bid 83 = .ok (.getfield 623, 3) := by decide +kernel
theorem dX11_bid_86 : decode cX11_bid 86 = .ok (.iconst 1, 1) := by decide +kernel
theorem dX11_bid_87 : decode cX11_bid 87 = .ok (.isub, 1) := by decide +kernel
theorem dX11_bid_88 : decode cX11_bid 88 = .ok (.ireturn, 1) := by decide +kernel
theorem dX11_isBid_0 : decode cX11_isBid 0 = .ok (.aload_n 0, 1) := by decide +kernel
theorem dX11_isBid_1 : decode cX11_isBid 1 = .ok (.getfield 136, 3) := by decide +kernel
theorem dX11_isBid_4 : decode cX11_isBid 4 = .ok (.iload_n 1, 1) := by decide +kernel
theorem dX11_isBid_5 : decode cX11_isBid 5 = .ok (.iaload, 1) := by decide +kernel
theorem dX11_isBid_6 : decode cX11_isBid 6 = .ok (.iload_n 3, 1) := by decide +kernel
theorem dX11_isBid_7 : decode cX11_isBid 7 = .ok (.if_icmp .eq 55, 3) := by decide +kernel
theorem dX11_isBid_10 : decode cX11_isBid 10 = .ok (.aload_n 0, 1) := by decide +kernel
theorem dX11_isBid_11 : decode cX11_isBid 11 = .ok (.getfield 139, 3) := by decide +kernel
theorem dX11_isBid_14 : decode cX11_isBid 14 = .ok (.iload_n 1, 1) := by decide +kernel
theorem dX11_isBid_15 : decode cX11_isBid 15 = .ok (.iaload, 1) := by decide +kernel
theorem dX11_isBid_16 : decode cX11_isBid 16 = .ok (.iload_n 2, 1) := by decide +kernel
theorem dX11_isBid_17 : decode cX11_isBid 17 = .ok (.iconst (-1), 1) := by decide +kernel
theorem dX11_isBid_18 : decode cX11_isBid 18 = .ok (.ixor, 1) := by decide +kernel
theorem dX11_isBid_19 : decode cX11_isBid 19 = .ok (.iand, 1) := by decide +kernel
theorem dX11_isBid_20 : decode cX11_isBid 20 = .ok (.ifCond .ne 42, 3) := by decide +kernel
theorem dX11_isBid_23 : decode cX11_isBid 23 = .ok (.aload_n 0, 1) := by decide +kernel
theorem dX11_isBid_24 : decode cX11_isBid 24 = .ok (.getfield 139, 3) := by decide +kernel
theorem dX11_isBid_27 : decode cX11_isBid 27 = .ok (.iload_n 1, 1) := by decide +kernel
theorem dX11_isBid_28 : decode cX11_isBid 28 = .ok (.iaload, 1) := by decide +kernel
theorem dX11_isBid_29 : decode cX11_isBid 29 = .ok (.iload_n 2, 1) := by decide +kernel
theorem dX11_isBid_30 : decode cX11_isBid 30 = .ok (.invokestatic 569, 3) := by decide +kernel
theorem dX11_isBid_33 : decode cX11_isBid 33 = .ok (.ishr, 1) := by decide +kernel
theorem dX11_isBid_34 : decode cX11_isBid 34 = .ok (.iconst 1, 1) := by decide +kernel
theorem dX11_isBid_35 : decode cX11_isBid 35 = .ok (.iand, 1) := by decide +kernel
theorem dX11_isBid_36 : decode cX11_isBid 36 = .ok (.iconst 1, 1) := by decide +kernel
theorem dX11_isBid_37 : decode cX11_isBid 37 = .ok (.if_icmp .ne 25, 3) := by decide +kernel
theorem dX11_isBid_40 : decode cX11_isBid 40 = .ok (.aload_n 0, 1) := by decide +kernel
theorem dX11_isBid_41 : decode cX11_isBid 41 = .ok (.getfield 241, 3) := by decide +kernel
theorem dX11_isBid_44 : decode cX11_isBid 44 = .ok (.iload_n 2, 1) := by decide +kernel
theorem dX11_isBid_45 : decode cX11_isBid 45 = .ok (.aload_n 0, 1) := by decide +kernel
theorem dX11_isBid_46 : decode cX11_isBid 46 = .ok (.getfield 139, 3) := by decide +kernel
theorem dX11_isBid_49 : decode cX11_isBid 49 = .ok (.iload_n 1, 1) := by decide +kernel
theorem dX11_isBid_50 : decode cX11_isBid 50 = .ok (.iaload, 1) := by decide +kernel
theorem dX11_isBid_51 : decode cX11_isBid 51 = .ok (.iconst (-1), 1) := by decide +kernel
theorem dX11_isBid_52 : decode cX11_isBid 52 = .ok (.ixor, 1) := by decide +kernel
theorem dX11_isBid_53 : decode cX11_isBid 53 = .ok (.iand, 1) := by decide +kernel
theorem dX11_isBid_54 : decode cX11_isBid 54 = .ok (.iaload, 1) := by decide +kernel
theorem dX11_isBid_55 : decode cX11_isBid 55 = .ok (.ifCond .lt 7, 3) := by decide +kernel
theorem dX11_isBid_58 : decode cX11_isBid 58 = .ok (.iconst 1, 1) := by decide +kernel
theorem dX11_isBid_59 : decode cX11_isBid 59 = .ok (.goto 4, 3) := by decide +kernel
theorem dX11_isBid_62 : decode cX11_isBid 62 = .ok (.iconst 0, 1) := by decide +kernel
theorem dX11_isBid_63 : decode cX11_isBid 63 = .ok (.ireturn, 1) := by decide +kernel
theorem dX11_award_0 : decode cX11_award 0 = .ok (.iload_n 1, 1) := by decide +kernel
theorem dX11_award_1 : decode cX11_award 1 = .ok (.iconst 1, 1) := by decide +kernel
theorem dX11_award_2 : decode cX11_award 2 = .ok (.bipush 10, 2) := by decide +kernel
theorem dX11_award_4 : decode cX11_award 4 = .ok (.invokestatic 449, 3) := by decide +kernel
theorem dX11_award_7 : decode cX11_award 7 = .ok (.ifCond .eq 12, 3) := by decide +kernel
theorem dX11_award_10 : decode cX11_award 10 = .ok (.iload_n 2, 1) := by decide +kernel
theorem dX11_award_11 : decode cX11_award 11 = .ok (.iconst (-1), 1) := by decide +kernel
theorem dX11_award_12 : decode cX11_award 12 = .ok (.iconst 5, 1) := by decide +kernel
theorem dX11_award_13 : decode cX11_award 13 = .ok (.invokestatic 449, 3) := by decide +kernel
theorem dX11_award_16 : decode cX11_award 16 = .ok (.ifCond .ne 5, 3) := by decide +kernel
theorem dX11_award_19 : decode cX11_award 19 = .ok (.iconst (-1), 1) := by decide +kernel
theorem dX11_award_20 : decode cX11_award 20 = .ok (.ireturn, 1) := by decide +kernel
theorem dX11_award_21 : decode cX11_award 21 = .ok (.iconst 1, 1) := by decide +kernel
theorem dX11_award_22 : decode cX11_award 22 = .ok (.iload_n 1, 1) := by decide +kernel
theorem dX11_award_23 : decode cX11_award 23 = .ok (.ishl, 1) := by decide +kernel
theorem dX11_award_24 : decode cX11_award 24 = .ok (.iconst 1, 1) := by decide +kernel
theorem dX11_award_25 : decode cX11_award 25 = .ok (.isub, 1) := by decide +kernel
theorem dX11_award_26 : decode cX11_award 26 = .ok (.istore_n 3, 1) := by decide +kernel
theorem dX11_award_27 : decode cX11_award 27 = .ok (.aload_n 0, 1) := by decide +kernel
theorem dX11_award_28 : decode cX11_award 28 = .ok (.getfield 241, 3) := by decide +kernel
theorem dX11_award_31 : decode cX11_award 31 = .ok (.iconst 0, 1) := by decide +kernel
theorem dX11_award_32 : decode cX11_award 32 = .ok (.iconst 0, 1) := by decide +kernel
theorem dX11_award_33 : decode cX11_award 33 = .ok (.iastore, 1) := by decide +kernel
theorem dX11_award_34 : decode cX11_award 34 = .ok (.iconst 1, 1) := by decide +kernel
theorem dX11_award_35 : decode cX11_award 35 = .ok (.istore 4, 2) := by decide +kernel
theorem dX11_award_37 : decode cX11_award 37 = .ok (.iload 4, 2) := by decide +kernel
theorem dX11_award_39 : decode cX11_award 39 = .ok (.iload_n 3, 1) := by decide +kernel
theorem dX11_award_40 : decode cX11_award 40 = .ok (.if_icmp .gt 108, 3) := by decide +kernel
theorem dX11_award_43 : decode cX11_award 43 = .ok (.aload_n 0, 1) := by decide +kernel
theorem dX11_award_44 : decode cX11_award 44 = .ok (.getfield 241, 3) := by decide +kernel
theorem dX11_award_47 : decode cX11_award 47 = .ok (.iload 4, 2) := by decide +kernel
theorem dX11_award_49 : decode cX11_award 49 = .ok (.iconst (-1), 1) := by decide +kernel
theorem dX11_award_50 : decode cX11_award 50 = .ok (.iastore, 1) := by decide +kernel
theorem dX11_award_51 : decode cX11_award 51 = .ok (.iconst 0, 1) := by decide +kernel
theorem dX11_award_52 : decode cX11_award 52 = .ok (.istore 5, 2) := by decide +kernel
theorem dX11_award_54 : decode cX11_award 54 = .ok (.iload 5, 2) := by decide +kernel
theorem dX11_award_56 : decode cX11_award 56 = .ok (.aload_n 0, 1) := by decide +kernel
theorem dX11_award_57 : decode cX11_award 57 = .ok (.getfield 623, 3) := by decide +kernel
theorem dX11_award_60 : decode cX11_award 60 = .ok (.if_icmp .ge 82, 3) := by decide +kernel
theorem dX11_award_63 : decode cX11_award 63 = .ok (.aload_n 0, 1) := by decide +kernel
theorem dX11_award_64 : decode cX11_award 64 = .ok (.iload 5, 2) := by decide +kernel
theorem dX11_award_66 : decode cX11_award 66 = .ok (.iload 4, 2) := by decide +kernel
theorem dX11_award_68 : decode cX11_award 68 = .ok (.iload_n 2, 1) := by decide +kernel
theorem dX11_award_69 : decode cX11_award 69 = .ok (.invokevirtual 626, 3) := by decide +kernel
theorem dX11_award_72 : decode cX11_award 72 = .ok (.ifCond .ne 6, 3) := by decide +kernel
theorem dX11_award_75 : decode cX11_award 75 = .ok (.goto 61, 3) := by decide +kernel
theorem dX11_award_78 : decode cX11_award 78 = .ok (.aload_n 0, 1) := by decide +kernel
theorem dX11_award_79 : decode cX11_award 79 = .ok (.getfield 241, 3) := by decide +kernel
theorem dX11_award_82 : decode cX11_award 82 = .ok (.iload 4, 2) := by decide +kernel
theorem dX11_award_84 : decode cX11_award 84 = .ok (.aload_n 0, 1) := by decide +kernel
theorem dX11_award_85 : decode cX11_award 85 = .ok (.getfield 139, 3) := by decide +kernel
theorem dX11_award_88 : decode cX11_award 88 = .ok (.iload 5, 2) := by decide +kernel
theorem dX11_award_90 : decode cX11_award 90 = .ok (.iaload, 1) := by decide +kernel
theorem dX11_award_91 : decode cX11_award 91 = .ok (.iconst (-1), 1) := by decide +kernel
theorem dX11_award_92 : decode cX11_award 92 = .ok (.ixor, 1) := by decide +kernel
theorem dX11_award_93 : decode cX11_award 93 = .ok (.iand, 1) := by decide +kernel
theorem dX11_award_94 : decode cX11_award 94 = .ok (.iaload, 1) := by decide +kernel
theorem dX11_award_95 : decode cX11_award 95 = .ok (.aload_n 0, 1) := by decide +kernel
theorem dX11_award_96 : decode cX11_award 96 = .ok (.getfield 142, 3) := by decide +kernel
theorem dX11_award_99 : decode cX11_award 99 = .ok (.iload 5, 2) := by decide +kernel
theorem dX11_award_101 : decode cX11_award 101 = .ok (.iaload, 1) := by decide +kernel
theorem dX11_award_102 : decode cX11_award 102 = .ok (.iadd, 1) := by decide +kernel
theorem dX11_award_103 : decode cX11_award 103 = .ok (.istore 6, 2) := by decide +kernel
theorem dX11_award_105 : decode cX11_award 105 = .ok (.aload_n 0, 1) := by decide +kernel
theorem dX11_award_106 : decode cX11_award 106 = .ok (.getfield 241, 3) := by decide +kernel
theorem dX11_award_109 : decode cX11_award 109 = .ok (.iload 4, 2) := by decide +kernel
theorem dX11_award_111 : decode cX11_award 111 = .ok (.iaload, 1) := by decide +kernel
theorem dX11_award_112 : decode cX11_award 112 = .ok (.ifCond .lt 15, 3) := by decide +kernel
theorem dX11_award_115 : decode cX11_award 115 = .ok (.iload 6, 2) := by decide +kernel
theorem dX11_award_117 : decode cX11_award 117 = .ok (.aload_n 0, 1) := by decide +kernel
theorem dX11_award_118 : decode cX11_award 118 = .ok (.getfield 241, 3) := by decide +kernel
theorem dX11_award_121 : decode cX11_award 121 = .ok (.iload 4, 2) := by decide +kernel
theorem dX11_award_123 : decode cX11_award 123 = .ok (.iaload, 1) := by decide +kernel
theorem dX11_award_124 : decode cX11_award 124 = .ok (.if_icmp .ge 12, 3) := by decide +kernel
theorem dX11_award_127 : decode cX11_award 127 = .ok (.aload_n 0, 1) := by decide +kernel
theorem dX11_award_128 : decode cX11_award 128 = .ok (.getfield 241, 3) := by decide +kernel
theorem dX11_award_131 : decode cX11_award 131 = .ok (.iload 4, 2) := by decide +kernel
theorem dX11_award_133 : decode cX11_award 133 = .ok (.iload 6, 2) := by decide +kernel
theorem dX11_award_135 : decode cX11_award 135 = .ok (.iastore, 1) := by decide +kernel
theorem dX11_award_136 : decode cX11_award 136 = .ok (.iinc 5 1, 3) := by decide +kernel
theorem dX11_award_139 : decode cX11_award 139 = .ok (.goto (-85), 3) := by decide +kernel
theorem dX11_award_142 : decode cX11_award 142 = .ok (.iinc 4 1, 3) := by decide +kernel
theorem dX11_award_145 : decode cX11_award 145 = .ok (.goto (-108), 3) := by decide +kernel
theorem dX11_award_148 : decode cX11_award 148 = .ok (.aload_n 0, 1) := by decide +kernel
theorem dX11_award_149 : decode cX11_award 149 = .ok (.getfield 241, 3) := by decide +kernel
theorem dX11_award_152 : decode cX11_award 152 = .ok (.iload_n 3, 1) := by decide +kernel
theorem dX11_award_153 : decode cX11_award 153 = .ok (.iaload, 1) := by decide +kernel
theorem dX11_award_154 : decode cX11_award 154 = .ok (.ifCond .ge 8, 3) := by decide +kernel
theorem dX11_award_157 : decode cX11_award 157 = .ok (.bipush (-2), 2) := by decide +kernel
theorem dX11_award_159 : decode cX11_award 159 = .ok (.goto 9, 3) := by decide +kernel
theorem dX11_award_162 : decode cX11_award 162 = .ok (.aload_n 0, 1) := by decide +kernel
theorem dX11_award_163 : decode cX11_award 163 = .ok (.getfield 241, 3) := by decide +kernel
theorem dX11_award_166 : decode cX11_award 166 = .ok (.iload_n 3, 1) := by decide +kernel
theorem dX11_award_167 : decode cX11_award 167 = .ok (.iaload, 1) := by decide +kernel
theorem dX11_award_168 : decode cX11_award 168 = .ok (.ireturn, 1) := by decide +kernel
theorem dX11_awarded_0 : decode cX11_awarded 0 = .ok (.aload_n 0, 1) := by decide +kernel
theorem dX11_awarded_1 : decode cX11_awarded 1 = .ok (.iload_n 1, 1) := by decide +kernel
theorem dX11_awarded_2 : decode cX11_awarded 2 = .ok (.iload_n 2, 1) := by decide +kernel
theorem dX11_awarded_3 : decode cX11_awarded 3 = .ok (.invokevirtual 629, 3) := by decide +kernel
theorem dX11_awarded_6 : decode cX11_awarded 6 = .ok (.ifCond .lt 12, 3) := by decide +kernel
theorem dX11_awarded_9 : decode cX11_awarded 9 = .ok (.iload_n 3, 1) := by decide +kernel
theorem dX11_awarded_10 : decode cX11_awarded 10 = .ok (.ifCond .lt 8, 3) := by decide +kernel
theorem dX11_awarded_13 : decode cX11_awarded 13 = .ok (.iload_n 3, 1) := by decide +kernel
theorem dX11_awarded_14 : decode cX11_awarded 14 = .ok (.iload_n 1, 1) := by decide +kernel
theorem dX11_awarded_15 : decode cX11_awarded 15 = .ok (.if_icmp .lt 5, 3) := by decide +kernel
theorem dX11_awarded_18 : decode cX11_awarded 18 = .ok (.iconst (-1), 1) := by decide +kernel
theorem dX11_awarded_19 : decode cX11_awarded 19 = .ok (.ireturn, 1) := by decide +kernel
theorem dX11_awarded_20 : decode cX11_awarded 20 = .ok (.iconst 1, 1) := by decide +kernel
theorem dX11_awarded_21 : decode cX11_awarded 21 = .ok (.iload_n 1, 1) := by decide +kernel
theorem dX11_awarded_22 : decode cX11_awarded 22 = .ok (.ishl, 1) := by decide +kernel
theorem dX11_awarded_23 : decode cX11_awarded 23 = .ok (.iconst 1, 1) := by decide +kernel
theorem dX11_awarded_24 : decode cX11_awarded 24 = .ok (.isub, 1) := by decide +kernel
theorem dX11_awarded_25 : decode cX11_awarded 25 = .ok (.istore 4, 2) := by decide +kernel
theorem dX11_awarded_27 : decode cX11_awarded 27 = .ok (.iload 4, 2) := by decide +kernel
theorem dX11_awarded_29 : decode cX11_awarded 29 = .ok (.ifCond .eq 111, 3) := by decide +kernel
theorem dX11_awarded_32 : decode cX11_awarded 32 = .ok (.iconst (-1), 1) := by decide +kernel
theorem dX11_awarded_33 : decode cX11_awarded 33 = .ok (.istore 5, 2) := by decide +kernel
theorem dX11_awarded_35 : decode cX11_awarded 35 = .ok (.aload_n 0, 1) := by decide +kernel
theorem dX11_awarded_36 : decode cX11_awarded 36 = .ok (.getfield 623, 3) := by decide +kernel
theorem dX11_awarded_39 : decode cX11_awarded 39 = .ok (.iconst 1, 1) := by decide +kernel
theorem dX11_awarded_40 : decode cX11_awarded 40 = .ok (.isub, 1) := by decide +kernel
theorem dX11_awarded_41 : decode cX11_awarded 41 = .ok (.istore 6, 2) := by decide +kernel
theorem dX11_awarded_43 : decode cX11_awarded 43 = .ok (.iload 6, 2) := by decide +kernel
theorem dX11_awarded_45 : decode cX11_awarded 45 = .ok (.ifCond .lt 60, 3) := by decide +kernel
theorem dX11_awarded_48 : decode cX11_awarded 48 = .ok (.aload_n 0, 1) := by decide +kernel
theorem dX11_awarded_49 : decode cX11_awarded 49 = .ok (.iload 6, 2) := by decide +kernel
theorem dX11_awarded_51 : decode cX11_awarded 51 = .ok (.iload 4, 2) := by decide +kernel
theorem dX11_awarded_53 : decode cX11_awarded 53 = .ok (.iload_n 2, 1) := by decide +kernel
theorem dX11_awarded_54 : decode cX11_awarded 54 = .ok (.invokevirtual 626, 3) := by decide +kernel
theorem dX11_awarded_57 : decode cX11_awarded 57 = .ok (.ifCond .eq 42, 3) := by decide +kernel
theorem dX11_awarded_60 : decode cX11_awarded 60 = .ok (.aload_n 0, 1) := by decide +kernel
theorem dX11_awarded_61 : decode cX11_awarded 61 = .ok (.getfield 241, 3) := by decide +kernel
theorem dX11_awarded_64 : decode cX11_awarded 64 = .ok (.iload 4, 2) := by decide +kernel
theorem dX11_awarded_66 : decode cX11_awarded 66 = .ok (.aload_n 0, 1) := by decide +kernel
theorem dX11_awarded_67 : decode cX11_awarded 67 = .ok (.getfield 139, 3) := by decide +kernel
theorem dX11_awarded_70 : decode cX11_awarded 70 = .ok (.iload 6, 2) := by decide +kernel
theorem dX11_awarded_72 : decode cX11_awarded 72 = .ok (.iaload, 1) := by decide +kernel
theorem dX11_awarded_73 : decode cX11_awarded 73 = .ok (.iconst (-1), 1) := by decide +kernel
theorem dX11_awarded_74 : decode cX11_awarded 74 = .ok (.ixor, 1) := by decide +kernel
theorem dX11_awarded_75 : decode cX11_awarded 75 = .ok (.iand, 1) := by decide +kernel
theorem dX11_awarded_76 : decode cX11_awarded 76 = .ok (.iaload, 1) := by decide +kernel
theorem dX11_awarded_77 : decode cX11_awarded 77 = .ok (.aload_n 0, 1) := by decide +kernel
theorem dX11_awarded_78 : decode cX11_awarded 78 = .ok (.getfield 142, 3) := by decide +kernel
theorem dX11_awarded_81 : decode cX11_awarded 81 = .ok (.iload 6, 2) := by decide +kernel
theorem dX11_awarded_83 : decode cX11_awarded 83 = .ok (.iaload, 1) := by decide +kernel
theorem dX11_awarded_84 : decode cX11_awarded 84 = .ok (.iadd, 1) := by decide +kernel
theorem dX11_awarded_85 : decode cX11_awarded 85 = .ok (.aload_n 0, 1) := by decide +kernel
theorem dX11_awarded_86 : decode cX11_awarded 86 = .ok (.getfield 241, 3) := by decide +kernel
theorem dX11_awarded_89 : decode cX11_awarded 89 = .ok (.iload 4, 2) := by decide +kernel
theorem dX11_awarded_91 : decode cX11_awarded 91 = .ok (.iaload, 1) := by decide +kernel
theorem dX11_awarded_92 : decode cX11_awarded 92 = .ok (.if_icmp .ne 7, 3) := by decide +kernel
theorem dX11_awarded_95 : decode cX11_awarded 95 = .ok (.iload 6, 2) := by decide +kernel
theorem dX11_awarded_97 : decode cX11_awarded 97 = .ok (.istore 5, 2) := by decide +kernel
theorem dX11_awarded_99 : decode cX11_awarded 99 = .ok (.iinc 6 (-1), 3) := by decide +kernel
theorem dX11_awarded_102 : decode cX11_awarded 102 = .ok (.goto (-59), 3) := by decide +kernel
theorem dX11_awarded_105 : decode cX11_awarded 105 = .ok (.aload_n 0, 1) := by decide +kernel
theorem dX11_awarded_106 : decode cX11_awarded 106 = .ok (.getfield 139, 3) := by decide +kernel
theorem dX11_awarded_109 : decode cX11_awarded 109 = .ok (.iload 5, 2) := by decide +kernel
theorem dX11_awarded_111 : decode cX11_awarded 111 = .ok (.iaload, 1) := by decide +kernel
theorem dX11_awarded_112 : decode cX11_awarded 112 = .ok (.iload_n 3, 1) := by decide +kernel
theorem dX11_awarded_113 : decode cX11_awarded 113 = .ok (.ishr, 1) := by decide +kernel
theorem dX11_awarded_114 : decode cX11_awarded 114 = .ok (.iconst 1, 1) := by decide +kernel
theorem dX11_awarded_115 : decode cX11_awarded 115 = .ok (.iand, 1) := by decide +kernel
theorem dX11_awarded_116 : decode cX11_awarded 116 = .ok (.iconst 1, 1) := by decide +kernel
theorem dX11_awarded_117 : decode cX11_awarded 117 = .ok (.if_icmp .ne 6, 3) := by decide +kernel
theorem dX11_awarded_120 : decode cX11_awarded 120 = .ok (.iload 5, 2) := by decide +kernel
theorem dX11_awarded_122 : decode cX11_awarded 122 = .ok (.ireturn, 1) := by decide +kernel
theorem dX11_awarded_123 : decode cX11_awarded 123 = .ok (.iload 4, 2) := by decide +kernel
theorem dX11_awarded_125 : decode cX11_awarded 125 = .ok (.aload_n 0, 1) := by decide +kernel
theorem dX11_awarded_126 : decode cX11_awarded 126 = .ok (.getfield 139, 3) := by decide +kernel
theorem dX11_awarded_129 : decode cX11_awarded 129 = .ok (.iload 5, 2) := by decide +kernel
theorem dX11_awarded_131 : decode cX11_awarded 131 = .ok (.iaload, 1) := by decide +kernel
theorem dX11_awarded_132 : decode cX11_awarded 132 = .ok (.iconst (-1), 1) := by decide +kernel
theorem dX11_awarded_133 : decode cX11_awarded 133 = .ok (.ixor, 1) := by decide +kernel
theorem dX11_awarded_134 : decode cX11_awarded 134 = .ok (.iand, 1) := by decide +kernel
theorem dX11_awarded_135 : decode cX11_awarded 135 = .ok (.istore 4, 2) := by decide +kernel
theorem dX11_awarded_137 : decode cX11_awarded 137 = .ok (.goto (-110), 3) := by decide +kernel
theorem dX11_awarded_140 : decode cX11_awarded 140 = .ok (.iconst (-1), 1) := by decide +kernel
theorem dX11_awarded_141 : decode cX11_awarded 141 = .ok (.ireturn, 1) := by decide +kernel
theorem dX11_driver_0 : decode cX11_driver 0 = .ok (.aload_n 0, 1) := by decide +kernel
theorem dX11_driver_1 : decode cX11_driver 1 = .ok (.getfield 632, 3) := by decide +kernel
theorem dX11_driver_4 : decode cX11_driver 4 = .ok (.bipush 8, 2) := by decide +kernel
theorem dX11_driver_6 : decode cX11_driver 6 = .ok (.if_icmp .eq 14, 3) := by decide +kernel
theorem dX11_driver_9 : decode cX11_driver 9 = .ok (.iload_n 1, 1) := by decide +kernel
theorem dX11_driver_10 : decode cX11_driver 10 = .ok (.iconst 0, 1) := by decide +kernel
theorem dX11_driver_11 : decode cX11_driver 11 = .ok (.sipush 1023, 3) := by decide +kernel
theorem dX11_driver_14 : decode cX11_driver 14 = .ok (.invokestatic 449, 3) := by decide +kernel
theorem dX11_driver_17 : decode cX11_driver 17 = .ok (.ifCond .ne 5, 3) := by decide +kernel
theorem dX11_driver_20 : decode cX11_driver 20 = .ok (.iconst (-1), 1) := by decide +kernel
theorem dX11_driver_21 : decode cX11_driver 21 = .ok (.ireturn, 1) := by decide +kernel
theorem dX11_driver_22 : decode cX11_driver 22 = .ok (.aload_n 0, 1) := by decide +kernel
theorem dX11_driver_23 : decode cX11_driver 23 = .ok (.getfield 145, 3) := by decide +kernel
theorem dX11_driver_26 : decode cX11_driver 26 = .ok (.aload_n 0, 1) := by decide +kernel
theorem dX11_driver_27 : decode cX11_driver 27 = .ok (.getfield 632, 3) := by decide +kernel
theorem dX11_driver_30 : decode cX11_driver 30 = .ok (.iload_n 1, 1) := by decide +kernel
theorem dX11_driver_31 : decode cX11_driver 31 = .ok (.iastore, 1) := by decide +kernel
theorem dX11_driver_32 : decode cX11_driver 32 = .ok (.aload_n 0, 1) := by decide +kernel
theorem dX11_driver_33 : decode cX11_driver 33 = .ok (.getfield 148, 3) := by decide +kernel
theorem dX11_driver_36 : decode cX11_driver 36 = .ok (.aload_n 0, 1) := by decide +kernel
theorem dX11_driver_37 : decode cX11_driver 37 = .ok (.getfield 632, 3) := by decide +kernel
theorem dX11_driver_40 : decode cX11_driver 40 = .ok (.iconst 0, 1) := by decide +kernel
theorem dX11_driver_41 : decode cX11_driver 41 = .ok (.bastore, 1) := by decide +kernel
theorem dX11_driver_42 : decode cX11_driver 42 = .ok (.aload_n 0, 1) := by decide +kernel
theorem dX11_driver_43 : decode cX11_driver 43 = .ok (.dup, 1) := by decide +kernel
theorem dX11_driver_44 : decode cX11_driver 44 = .ok (.getfield 632, 3) := by decide +kernel
theorem dX11_driver_47 : decode cX11_driver 47 = .ok (.iconst 1, 1) := by decide +kernel
theorem dX11_driver_48 : decode cX11_driver 48 = .ok (.iadd, 1) := by decide +kernel
theorem dX11_driver_49 : decode cX11_driver 49 = .ok (.putfield 632, 3) := by decide +kernel
theorem dX11_driver_52 : decode cX11_driver 52 = .ok (.aload_n 0, 1) := by decide +kernel
theorem dX11_driver_53 : decode cX11_driver 53 = .ok (.getfield 632, 3) := by decide +kernel
theorem dX11_driver_56 : decode cX11_driver 56 = .ok (.iconst 1, 1) := by decide +kernel
theorem dX11_driver_57 : decode cX11_driver 57 = .ok (.isub, 1) := by decide +kernel
theorem dX11_driver_58 : decode cX11_driver 58 = .ok (.ireturn, 1) := by decide +kernel
theorem dX11_leave_0 : decode cX11_leave 0 = .ok (.iload_n 1, 1) := by decide +kernel
theorem dX11_leave_1 : decode cX11_leave 1 = .ok (.ifCond .lt 11, 3) := by decide +kernel
theorem dX11_leave_4 : decode cX11_leave 4 = .ok (.iload_n 1, 1) := by decide +kernel
theorem dX11_leave_5 : decode cX11_leave 5 = .ok (.aload_n 0, 1) := by decide +kernel
theorem dX11_leave_6 : decode cX11_leave 6 = .ok (.getfield 632, 3) := by decide +kernel
theorem dX11_leave_9 : decode cX11_leave 9 = .ok (.if_icmp .lt 5, 3) := by decide +kernel
theorem dX11_leave_12 : decode cX11_leave 12 = .ok (.iconst 0, 1) := by decide +kernel
theorem dX11_leave_13 : decode cX11_leave 13 = .ok (.ireturn, 1) := by decide +kernel
theorem dX11_leave_14 : decode cX11_leave 14 = .ok (.aload_n 0, 1) := by decide +kernel
theorem dX11_leave_15 : decode cX11_leave 15 = .ok (.getfield 148, 3) := by decide +kernel
theorem dX11_leave_18 : decode cX11_leave 18 = .ok (.iload_n 1, 1) := by decide +kernel
theorem dX11_leave_19 : decode cX11_leave 19 = .ok (.iload_n 2, 1) := by decide +kernel
theorem dX11_leave_20 : decode cX11_leave 20 = .ok (.bastore, 1) := by decide +kernel
theorem dX11_leave_21 : decode cX11_leave 21 = .ok (.iconst 1, 1) := by decide +kernel
theorem dX11_leave_22 : decode cX11_leave 22 = .ok (.ireturn, 1) := by decide +kernel
theorem dX11_weigh_0 : decode cX11_weigh 0 = .ok (.iload_n 1, 1) := by decide +kernel
theorem dX11_weigh_1 : decode cX11_weigh 1 = .ok (.iconst 0, 1) := by decide +kernel
theorem dX11_weigh_2 : decode cX11_weigh 2 = .ok (.bipush 9, 2) := by decide +kernel
theorem dX11_weigh_4 : decode cX11_weigh 4 = .ok (.invokestatic 449, 3) := by decide +kernel
theorem dX11_weigh_7 : decode cX11_weigh 7 = .ok (.ifCond .eq 13, 3) := by decide +kernel
theorem dX11_weigh_10 : decode cX11_weigh 10 = .ok (.iload_n 2, 1) := by decide +kernel
theorem dX11_weigh_11 : decode cX11_weigh 11 = .ok (.iconst 0, 1) := by decide +kernel
theorem dX11_weigh_12 : decode cX11_weigh 12 = .ok (.bipush 99, 2) := by decide +kernel
theorem dX11_weigh_14 : decode cX11_weigh 14 = .ok (.invokestatic 449, 3) := by decide +kernel
theorem dX11_weigh_17 : decode cX11_weigh 17 = .ok (.ifCond .ne 5, 3) := by decide +kernel
theorem dX11_weigh_20 : decode cX11_weigh 20 = .ok (.iconst 0, 1) := by decide +kernel
theorem dX11_weigh_21 : decode cX11_weigh 21 = .ok (.ireturn, 1) := by decide +kernel
theorem dX11_weigh_22 : decode cX11_weigh 22 = .ok (.aload_n 0, 1) := by decide +kernel
theorem dX11_weigh_23 : decode cX11_weigh 23 = .ok (.getfield 151, 3) := by decide +kernel
theorem dX11_weigh_26 : decode cX11_weigh 26 = .ok (.iload_n 1, 1) := by decide +kernel
theorem dX11_weigh_27 : decode cX11_weigh 27 = .ok (.iload_n 2, 1) := by decide +kernel
theorem dX11_weigh_28 : decode cX11_weigh 28 = .ok (.iastore, 1) := by decide +kernel
theorem dX11_weigh_29 : decode cX11_weigh 29 = .ok (.iconst 1, 1) := by decide +kernel
theorem dX11_weigh_30 : decode cX11_weigh 30 = .ok (.ireturn, 1) := by decide +kernel
theorem dX11_mayDrive_0 : decode cX11_mayDrive 0 = .ok (.aload_n 0, 1) := by decide +kernel
theorem dX11_mayDrive_1 : decode cX11_mayDrive 1 = .ok (.getfield 148, 3) := by decide +kernel
theorem dX11_mayDrive_4 : decode cX11_mayDrive 4 = .ok (.iload_n 1, 1) := by decide +kernel
theorem dX11_mayDrive_5 : decode cX11_mayDrive 5 = .ok (.baload, 1) := by decide +kernel
theorem dX11_mayDrive_6 : decode cX11_mayDrive 6 = .ok (.ifCond .ne 29, 3) := by decide +kernel
theorem dX11_mayDrive_9 : decode cX11_mayDrive 9 = .ok (.aload_n 0, 1) := by decide +kernel
theorem dX11_mayDrive_10 : decode cX11_mayDrive 10 = .ok (.getfield 145, 3) := by decide +kernel
theorem dX11_mayDrive_13 : decode cX11_mayDrive 13 = .ok (.iload_n 1, 1) := by decide +kernel
theorem dX11_mayDrive_14 : decode cX11_mayDrive 14 = .ok (.iaload, 1) := by decide +kernel
theorem dX11_mayDrive_15 : decode cX11_mayDrive 15 = .ok (.iload_n 2, 1) := by decide +kernel
theorem dX11_mayDrive_16 : decode cX11_mayDrive 16 = .ok (.ishr, 1) := by decide +kernel
theorem dX11_mayDrive_17 : decode cX11_mayDrive 17 = .ok (.iconst 1, 1) := by decide +kernel
theorem dX11_mayDrive_18 : decode cX11_mayDrive 18 = .ok (.iand, 1) := by decide +kernel
theorem dX11_mayDrive_19 : decode cX11_mayDrive 19 = .ok (.iconst 1, 1) := by decide +kernel
theorem dX11_mayDrive_20 : decode cX11_mayDrive 20 = .ok (.if_icmp .ne 15, 3) := by decide +kernel
theorem dX11_mayDrive_23 : decode cX11_mayDrive 23 = .ok (.iload_n 3, 1) := by decide +kernel
theorem dX11_mayDrive_24 : decode cX11_mayDrive 24 = .ok (.iload_n 1, 1) := by decide +kernel
theorem dX11_mayDrive_25 : decode cX11_mayDrive 25 = .ok (.ishr, 1) := by decide +kernel
theorem dX11_mayDrive_26 : decode cX11_mayDrive 26 = .ok (.iconst 1, 1) := by decide +kernel
theorem dX11_mayDrive_27 : decode cX11_mayDrive 27 = .ok (.iand, 1) := by decide +kernel
theorem dX11_mayDrive_28 : decode cX11_mayDrive 28 = .ok (.ifCond .ne 7, 3) := by decide +kernel
theorem dX11_mayDrive_31 : decode cX11_mayDrive 31 = .ok (.iconst 1, 1) := by decide +kernel
theorem dX11_mayDrive_32 : decode cX11_mayDrive 32 = .ok (.goto 4, 3) := by decide +kernel
theorem dX11_mayDrive_35 : decode cX11_mayDrive 35 = .ok (.iconst 0, 1) := by decide +kernel
theorem dX11_mayDrive_36 : decode cX11_mayDrive 36 = .ok (.ireturn, 1) := by decide +kernel
theorem dX11_covers_0 : decode cX11_covers 0 = .ok (.iconst 0, 1) := by decide +kernel
theorem dX11_covers_1 : decode cX11_covers 1 = .ok (.istore_n 2, 1) := by decide +kernel
theorem dX11_covers_2 : decode cX11_covers 2 = .ok (.iload_n 2, 1) := by decide +kernel
theorem dX11_covers_3 : decode cX11_covers 3 = .ok (.sipush 256, 3) := by decide +kernel
theorem dX11_covers_6 : decode cX11_covers 6 = .ok (.if_icmp .ge 22, 3) := by decide +kernel
theorem dX11_covers_9 : decode cX11_covers 9 = .ok (.aload_n 0, 1) := by decide +kernel
theorem dX11_covers_10 : decode cX11_covers 10 = .ok (.getfield 244, 3) := by decide +kernel
theorem dX11_covers_13 : decode cX11_covers 13 = .ok (.sipush 256, 3) := by decide +kernel
theorem dX11_covers_16 : decode cX11_covers 16 = .ok (.iload_n 1, 1) := by decide +kernel
theorem dX11_covers_17 : decode cX11_covers 17 = .ok (.imul, 1) := by decide +kernel
theorem dX11_covers_18 : decode cX11_covers 18 = .ok (.iload_n 2, 1) := by decide +kernel
theorem dX11_covers_19 : decode cX11_covers 19 = .ok (.iadd, 1) := by decide +kernel
theorem dX11_covers_20 : decode cX11_covers 20 = .ok (.iconst 0, 1) := by decide +kernel
theorem dX11_covers_21 : decode cX11_covers 21 = .ok (.iastore, 1) := by decide +kernel
theorem dX11_covers_22 : decode cX11_covers 22 = .ok (.iinc 2 1, 3) := by decide +kernel
theorem dX11_covers_25 : decode cX11_covers 25 = .ok (.goto (-23), 3) := by decide +kernel
theorem dX11_covers_28 : decode cX11_covers 28 = .ok (.iload_n 1, 1) := by decide +kernel
theorem dX11_covers_29 : decode cX11_covers 29 = .ok (.iconst 1, 1) := by decide +kernel
theorem dX11_covers_30 : decode cX11_covers 30 = .ok (.isub, 1) := by decide +kernel
theorem dX11_covers_31 : decode cX11_covers 31 = .ok (.istore_n 2, 1) := by decide +kernel
theorem dX11_covers_32 : decode cX11_covers 32 = .ok (.iload_n 2, 1) := by decide +kernel
theorem dX11_covers_33 : decode cX11_covers 33 = .ok (.ifCond .lt 129, 3) := by decide +kernel
theorem dX11_covers_36 : decode cX11_covers 36 = .ok (.iconst 0, 1) := by decide +kernel
theorem dX11_covers_37 : decode cX11_covers 37 = .ok (.istore_n 3, 1) := by decide +kernel
theorem dX11_covers_38 : decode cX11_covers 38 = .ok (.iload_n 3, 1) := by decide +kernel
theorem dX11_covers_39 : decode cX11_covers 39 = .ok (.sipush 256, 3) := by decide +kernel
theorem dX11_covers_42 : decode cX11_covers 42 = .ok (.if_icmp .ge 114, 3) := by decide +kernel
theorem dX11_covers_45 : decode cX11_covers 45 = .ok (.aload_n 0, 1) := by decide +kernel
theorem dX11_covers_46 : decode cX11_covers 46 = .ok (.getfield 244, 3) := by decide +kernel
theorem dX11_covers_49 : decode cX11_covers 49 = .ok (.sipush 256, 3) := by decide +kernel
theorem dX11_covers_52 : decode cX11_covers 52 = .ok (.iload_n 2, 1) := by decide +kernel
theorem dX11_covers_53 : decode cX11_covers 53 = .ok (.imul, 1) := by decide +kernel
theorem dX11_covers_54 : decode cX11_covers 54 = .ok (.sipush 256, 3) := by decide +kernel
theorem dX11_covers_57 : decode cX11_covers 57 = .ok (.iadd, 1) := by decide +kernel
theorem dX11_covers_58 : decode cX11_covers 58 = .ok (.iload_n 3, 1) := by decide +kernel
theorem dX11_covers_59 : decode cX11_covers 59 = .ok (.iadd, 1) := by decide +kernel
theorem dX11_covers_60 : decode cX11_covers 60 = .ok (.iaload, 1) := by decide +kernel
theorem dX11_covers_61 : decode cX11_covers 61 = .ok (.aload_n 0, 1) := by decide +kernel
theorem dX11_covers_62 : decode cX11_covers 62 = .ok (.getfield 151, 3) := by decide +kernel
theorem dX11_covers_65 : decode cX11_covers 65 = .ok (.iload_n 2, 1) := by decide +kernel
theorem dX11_covers_66 : decode cX11_covers 66 = .ok (.iaload, 1) := by decide +kernel
theorem dX11_covers_67 : decode cX11_covers 67 = .ok (.iadd, 1) := by decide +kernel
theorem dX11_covers_68 : decode cX11_covers 68 = .ok (.istore 4, 2) := by decide +kernel
theorem dX11_covers_70 : decode cX11_covers 70 = .ok (.iconst 0, 1) := by decide +kernel
theorem dX11_covers_71 : decode cX11_covers 71 = .ok (.istore 5, 2) := by decide +kernel
theorem dX11_covers_73 : decode cX11_covers 73 = .ok (.iload 5, 2) := by decide +kernel
theorem dX11_covers_75 : decode cX11_covers 75 = .ok (.aload_n 0, 1) := by decide +kernel
theorem dX11_covers_76 : decode cX11_covers 76 = .ok (.getfield 632, 3) := by decide +kernel
theorem dX11_covers_79 : decode cX11_covers 79 = .ok (.if_icmp .ge 57, 3) := by decide +kernel
theorem dX11_covers_82 : decode cX11_covers 82 = .ok (.aload_n 0, 1) := by decide +kernel
theorem dX11_covers_83 : decode cX11_covers 83 = .ok (.iload 5, 2) := by decide +kernel
theorem dX11_covers_85 : decode cX11_covers 85 = .ok (.iload_n 2, 1) := by decide +kernel
theorem dX11_covers_86 : decode cX11_covers 86 = .ok (.iload_n 3, 1) := by decide +kernel
theorem dX11_covers_87 : decode cX11_covers 87 = .ok (.invokevirtual 635, 3) := by decide +kernel
theorem dX11_covers_90 : decode cX11_covers 90 = .ok (.ifCond .ne 6, 3) := by decide +kernel
theorem dX11_covers_93 : decode cX11_covers 93 = .ok (.goto 37, 3) := by decide +kernel
theorem dX11_covers_96 : decode cX11_covers 96 = .ok (.aload_n 0, 1) := by decide +kernel
theorem dX11_covers_97 : decode cX11_covers 97 = .ok (.getfield 244, 3) := by decide +kernel
theorem dX11_covers_100 : decode cX11_covers 100 = .ok (.sipush 256, 3) := by decide +kernel
theorem dX11_covers_103 : decode cX11_covers 103 = .ok (.iload_n 2, 1) := by decide +kernel
theorem dX11_covers_104 : decode cX11_covers 104 = .ok (.imul, 1) := by decide +kernel
theorem dX11_covers_105 : decode cX11_covers 105 = .ok (.sipush 256, 3) := by decide +kernel
theorem dX11_covers_108 : decode cX11_covers 108 = .ok (.iadd, 1) := by decide +kernel
theorem dX11_covers_109 : decode cX11_covers 109 = .ok (.iload_n 3, 1) := by decide +kernel
theorem dX11_covers_110 : decode cX11_covers 110 = .ok (.iconst 1, 1) := by decide +kernel
theorem dX11_covers_111 : decode cX11_covers 111 = .ok (.iload 5, 2) := by decide +kernel
theorem dX11_covers_113 : decode cX11_covers 113 = .ok (.ishl, 1) := by decide +kernel
theorem dX11_covers_114 : decode cX11_covers 114 = .ok (.ior, 1) := by decide +kernel
theorem dX11_covers_115 : decode cX11_covers 115 = .ok (.iadd, 1) := by decide +kernel
theorem dX11_covers_116 : decode cX11_covers 116 = .ok (.iaload, 1) := by decide +kernel
theorem dX11_covers_117 : decode cX11_covers 117 = .ok (.istore 6, 2) := by decide +kernel
theorem dX11_covers_119 : decode cX11_covers 119 = .ok (.iload 6, 2) := by decide +kernel
theorem dX11_covers_121 : decode cX11_covers 121 = .ok (.iload 4, 2) := by decide +kernel
theorem dX11_covers_123 : decode cX11_covers 123 = .ok (.if_icmp .ge 7, 3) := by decide +kernel
theorem dX11_covers_126 : decode cX11_covers 126 = .ok (.iload 6, 2) := by decide +kernel
theorem dX11_covers_128 : decode cX11_covers 128 = .ok (.istore 4, 2) := by decide +kernel
theorem dX11_covers_130 : decode cX11_covers 130 = .ok (.iinc 5 1, 3) := by decide +kernel
theorem dX11_covers_133 : decode cX11_covers 133 = .ok (.goto (-60), 3) := by decide +kernel
theorem dX11_covers_136 : decode cX11_covers 136 = .ok (.aload_n 0, 1) := by decide +kernel
theorem dX11_covers_137 : decode cX11_covers 137 = .ok (.getfield 244, 3) := by decide +kernel
theorem dX11_covers_140 : decode cX11_covers 140 = .ok (.sipush 256, 3) := by decide +kernel
theorem dX11_covers_143 : decode cX11_covers 143 = .ok (.iload_n 2, 1) := by decide +kernel
theorem dX11_covers_144 : decode cX11_covers 144 = .ok (.imul, 1) := by decide +kernel
theorem dX11_covers_145 : decode cX11_covers 145 = .ok (.iload_n 3, 1) := by decide +kernel
theorem dX11_covers_146 : decode cX11_covers 146 = .ok (.iadd, 1) := by decide +kernel
theorem dX11_covers_147 : decode cX11_covers 147 = .ok (.iload 4, 2) := by decide +kernel
theorem dX11_covers_149 : decode cX11_covers 149 = .ok (.iastore, 1) := by decide +kernel
theorem dX11_covers_150 : decode cX11_covers 150 = .ok (.iinc 3 1, 3) := by decide +kernel
theorem dX11_covers_153 : decode cX11_covers 153 = .ok (.goto (-115), 3) := by decide +kernel
theorem dX11_covers_156 : decode cX11_covers 156 = .ok (.iinc 2 (-1), 3) := by decide +kernel
theorem dX11_covers_159 : decode cX11_covers 159 = .ok (.goto (-127), 3) := by decide +kernel
theorem dX11_covers_162 : decode cX11_covers 162 = .ok (.return_, 1) := by decide +kernel
theorem dX11_cover_0 : decode cX11_cover 0 = .ok (.iload_n 1, 1) := by decide +kernel
theorem dX11_cover_1 : decode cX11_cover 1 = .ok (.iconst 1, 1) := by decide +kernel
theorem dX11_cover_2 : decode cX11_cover 2 = .ok (.bipush 10, 2) := by decide +kernel
theorem dX11_cover_4 : decode cX11_cover 4 = .ok (.invokestatic 449, 3) := by decide +kernel
theorem dX11_cover_7 : decode cX11_cover 7 = .ok (.ifCond .ne 5, 3) := by decide +kernel
theorem dX11_cover_10 : decode cX11_cover 10 = .ok (.iconst (-1), 1) := by decide +kernel
theorem dX11_cover_11 : decode cX11_cover 11 = .ok (.ireturn, 1) := by decide +kernel
theorem dX11_cover_12 : decode cX11_cover 12 = .ok (.aload_n 0, 1) := by decide +kernel
theorem dX11_cover_13 : decode cX11_cover 13 = .ok (.iload_n 1, 1) := by decide +kernel
theorem dX11_cover_14 : decode cX11_cover 14 = .ok (.invokevirtual 638, 3) := by decide +kernel
theorem dX11_cover_17 : decode cX11_cover 17 = .ok (.aload_n 0, 1) := by decide +kernel
theorem dX11_cover_18 : decode cX11_cover 18 = .ok (.getfield 244, 3) := by decide +kernel
theorem dX11_cover_21 : decode cX11_cover 21 = .ok (.iconst 0, 1) := by decide +kernel
theorem dX11_cover_22 : decode cX11_cover 22 = .ok (.iaload, 1) := by decide +kernel
theorem dX11_cover_23 : decode cX11_cover 23 = .ok (.ireturn, 1) := by decide +kernel
theorem dX11_drives_0 : decode cX11_drives 0 = .ok (.iload_n 1, 1) := by decide +kernel
theorem dX11_drives_1 : decode cX11_drives 1 = .ok (.iconst 1, 1) := by decide +kernel
theorem dX11_drives_2 : decode cX11_drives 2 = .ok (.bipush 10, 2) := by decide +kernel
theorem dX11_drives_4 : decode cX11_drives 4 = .ok (.invokestatic 449, 3) := by decide +kernel
theorem dX11_drives_7 : decode cX11_drives 7 = .ok (.ifCond .eq 12, 3) := by decide +kernel
theorem dX11_drives_10 : decode cX11_drives 10 = .ok (.iload_n 2, 1) := by decide +kernel
theorem dX11_drives_11 : decode cX11_drives 11 = .ok (.ifCond .lt 8, 3) := by decide +kernel
theorem dX11_drives_14 : decode cX11_drives 14 = .ok (.iload_n 2, 1) := by decide +kernel
theorem dX11_drives_15 : decode cX11_drives 15 = .ok (.iload_n 1, 1) := by decide +kernel
theorem dX11_drives_16 : decode cX11_drives 16 = .ok (.if_icmp .lt 5, 3) := by decide +kernel
theorem dX11_drives_19 : decode cX11_drives 19 = .ok (.iconst (-1), 1) := by decide +kernel
theorem dX11_drives_20 : decode cX11_drives 20 = .ok (.ireturn, 1) := by decide +kernel
theorem dX11_drives_21 : decode cX11_drives 21 = .ok (.aload_n 0, 1) := by decide +kernel
theorem dX11_drives_22 : decode cX11_drives 22 = .ok (.iload_n 1, 1) := by decide +kernel
theorem dX11_drives_23 : decode cX11_drives 23 = .ok (.invokevirtual 638, 3) := by decide +kernel
theorem dX11_drives_26 : decode cX11_drives 26 = .ok (.iconst 0, 1) := by decide +kernel
theorem dX11_drives_27 : decode cX11_drives 27 = .ok (.istore_n 3, 1) := by decide +kernel
theorem dX11_drives_28 : decode cX11_drives 28 = .ok (.bipush (-2), 2) := by decide +kernel
theorem dX11_drives_30 : decode cX11_drives 30 = .ok (.istore 4, 2) := by decide +kernel
theorem dX11_drives_32 : decode cX11_drives 32 = .ok (.iconst 0, 1) := by decide +kernel
theorem dX11_drives_33 : decode cX11_drives 33 = .ok (.istore 5, 2) := by decide +kernel
theorem dX11_drives_35 : decode cX11_drives 35 = .ok (.iload 5, 2) := by decide +kernel
theorem dX11_drives_37 : decode cX11_drives 37 = .ok (.iload_n 2, 1) := by decide +kernel
theorem dX11_drives_38 : decode cX11_drives 38 = .ok (.if_icmp .gt 98, 3) := by decide +kernel
theorem dX11_drives_41 : decode cX11_drives 41 = .ok (.bipush (-2), 2) := by decide +kernel
theorem dX11_drives_43 : decode cX11_drives 43 = .ok (.istore 4, 2) := by decide +kernel
theorem dX11_drives_45 : decode cX11_drives 45 = .ok (.aload_n 0, 1) := by decide +kernel
theorem dX11_drives_46 : decode cX11_drives 46 = .ok (.getfield 632, 3) := by decide +kernel
theorem dX11_drives_49 : decode cX11_drives 49 = .ok (.iconst 1, 1) := by decide +kernel
theorem dX11_drives_50 : decode cX11_drives 50 = .ok (.isub, 1) := by decide +kernel
theorem dX11_drives_51 : decode cX11_drives 51 = .ok (.istore 6, 2) := by decide +kernel
theorem dX11_drives_53 : decode cX11_drives 53 = .ok (.iload 6, 2) := by decide +kernel
theorem dX11_drives_55 : decode cX11_drives 55 = .ok (.ifCond .lt 63, 3) := by decide +kernel
theorem dX11_drives_58 : decode cX11_drives 58 = .ok (.aload_n 0, 1) := by decide +kernel
theorem dX11_drives_59 : decode cX11_drives 59 = .ok (.iload 6, 2) := by decide +kernel
theorem dX11_drives_61 : decode cX11_drives 61 = .ok (.iload 5, 2) := by decide +kernel
theorem dX11_drives_63 : decode cX11_drives 63 = .ok (.iload_n 3, 1) := by decide +kernel
theorem dX11_drives_64 : decode cX11_drives 64 = .ok (.invokevirtual 635, 3) := by decide +kernel
theorem dX11_drives_67 : decode cX11_drives 67 = .ok (.ifCond .eq 45, 3) := by decide +kernel
theorem dX11_drives_70 : decode cX11_drives 70 = .ok (.aload_n 0, 1) := by decide +kernel
theorem dX11_drives_71 : decode cX11_drives 71 = .ok (.getfield 244, 3) := by decide +kernel
theorem dX11_drives_74 : decode cX11_drives 74 = .ok (.sipush 256, 3) := by decide +kernel
theorem dX11_drives_77 : decode cX11_drives 77 = .ok (.iload 5, 2) := by decide +kernel
theorem dX11_drives_79 : decode cX11_drives 79 = .ok (.imul, 1) := by decide +kernel
theorem dX11_drives_80 : decode cX11_drives 80 = .ok (.sipush 256, 3) := by decide +kernel
theorem dX11_drives_83 : decode cX11_drives 83 = .ok (.iadd, 1) := by decide +kernel
theorem dX11_drives_84 : decode cX11_drives 84 = .ok (.iload_n 3, 1) := by decide +kernel
theorem dX11_drives_85 : decode cX11_drives 85 = .ok (.iconst 1, 1) := by decide +kernel
theorem dX11_drives_86 : decode cX11_drives 86 = .ok (.iload 6, 2) := by decide +kernel
theorem dX11_drives_88 : decode cX11_drives 88 = .ok (.ishl, 1) := by decide +kernel
theorem dX11_drives_89 : decode cX11_drives 89 = .ok (.ior, 1) := by decide +kernel
theorem dX11_drives_90 : decode cX11_drives 90 = .ok (.iadd, 1) := by decide +kernel
theorem dX11_drives_91 : decode cX11_drives 91 = .ok (.iaload, 1) := by decide +kernel
theorem dX11_drives_92 : decode cX11_drives 92 = .ok (.aload_n 0, 1) := by decide +kernel
theorem dX11_drives_93 : decode cX11_drives 93 = .ok (.getfield 244, 3) := by decide +kernel
theorem dX11_drives_96 : decode cX11_drives 96 = .ok (.sipush 256, 3) := by decide +kernel
theorem dX11_drives_99 : decode cX11_drives 99 = .ok (.iload 5, 2) := by decide +kernel
theorem dX11_drives_101 : decode cX11_drives 101 = .ok (.imul, 1) := by decide +kernel
theorem dX11_drives_102 : decode cX11_drives 102 = .ok (.iload_n 3, 1) := by decide +kernel
theorem dX11_drives_103 : decode cX11_drives 103 = .ok (.iadd, 1) := by decide +kernel
theorem dX11_drives_104 : decode cX11_drives 104 = .ok (.iaload, 1) := by decide +kernel
theorem dX11_drives_105 : decode cX11_drives 105 = .ok (.if_icmp .ne 7, 3) := by decide +kernel
theorem dX11_drives_108 : decode cX11_drives 108 = .ok (.iload 6, 2) := by decide +kernel
theorem dX11_drives_110 : decode cX11_drives 110 = .ok (.istore 4, 2) := by decide +kernel
theorem dX11_drives_112 : decode cX11_drives 112 = .ok (.iinc 6 (-1), 3) := by decide +kernel
theorem dX11_drives_115 : decode cX11_drives 115 = .ok (.goto (-62), 3) := by decide +kernel
theorem dX11_drives_118 : decode cX11_drives 118 = .ok (.iload 4, 2) := by decide +kernel
theorem dX11_drives_120 : decode cX11_drives 120 = .ok (.ifCond .lt 10, 3) := by decide +kernel
theorem dX11_drives_123 : decode cX11_drives 123 = .ok (.iload_n 3, 1) := by decide +kernel
theorem dX11_drives_124 : decode cX11_drives 124 = .ok (.iconst 1, 1) := by decide +kernel
theorem dX11_drives_125 : decode cX11_drives 125 = .ok (.iload 4, 2) := by decide +kernel
theorem dX11_drives_127 : decode cX11_drives 127 = .ok (.ishl, 1) := by decide +kernel
theorem dX11_drives_128 : decode cX11_drives 128 = .ok (.ior, 1) := by decide +kernel
theorem dX11_drives_129 : decode cX11_drives 129 = .ok (.istore_n 3, 1) := by decide +kernel
theorem dX11_drives_130 : decode cX11_drives 130 = .ok (.iinc 5 1, 3) := by decide +kernel
theorem dX11_drives_133 : decode cX11_drives 133 = .ok (.goto (-98), 3) := by decide +kernel
theorem dX11_drives_136 : decode cX11_drives 136 = .ok (.iload 4, 2) := by decide +kernel
theorem dX11_drives_138 : decode cX11_drives 138 = .ok (.ireturn, 1) := by decide +kernel
theorem dX11_call_0 : decode cX11_call 0 = .ok (.aload_n 0, 1) := by decide +kernel
theorem dX11_call_1 : decode cX11_call 1 = .ok (.getfield 641, 3) := by decide +kernel
theorem dX11_call_4 : decode cX11_call 4 = .ok (.bipush 30, 2) := by decide +kernel
theorem dX11_call_6 : decode cX11_call 6 = .ok (.if_icmp .eq 38, 3) := by decide +kernel
theorem dX11_call_9 : decode cX11_call 9 = .ok (.iload_n 1, 1) := by decide +kernel
theorem dX11_call_10 : decode cX11_call 10 = .ok (.iconst 0, 1) := by decide +kernel
theorem dX11_call_11 : decode cX11_call 11 = .ok (.bipush 11, 2) := by decide +kernel
theorem dX11_call_13 : decode cX11_call 13 = .ok (.invokestatic 449, 3) := by decide +kernel
theorem dX11_call_16 : decode cX11_call 16 = .ok (.ifCond .eq 28, 3) := by decide +kernel
theorem dX11_call_19 : decode cX11_call 19 = .ok (.iload_n 2, 1) := by decide +kernel
theorem dX11_call_20 : decode cX11_call 20 = .ok (.iconst 0, 1) := by decide +kernel
theorem dX11_call_21 : decode cX11_call 21 = .ok (.bipush 11, 2) := by decide +kernel
theorem dX11_call_23 : decode cX11_call 23 = .ok (.invokestatic 449, 3) := by decide +kernel
theorem dX11_call_26 : decode cX11_call 26 = .ok (.ifCond .eq 18, 3) := by decide +kernel
theorem dX11_call_29 : decode cX11_call 29 = .ok (.iload_n 1, 1) := by decide +kernel
theorem dX11_call_30 : decode cX11_call 30 = .ok (.iload_n 2, 1) := by decide +kernel
theorem dX11_call_31 : decode cX11_call 31 = .ok (.if_icmp .eq 13, 3) := by decide +kernel
theorem dX11_call_34 : decode cX11_call 34 = .ok (.iload_n 3, 1) := by decide +kernel
theorem dX11_call_35 : decode cX11_call 35 = .ok (.iconst 1, 1) := by decide +kernel
theorem dX11_call_36 : decode cX11_call 36 = .ok (.bipush 99, 2) := by decide +kernel
theorem dX11_call_38 : decode cX11_call 38 = .ok (.invokestatic 449, 3) := by decide +kernel
theorem dX11_call_41 : decode cX11_call 41 = .ok (.ifCond .ne 5, 3) := by decide +kernel
theorem dX11_call_44 : decode cX11_call 44 = .ok (.iconst (-1), 1) := by decide +kernel
theorem dX11_call_45 : decode cX11_call 45 = .ok (.ireturn, 1) := by decide +kernel
theorem dX11_call_46 : decode cX11_call 46 = .ok (.aload_n 0, 1) := by decide +kernel
theorem dX11_call_47 : decode cX11_call 47 = .ok (.getfield 154, 3) := by decide +kernel
theorem dX11_call_50 : decode cX11_call 50 = .ok (.aload_n 0, 1) := by decide +kernel
theorem dX11_call_51 : decode cX11_call 51 = .ok (.getfield 641, 3) := by decide +kernel
theorem dX11_call_54 : decode cX11_call 54 = .ok (.iload_n 1, 1) := by decide +kernel
theorem dX11_call_55 : decode cX11_call 55 = .ok (.iastore, 1) := by decide +kernel
theorem dX11_call_56 : decode cX11_call 56 = .ok (.aload_n 0, 1) := by decide +kernel
theorem dX11_call_57 : decode cX11_call 57 = .ok (.getfield 157, 3) := by decide +kernel
theorem dX11_call_60 : decode cX11_call 60 = .ok (.aload_n 0, 1) := by decide +kernel
theorem dX11_call_61 : decode cX11_call 61 = .ok (.getfield 641, 3) := by decide +kernel
theorem dX11_call_64 : decode cX11_call 64 = .ok (.iload_n 2, 1) := by decide +kernel
theorem dX11_call_65 : decode cX11_call 65 = .ok (.iastore, 1) := by decide +kernel
theorem dX11_call_66 : decode cX11_call 66 = .ok (.aload_n 0, 1) := by decide +kernel
theorem dX11_call_67 : decode cX11_call 67 = .ok (.getfield 160, 3) := by decide +kernel
theorem dX11_call_70 : decode cX11_call 70 = .ok (.aload_n 0, 1) := by decide +kernel
theorem dX11_call_71 : decode cX11_call 71 = .ok (.getfield 641, 3) := by decide +kernel
theorem dX11_call_74 : decode cX11_call 74 = .ok (.iload_n 3, 1) := by decide +kernel
theorem dX11_call_75 : decode cX11_call 75 = .ok (.iastore, 1) := by decide +kernel
theorem dX11_call_76 : decode cX11_call 76 = .ok (.aload_n 0, 1) := by decide +kernel
theorem dX11_call_77 : decode cX11_call 77 = .ok (.dup, 1) := by decide +kernel
theorem dX11_call_78 : decode cX11_call 78 = .ok (.getfield 641, 3) := by decide +kernel
theorem dX11_call_81 : decode cX11_call 81 = .ok (.iconst 1, 1) := by decide +kernel
theorem dX11_call_82 : decode cX11_call 82 = .ok (.iadd, 1) := by decide +kernel
theorem dX11_call_83 : decode cX11_call 83 = .ok (.putfield 641, 3) := by decide +kernel
theorem dX11_call_86 : decode cX11_call 86 = .ok (.aload_n 0, 1) := by decide +kernel
theorem dX11_call_87 : decode cX11_call 87 = .ok (.getfield 641, 3) := by decide +kernel
theorem dX11_call_90 : decode cX11_call 90 = .ok (.ireturn, 1) := by decide +kernel
theorem dX11_snow_0 : decode cX11_snow 0 = .ok (.iconst 0, 1) := by decide +kernel
theorem dX11_snow_1 : decode cX11_snow 1 = .ok (.istore_n 2, 1) := by decide +kernel
theorem dX11_snow_2 : decode cX11_snow 2 = .ok (.iload_n 2, 1) := by decide +kernel
theorem dX11_snow_3 : decode cX11_snow 3 = .ok (.bipush 12, 2) := by decide +kernel
theorem dX11_snow_5 : decode cX11_snow 5 = .ok (.if_icmp .ge 25, 3) := by decide +kernel
theorem dX11_snow_8 : decode cX11_snow 8 = .ok (.aload_n 0, 1) := by decide +kernel
theorem dX11_snow_9 : decode cX11_snow 9 = .ok (.getfield 247, 3) := by decide +kernel
theorem dX11_snow_12 : decode cX11_snow 12 = .ok (.iload_n 2, 1) := by decide +kernel
theorem dX11_snow_13 : decode cX11_snow 13 = .ok (.iload_n 2, 1) := by decide +kernel
theorem dX11_snow_14 : decode cX11_snow 14 = .ok (.iload_n 1, 1) := by decide +kernel
theorem dX11_snow_15 : decode cX11_snow 15 = .ok (.if_icmp .ne 7, 3) := by decide +kernel
theorem dX11_snow_18 : decode cX11_snow 18 = .ok (.iconst 0, 1) := by decide +kernel
theorem dX11_snow_19 : decode cX11_snow 19 = .ok (.goto 4, 3) := by decide +kernel
theorem dX11_snow_22 : decode cX11_snow 22 = .ok (.iconst (-1), 1) := by decide +kernel
theorem dX11_snow_23 : decode cX11_snow 23 = .ok (.iastore, 1) := by decide +kernel
theorem dX11_snow_24 : decode cX11_snow 24 = .ok (.iinc 2 1, 3) := by decide +kernel
theorem dX11_snow_27 : decode cX11_snow 27 = .ok (.goto (-25), 3) := by decide +kernel
theorem dX11_snow_30 : decode cX11_snow 30 = .ok (.iconst 1, 1) := by decide +kernel
theorem dX11_snow_31 : decode cX11_snow 31 = .ok (.istore_n 2, 1) := by decide +kernel
theorem dX11_snow_32 : decode cX11_snow 32 = .ok (.iload_n 2, 1) := by decide +kernel
theorem dX11_snow_33 : decode cX11_snow 33 = .ok (.ifCond .eq 137, 3) := by decide +kernel
theorem dX11_snow_36 : decode cX11_snow 36 = .ok (.iconst 0, 1) := by decide +kernel
theorem dX11_snow_37 : decode cX11_snow 37 = .ok (.istore_n 2, 1) := by decide +kernel
theorem dX11_snow_38 : decode cX11_snow 38 = .ok (.iconst 0, 1) := by decide +kernel
theorem dX11_snow_39 : decode cX11_snow 39 = .ok (.istore_n 3, 1) := by decide +kernel
theorem dX11_snow_40 : decode cX11_snow 40 = .ok (.iload_n 3, 1) := by decide +kernel
theorem dX11_snow_41 : decode cX11_snow 41 = .ok (.bipush 12, 2) := by decide +kernel
theorem dX11_snow_43 : decode cX11_snow 43 = .ok (.if_icmp .ge 124, 3) := by decide +kernel
theorem dX11_snow_46 : decode cX11_snow 46 = .ok (.aload_n 0, 1) := by decide +kernel
theorem dX11_snow_47 : decode cX11_snow 47 = .ok (.getfield 247, 3) := by decide +kernel
theorem dX11_snow_50 : decode cX11_snow 50 = .ok (.iload_n 3, 1) := by decide +kernel
theorem dX11_snow_51 : decode cX11_snow 51 = .ok (.iaload, 1) := by decide +kernel
theorem dX11_snow_52 : decode cX11_snow 52 = .ok (.ifCond .ge 6, 3) := by decide +kernel
theorem dX11_snow_55 : decode cX11_snow 55 = .ok (.goto 106, 3) := by decide +kernel
theorem dX11_snow_58 : decode cX11_snow 58 = .ok (.aload_n 0, 1) := by decide +kernel
theorem dX11_snow_59 : decode cX11_snow 59 = .ok (.getfield 247, 3) := by decide +kernel
theorem dX11_snow_62 : decode cX11_snow 62 = .ok (.iload_n 3, 1) := by decide +kernel
theorem dX11_snow_63 : decode cX11_snow 63 = .ok (.iaload, 1) := by decide +kernel
theorem dX11_snow_64 : decode cX11_snow 64 = .ok (.istore 4, 2) := by decide +kernel
theorem dX11_snow_66 : decode cX11_snow 66 = .ok (.iconst 0, 1) := by decide +kernel
theorem dX11_snow_67 : decode cX11_snow 67 = .ok (.istore 5, 2) := by decide +kernel
theorem dX11_snow_69 : decode cX11_snow 69 = .ok (.iload 5, 2) := by decide +kernel
theorem dX11_snow_71 : decode cX11_snow 71 = .ok (.aload_n 0, 1) := by decide +kernel
theorem dX11_snow_72 : decode cX11_snow 72 = .ok (.getfield 641, 3) := by decide +kernel
theorem dX11_snow_75 : decode cX11_snow 75 = .ok (.if_icmp .ge 86, 3) := by decide +kernel
theorem dX11_snow_78 : decode cX11_snow 78 = .ok (.aload_n 0, 1) := by decide +kernel
theorem dX11_snow_79 : decode cX11_snow 79 = .ok (.getfield 154, 3) := by decide +kernel
theorem dX11_snow_82 : decode cX11_snow 82 = .ok (.iload 5, 2) := by decide +kernel
theorem dX11_snow_84 : decode cX11_snow 84 = .ok (.iaload, 1) := by decide +kernel
theorem dX11_snow_85 : decode cX11_snow 85 = .ok (.iload_n 3, 1) := by decide +kernel
theorem dX11_snow_86 : decode cX11_snow 86 = .ok (.if_icmp .eq 6, 3) := by decide +kernel
theorem dX11_snow_89 : decode cX11_snow 89 = .ok (.goto 66, 3) := by decide +kernel
theorem dX11_snow_92 : decode cX11_snow 92 = .ok (.iload 4, 2) := by decide +kernel
theorem dX11_snow_94 : decode cX11_snow 94 = .ok (.aload_n 0, 1) := by decide +kernel
theorem dX11_snow_95 : decode cX11_snow 95 = .ok (.getfield 160, 3) := by decide +kernel
theorem dX11_snow_98 : decode cX11_snow 98 = .ok (.iload 5, 2) := by decide +kernel
theorem dX11_snow_100 : decode cX11_snow 100 = .ok (.iaload, 1) := by decide +kernel
theorem dX11_snow_101 : decode cX11_snow 101 = .ok (.iadd, 1) := by decide +kernel
theorem dX11_snow_102 : decode cX11_snow 102 = .ok (.istore 4, 2) := by decide +kernel
theorem dX11_snow_104 : decode cX11_snow 104 = .ok (.aload_n 0, 1) := by decide +kernel
theorem dX11_snow_105 : decode cX11_snow 105 = .ok (.getfield 247, 3) := by decide +kernel
theorem dX11_snow_108 : decode cX11_snow 108 = .ok (.aload_n 0, 1) := by decide +kernel
theorem dX11_snow_109 : decode cX11_snow 109 = .ok (.getfield 157, 3) := by decide +kernel
theorem dX11_snow_112 : decode cX11_snow 112 = .ok (.iload 5, 2) := by decide +kernel
theorem dX11_snow_114 : decode cX11_snow 114 = .ok (.iaload, 1) := by decide +kernel
theorem dX11_snow_115 : decode cX11_snow 115 = .ok (.iaload, 1) := by decide +kernel
theorem dX11_snow_116 : decode cX11_snow 116 = .ok (.ifCond .lt 23, 3) := by decide +kernel
theorem dX11_snow_119 : decode cX11_snow 119 = .ok (.aload_n 0, 1) := by decide +kernel
theorem dX11_snow_120 : decode cX11_snow 120 = .ok (.getfield 247, 3) := by decide +kernel
theorem dX11_snow_123 : decode cX11_snow 123 = .ok (.aload_n 0, 1) := by decide +kernel
theorem dX11_snow_124 : decode cX11_snow 124 = .ok (.getfield 157, 3) := by decide +kernel
theorem dX11_snow_127 : decode cX11_snow 127 = .ok (.iload 5, 2) := by decide +kernel
theorem dX11_snow_129 : decode cX11_snow 129 = .ok (.iaload, 1) := by decide +kernel
theorem dX11_snow_130 : decode cX11_snow 130 = .ok (.iaload, 1) := by decide +kernel
theorem dX11_snow_131 : decode cX11_snow 131 = .ok (.iload 4, 2) := by decide +kernel
theorem dX11_snow_133 : decode cX11_snow 133 = .ok (.if_icmp .gt 6, 3) := by decide +kernel
theorem dX11_snow_136 : decode cX11_snow 136 = .ok (.goto 19, 3) := by decide +kernel
theorem dX11_snow_139 : decode cX11_snow 139 = .ok (.aload_n 0, 1) := by decide +kernel
theorem dX11_snow_140 : decode cX11_snow 140 = .ok (.getfield 247, 3) := by decide +kernel
theorem dX11_snow_143 : decode cX11_snow 143 = .ok (.aload_n 0, 1) := by decide +kernel
theorem dX11_snow_144 : decode cX11_snow 144 = .ok (.getfield 157, 3) := by decide +kernel
theorem dX11_snow_147 : decode cX11_snow 147 = .ok (.iload 5, 2) := by decide +kernel
theorem dX11_snow_149 : decode cX11_snow 149 = .ok (.iaload, 1) := by decide +kernel
theorem dX11_snow_150 : decode cX11_snow 150 = .ok (.iload 4, 2) := by decide +kernel
theorem dX11_snow_152 : decode cX11_snow 152 = .ok (.iastore, 1) := by decide +kernel
theorem dX11_snow_153 : decode cX11_snow 153 = .ok (.iconst 1, 1) := by decide +kernel
theorem dX11_snow_154 : decode cX11_snow 154 = .ok (.istore_n 2, 1) := by decide +kernel
theorem dX11_snow_155 : decode cX11_snow 155 = .ok (.iinc 5 1, 3) := by decide +kernel
theorem dX11_snow_158 : decode cX11_snow 158 = .ok (.goto (-89), 3) := by decide +kernel
theorem dX11_snow_161 : decode cX11_snow 161 = .ok (.iinc 3 1, 3) := by decide +kernel
theorem dX11_snow_164 : decode cX11_snow 164 = .ok (.goto (-124), 3) := by decide +kernel
theorem dX11_snow_167 : decode cX11_snow 167 = .ok (.goto (-135), 3) := by decide +kernel
theorem dX11_snow_170 : decode cX11_snow 170 = .ok (.return_, 1) := by decide +kernel
theorem dX11_told_0 : decode cX11_told 0 = .ok (.iload_n 1, 1) := by decide +kernel
theorem dX11_told_1 : decode cX11_told 1 = .ok (.iconst 0, 1) := by decide +kernel
theorem dX11_told_2 : decode cX11_told 2 = .ok (.bipush 11, 2) := by decide +kernel
theorem dX11_told_4 : decode cX11_told 4 = .ok (.invokestatic 449, 3) := by decide +kernel
theorem dX11_told_7 : decode cX11_told 7 = .ok (.ifCond .eq 13, 3) := by decide +kernel
theorem dX11_told_10 : decode cX11_told 10 = .ok (.iload_n 2, 1) := by decide +kernel
theorem dX11_told_11 : decode cX11_told 11 = .ok (.iconst 0, 1) := by decide +kernel
theorem dX11_told_12 : decode cX11_told 12 = .ok (.bipush 11, 2) := by decide +kernel
theorem dX11_told_14 : decode cX11_told 14 = .ok (.invokestatic 449, 3) := by decide +kernel
theorem dX11_told_17 : decode cX11_told 17 = .ok (.ifCond .ne 5, 3) := by decide +kernel
theorem dX11_told_20 : decode cX11_told 20 = .ok (.iconst (-1), 1) := by decide +kernel
theorem dX11_told_21 : decode cX11_told 21 = .ok (.ireturn, 1) := by decide +kernel
theorem dX11_told_22 : decode cX11_told 22 = .ok (.aload_n 0, 1) := by decide +kernel
theorem dX11_told_23 : decode cX11_told 23 = .ok (.iload_n 1, 1) := by decide +kernel
theorem dX11_told_24 : decode cX11_told 24 = .ok (.invokevirtual 644, 3) := by decide +kernel
theorem dX11_told_27 : decode cX11_told 27 = .ok (.aload_n 0, 1) := by decide +kernel
theorem dX11_told_28 : decode cX11_told 28 = .ok (.getfield 247, 3) := by decide +kernel
theorem dX11_told_31 : decode cX11_told 31 = .ok (.iload_n 2, 1) := by decide +kernel
theorem dX11_told_32 : decode cX11_told 32 = .ok (.iaload, 1) := by decide +kernel
theorem dX11_told_33 : decode cX11_told 33 = .ok (.ifCond .ge 8, 3) := by decide +kernel
theorem dX11_told_36 : decode cX11_told 36 = .ok (.bipush (-2), 2) := by decide +kernel
theorem dX11_told_38 : decode cX11_told 38 = .ok (.goto 9, 3) := by decide +kernel
theorem dX11_told_41 : decode cX11_told 41 = .ok (.aload_n 0, 1) := by decide +kernel
theorem dX11_told_42 : decode cX11_told 42 = .ok (.getfield 247, 3) := by decide +kernel
theorem dX11_told_45 : decode cX11_told 45 = .ok (.iload_n 2, 1) := by decide +kernel
theorem dX11_told_46 : decode cX11_told 46 = .ok (.iaload, 1) := by decide +kernel
theorem dX11_told_47 : decode cX11_told 47 = .ok (.ireturn, 1) := by decide +kernel
theorem dX11_soonest_0 : decode cX11_soonest 0 = .ok (.iconst (-1), 1) := by decide +kernel
theorem dX11_soonest_1 : decode cX11_soonest 1 = .ok (.istore_n 1, 1) := by decide +kernel
theorem dX11_soonest_2 : decode cX11_soonest 2 = .ok (.iconst 0, 1) := by decide +kernel
theorem dX11_soonest_3 : decode cX11_soonest 3 = .ok (.istore_n 2, 1) := by decide +kernel
theorem dX11_soonest_4 : decode cX11_soonest 4 = .ok (.iconst 0, 1) := by decide +kernel
theorem dX11_soonest_5 : decode cX11_soonest 5 = .ok (.istore_n 3, 1) := by decide +kernel
theorem dX11_soonest_6 : decode cX11_soonest 6 = .ok (.iconst 0, 1) := by decide +kernel
theorem dX11_soonest_7 : decode cX11_soonest 7 = .ok (.istore 4, 2) := by decide +kernel
theorem dX11_soonest_9 : decode cX11_soonest 9 = .ok (.iload 4, 2) := by decide +kernel
theorem dX11_soonest_11 : decode cX11_soonest 11 = .ok (.bipush 12, 2) := by decide +kernel
theorem dX11_soonest_13 : decode cX11_soonest 13 = .ok (.if_icmp .ge 108, 3) := by decide +kernel
theorem dX11_soonest_16 : decode cX11_soonest 16 = .ok (.aload_n 0, 1) := by decide +kernel
theorem dX11_soonest_17 : decode cX11_soonest 17 = .ok (.iload 4, 2) := by decide +kernel
theorem dX11_soonest_19 : decode cX11_soonest 19 = .ok (.invokevirtual 644, 3) := by decide +kernel
theorem dX11_soonest_22 : decode cX11_soonest 22 = .ok (.iconst 0, 1) := by decide +kernel
theorem dX11_soonest_23 : decode cX11_soonest 23 = .ok (.istore 5, 2) := by decide +kernel
theorem dX11_soonest_25 : decode cX11_soonest 25 = .ok (.iconst 0, 1) := by decide +kernel
theorem dX11_soonest_26 : decode cX11_soonest 26 = .ok (.istore 6, 2) := by decide +kernel
theorem dX11_soonest_28 : decode cX11_soonest 28 = .ok (.iconst 0, 1) := by decide +kernel
theorem dX11_soonest_29 : decode cX11_soonest 29 = .ok (.istore 7, 2) := by decide +kernel
theorem dX11_soonest_31 : decode cX11_soonest 31 = .ok (.iload 7, 2) := by decide +kernel
theorem dX11_soonest_33 : decode cX11_soonest 33 = .ok (.bipush 12, 2) := by decide +kernel
theorem dX11_soonest_35 : decode cX11_soonest 35 = .ok (.if_icmp .ge 46, 3) := by decide +kernel
theorem dX11_soonest_38 : decode cX11_soonest 38 = .ok (.aload_n 0, 1) := by decide +kernel
theorem dX11_soonest_39 : decode cX11_soonest 39 = .ok (.getfield 247, 3) := by decide +kernel
theorem dX11_soonest_42 : decode cX11_soonest 42 = .ok (.iload 7, 2) := by decide +kernel
theorem dX11_soonest_44 : decode cX11_soonest 44 = .ok (.iaload, 1) := by decide +kernel
theorem dX11_soonest_45 : decode cX11_soonest 45 = .ok (.ifCond .ge 6, 3) := by decide +kernel
theorem dX11_soonest_48 : decode cX11_soonest 48 = .ok (.goto 27, 3) := by decide +kernel
theorem dX11_soonest_51 : decode cX11_soonest 51 = .ok (.iinc 5 1, 3) := by decide +kernel
theorem dX11_soonest_54 : decode cX11_soonest 54 = .ok (.aload_n 0, 1) := by decide +kernel
theorem dX11_soonest_55 : decode cX11_soonest 55 = .ok (.getfield 247, 3) := by decide +kernel
theorem dX11_soonest_58 : decode cX11_soonest 58 = .ok (.iload 7, 2) := by decide +kernel
theorem dX11_soonest_60 : decode cX11_soonest 60 = .ok (.iaload, 1) := by decide +kernel
theorem dX11_soonest_61 : decode cX11_soonest 61 = .ok (.iload 6, 2) := by decide +kernel
theorem dX11_soonest_63 : decode cX11_soonest 63 = .ok (.if_icmp .le 12, 3) := by decide +kernel
theorem dX11_soonest_66 : decode cX11_soonest 66 = .ok (.aload_n 0, 1) := by decide +kernel
theorem dX11_soonest_67 : decode cX11_soonest 67 = .ok (.getfield 247, 3) := by decide +kernel
theorem dX11_soonest_70 : decode cX11_soonest 70 = .ok (.iload 7, 2) := by decide +kernel
theorem dX11_soonest_72 : decode cX11_soonest 72 = .ok (.iaload, 1) := by decide +kernel
theorem dX11_soonest_73 : decode cX11_soonest 73 = .ok (.istore 6, 2) := by decide +kernel
theorem dX11_soonest_75 : decode cX11_soonest 75 = .ok (.iinc 7 1, 3) := by decide +kernel
theorem dX11_soonest_78 : decode cX11_soonest 78 = .ok (.goto (-47), 3) := by decide +kernel
theorem dX11_soonest_81 : decode cX11_soonest 81 = .ok (.iload_n 1, 1) := by decide +kernel
theorem dX11_soonest_82 : decode cX11_soonest 82 = .ok (.ifCond .lt 24, 3) := by decide +kernel
theorem dX11_soonest_85 : decode cX11_soonest 85 = .ok (.iload 5, 2) := by decide +kernel
theorem dX11_soonest_87 : decode cX11_soonest 87 = .ok (.iload_n 2, 1) := by decide +kernel
theorem dX11_soonest_88 : decode cX11_soonest 88 = .ok (.if_icmp .lt 27, 3) := by decide +kernel
theorem dX11_soonest_91 : decode cX11_soonest 91 = .ok (.iload 5, 2) := by decide +kernel
theorem dX11_soonest_93 : decode cX11_soonest 93 = .ok (.iload_n 2, 1) := by decide +kernel
theorem dX11_soonest_94 : decode cX11_soonest 94 = .ok (.if_icmp .ne 12, 3) := by decide +kernel
theorem dX11_soonest_97 : decode cX11_soonest 97 = .ok (.iload 6, 2) := by decide +kernel
theorem dX11_soonest_99 : decode cX11_soonest 99 = .ok (.iload_n 3, 1) := by decide +kernel
theorem dX11_soonest_100 : decode cX11_soonest 100 = .ok (.if_icmp .lt 6, 3) := by decide +kernel
theorem dX11_soonest_103 : decode cX11_soonest 103 = .ok (.goto 12, 3) := by decide +kernel
theorem dX11_soonest_106 : decode cX11_soonest 106 = .ok (.iload 4, 2) := by decide +kernel
theorem dX11_soonest_108 : decode cX11_soonest 108 = .ok (.istore_n 1, 1) := by decide +kernel
theorem dX11_soonest_109 : decode cX11_soonest 109 = .ok (.iload 5, 2) := by decide +kernel
theorem dX11_soonest_111 : decode cX11_soonest 111 = .ok (.istore_n 2, 1) := by decide +kernel
theorem dX11_soonest_112 : decode cX11_soonest 112 = .ok (.iload 6, 2) := by decide +kernel
theorem dX11_soonest_114 : decode cX11_soonest 114 = .ok (.istore_n 3, 1) := by decide +kernel
theorem dX11_soonest_115 : decode cX11_soonest 115 = .ok (.iinc 4 1, 3) := by decide +kernel
theorem dX11_soonest_118 : decode cX11_soonest 118 = .ok (.goto (-109), 3) := by decide +kernel
theorem dX11_soonest_121 : decode cX11_soonest 121 = .ok (.iload_n 1, 1) := by decide +kernel
theorem dX11_soonest_122 : decode cX11_soonest 122 = .ok (.ireturn, 1) := by decide +kernel
theorem dX11_isLent_0 : decode cX11_isLent 0 = .ok (.aload_n 0, 1) := by decide +kernel
theorem dX11_isLent_1 : decode cX11_isLent 1 = .ok (.getfield 127, 3) := by decide +kernel
theorem dX11_isLent_4 : decode cX11_isLent 4 = .ok (.iload_n 1, 1) := by decide +kernel
theorem dX11_isLent_5 : decode cX11_isLent 5 = .ok (.iaload, 1) := by decide +kernel
theorem dX11_isLent_6 : decode cX11_isLent 6 = .ok (.istore 4, 2) := by decide +kernel
theorem dX11_isLent_8 : decode cX11_isLent 8 = .ok (.aload_n 0, 1) := by decide +kernel
theorem dX11_isLent_9 : decode cX11_isLent 9 = .ok (.getfield 127, 3) := by decide +kernel
theorem dX11_isLent_12 : decode cX11_isLent 12 = .ok (.iload_n 2, 1) := by decide +kernel
theorem dX11_isLent_13 : decode cX11_isLent 13 = .ok (.iaload, 1) := by decide +kernel
theorem dX11_isLent_14 : decode cX11_isLent 14 = .ok (.iload 4, 2) := by decide +kernel
theorem dX11_isLent_16 : decode cX11_isLent 16 = .ok (.if_icmp .ne 27, 3) := by decide +kernel
theorem dX11_isLent_19 : decode cX11_isLent 19 = .ok (.aload_n 0, 1) := by decide +kernel
theorem dX11_isLent_20 : decode cX11_isLent 20 = .ok (.getfield 121, 3) := by decide +kernel
theorem dX11_isLent_23 : decode cX11_isLent 23 = .ok (.iload_n 1, 1) := by decide +kernel
theorem dX11_isLent_24 : decode cX11_isLent 24 = .ok (.iaload, 1) := by decide +kernel
theorem dX11_isLent_25 : decode cX11_isLent 25 = .ok (.aload_n 0, 1) := by decide +kernel
theorem dX11_isLent_26 : decode cX11_isLent 26 = .ok (.getfield 121, 3) := by decide +kernel
theorem dX11_isLent_29 : decode cX11_isLent 29 = .ok (.iload_n 2, 1) := by decide +kernel
theorem dX11_isLent_30 : decode cX11_isLent 30 = .ok (.iaload, 1) := by decide +kernel
theorem dX11_isLent_31 : decode cX11_isLent 31 = .ok (.if_icmp .ne 12, 3) := by decide +kernel
theorem dX11_isLent_34 : decode cX11_isLent 34 = .ok (.aload_n 0, 1) := by decide +kernel
theorem dX11_isLent_35 : decode cX11_isLent 35 = .ok (.iload 4, 2) := by decide +kernel
theorem dX11_isLent_37 : decode cX11_isLent 37 = .ok (.invokevirtual 480, 3) := by decide +kernel
theorem dX11_isLent_40 : decode cX11_isLent 40 = .ok (.ifCond .ge 5, 3) := by decide +kernel
theorem dX11_isLent_43 : decode cX11_isLent 43 = .ok (.iconst 0, 1) := by decide +kernel
theorem dX11_isLent_44 : decode cX11_isLent 44 = .ok (.ireturn, 1) := by decide +kernel
theorem dX11_isLent_45 : decode cX11_isLent 45 = .ok (.aload_n 0, 1) := by decide +kernel
theorem dX11_isLent_46 : decode cX11_isLent 46 = .ok (.iload 4, 2) := by decide +kernel
theorem dX11_isLent_48 : decode cX11_isLent 48 = .ok (.iload_n 3, 1) := by decide +kernel
theorem dX11_isLent_49 : decode cX11_isLent 49 = .ok (.invokevirtual 501, 3) := by decide +kernel
theorem dX11_isLent_52 : decode cX11_isLent 52 = .ok (.aload_n 0, 1) := by decide +kernel
theorem dX11_isLent_53 : decode cX11_isLent 53 = .ok (.getfield 124, 3) := by decide +kernel
theorem dX11_isLent_56 : decode cX11_isLent 56 = .ok (.iload_n 1, 1) := by decide +kernel
theorem dX11_isLent_57 : decode cX11_isLent 57 = .ok (.iaload, 1) := by decide +kernel
theorem dX11_isLent_58 : decode cX11_isLent 58 = .ok (.aload_n 0, 1) := by decide +kernel
theorem dX11_isLent_59 : decode cX11_isLent 59 = .ok (.getfield 67, 3) := by decide +kernel
theorem dX11_isLent_62 : decode cX11_isLent 62 = .ok (.aload_n 0, 1) := by decide +kernel
theorem dX11_isLent_63 : decode cX11_isLent 63 = .ok (.getfield 477, 3) := by decide +kernel
theorem dX11_isLent_66 : decode cX11_isLent 66 = .ok (.iaload, 1) := by decide +kernel
theorem dX11_isLent_67 : decode cX11_isLent 67 = .ok (.if_icmp .ge 21, 3) := by decide +kernel
theorem dX11_isLent_70 : decode cX11_isLent 70 = .ok (.aload_n 0, 1) := by decide +kernel
theorem dX11_isLent_71 : decode cX11_isLent 71 = .ok (.getfield 124, 3) := by decide +kernel
theorem dX11_isLent_74 : decode cX11_isLent 74 = .ok (.iload_n 2, 1) := by decide +kernel
theorem dX11_isLent_75 : decode cX11_isLent 75 = .ok (.iaload, 1) := by decide +kernel
theorem dX11_isLent_76 : decode cX11_isLent 76 = .ok (.aload_n 0, 1) := by decide +kernel
theorem dX11_isLent_77 : decode cX11_isLent 77 = .ok (.getfield 67, 3) := by decide +kernel
theorem dX11_isLent_80 : decode cX11_isLent 80 = .ok (.aload_n 0, 1) := by decide +kernel
theorem dX11_isLent_81 : decode cX11_isLent 81 = .ok (.getfield 477, 3) := by decide +kernel
theorem dX11_isLent_84 : decode cX11_isLent 84 = .ok (.iaload, 1) := by decide +kernel
theorem dX11_isLent_85 : decode cX11_isLent 85 = .ok (.if_icmp .lt 5, 3) := by decide +kernel
theorem dX11_isLent_88 : decode cX11_isLent 88 = .ok (.iconst 1, 1) := by decide +kernel
theorem dX11_isLent_89 : decode cX11_isLent 89 = .ok (.ireturn, 1) := by decide +kernel
theorem dX11_isLent_90 : decode cX11_isLent 90 = .ok (.aload_n 0, 1) := by decide +kernel
theorem dX11_isLent_91 : decode cX11_isLent 91 = .ok (.iconst 2, 1) := by decide +kernel
theorem dX11_isLent_92 : decode cX11_isLent 92 = .ok (.aload_n 0, 1) := by decide +kernel
theorem dX11_isLent_93 : decode cX11_isLent 93 = .ok (.aload_n 0, 1) := by decide +kernel
theorem dX11_isLent_94 : decode cX11_isLent 94 = .ok (.getfield 124, 3) := by decide +kernel
theorem dX11_isLent_97 : decode cX11_isLent 97 = .ok (.iload_n 1, 1) := by decide +kernel
theorem dX11_isLent_98 : decode cX11_isLent 98 = .ok (.iaload, 1) := by decide +kernel
theorem dX11_isLent_99 : decode cX11_isLent 99 = .ok (.invokevirtual 534, 3) := by decide +kernel
theorem dX11_isLent_102 : decode cX11_isLent 102 = .ok (.aload_n 0, 1) := by decide +kernel
theorem dX11_isLent_103 : decode cX11_isLent 103 = .ok (.aload_n 0, 1) := by decide +kernel
theorem dX11_isLent_104 : decode cX11_isLent 104 = .ok (.getfield 124, 3) := by decide +kernel
theorem dX11_isLent_107 : decode cX11_isLent 107 = .ok (.iload_n 2, 1) := by decide +kernel
theorem dX11_isLent_108 : decode cX11_isLent 108 = .ok (.iaload, 1) := by decide +kernel
theorem dX11_isLent_109 : decode cX11_isLent 109 = .ok (.invokevirtual 534, 3) := by decide +kernel
theorem dX11_isLent_112 : decode cX11_isLent 112 = .ok (.invokevirtual 504, 3) := by decide +kernel
theorem dX11_isLent_115 : decode cX11_isLent 115 = .ok (.istore 5, 2) := by decide +kernel
theorem dX11_isLent_117 : decode cX11_isLent 117 = .ok (.iload 5, 2) := by decide +kernel
theorem dX11_isLent_119 : decode cX11_isLent 119 = .ok (.ifCond .lt 24, 3) := by decide +kernel
theorem dX11_isLent_122 : decode cX11_isLent 122 = .ok (.aload_n 0, 1) := by decide +kernel
theorem dX11_isLent_123 : decode cX11_isLent 123 = .ok (.getfield 130, 3) := by decide +kernel
theorem dX11_isLent_126 : decode cX11_isLent 126 = .ok (.iload_n 1, 1) := by decide +kernel
theorem dX11_isLent_127 : decode cX11_isLent 127 = .ok (.iaload, 1) := by decide +kernel
theorem dX11_isLent_128 : decode cX11_isLent 128 = .ok (.aload_n 0, 1) := by decide +kernel
theorem dX11_isLent_129 : decode cX11_isLent 129 = .ok (.getfield 130, 3) := by decide +kernel
theorem dX11_isLent_132 : decode cX11_isLent 132 = .ok (.iload_n 2, 1) := by decide +kernel
theorem dX11_isLent_133 : decode cX11_isLent 133 = .ok (.iaload, 1) := by decide +kernel
theorem dX11_isLent_134 : decode cX11_isLent 134 = .ok (.isub, 1) := by decide +kernel
theorem dX11_isLent_135 : decode cX11_isLent 135 = .ok (.invokestatic 617, 3) := by decide +kernel
theorem dX11_isLent_138 : decode cX11_isLent 138 = .ok (.iload 5, 2) := by decide +kernel
theorem dX11_isLent_140 : decode cX11_isLent 140 = .ok (.if_icmp .ge 7, 3) := by decide +kernel
theorem dX11_isLent_143 : decode cX11_isLent 143 = .ok (.iconst 1, 1) := by decide +kernel
theorem dX11_isLent_144 : decode cX11_isLent 144 = .ok (.goto 4, 3) := by decide +kernel
theorem dX11_isLent_147 : decode cX11_isLent 147 = .ok (.iconst 0, 1) := by decide +kernel
theorem dX11_isLent_148 : decode cX11_isLent 148 = .ok (.ireturn, 1) := by decide +kernel
theorem dX11_lend_0 : decode cX11_lend 0 = .ok (.aload_n 0, 1) := by decide +kernel
theorem dX11_lend_1 : decode cX11_lend 1 = .ok (.iconst 0, 1) := by decide +kernel
theorem dX11_lend_2 : decode cX11_lend 2 = .ok (.putfield 647, 3) := by decide +kernel
theorem dX11_lend_5 : decode cX11_lend 5 = .ok (.aload_n 0, 1) := by decide +kernel
theorem dX11_lend_6 : decode cX11_lend 6 = .ok (.iconst (-1), 1) := by decide +kernel
theorem dX11_lend_7 : decode cX11_lend 7 = .ok (.putfield 650, 3) := by decide +kernel
theorem dX11_lend_10 : decode cX11_lend 10 = .ok (.aload_n 0, 1) := by decide +kernel
theorem dX11_lend_11 : decode cX11_lend 11 = .ok (.iconst (-1), 1) := by decide +kernel
theorem dX11_lend_12 : decode cX11_lend 12 = .ok (.putfield 653, 3) := by decide +kernel
theorem dX11_lend_15 : decode cX11_lend 15 = .ok (.iconst 0, 1) := by decide +kernel
theorem dX11_lend_16 : decode cX11_lend 16 = .ok (.istore_n 3, 1) := by decide +kernel
theorem dX11_lend_17 : decode cX11_lend 17 = .ok (.iload_n 3, 1) := by decide +kernel
theorem dX11_lend_18 : decode cX11_lend 18 = .ok (.iload_n 1, 1) := by decide +kernel
theorem dX11_lend_19 : decode cX11_lend 19 = .ok (.if_icmp .ge 112, 3) := by decide +kernel
theorem dX11_lend_22 : decode cX11_lend 22 = .ok (.aload_n 0, 1) := by decide +kernel
theorem dX11_lend_23 : decode cX11_lend 23 = .ok (.getfield 118, 3) := by decide +kernel
theorem dX11_lend_26 : decode cX11_lend 26 = .ok (.iload_n 3, 1) := by decide +kernel
theorem dX11_lend_27 : decode cX11_lend 27 = .ok (.iaload, 1) := by decide +kernel
theorem dX11_lend_28 : decode cX11_lend 28 = .ok (.iconst 5, 1) := by decide +kernel
theorem dX11_lend_29 : decode cX11_lend 29 = .ok (.if_icmp .ne 96, 3) := by decide +kernel
theorem dX11_lend_32 : decode cX11_lend 32 = .ok (.aload_n 0, 1) := by decide +kernel
theorem dX11_lend_33 : decode cX11_lend 33 = .ok (.iload_n 3, 1) := by decide +kernel
theorem dX11_lend_34 : decode cX11_lend 34 = .ok (.iload_n 1, 1) := by decide +kernel
theorem dX11_lend_35 : decode cX11_lend 35 = .ok (.invokevirtual 464, 3) := by decide +kernel
theorem dX11_lend_38 : decode cX11_lend 38 = .ok (.ifCond .ne 6, 3) := by decide +kernel
theorem dX11_lend_41 : decode cX11_lend 41 = .ok (.goto 84, 3) := by decide +kernel
theorem dX11_lend_44 : decode cX11_lend 44 = .ok (.iload_n 3, 1) := by decide +kernel
theorem dX11_lend_45 : decode cX11_lend 45 = .ok (.iconst 1, 1) := by decide +kernel
theorem dX11_lend_46 : decode cX11_lend 46 = .ok (.iadd, 1) := by decide +kernel
theorem dX11_lend_47 : decode cX11_lend 47 = .ok (.istore 4, 2) := by decide +kernel
theorem dX11_lend_49 : decode cX11_lend 49 = .ok (.iload 4, 2) := by decide +kernel
theorem dX11_lend_51 : decode cX11_lend 51 = .ok (.iload_n 1, 1) := by decide +kernel
theorem dX11_lend_52 : decode cX11_lend 52 = .ok (.if_icmp .ge 73, 3) := by decide +kernel
theorem dX11_lend_55 : decode cX11_lend 55 = .ok (.aload_n 0, 1) := by decide +kernel
theorem dX11_lend_56 : decode cX11_lend 56 = .ok (.getfield 118, 3) := by decide +kernel
theorem dX11_lend_59 : decode cX11_lend 59 = .ok (.iload 4, 2) := by decide +kernel
theorem dX11_lend_61 : decode cX11_lend 61 = .ok (.iaload, 1) := by decide +kernel
theorem dX11_lend_62 : decode cX11_lend 62 = .ok (.iconst 5, 1) := by decide +kernel
theorem dX11_lend_63 : decode cX11_lend 63 = .ok (.if_icmp .ne 56, 3) := by decide +kernel
theorem dX11_lend_66 : decode cX11_lend 66 = .ok (.aload_n 0, 1) := by decide +kernel
theorem dX11_lend_67 : decode cX11_lend 67 = .ok (.iload 4, 2) := by decide +kernel
theorem dX11_lend_69 : decode cX11_lend 69 = .ok (.iload_n 1, 1) := by decide +kernel
theorem dX11_lend_70 : decode cX11_lend 70 = .ok (.invokevirtual 464, 3) := by decide +kernel
theorem dX11_lend_73 : decode cX11_lend 73 = .ok (.ifCond .eq 46, 3) := by decide +kernel
theorem dX11_lend_76 : decode cX11_lend 76 = .ok (.aload_n 0, 1) := by decide +kernel
theorem dX11_lend_77 : decode cX11_lend 77 = .ok (.iload_n 3, 1) := by decide +kernel
theorem dX11_lend_78 : decode cX11_lend 78 = .ok (.iload 4, 2) := by decide +kernel
theorem dX11_lend_80 : decode cX11_lend 80 = .ok (.iload_n 1, 1) := by decide +kernel
theorem dX11_lend_81 : decode cX11_lend 81 = .ok (.invokevirtual 656, 3) := by decide +kernel
theorem dX11_lend_84 : decode cX11_lend 84 = .ok (.ifCond .ne 6, 3) := by decide +kernel
theorem dX11_lend_87 : decode cX11_lend 87 = .ok (.goto 32, 3) := by decide +kernel
theorem dX11_lend_90 : decode cX11_lend 90 = .ok (.aload_n 0, 1) := by decide +kernel
theorem dX11_lend_91 : decode cX11_lend 91 = .ok (.getfield 647, 3) := by decide +kernel
theorem dX11_lend_94 : decode cX11_lend 94 = .ok (.iload_n 2, 1) := by decide +kernel
theorem dX11_lend_95 : decode cX11_lend 95 = .ok (.if_icmp .ne 14, 3) := by decide +kernel
theorem dX11_lend_98 : decode cX11_lend 98 = .ok (.aload_n 0, 1) := by decide +kernel
theorem dX11_lend_99 : decode cX11_lend 99 = .ok (.iload_n 3, 1) := by decide +kernel
theorem dX11_lend_100 : decode cX11_lend 100 = .ok (.putfield 650, 3) := by decide +kernel
theorem dX11_lend_103 : decode cX11_lend 103 = .ok (.aload_n 0, 1) := by decide +kernel
theorem dX11_lend_104 : decode cX11_lend 104 = .ok (.iload 4, 2) := by decide +kernel
theorem dX11_lend_106 : decode cX11_lend 106 = .ok (.putfield 653, 3) := by decide +kernel
theorem dX11_lend_109 : decode cX11_lend 109 = .ok (.aload_n 0, 1) := by decide +kernel
theorem dX11_lend_110 : decode cX11_lend 110 = .ok (.dup, 1) := by decide +kernel
theorem dX11_lend_111 : decode cX11_lend 111 = .ok (.getfield 647, 3) := by decide +kernel
theorem dX11_lend_114 : decode cX11_lend 114 = .ok (.iconst 1, 1) := by decide +kernel
theorem dX11_lend_115 : decode cX11_lend 115 = .ok (.iadd, 1) := by decide +kernel
theorem dX11_lend_116 : decode cX11_lend 116 = .ok (.putfield 647, 3) := by decide +kernel
theorem dX11_lend_119 : decode cX11_lend 119 = .ok (.iinc 4 1, 3) := by decide +kernel
theorem dX11_lend_122 : decode cX11_lend 122 = .ok (.goto (-73), 3) := by decide +kernel
theorem dX11_lend_125 : decode cX11_lend 125 = .ok (.iinc 3 1, 3) := by decide +kernel
theorem dX11_lend_128 : decode cX11_lend 128 = .ok (.goto (-111), 3) := by decide +kernel
theorem dX11_lend_131 : decode cX11_lend 131 = .ok (.return_, 1) := by decide +kernel
theorem dX11_lent_0 : decode cX11_lent 0 = .ok (.aload_n 0, 1) := by decide +kernel
theorem dX11_lent_1 : decode cX11_lent 1 = .ok (.iload_n 1, 1) := by decide +kernel
theorem dX11_lent_2 : decode cX11_lent 2 = .ok (.invokevirtual 467, 3) := by decide +kernel
theorem dX11_lent_5 : decode cX11_lent 5 = .ok (.ifCond .ne 5, 3) := by decide +kernel
theorem dX11_lent_8 : decode cX11_lent 8 = .ok (.iconst (-1), 1) := by decide +kernel
theorem dX11_lent_9 : decode cX11_lent 9 = .ok (.ireturn, 1) := by decide +kernel
theorem dX11_lent_10 : decode cX11_lent 10 = .ok (.aload_n 0, 1) := by decide +kernel
theorem dX11_lent_11 : decode cX11_lent 11 = .ok (.iload_n 1, 1) := by decide +kernel
theorem dX11_lent_12 : decode cX11_lent 12 = .ok (.iconst 0, 1) := by decide +kernel
theorem dX11_lent_13 : decode cX11_lent 13 = .ok (.invokevirtual 659, 3) := by decide +kernel
theorem dX11_lent_16 : decode cX11_lent 16 = .ok (.aload_n 0, 1) := by decide +kernel
theorem dX11_lent_17 : decode cX11_lent 17 = .ok (.getfield 647, 3) := by decide +kernel
theorem dX11_lent_20 : decode cX11_lent 20 = .ok (.ireturn, 1) := by decide +kernel
theorem dX11_lentAt_0 : decode cX11_lentAt 0 = .ok (.aload_n 0, 1) := by decide +kernel
theorem dX11_lentAt_1 : decode cX11_lentAt 1 = .ok (.iload_n 1, 1) := by decide +kernel
theorem dX11_lentAt_2 : decode cX11_lentAt 2 = .ok (.invokevirtual 467, 3) := by decide +kernel
theorem dX11_lentAt_5 : decode cX11_lentAt 5 = .ok (.ifCond .eq 7, 3) := by decide +kernel
theorem dX11_lentAt_8 : decode cX11_lentAt 8 = .ok (.iload_n 2, 1) := by decide +kernel
theorem dX11_lentAt_9 : decode cX11_lentAt 9 = .ok (.ifCond .ge 5, 3) := by decide +kernel
theorem dX11_lentAt_12 : decode cX11_lentAt 12 = .ok (.iconst (-1), 1) := by decide +kernel
theorem dX11_lentAt_13 : decode cX11_lentAt 13 = .ok (.ireturn, 1) := by decide +kernel
theorem dX11_lentAt_14 : decode cX11_lentAt 14 = .ok (.aload_n 0, 1) := by decide +kernel
theorem dX11_lentAt_15 : decode cX11_lentAt 15 = .ok (.iload_n 1, 1) := by decide +kernel
theorem dX11_lentAt_16 : decode cX11_lentAt 16 = .ok (.iload_n 2, 1) := by decide +kernel
theorem dX11_lentAt_17 : decode cX11_lentAt 17 = .ok (.invokevirtual 659, 3) := by decide +kernel
theorem dX11_lentAt_20 : decode cX11_lentAt 20 = .ok (.iload_n 3, 1) := by decide +kernel
theorem dX11_lentAt_21 : decode cX11_lentAt 21 = .ok (.ifCond .eq 10, 3) := by decide +kernel
theorem dX11_lentAt_24 : decode cX11_lentAt 24 = .ok (.aload_n 0, 1) := by decide +kernel
theorem dX11_lentAt_25 : decode cX11_lentAt 25 = .ok (.getfield 653, 3) := by decide +kernel
theorem dX11_lentAt_28 : decode cX11_lentAt 28 = .ok (.goto 7, 3) := by decide +kernel
theorem dX11_lentAt_31 : decode cX11_lentAt 31 = .ok (.aload_n 0, 1) := by decide +kernel
theorem dX11_lentAt_32 : decode cX11_lentAt 32 = .ok (.getfield 650, 3) := by decide +kernel
theorem dX11_lentAt_35 : decode cX11_lentAt 35 = .ok (.ireturn, 1) := by decide +kernel
theorem dX11_count_0 : decode cX11_count 0 = .ok (.iload_n 1, 1) := by decide +kernel
theorem dX11_count_1 : decode cX11_count 1 = .ok (.tableswitch 78 0 6 #[43, 48, 53, 58, 63, 68, 73], 43) := by decide +kernel
theorem dX11_count_44 : decode cX11_count 44 = .ok (.aload_n 0, 1) := by decide +kernel
theorem dX11_count_45 : decode cX11_count 45 = .ok (.getfield 431, 3) := by decide +kernel
theorem dX11_count_48 : decode cX11_count 48 = .ok (.ireturn, 1) := by decide +kernel
theorem dX11_count_49 : decode cX11_count 49 = .ok (.aload_n 0, 1) := by decide +kernel
theorem dX11_count_50 : decode cX11_count 50 = .ok (.getfield 443, 3) := by decide +kernel
theorem dX11_count_53 : decode cX11_count 53 = .ok (.ireturn, 1) := by decide +kernel
theorem dX11_count_54 : decode cX11_count 54 = .ok (.aload_n 0, 1) := by decide +kernel
theorem dX11_count_55 : decode cX11_count 55 = .ok (.getfield 446, 3) := by decide +kernel
theorem dX11_count_58 : decode cX11_count 58 = .ok (.ireturn, 1) := by decide +kernel
theorem dX11_count_59 : decode cX11_count 59 = .ok (.aload_n 0, 1) := by decide +kernel
theorem dX11_count_60 : decode cX11_count 60 = .ok (.getfield 623, 3) := by decide +kernel
theorem dX11_count_63 : decode cX11_count 63 = .ok (.ireturn, 1) := by decide +kernel
theorem dX11_count_64 : decode cX11_count 64 = .ok (.aload_n 0, 1) := by decide +kernel
theorem dX11_count_65 : decode cX11_count 65 = .ok (.getfield 632, 3) := by decide +kernel
theorem dX11_count_68 : decode cX11_count 68 = .ok (.ireturn, 1) := by decide +kernel
theorem dX11_count_69 : decode cX11_count 69 = .ok (.aload_n 0, 1) := by decide +kernel
theorem dX11_count_70 : decode cX11_count 70 = .ok (.getfield 641, 3) := by decide +kernel
theorem dX11_count_73 : decode cX11_count 73 = .ok (.ireturn, 1) := by decide +kernel
theorem dX11_count_74 : decode cX11_count 74 = .ok (.aload_n 0, 1) := by decide +kernel
theorem dX11_count_75 : decode cX11_count 75 = .ok (.getfield 250, 3) := by decide +kernel
theorem dX11_count_78 : decode cX11_count 78 = .ok (.ireturn, 1) := by decide +kernel
theorem dX11_count_79 : decode cX11_count 79 = .ok (.aload_n 0, 1) := by decide +kernel
theorem dX11_count_80 : decode cX11_count 80 = .ok (.iload_n 1, 1) := by decide +kernel
theorem dX11_count_81 : decode cX11_count 81 = .ok (.invokevirtual 662, 3) := by decide +kernel
theorem dX11_count_84 : decode cX11_count 84 = .ok (.ireturn, 1) := by decide +kernel
theorem dX11_countOf_0 : decode cX11_countOf 0 = .ok (.iload_n 1, 1) := by decide +kernel
theorem dX11_countOf_1 : decode cX11_countOf 1 = .ok (.bipush 10, 2) := by decide +kernel
theorem dX11_countOf_3 : decode cX11_countOf 3 = .ok (.if_icmp .lt 20, 3) := by decide +kernel
theorem dX11_countOf_6 : decode cX11_countOf 6 = .ok (.iload_n 1, 1) := by decide +kernel
theorem dX11_countOf_7 : decode cX11_countOf 7 = .ok (.bipush 49, 2) := by decide +kernel
theorem dX11_countOf_9 : decode cX11_countOf 9 = .ok (.if_icmp .gt 14, 3) := by decide +kernel
theorem dX11_countOf_12 : decode cX11_countOf 12 = .ok (.iload_n 1, 1) := by decide +kernel
theorem dX11_countOf_13 : decode cX11_countOf 13 = .ok (.bipush 10, 2) := by decide +kernel
theorem dX11_countOf_15 : decode cX11_countOf 15 = .ok (.irem, 1) := by decide +kernel
theorem dX11_countOf_16 : decode cX11_countOf 16 = .ok (.aload_n 0, 1) := by decide +kernel
theorem dX11_countOf_17 : decode cX11_countOf 17 = .ok (.getfield 431, 3) := by decide +kernel
theorem dX11_countOf_20 : decode cX11_countOf 20 = .ok (.if_icmp .lt 5, 3) := by decide +kernel
theorem dX11_countOf_23 : decode cX11_countOf 23 = .ok (.iconst (-1), 1) := by decide +kernel
theorem dX11_countOf_24 : decode cX11_countOf 24 = .ok (.ireturn, 1) := by decide +kernel
theorem dX11_countOf_25 : decode cX11_countOf 25 = .ok (.iload_n 1, 1) := by decide +kernel
theorem dX11_countOf_26 : decode cX11_countOf 26 = .ok (.bipush 10, 2) := by decide +kernel
theorem dX11_countOf_28 : decode cX11_countOf 28 = .ok (.irem, 1) := by decide +kernel
theorem dX11_countOf_29 : decode cX11_countOf 29 = .ok (.istore_n 2, 1) := by decide +kernel
theorem dX11_countOf_30 : decode cX11_countOf 30 = .ok (.iload_n 1, 1) := by decide +kernel
theorem dX11_countOf_31 : decode cX11_countOf 31 = .ok (.bipush 20, 2) := by decide +kernel
theorem dX11_countOf_33 : decode cX11_countOf 33 = .ok (.if_icmp .ge 12, 3) := by decide +kernel
theorem dX11_countOf_36 : decode cX11_countOf 36 = .ok (.aload_n 0, 1) := by decide +kernel
theorem dX11_countOf_37 : decode cX11_countOf 37 = .ok (.getfield 36, 3) := by decide +kernel
theorem dX11_countOf_40 : decode cX11_countOf 40 = .ok (.iload_n 2, 1) := by decide +kernel
theorem dX11_countOf_41 : decode cX11_countOf 41 = .ok (.iaload, 1) := by decide +kernel
theorem dX11_countOf_42 : decode cX11_countOf 42 = .ok (.goto 39, 3) := by decide +kernel
theorem dX11_countOf_45 : decode cX11_countOf 45 = .ok (.iload_n 1, 1) := by decide +kernel
theorem dX11_countOf_46 : decode cX11_countOf 46 = .ok (.bipush 30, 2) := by decide +kernel
theorem dX11_countOf_48 : decode cX11_countOf 48 = .ok (.if_icmp .ge 12, 3) := by decide +kernel
theorem dX11_countOf_51 : decode cX11_countOf 51 = .ok (.aload_n 0, 1) := by decide +kernel
theorem dX11_countOf_52 : decode cX11_countOf 52 = .ok (.getfield 39, 3) := by decide +kernel
theorem dX11_countOf_55 : decode cX11_countOf 55 = .ok (.iload_n 2, 1) := by decide +kernel
theorem dX11_countOf_56 : decode cX11_countOf 56 = .ok (.iaload, 1) := by decide +kernel
theorem dX11_countOf_57 : decode cX11_countOf 57 = .ok (.goto 24, 3) := by decide +kernel
theorem dX11_countOf_60 : decode cX11_countOf 60 = .ok (.iload_n 1, 1) := by decide +kernel
theorem dX11_countOf_61 : decode cX11_countOf 61 = .ok (.bipush 40, 2) := by decide +kernel
theorem dX11_countOf_63 : decode cX11_countOf 63 = .ok (.if_icmp .ge 12, 3) := by decide +kernel
theorem dX11_countOf_66 : decode cX11_countOf 66 = .ok (.aload_n 0, 1) := by decide +kernel
theorem dX11_countOf_67 : decode cX11_countOf 67 = .ok (.getfield 67, 3) := by decide +kernel
theorem dX11_countOf_70 : decode cX11_countOf 70 = .ok (.iload_n 2, 1) := by decide +kernel
theorem dX11_countOf_71 : decode cX11_countOf 71 = .ok (.iaload, 1) := by decide +kernel
theorem dX11_countOf_72 : decode cX11_countOf 72 = .ok (.goto 9, 3) := by decide +kernel
theorem dX11_countOf_75 : decode cX11_countOf 75 = .ok (.aload_n 0, 1) := by decide +kernel
theorem dX11_countOf_76 : decode cX11_countOf 76 = .ok (.getfield 73, 3) := by decide +kernel
theorem dX11_countOf_79 : decode cX11_countOf 79 = .ok (.iload_n 2, 1) := by decide +kernel
theorem dX11_countOf_80 : decode cX11_countOf 80 = .ok (.iaload, 1) := by decide +kernel
theorem dX11_countOf_81 : decode cX11_countOf 81 = .ok (.ireturn, 1) := by decide +kernel
theorem dJ6_bitCount_0f7a4_0 : decode cJ6_bitCount_0f7a4 0 = .ok (.iload_n 0, 1) := by decide +kernel
theorem dJ6_bitCount_0f7a4_1 : decode cJ6_bitCount_0f7a4 1 = .ok (.iload_n 0, 1) := by decide +kernel
theorem dJ6_bitCount_0f7a4_2 : decode cJ6_bitCount_0f7a4 2 = .ok (.iconst 1, 1) := by decide +kernel
theorem dJ6_bitCount_0f7a4_3 : decode cJ6_bitCount_0f7a4 3 = .ok (.iushr, 1) := by decide +kernel
theorem dJ6_bitCount_0f7a4_4 : decode cJ6_bitCount_0f7a4 4 = .ok (.ldc_w 265, 3) := by decide +kernel
theorem dJ6_bitCount_0f7a4_7 : decode cJ6_bitCount_0f7a4 7 = .ok (.iand, 1) := by decide +kernel
theorem dJ6_bitCount_0f7a4_8 : decode cJ6_bitCount_0f7a4 8 = .ok (.isub, 1) := by decide +kernel
theorem dJ6_bitCount_0f7a4_9 : decode cJ6_bitCount_0f7a4 9 = .ok (.istore_n 0, 1) := by decide +kernel
theorem dJ6_bitCount_0f7a4_10 : decode cJ6_bitCount_0f7a4 10 = .ok (.iload_n 0, 1) := by decide +kernel
theorem dJ6_bitCount_0f7a4_11 : decode cJ6_bitCount_0f7a4 11 = .ok (.ldc_w 266, 3) := by decide +kernel
theorem dJ6_bitCount_0f7a4_14 : decode cJ6_bitCount_0f7a4 14 = .ok (.iand, 1) := by decide +kernel
theorem dJ6_bitCount_0f7a4_15 : decode cJ6_bitCount_0f7a4 15 = .ok (.iload_n 0, 1) := by decide +kernel
theorem dJ6_bitCount_0f7a4_16 : decode cJ6_bitCount_0f7a4 16 = .ok (.iconst 2, 1) := by decide +kernel
theorem dJ6_bitCount_0f7a4_17 : decode cJ6_bitCount_0f7a4 17 = .ok (.iushr, 1) := by decide +kernel
theorem dJ6_bitCount_0f7a4_18 : decode cJ6_bitCount_0f7a4 18 = .ok (.ldc_w 266, 3) := by decide +kernel
theorem dJ6_bitCount_0f7a4_21 : decode cJ6_bitCount_0f7a4 21 = .ok (.iand, 1) := by decide +kernel
theorem dJ6_bitCount_0f7a4_22 : decode cJ6_bitCount_0f7a4 22 = .ok (.iadd, 1) := by decide +kernel
theorem dJ6_bitCount_0f7a4_23 : decode cJ6_bitCount_0f7a4 23 = .ok (.istore_n 0, 1) := by decide +kernel
theorem dJ6_bitCount_0f7a4_24 : decode cJ6_bitCount_0f7a4 24 = .ok (.iload_n 0, 1) := by decide +kernel
theorem dJ6_bitCount_0f7a4_25 : decode cJ6_bitCount_0f7a4 25 = .ok (.iload_n 0, 1) := by decide +kernel
theorem dJ6_bitCount_0f7a4_26 : decode cJ6_bitCount_0f7a4 26 = .ok (.iconst 4, 1) := by decide +kernel
theorem dJ6_bitCount_0f7a4_27 : decode cJ6_bitCount_0f7a4 27 = .ok (.iushr, 1) := by decide +kernel
theorem dJ6_bitCount_0f7a4_28 : decode cJ6_bitCount_0f7a4 28 = .ok (.iadd, 1) := by decide +kernel
theorem dJ6_bitCount_0f7a4_29 : decode cJ6_bitCount_0f7a4 29 = .ok (.ldc_w 267, 3) := by decide +kernel
theorem dJ6_bitCount_0f7a4_32 : decode cJ6_bitCount_0f7a4 32 = .ok (.iand, 1) := by decide +kernel
theorem dJ6_bitCount_0f7a4_33 : decode cJ6_bitCount_0f7a4 33 = .ok (.istore_n 0, 1) := by decide +kernel
theorem dJ6_bitCount_0f7a4_34 : decode cJ6_bitCount_0f7a4 34 = .ok (.iload_n 0, 1) := by decide +kernel
theorem dJ6_bitCount_0f7a4_35 : decode cJ6_bitCount_0f7a4 35 = .ok (.iload_n 0, 1) := by decide +kernel
theorem dJ6_bitCount_0f7a4_36 : decode cJ6_bitCount_0f7a4 36 = .ok (.bipush 8, 2) := by decide +kernel
theorem dJ6_bitCount_0f7a4_38 : decode cJ6_bitCount_0f7a4 38 = .ok (.iushr, 1) := by decide +kernel
theorem dJ6_bitCount_0f7a4_39 : decode cJ6_bitCount_0f7a4 39 = .ok (.iadd, 1) := by decide +kernel
theorem dJ6_bitCount_0f7a4_40 : decode cJ6_bitCount_0f7a4 40 = .ok (.istore_n 0, 1) := by decide +kernel
theorem dJ6_bitCount_0f7a4_41 : decode cJ6_bitCount_0f7a4 41 = .ok (.iload_n 0, 1) := by decide +kernel
theorem dJ6_bitCount_0f7a4_42 : decode cJ6_bitCount_0f7a4 42 = .ok (.iload_n 0, 1) := by decide +kernel
theorem dJ6_bitCount_0f7a4_43 : decode cJ6_bitCount_0f7a4 43 = .ok (.bipush 16, 2) := by decide +kernel
theorem dJ6_bitCount_0f7a4_45 : decode cJ6_bitCount_0f7a4 45 = .ok (.iushr, 1) := by decide +kernel
theorem dJ6_bitCount_0f7a4_46 : decode cJ6_bitCount_0f7a4 46 = .ok (.iadd, 1) := by decide +kernel
theorem dJ6_bitCount_0f7a4_47 : decode cJ6_bitCount_0f7a4 47 = .ok (.istore_n 0, 1) := by decide +kernel
theorem dJ6_bitCount_0f7a4_48 : decode cJ6_bitCount_0f7a4 48 = .ok (.iload_n 0, 1) := by decide +kernel
theorem dJ6_bitCount_0f7a4_49 : decode cJ6_bitCount_0f7a4 49 = .ok (.bipush 63, 2) := by decide +kernel
theorem dJ6_bitCount_0f7a4_51 : decode cJ6_bitCount_0f7a4 51 = .ok (.iand, 1) := by decide +kernel
theorem dJ6_bitCount_0f7a4_52 : decode cJ6_bitCount_0f7a4 52 = .ok (.ireturn, 1) := by decide +kernel
theorem dJ9_abs_0f7a4_0 : decode cJ9_abs_0f7a4 0 = .ok (.iload_n 0, 1) := by decide +kernel
theorem dJ9_abs_0f7a4_1 : decode cJ9_abs_0f7a4 1 = .ok (.ifCond .ge 8, 3) := by decide +kernel
theorem dJ9_abs_0f7a4_4 : decode cJ9_abs_0f7a4 4 = .ok (.iload_n 0, 1) := by decide +kernel
theorem dJ9_abs_0f7a4_5 : decode cJ9_abs_0f7a4 5 = .ok (.ineg, 1) := by decide +kernel
theorem dJ9_abs_0f7a4_6 : decode cJ9_abs_0f7a4 6 = .ok (.goto 4, 3) := by decide +kernel
theorem dJ9_abs_0f7a4_9 : decode cJ9_abs_0f7a4 9 = .ok (.iload_n 0, 1) := by decide +kernel
theorem dJ9_abs_0f7a4_10 : decode cJ9_abs_0f7a4 10 = .ok (.ireturn, 1) := by decide +kernel
theorem dJ9_max_7cf53_0 : decode cJ9_max_7cf53 0 = .ok (.iload_n 0, 1) := by decide +kernel
theorem dJ9_max_7cf53_1 : decode cJ9_max_7cf53 1 = .ok (.iload_n 1, 1) := by decide +kernel
theorem dJ9_max_7cf53_2 : decode cJ9_max_7cf53 2 = .ok (.if_icmp .lt 7, 3) := by decide +kernel
theorem dJ9_max_7cf53_5 : decode cJ9_max_7cf53 5 = .ok (.iload_n 0, 1) := by decide +kernel
theorem dJ9_max_7cf53_6 : decode cJ9_max_7cf53 6 = .ok (.goto 4, 3) := by decide +kernel
theorem dJ9_max_7cf53_9 : decode cJ9_max_7cf53 9 = .ok (.iload_n 1, 1) := by decide +kernel
theorem dJ9_max_7cf53_10 : decode cJ9_max_7cf53 10 = .ok (.ireturn, 1) := by decide +kernel
theorem dJ9_min_7cf53_0 : decode cJ9_min_7cf53 0 = .ok (.iload_n 0, 1) := by decide +kernel
theorem dJ9_min_7cf53_1 : decode cJ9_min_7cf53 1 = .ok (.iload_n 1, 1) := by decide +kernel
theorem dJ9_min_7cf53_2 : decode cJ9_min_7cf53 2 = .ok (.if_icmp .gt 7, 3) := by decide +kernel
theorem dJ9_min_7cf53_5 : decode cJ9_min_7cf53 5 = .ok (.iload_n 0, 1) := by decide +kernel
theorem dJ9_min_7cf53_6 : decode cJ9_min_7cf53 6 = .ok (.goto 4, 3) := by decide +kernel
theorem dJ9_min_7cf53_9 : decode cJ9_min_7cf53 9 = .ok (.iload_n 1, 1) := by decide +kernel
theorem dJ9_min_7cf53_10 : decode cJ9_min_7cf53 10 = .ok (.ireturn, 1) := by decide +kernel
theorem dJ0_charAt_5068e_0 : decode cJ0_charAt_5068e 0 = .ok (.aload_n 0, 1) := by decide +kernel
theorem dJ0_charAt_5068e_1 : decode cJ0_charAt_5068e 1 = .ok (.invokevirtual 492, 3) := by decide +kernel
theorem dJ0_charAt_5068e_4 : decode cJ0_charAt_5068e 4 = .ok (.ifCond .eq 12, 3) := by decide +kernel
theorem dJ0_charAt_5068e_7 : decode cJ0_charAt_5068e 7 = .ok (.aload_n 0, 1) := by decide +kernel
theorem dJ0_charAt_5068e_8 : decode cJ0_charAt_5068e 8 = .ok (.getfield 9, 3) := by decide +kernel
theorem dJ0_charAt_5068e_11 : decode cJ0_charAt_5068e 11 = .ok (.iload_n 1, 1) := by decide +kernel
theorem dJ0_charAt_5068e_12 : decode cJ0_charAt_5068e 12 = .ok (.invokestatic 495, 3) := by decide +kernel
theorem dJ0_charAt_5068e_15 : decode cJ0_charAt_5068e 15 = .ok (.ireturn, 1) := by decide +kernel
theorem dJ0_charAt_5068e_16 : decode cJ0_charAt_5068e 16 = .ok (.aload_n 0, 1) := by decide +kernel
theorem dJ0_charAt_5068e_17 : decode cJ0_charAt_5068e 17 = .ok (.getfield 9, 3) := by decide +kernel
theorem dJ0_charAt_5068e_20 : decode cJ0_charAt_5068e 20 = .ok (.iload_n 1, 1) := by decide +kernel
theorem dJ0_charAt_5068e_21 : decode cJ0_charAt_5068e 21 = .ok (.invokestatic 498, 3) := by decide +kernel
theorem dJ0_charAt_5068e_24 : decode cJ0_charAt_5068e 24 = .ok (.ireturn, 1) := by decide +kernel
theorem dJ0_isLatin1_aae02_0 : decode cJ0_isLatin1_aae02 0 = .ok (.getstatic 38, 3) := by decide +kernel
theorem dJ0_isLatin1_aae02_3 : decode cJ0_isLatin1_aae02 3 = .ok (.ifCond .eq 14, 3) := by decide +kernel
theorem dJ0_isLatin1_aae02_6 : decode cJ0_isLatin1_aae02 6 = .ok (.aload_n 0, 1) := by decide +kernel
theorem dJ0_isLatin1_aae02_7 : decode cJ0_isLatin1_aae02 7 = .ok (.getfield 15, 3) := by decide +kernel
theorem dJ0_isLatin1_aae02_10 : decode cJ0_isLatin1_aae02 10 = .ok (.ifCond .ne 7, 3) := by decide +kernel
theorem dJ0_isLatin1_aae02_13 : decode cJ0_isLatin1_aae02 13 = .ok (.iconst 1, 1) := by decide +kernel
theorem dJ0_isLatin1_aae02_14 : decode cJ0_isLatin1_aae02 14 = .ok (.goto 4, 3) := by decide +kernel
theorem dJ0_isLatin1_aae02_17 : decode cJ0_isLatin1_aae02 17 = .ok (.iconst 0, 1) := by decide +kernel
theorem dJ0_isLatin1_aae02_18 : decode cJ0_isLatin1_aae02 18 = .ok (.ireturn, 1) := by decide +kernel
theorem dJ0_checkIndex_df160_0 : decode cJ0_checkIndex_df160 0 = .ok (.iload_n 0, 1) := by decide +kernel
theorem dJ0_checkIndex_df160_1 : decode cJ0_checkIndex_df160 1 = .ok (.iload_n 1, 1) := by decide +kernel
theorem dJ0_checkIndex_df160_2 : decode cJ0_checkIndex_df160 2 = .ok (.getstatic 1053, 3) := by decide +kernel
theorem dJ0_checkIndex_df160_5 : decode cJ0_checkIndex_df160 5 = .ok (.invokestatic 1059, 3) := by decide +kernel
theorem dJ0_checkIndex_df160_8 : decode cJ0_checkIndex_df160 8 = .ok (.pop, 1) := by decide +kernel
theorem dJ0_checkIndex_df160_9 : decode cJ0_checkIndex_df160 9 = .ok (.return_, 1) := by decide +kernel
theorem dJ1_charAt_3b067_0 : decode cJ1_charAt_3b067 0 = .ok (.iload_n 1, 1) := by decide +kernel
theorem dJ1_charAt_3b067_1 : decode cJ1_charAt_3b067 1 = .ok (.aload_n 0, 1) := by decide +kernel
theorem dJ1_charAt_3b067_2 : decode cJ1_charAt_3b067 2 = .ok (.arraylength, 1) := by decide +kernel
theorem dJ1_charAt_3b067_3 : decode cJ1_charAt_3b067 3 = .ok (.invokestatic 9, 3) := by decide +kernel
theorem dJ1_charAt_3b067_6 : decode cJ1_charAt_3b067 6 = .ok (.aload_n 0, 1) := by decide +kernel
theorem dJ1_charAt_3b067_7 : decode cJ1_charAt_3b067 7 = .ok (.iload_n 1, 1) := by decide +kernel
theorem dJ1_charAt_3b067_8 : decode cJ1_charAt_3b067 8 = .ok (.baload, 1) := by decide +kernel
theorem dJ1_charAt_3b067_9 : decode cJ1_charAt_3b067 9 = .ok (.sipush 255, 3) := by decide +kernel
theorem dJ1_charAt_3b067_12 : decode cJ1_charAt_3b067 12 = .ok (.iand, 1) := by decide +kernel
theorem dJ1_charAt_3b067_13 : decode cJ1_charAt_3b067 13 = .ok (.i2c, 1) := by decide +kernel
theorem dJ1_charAt_3b067_14 : decode cJ1_charAt_3b067 14 = .ok (.ireturn, 1) := by decide +kernel
theorem dJ2_getChar_3b067_0 : decode cJ2_getChar_3b067 0 = .ok (.getstatic 44, 3) := by decide +kernel
theorem dJ2_getChar_3b067_3 : decode cJ2_getChar_3b067 3 = .ok (.ifCond .ne 25, 3) := by decide +kernel
theorem dJ2_getChar_3b067_6 : decode cJ2_getChar_3b067 6 = .ok (.iload_n 1, 1) := by decide +kernel
theorem dJ2_getChar_3b067_7 : decode cJ2_getChar_3b067 7 = .ok (.ifCond .lt 11, 3) := by decide +kernel
theorem dJ2_getChar_3b067_10 : decode cJ2_getChar_3b067 10 = .ok (.iload_n 1, 1) := by decide +kernel
theorem dJ2_getChar_3b067_11 : decode cJ2_getChar_3b067 11 = .ok (.aload_n 0, 1) := by decide +kernel
theorem dJ2_getChar_3b067_12 : decode cJ2_getChar_3b067 12 = .ok (.invokestatic 48, 3) := by decide +kernel
theorem dJ2_getChar_3b067_15 : decode cJ2_getChar_3b067 15 = .ok (.if_icmp .lt 13, 3) := by decide +kernel
theorem dJ2_getChar_3b067_18 : decode cJ2_getChar_3b067 18 = .ok (.new 52, 3) := by decide +kernel
theorem dJ2_getChar_3b067_21 : decode cJ2_getChar_3b067 21 = .ok (.dup, 1) := by decide +kernel
theorem dJ2_getChar_3b067_22 : decode cJ2_getChar_3b067 22 = .ok (.ldc 54, 2) := by decide +kernel
theorem dJ2_getChar_3b067_24 : decode cJ2_getChar_3b067 24 = .ok (.invokespecial 56, 3) := by decide +kernel
theorem dJ2_getChar_3b067_27 : decode cJ2_getChar_3b067 27 = .ok (.athrow, 1) := by decide +kernel
theorem dJ2_getChar_3b067_28 : decode cJ2_getChar_3b067 28 = .ok (.iload_n 1, 1) := by decide +kernel
theorem dJ2_getChar_3b067_29 : decode cJ2_getChar_3b067 29 = .ok (.iconst 1, 1) := by decide +kernel
theorem dJ2_getChar_3b067_30 : decode cJ2_getChar_3b067 30 = .ok (.ishl, 1) := by decide +kernel
theorem dJ2_getChar_3b067_31 : decode cJ2_getChar_3b067 31 = .ok (.istore_n 1, 1) := by decide +kernel
theorem dJ2_getChar_3b067_32 : decode cJ2_getChar_3b067 32 = .ok (.aload_n 0, 1) := by decide +kernel
theorem dJ2_getChar_3b067_33 : decode cJ2_getChar_3b067 33 = .ok (.iload_n 1, 1) := by decide +kernel
theorem dJ2_getChar_3b067_34 : decode cJ2_getChar_3b067 34 = .ok (.iinc 1 1, 3) := by decide +kernel
theorem dJ2_getChar_3b067_37 : decode cJ2_getChar_3b067 37 = .ok (.baload, 1) := by decide +kernel
theorem dJ2_getChar_3b067_38 : decode cJ2_getChar_3b067 38 = .ok (.sipush 255, 3) := by decide +kernel
theorem dJ2_getChar_3b067_41 : decode cJ2_getChar_3b067 41 = .ok (.iand, 1) := by decide +kernel
theorem dJ2_getChar_3b067_42 : decode cJ2_getChar_3b067 42 = .ok (.getstatic 59, 3) := by decide +kernel
theorem dJ2_getChar_3b067_45 : decode cJ2_getChar_3b067 45 = .ok (.ishl, 1) := by decide +kernel
theorem dJ2_getChar_3b067_46 : decode cJ2_getChar_3b067 46 = .ok (.aload_n 0, 1) := by decide +kernel
theorem dJ2_getChar_3b067_47 : decode cJ2_getChar_3b067 47 = .ok (.iload_n 1, 1) := by decide +kernel
theorem dJ2_getChar_3b067_48 : decode cJ2_getChar_3b067 48 = .ok (.baload, 1) := by decide +kernel
theorem dJ2_getChar_3b067_49 : decode cJ2_getChar_3b067 49 = .ok (.sipush 255, 3) := by decide +kernel
theorem dJ2_getChar_3b067_52 : decode cJ2_getChar_3b067 52 = .ok (.iand, 1) := by decide +kernel
theorem dJ2_getChar_3b067_53 : decode cJ2_getChar_3b067 53 = .ok (.getstatic 63, 3) := by decide +kernel
theorem dJ2_getChar_3b067_56 : decode cJ2_getChar_3b067 56 = .ok (.ishl, 1) := by decide +kernel
theorem dJ2_getChar_3b067_57 : decode cJ2_getChar_3b067 57 = .ok (.ior, 1) := by decide +kernel
theorem dJ2_getChar_3b067_58 : decode cJ2_getChar_3b067 58 = .ok (.i2c, 1) := by decide +kernel
theorem dJ2_getChar_3b067_59 : decode cJ2_getChar_3b067 59 = .ok (.ireturn, 1) := by decide +kernel
theorem dJ2_length_9d52b_0 : decode cJ2_length_9d52b 0 = .ok (.aload_n 0, 1) := by decide +kernel
theorem dJ2_length_9d52b_1 : decode cJ2_length_9d52b 1 = .ok (.arraylength, 1) := by decide +kernel
theorem dJ2_length_9d52b_2 : decode cJ2_length_9d52b 2 = .ok (.iconst 1, 1) := by decide +kernel
theorem dJ2_length_9d52b_3 : decode cJ2_length_9d52b 3 = .ok (.ishr, 1) := by decide +kernel
theorem dJ2_length_9d52b_4 : decode cJ2_length_9d52b 4 = .ok (.ireturn, 1) := by decide +kernel
theorem dJ2_charAt_3b067_0 : decode cJ2_charAt_3b067 0 = .ok (.iload_n 1, 1) := by decide +kernel
theorem dJ2_charAt_3b067_1 : decode cJ2_charAt_3b067 1 = .ok (.aload_n 0, 1) := by decide +kernel
theorem dJ2_charAt_3b067_2 : decode cJ2_charAt_3b067 2 = .ok (.invokestatic 67, 3) := by decide +kernel
theorem dJ2_charAt_3b067_5 : decode cJ2_charAt_3b067 5 = .ok (.aload_n 0, 1) := by decide +kernel
theorem dJ2_charAt_3b067_6 : decode cJ2_charAt_3b067 6 = .ok (.iload_n 1, 1) := by decide +kernel
theorem dJ2_charAt_3b067_7 : decode cJ2_charAt_3b067 7 = .ok (.invokestatic 71, 3) := by decide +kernel
theorem dJ2_charAt_3b067_10 : decode cJ2_charAt_3b067 10 = .ok (.ireturn, 1) := by decide +kernel
theorem dJ2_checkIndex_2214a_0 : decode cJ2_checkIndex_2214a 0 = .ok (.iload_n 0, 1) := by decide +kernel
theorem dJ2_checkIndex_2214a_1 : decode cJ2_checkIndex_2214a 1 = .ok (.aload_n 1, 1) := by decide +kernel
theorem dJ2_checkIndex_2214a_2 : decode cJ2_checkIndex_2214a 2 = .ok (.invokestatic 48, 3) := by decide +kernel
theorem dJ2_checkIndex_2214a_5 : decode cJ2_checkIndex_2214a 5 = .ok (.invokestatic 414, 3) := by decide +kernel
theorem dJ2_checkIndex_2214a_8 : decode cJ2_checkIndex_2214a 8 = .ok (.return_, 1) := by decide +kernel
theorem dJ7_fill_53178_0 : decode cJ7_fill_53178 0 = .ok (.iconst 0, 1) := by decide +kernel
theorem dJ7_fill_53178_1 : decode cJ7_fill_53178 1 = .ok (.istore_n 2, 1) := by decide +kernel
theorem dJ7_fill_53178_2 : decode cJ7_fill_53178 2 = .ok (.aload_n 0, 1) := by decide +kernel
theorem dJ7_fill_53178_3 : decode cJ7_fill_53178 3 = .ok (.arraylength, 1) := by decide +kernel
theorem dJ7_fill_53178_4 : decode cJ7_fill_53178 4 = .ok (.istore_n 3, 1) := by decide +kernel
theorem dJ7_fill_53178_5 : decode cJ7_fill_53178 5 = .ok (.iload_n 2, 1) := by decide +kernel
theorem dJ7_fill_53178_6 : decode cJ7_fill_53178 6 = .ok (.iload_n 3, 1) := by decide +kernel
theorem dJ7_fill_53178_7 : decode cJ7_fill_53178 7 = .ok (.if_icmp .ge 13, 3) := by decide +kernel
theorem dJ7_fill_53178_10 : decode cJ7_fill_53178 10 = .ok (.aload_n 0, 1) := by decide +kernel
theorem dJ7_fill_53178_11 : decode cJ7_fill_53178 11 = .ok (.iload_n 2, 1) := by decide +kernel
theorem dJ7_fill_53178_12 : decode cJ7_fill_53178 12 = .ok (.iload_n 1, 1) := by decide +kernel
theorem dJ7_fill_53178_13 : decode cJ7_fill_53178 13 = .ok (.iastore, 1) := by decide +kernel
theorem dJ7_fill_53178_14 : decode cJ7_fill_53178 14 = .ok (.iinc 2 1, 3) := by decide +kernel
theorem dJ7_fill_53178_17 : decode cJ7_fill_53178 17 = .ok (.goto (-12), 3) := by decide +kernel
theorem dJ7_fill_53178_20 : decode cJ7_fill_53178 20 = .ok (.return_, 1) := by decide +kernel
theorem dJ3_checkIndex_8e157_0 : decode cJ3_checkIndex_8e157 0 = .ok (.iload_n 0, 1) := by decide +kernel
theorem dJ3_checkIndex_8e157_1 : decode cJ3_checkIndex_8e157 1 = .ok (.ifCond .lt 8, 3) := by decide +kernel
theorem dJ3_checkIndex_8e157_4 : decode cJ3_checkIndex_8e157 4 = .ok (.iload_n 0, 1) := by decide +kernel
theorem dJ3_checkIndex_8e157_5 : decode cJ3_checkIndex_8e157 5 = .ok (.iload_n 1, 1) := by decide +kernel
theorem dJ3_checkIndex_8e157_6 : decode cJ3_checkIndex_8e157 6 = .ok (.if_icmp .lt 10, 3) := by decide +kernel
theorem dJ3_checkIndex_8e157_9 : decode cJ3_checkIndex_8e157 9 = .ok (.aload_n 2, 1) := by decide +kernel
theorem dJ3_checkIndex_8e157_10 : decode cJ3_checkIndex_8e157 10 = .ok (.iload_n 0, 1) := by decide +kernel
theorem dJ3_checkIndex_8e157_11 : decode cJ3_checkIndex_8e157 11 = .ok (.iload_n 1, 1) := by decide +kernel
theorem dJ3_checkIndex_8e157_12 : decode cJ3_checkIndex_8e157 12 = .ok (.invokestatic 95, 3) := by decide +kernel
theorem dJ3_checkIndex_8e157_15 : decode cJ3_checkIndex_8e157 15 = .ok (.athrow, 1) := by decide +kernel
theorem dJ3_checkIndex_8e157_16 : decode cJ3_checkIndex_8e157 16 = .ok (.iload_n 0, 1) := by decide +kernel
theorem dJ3_checkIndex_8e157_17 : decode cJ3_checkIndex_8e157 17 = .ok (.ireturn, 1) := by decide +kernel
theorem dL_law_0 : decode cL_law 0 = .ok (.new 7, 3) := by decide +kernel
theorem dL_law_3 : decode cL_law 3 = .ok (.dup, 1) := by decide +kernel
theorem dL_law_4 : decode cL_law 4 = .ok (.invokespecial 9, 3) := by decide +kernel
theorem dL_law_7 : decode cL_law 7 = .ok (.astore_n 1, 1) := by decide +kernel
theorem dL_law_8 : decode cL_law 8 = .ok (.new 10, 3) := by decide +kernel
theorem dL_law_11 : decode cL_law 11 = .ok (.dup, 1) := by decide +kernel
theorem dL_law_12 : decode cL_law 12 = .ok (.invokespecial 12, 3) := by decide +kernel
theorem dL_law_15 : decode cL_law 15 = .ok (.astore_n 2, 1) := by decide +kernel
theorem dL_law_16 : decode cL_law 16 = .ok (.iconst 0, 1) := by decide +kernel
theorem dL_law_17 : decode cL_law 17 = .ok (.istore_n 3, 1) := by decide +kernel
theorem dL_law_18 : decode cL_law 18 = .ok (.iload_n 3, 1) := by decide +kernel
theorem dL_law_19 : decode cL_law 19 = .ok (.aload_n 0, 1) := by decide +kernel
theorem dL_law_20 : decode cL_law 20 = .ok (.arraylength, 1) := by decide +kernel
theorem dL_law_21 : decode cL_law 21 = .ok (.bipush 7, 2) := by decide +kernel
theorem dL_law_23 : decode cL_law 23 = .ok (.isub, 1) := by decide +kernel
theorem dL_law_24 : decode cL_law 24 = .ok (.if_icmp .gt 1961, 3) := by decide +kernel
theorem dL_law_27 : decode cL_law 27 = .ok (.aload_n 0, 1) := by decide +kernel
theorem dL_law_28 : decode cL_law 28 = .ok (.iload_n 3, 1) := by decide +kernel
theorem dL_law_29 : decode cL_law 29 = .ok (.iaload, 1) := by decide +kernel
theorem dL_law_30 : decode cL_law 30 = .ok (.bipush 63, 2) := by decide +kernel
theorem dL_law_32 : decode cL_law 32 = .ok (.iand, 1) := by decide +kernel
theorem dL_law_33 : decode cL_law 33 = .ok (.tableswitch 1946 0 42 #[187, 250, 273, 296, 309, 362, 431, 474, 507, 560, 583, 606, 649, 712, 787, 830, 873, 916, 969, 1022, 1085, 1138, 1181, 1224, 1277, 1320, 1363, 1396, 1429, 1472, 1515, 1548, 1591, 1614, 1663, 1696, 1719, 1752, 1795, 1828, 1841, 1864, 1923], 187) := by decide +kernel
theorem dL_law_220 : decode cL_law 220 = .ok (.aload_n 1, 1) := by decide +kernel
theorem dL_law_221 : decode cL_law 221 = .ok (.aload_n 0, 1) := by decide +kernel
theorem dL_law_222 : decode cL_law 222 = .ok (.iload_n 3, 1) := by decide +kernel
theorem dL_law_223 : decode cL_law 223 = .ok (.iconst 1, 1) := by decide +kernel
theorem dL_law_224 : decode cL_law 224 = .ok (.iadd, 1) := by decide +kernel
theorem dL_law_225 : decode cL_law 225 = .ok (.iaload, 1) := by decide +kernel
theorem dL_law_226 : decode cL_law 226 = .ok (.aload_n 0, 1) := by decide +kernel
theorem dL_law_227 : decode cL_law 227 = .ok (.iload_n 3, 1) := by decide +kernel
theorem dL_law_228 : decode cL_law 228 = .ok (.iconst 2, 1) := by decide +kernel
theorem dL_law_229 : decode cL_law 229 = .ok (.iadd, 1) := by decide +kernel
theorem dL_law_230 : decode cL_law 230 = .ok (.iaload, 1) := by decide +kernel
theorem dL_law_231 : decode cL_law 231 = .ok (.aload_n 0, 1) := by decide +kernel
theorem dL_law_232 : decode cL_law 232 = .ok (.iload_n 3, 1) := by decide +kernel
theorem dL_law_233 : decode cL_law 233 = .ok (.iconst 3, 1) := by decide +kernel
theorem dL_law_234 : decode cL_law 234 = .ok (.iadd, 1) := by decide +kernel
theorem dL_law_235 : decode cL_law 235 = .ok (.iaload, 1) := by decide +kernel
theorem dL_law_236 : decode cL_law 236 = .ok (.aload_n 0, 1) := by decide +kernel
theorem dL_law_237 : decode cL_law 237 = .ok (.iload_n 3, 1) := by decide +kernel
theorem dL_law_238 : decode cL_law 238 = .ok (.iconst 4, 1) := by decide +kernel
theorem dL_law_239 : decode cL_law 239 = .ok (.iadd, 1) := by decide +kernel
theorem dL_law_240 : decode cL_law 240 = .ok (.iaload, 1) := by decide +kernel
theorem dL_law_241 : decode cL_law 241 = .ok (.aload_n 0, 1) := by decide +kernel
theorem dL_law_242 : decode cL_law 242 = .ok (.iload_n 3, 1) := by decide +kernel
theorem dL_law_243 : decode cL_law 243 = .ok (.iconst 5, 1) := by decide +kernel
theorem dL_law_244 : decode cL_law 244 = .ok (.iadd, 1) := by decide +kernel
theorem dL_law_245 : decode cL_law 245 = .ok (.iaload, 1) := by decide +kernel
theorem dL_law_246 : decode cL_law 246 = .ok (.invokevirtual 13, 3) := by decide +kernel
theorem dL_law_249 : decode cL_law 249 = .ok (.aload_n 2, 1) := by decide +kernel
theorem dL_law_250 : decode cL_law 250 = .ok (.aload_n 0, 1) := by decide +kernel
theorem dL_law_251 : decode cL_law 251 = .ok (.iload_n 3, 1) := by decide +kernel
theorem dL_law_252 : decode cL_law 252 = .ok (.iconst 1, 1) := by decide +kernel
theorem dL_law_253 : decode cL_law 253 = .ok (.iadd, 1) := by decide +kernel
theorem dL_law_254 : decode cL_law 254 = .ok (.iaload, 1) := by decide +kernel
theorem dL_law_255 : decode cL_law 255 = .ok (.aload_n 0, 1) := by decide +kernel
theorem dL_law_256 : decode cL_law 256 = .ok (.iload_n 3, 1) := by decide +kernel
theorem dL_law_257 : decode cL_law 257 = .ok (.iconst 2, 1) := by decide +kernel
theorem dL_law_258 : decode cL_law 258 = .ok (.iadd, 1) := by decide +kernel
theorem dL_law_259 : decode cL_law 259 = .ok (.iaload, 1) := by decide +kernel
theorem dL_law_260 : decode cL_law 260 = .ok (.aload_n 0, 1) := by decide +kernel
theorem dL_law_261 : decode cL_law 261 = .ok (.iload_n 3, 1) := by decide +kernel
theorem dL_law_262 : decode cL_law 262 = .ok (.iconst 3, 1) := by decide +kernel
theorem dL_law_263 : decode cL_law 263 = .ok (.iadd, 1) := by decide +kernel
theorem dL_law_264 : decode cL_law 264 = .ok (.iaload, 1) := by decide +kernel
theorem dL_law_265 : decode cL_law 265 = .ok (.aload_n 0, 1) := by decide +kernel
theorem dL_law_266 : decode cL_law 266 = .ok (.iload_n 3, 1) := by decide +kernel
theorem dL_law_267 : decode cL_law 267 = .ok (.iconst 4, 1) := by decide +kernel
theorem dL_law_268 : decode cL_law 268 = .ok (.iadd, 1) := by decide +kernel
theorem dL_law_269 : decode cL_law 269 = .ok (.iaload, 1) := by decide +kernel
theorem dL_law_270 : decode cL_law 270 = .ok (.aload_n 0, 1) := by decide +kernel
theorem dL_law_271 : decode cL_law 271 = .ok (.iload_n 3, 1) := by decide +kernel
theorem dL_law_272 : decode cL_law 272 = .ok (.iconst 5, 1) := by decide +kernel
theorem dL_law_273 : decode cL_law 273 = .ok (.iadd, 1) := by decide +kernel
theorem dL_law_274 : decode cL_law 274 = .ok (.iaload, 1) := by decide +kernel
theorem dL_law_275 : decode cL_law 275 = .ok (.invokevirtual 17, 3) := by decide +kernel
theorem dL_law_278 : decode cL_law 278 = .ok (.if_icmp .eq 1701, 3) := by decide +kernel
theorem dL_law_281 : decode cL_law 281 = .ok (.iconst 0, 1) := by decide +kernel
theorem dL_law_282 : decode cL_law 282 = .ok (.ireturn, 1) := by decide +kernel
theorem dL_law_283 : decode cL_law 283 = .ok (.aload_n 1, 1) := by decide +kernel
theorem dL_law_284 : decode cL_law 284 = .ok (.aload_n 0, 1) := by decide +kernel
theorem dL_law_285 : decode cL_law 285 = .ok (.iload_n 3, 1) := by decide +kernel
theorem dL_law_286 : decode cL_law 286 = .ok (.iconst 1, 1) := by decide +kernel
theorem dL_law_287 : decode cL_law 287 = .ok (.iadd, 1) := by decide +kernel
theorem dL_law_288 : decode cL_law 288 = .ok (.iaload, 1) := by decide +kernel
theorem dL_law_289 : decode cL_law 289 = .ok (.invokevirtual 18, 3) := by decide +kernel
theorem dL_law_292 : decode cL_law 292 = .ok (.aload_n 2, 1) := by decide +kernel
theorem dL_law_293 : decode cL_law 293 = .ok (.aload_n 0, 1) := by decide +kernel
theorem dL_law_294 : decode cL_law 294 = .ok (.iload_n 3, 1) := by decide +kernel
theorem dL_law_295 : decode cL_law 295 = .ok (.iconst 1, 1) := by decide +kernel
theorem dL_law_296 : decode cL_law 296 = .ok (.iadd, 1) := by decide +kernel
theorem dL_law_297 : decode cL_law 297 = .ok (.iaload, 1) := by decide +kernel
theorem dL_law_298 : decode cL_law 298 = .ok (.invokevirtual 22, 3) := by decide +kernel
theorem dL_law_301 : decode cL_law 301 = .ok (.if_icmp .eq 1678, 3) := by decide +kernel
theorem dL_law_304 : decode cL_law 304 = .ok (.iconst 0, 1) := by decide +kernel
theorem dL_law_305 : decode cL_law 305 = .ok (.ireturn, 1) := by decide +kernel
theorem dL_law_306 : decode cL_law 306 = .ok (.aload_n 1, 1) := by decide +kernel
theorem dL_law_307 : decode cL_law 307 = .ok (.aload_n 0, 1) := by decide +kernel
theorem dL_law_308 : decode cL_law 308 = .ok (.iload_n 3, 1) := by decide +kernel
theorem dL_law_309 : decode cL_law 309 = .ok (.iconst 1, 1) := by decide +kernel
theorem dL_law_310 : decode cL_law 310 = .ok (.iadd, 1) := by decide +kernel
theorem dL_law_311 : decode cL_law 311 = .ok (.iaload, 1) := by decide +kernel
theorem dL_law_312 : decode cL_law 312 = .ok (.invokevirtual 23, 3) := by decide +kernel
theorem dL_law_315 : decode cL_law 315 = .ok (.aload_n 2, 1) := by decide +kernel
theorem dL_law_316 : decode cL_law 316 = .ok (.aload_n 0, 1) := by decide +kernel
theorem dL_law_317 : decode cL_law 317 = .ok (.iload_n 3, 1) := by decide +kernel
theorem dL_law_318 : decode cL_law 318 = .ok (.iconst 1, 1) := by decide +kernel
theorem dL_law_319 : decode cL_law 319 = .ok (.iadd, 1) := by decide +kernel
theorem dL_law_320 : decode cL_law 320 = .ok (.iaload, 1) := by decide +kernel
theorem dL_law_321 : decode cL_law 321 = .ok (.invokevirtual 26, 3) := by decide +kernel
theorem dL_law_324 : decode cL_law 324 = .ok (.if_icmp .eq 1655, 3) := by decide +kernel
theorem dL_law_327 : decode cL_law 327 = .ok (.iconst 0, 1) := by decide +kernel
theorem dL_law_328 : decode cL_law 328 = .ok (.ireturn, 1) := by decide +kernel
theorem dL_law_329 : decode cL_law 329 = .ok (.aload_n 1, 1) := by decide +kernel
theorem dL_law_330 : decode cL_law 330 = .ok (.invokevirtual 27, 3) := by decide +kernel
theorem dL_law_333 : decode cL_law 333 = .ok (.aload_n 2, 1) := by decide +kernel
theorem dL_law_334 : decode cL_law 334 = .ok (.invokevirtual 31, 3) := by decide +kernel
theorem dL_law_337 : decode cL_law 337 = .ok (.if_icmp .eq 1642, 3) := by decide +kernel
theorem dL_law_340 : decode cL_law 340 = .ok (.iconst 0, 1) := by decide +kernel
theorem dL_law_341 : decode cL_law 341 = .ok (.ireturn, 1) := by decide +kernel
theorem dL_law_342 : decode cL_law 342 = .ok (.aload_n 1, 1) := by decide +kernel
theorem dL_law_343 : decode cL_law 343 = .ok (.aload_n 0, 1) := by decide +kernel
theorem dL_law_344 : decode cL_law 344 = .ok (.iload_n 3, 1) := by decide +kernel
theorem dL_law_345 : decode cL_law 345 = .ok (.iconst 1, 1) := by decide +kernel
theorem dL_law_346 : decode cL_law 346 = .ok (.iadd, 1) := by decide +kernel
theorem dL_law_347 : decode cL_law 347 = .ok (.iaload, 1) := by decide +kernel
theorem dL_law_348 : decode cL_law 348 = .ok (.aload_n 0, 1) := by decide +kernel
theorem dL_law_349 : decode cL_law 349 = .ok (.iload_n 3, 1) := by decide +kernel
theorem dL_law_350 : decode cL_law 350 = .ok (.iconst 2, 1) := by decide +kernel
theorem dL_law_351 : decode cL_law 351 = .ok (.iadd, 1) := by decide +kernel
theorem dL_law_352 : decode cL_law 352 = .ok (.iaload, 1) := by decide +kernel
theorem dL_law_353 : decode cL_law 353 = .ok (.aload_n 0, 1) := by decide +kernel
theorem dL_law_354 : decode cL_law 354 = .ok (.iload_n 3, 1) := by decide +kernel
theorem dL_law_355 : decode cL_law 355 = .ok (.iconst 3, 1) := by decide +kernel
theorem dL_law_356 : decode cL_law 356 = .ok (.iadd, 1) := by decide +kernel
theorem dL_law_357 : decode cL_law 357 = .ok (.iaload, 1) := by decide +kernel
theorem dL_law_358 : decode cL_law 358 = .ok (.aload_n 0, 1) := by decide +kernel
theorem dL_law_359 : decode cL_law 359 = .ok (.iload_n 3, 1) := by decide +kernel
theorem dL_law_360 : decode cL_law 360 = .ok (.iconst 4, 1) := by decide +kernel
theorem dL_law_361 : decode cL_law 361 = .ok (.iadd, 1) := by decide +kernel
theorem dL_law_362 : decode cL_law 362 = .ok (.iaload, 1) := by decide +kernel
theorem dL_law_363 : decode cL_law 363 = .ok (.invokevirtual 32, 3) := by decide +kernel
theorem dL_law_366 : decode cL_law 366 = .ok (.aload_n 2, 1) := by decide +kernel
theorem dL_law_367 : decode cL_law 367 = .ok (.aload_n 0, 1) := by decide +kernel
theorem dL_law_368 : decode cL_law 368 = .ok (.iload_n 3, 1) := by decide +kernel
theorem dL_law_369 : decode cL_law 369 = .ok (.iconst 1, 1) := by decide +kernel
theorem dL_law_370 : decode cL_law 370 = .ok (.iadd, 1) := by decide +kernel
theorem dL_law_371 : decode cL_law 371 = .ok (.iaload, 1) := by decide +kernel
theorem dL_law_372 : decode cL_law 372 = .ok (.aload_n 0, 1) := by decide +kernel
theorem dL_law_373 : decode cL_law 373 = .ok (.iload_n 3, 1) := by decide +kernel
theorem dL_law_374 : decode cL_law 374 = .ok (.iconst 2, 1) := by decide +kernel
theorem dL_law_375 : decode cL_law 375 = .ok (.iadd, 1) := by decide +kernel
theorem dL_law_376 : decode cL_law 376 = .ok (.iaload, 1) := by decide +kernel
theorem dL_law_377 : decode cL_law 377 = .ok (.aload_n 0, 1) := by decide +kernel
theorem dL_law_378 : decode cL_law 378 = .ok (.iload_n 3, 1) := by decide +kernel
theorem dL_law_379 : decode cL_law 379 = .ok (.iconst 3, 1) := by decide +kernel
theorem dL_law_380 : decode cL_law 380 = .ok (.iadd, 1) := by decide +kernel
theorem dL_law_381 : decode cL_law 381 = .ok (.iaload, 1) := by decide +kernel
theorem dL_law_382 : decode cL_law 382 = .ok (.aload_n 0, 1) := by decide +kernel
theorem dL_law_383 : decode cL_law 383 = .ok (.iload_n 3, 1) := by decide +kernel
theorem dL_law_384 : decode cL_law 384 = .ok (.iconst 4, 1) := by decide +kernel
theorem dL_law_385 : decode cL_law 385 = .ok (.iadd, 1) := by decide +kernel
theorem dL_law_386 : decode cL_law 386 = .ok (.iaload, 1) := by decide +kernel
theorem dL_law_387 : decode cL_law 387 = .ok (.invokevirtual 36, 3) := by decide +kernel
theorem dL_law_390 : decode cL_law 390 = .ok (.if_icmp .eq 1589, 3) := by decide +kernel
theorem dL_law_393 : decode cL_law 393 = .ok (.iconst 0, 1) := by decide +kernel
theorem dL_law_394 : decode cL_law 394 = .ok (.ireturn, 1) := by decide +kernel
theorem dL_law_395 : decode cL_law 395 = .ok (.aload_n 1, 1) := by decide +kernel
theorem dL_law_396 : decode cL_law 396 = .ok (.aload_n 0, 1) := by decide +kernel
theorem dL_law_397 : decode cL_law 397 = .ok (.iload_n 3, 1) := by decide +kernel
theorem dL_law_398 : decode cL_law 398 = .ok (.iconst 1, 1) := by decide +kernel
theorem dL_law_399 : decode cL_law 399 = .ok (.iadd, 1) := by decide +kernel
theorem dL_law_400 : decode cL_law 400 = .ok (.iaload, 1) := by decide +kernel
theorem dL_law_401 : decode cL_law 401 = .ok (.aload_n 0, 1) := by decide +kernel
theorem dL_law_402 : decode cL_law 402 = .ok (.iload_n 3, 1) := by decide +kernel
theorem dL_law_403 : decode cL_law 403 = .ok (.iconst 2, 1) := by decide +kernel
theorem dL_law_404 : decode cL_law 404 = .ok (.iadd, 1) := by decide +kernel
theorem dL_law_405 : decode cL_law 405 = .ok (.iaload, 1) := by decide +kernel
theorem dL_law_406 : decode cL_law 406 = .ok (.aload_n 0, 1) := by decide +kernel
theorem dL_law_407 : decode cL_law 407 = .ok (.iload_n 3, 1) := by decide +kernel
theorem dL_law_408 : decode cL_law 408 = .ok (.iconst 3, 1) := by decide +kernel
theorem dL_law_409 : decode cL_law 409 = .ok (.iadd, 1) := by decide +kernel
theorem dL_law_410 : decode cL_law 410 = .ok (.iaload, 1) := by decide +kernel
theorem dL_law_411 : decode cL_law 411 = .ok (.aload_n 0, 1) := by decide +kernel
theorem dL_law_412 : decode cL_law 412 = .ok (.iload_n 3, 1) := by decide +kernel
theorem dL_law_413 : decode cL_law 413 = .ok (.iconst 4, 1) := by decide +kernel
theorem dL_law_414 : decode cL_law 414 = .ok (.iadd, 1) := by decide +kernel
theorem dL_law_415 : decode cL_law 415 = .ok (.iaload, 1) := by decide +kernel
theorem dL_law_416 : decode cL_law 416 = .ok (.ifCond .eq 7, 3) := by decide +kernel
theorem dL_law_419 : decode cL_law 419 = .ok (.iconst 1, 1) := by decide +kernel
theorem dL_law_420 : decode cL_law 420 = .ok (.goto 4, 3) := by decide +kernel
theorem dL_law_423 : decode cL_law 423 = .ok (.iconst 0, 1) := by decide +kernel
theorem dL_law_424 : decode cL_law 424 = .ok (.invokevirtual 37, 3) := by decide +kernel
theorem dL_law_427 : decode cL_law 427 = .ok (.aload_n 2, 1) := by decide +kernel
theorem dL_law_428 : decode cL_law 428 = .ok (.aload_n 0, 1) := by decide +kernel
theorem dL_law_429 : decode cL_law 429 = .ok (.iload_n 3, 1) := by decide +kernel
theorem dL_law_430 : decode cL_law 430 = .ok (.iconst 1, 1) := by decide +kernel
theorem dL_law_431 : decode cL_law 431 = .ok (.iadd, 1) := by decide +kernel
theorem dL_law_432 : decode cL_law 432 = .ok (.iaload, 1) := by decide +kernel
theorem dL_law_433 : decode cL_law 433 = .ok (.aload_n 0, 1) := by decide +kernel
theorem dL_law_434 : decode cL_law 434 = .ok (.iload_n 3, 1) := by decide +kernel
theorem dL_law_435 : decode cL_law 435 = .ok (.iconst 2, 1) := by decide +kernel
theorem dL_law_436 : decode cL_law 436 = .ok (.iadd, 1) := by decide +kernel
theorem dL_law_437 : decode cL_law 437 = .ok (.iaload, 1) := by decide +kernel
theorem dL_law_438 : decode cL_law 438 = .ok (.aload_n 0, 1) := by decide +kernel
theorem dL_law_439 : decode cL_law 439 = .ok (.iload_n 3, 1) := by decide +kernel
theorem dL_law_440 : decode cL_law 440 = .ok (.iconst 3, 1) := by decide +kernel
theorem dL_law_441 : decode cL_law 441 = .ok (.iadd, 1) := by decide +kernel
theorem dL_law_442 : decode cL_law 442 = .ok (.iaload, 1) := by decide +kernel
theorem dL_law_443 : decode cL_law 443 = .ok (.aload_n 0, 1) := by decide +kernel
theorem dL_law_444 : decode cL_law 444 = .ok (.iload_n 3, 1) := by decide +kernel
theorem dL_law_445 : decode cL_law 445 = .ok (.iconst 4, 1) := by decide +kernel
theorem dL_law_446 : decode cL_law 446 = .ok (.iadd, 1) := by decide +kernel
theorem dL_law_447 : decode cL_law 447 = .ok (.iaload, 1) := by decide +kernel
theorem dL_law_448 : decode cL_law 448 = .ok (.ifCond .eq 7, 3) := by decide +kernel
theorem dL_law_451 : decode cL_law 451 = .ok (.iconst 1, 1) := by decide +kernel
theorem dL_law_452 : decode cL_law 452 = .ok (.goto 4, 3) := by decide +kernel
theorem dL_law_455 : decode cL_law 455 = .ok (.iconst 0, 1) := by decide +kernel
theorem dL_law_456 : decode cL_law 456 = .ok (.invokevirtual 41, 3) := by decide +kernel
theorem dL_law_459 : decode cL_law 459 = .ok (.if_icmp .eq 1520, 3) := by decide +kernel
theorem dL_law_462 : decode cL_law 462 = .ok (.iconst 0, 1) := by decide +kernel
theorem dL_law_463 : decode cL_law 463 = .ok (.ireturn, 1) := by decide +kernel
theorem dL_law_464 : decode cL_law 464 = .ok (.aload_n 1, 1) := by decide +kernel
theorem dL_law_465 : decode cL_law 465 = .ok (.aload_n 0, 1) := by decide +kernel
theorem dL_law_466 : decode cL_law 466 = .ok (.iload_n 3, 1) := by decide +kernel
theorem dL_law_467 : decode cL_law 467 = .ok (.iconst 1, 1) := by decide +kernel
theorem dL_law_468 : decode cL_law 468 = .ok (.iadd, 1) := by decide +kernel
theorem dL_law_469 : decode cL_law 469 = .ok (.iaload, 1) := by decide +kernel
theorem dL_law_470 : decode cL_law 470 = .ok (.aload_n 0, 1) := by decide +kernel
theorem dL_law_471 : decode cL_law 471 = .ok (.iload_n 3, 1) := by decide +kernel
theorem dL_law_472 : decode cL_law 472 = .ok (.iconst 2, 1) := by decide +kernel
theorem dL_law_473 : decode cL_law 473 = .ok (.iadd, 1) := by decide +kernel
theorem dL_law_474 : decode cL_law 474 = .ok (.iaload, 1) := by decide +kernel
theorem dL_law_475 : decode cL_law 475 = .ok (.aload_n 0, 1) := by decide +kernel
theorem dL_law_476 : decode cL_law 476 = .ok (.iload_n 3, 1) := by decide +kernel
theorem dL_law_477 : decode cL_law 477 = .ok (.iconst 3, 1) := by decide +kernel
theorem dL_law_478 : decode cL_law 478 = .ok (.iadd, 1) := by decide +kernel
theorem dL_law_479 : decode cL_law 479 = .ok (.iaload, 1) := by decide +kernel
theorem dL_law_480 : decode cL_law 480 = .ok (.invokevirtual 42, 3) := by decide +kernel
theorem dL_law_483 : decode cL_law 483 = .ok (.aload_n 2, 1) := by decide +kernel
theorem dL_law_484 : decode cL_law 484 = .ok (.aload_n 0, 1) := by decide +kernel
theorem dL_law_485 : decode cL_law 485 = .ok (.iload_n 3, 1) := by decide +kernel
theorem dL_law_486 : decode cL_law 486 = .ok (.iconst 1, 1) := by decide +kernel
theorem dL_law_487 : decode cL_law 487 = .ok (.iadd, 1) := by decide +kernel
theorem dL_law_488 : decode cL_law 488 = .ok (.iaload, 1) := by decide +kernel
theorem dL_law_489 : decode cL_law 489 = .ok (.aload_n 0, 1) := by decide +kernel
theorem dL_law_490 : decode cL_law 490 = .ok (.iload_n 3, 1) := by decide +kernel
theorem dL_law_491 : decode cL_law 491 = .ok (.iconst 2, 1) := by decide +kernel
theorem dL_law_492 : decode cL_law 492 = .ok (.iadd, 1) := by decide +kernel
theorem dL_law_493 : decode cL_law 493 = .ok (.iaload, 1) := by decide +kernel
theorem dL_law_494 : decode cL_law 494 = .ok (.aload_n 0, 1) := by decide +kernel
theorem dL_law_495 : decode cL_law 495 = .ok (.iload_n 3, 1) := by decide +kernel
theorem dL_law_496 : decode cL_law 496 = .ok (.iconst 3, 1) := by decide +kernel
theorem dL_law_497 : decode cL_law 497 = .ok (.iadd, 1) := by decide +kernel
theorem dL_law_498 : decode cL_law 498 = .ok (.iaload, 1) := by decide +kernel
theorem dL_law_499 : decode cL_law 499 = .ok (.invokevirtual 46, 3) := by decide +kernel
theorem dL_law_502 : decode cL_law 502 = .ok (.if_icmp .eq 1477, 3) := by decide +kernel
theorem dL_law_505 : decode cL_law 505 = .ok (.iconst 0, 1) := by decide +kernel
theorem dL_law_506 : decode cL_law 506 = .ok (.ireturn, 1) := by decide +kernel
theorem dL_law_507 : decode cL_law 507 = .ok (.aload_n 1, 1) := by decide +kernel
theorem dL_law_508 : decode cL_law 508 = .ok (.aload_n 0, 1) := by decide +kernel
theorem dL_law_509 : decode cL_law 509 = .ok (.iload_n 3, 1) := by decide +kernel
theorem dL_law_510 : decode cL_law 510 = .ok (.iconst 1, 1) := by decide +kernel
theorem dL_law_511 : decode cL_law 511 = .ok (.iadd, 1) := by decide +kernel
theorem dL_law_512 : decode cL_law 512 = .ok (.iaload, 1) := by decide +kernel
theorem dL_law_513 : decode cL_law 513 = .ok (.aload_n 0, 1) := by decide +kernel
theorem dL_law_514 : decode cL_law 514 = .ok (.iload_n 3, 1) := by decide +kernel
theorem dL_law_515 : decode cL_law 515 = .ok (.iconst 2, 1) := by decide +kernel
theorem dL_law_516 : decode cL_law 516 = .ok (.iadd, 1) := by decide +kernel
theorem dL_law_517 : decode cL_law 517 = .ok (.iaload, 1) := by decide +kernel
theorem dL_law_518 : decode cL_law 518 = .ok (.invokevirtual 47, 3) := by decide +kernel
theorem dL_law_521 : decode cL_law 521 = .ok (.aload_n 2, 1) := by decide +kernel
theorem dL_law_522 : decode cL_law 522 = .ok (.aload_n 0, 1) := by decide +kernel
theorem dL_law_523 : decode cL_law 523 = .ok (.iload_n 3, 1) := by decide +kernel
theorem dL_law_524 : decode cL_law 524 = .ok (.iconst 1, 1) := by decide +kernel
theorem dL_law_525 : decode cL_law 525 = .ok (.iadd, 1) := by decide +kernel
theorem dL_law_526 : decode cL_law 526 = .ok (.iaload, 1) := by decide +kernel
theorem dL_law_527 : decode cL_law 527 = .ok (.aload_n 0, 1) := by decide +kernel
theorem dL_law_528 : decode cL_law 528 = .ok (.iload_n 3, 1) := by decide +kernel
theorem dL_law_529 : decode cL_law 529 = .ok (.iconst 2, 1) := by decide +kernel
theorem dL_law_530 : decode cL_law 530 = .ok (.iadd, 1) := by decide +kernel
theorem dL_law_531 : decode cL_law 531 = .ok (.iaload, 1) := by decide +kernel
theorem dL_law_532 : decode cL_law 532 = .ok (.invokevirtual 51, 3) := by decide +kernel
theorem dL_law_535 : decode cL_law 535 = .ok (.if_icmp .eq 1444, 3) := by decide +kernel
theorem dL_law_538 : decode cL_law 538 = .ok (.iconst 0, 1) := by decide +kernel
theorem dL_law_539 : decode cL_law 539 = .ok (.ireturn, 1) := by decide +kernel
theorem dL_law_540 : decode cL_law 540 = .ok (.aload_n 1, 1) := by decide +kernel
theorem dL_law_541 : decode cL_law 541 = .ok (.aload_n 0, 1) := by decide +kernel
theorem dL_law_542 : decode cL_law 542 = .ok (.iload_n 3, 1) := by decide +kernel
theorem dL_law_543 : decode cL_law 543 = .ok (.iconst 1, 1) := by decide +kernel
theorem dL_law_544 : decode cL_law 544 = .ok (.iadd, 1) := by decide +kernel
theorem dL_law_545 : decode cL_law 545 = .ok (.iaload, 1) := by decide +kernel
theorem dL_law_546 : decode cL_law 546 = .ok (.aload_n 0, 1) := by decide +kernel
theorem dL_law_547 : decode cL_law 547 = .ok (.iload_n 3, 1) := by decide +kernel
theorem dL_law_548 : decode cL_law 548 = .ok (.iconst 2, 1) := by decide +kernel
theorem dL_law_549 : decode cL_law 549 = .ok (.iadd, 1) := by decide +kernel
theorem dL_law_550 : decode cL_law 550 = .ok (.iaload, 1) := by decide +kernel
theorem dL_law_551 : decode cL_law 551 = .ok (.aload_n 0, 1) := by decide +kernel
theorem dL_law_552 : decode cL_law 552 = .ok (.iload_n 3, 1) := by decide +kernel
theorem dL_law_553 : decode cL_law 553 = .ok (.iconst 3, 1) := by decide +kernel
theorem dL_law_554 : decode cL_law 554 = .ok (.iadd, 1) := by decide +kernel
theorem dL_law_555 : decode cL_law 555 = .ok (.iaload, 1) := by decide +kernel
theorem dL_law_556 : decode cL_law 556 = .ok (.aload_n 0, 1) := by decide +kernel
theorem dL_law_557 : decode cL_law 557 = .ok (.iload_n 3, 1) := by decide +kernel
theorem dL_law_558 : decode cL_law 558 = .ok (.iconst 4, 1) := by decide +kernel
theorem dL_law_559 : decode cL_law 559 = .ok (.iadd, 1) := by decide +kernel
theorem dL_law_560 : decode cL_law 560 = .ok (.iaload, 1) := by decide +kernel
theorem dL_law_561 : decode cL_law 561 = .ok (.invokevirtual 52, 3) := by decide +kernel
theorem dL_law_564 : decode cL_law 564 = .ok (.aload_n 2, 1) := by decide +kernel
theorem dL_law_565 : decode cL_law 565 = .ok (.aload_n 0, 1) := by decide +kernel
theorem dL_law_566 : decode cL_law 566 = .ok (.iload_n 3, 1) := by decide +kernel
theorem dL_law_567 : decode cL_law 567 = .ok (.iconst 1, 1) := by decide +kernel
theorem dL_law_568 : decode cL_law 568 = .ok (.iadd, 1) := by decide +kernel
theorem dL_law_569 : decode cL_law 569 = .ok (.iaload, 1) := by decide +kernel
theorem dL_law_570 : decode cL_law 570 = .ok (.aload_n 0, 1) := by decide +kernel
theorem dL_law_571 : decode cL_law 571 = .ok (.iload_n 3, 1) := by decide +kernel
theorem dL_law_572 : decode cL_law 572 = .ok (.iconst 2, 1) := by decide +kernel
theorem dL_law_573 : decode cL_law 573 = .ok (.iadd, 1) := by decide +kernel
theorem dL_law_574 : decode cL_law 574 = .ok (.iaload, 1) := by decide +kernel
theorem dL_law_575 : decode cL_law 575 = .ok (.aload_n 0, 1) := by decide +kernel
theorem dL_law_576 : decode cL_law 576 = .ok (.iload_n 3, 1) := by decide +kernel
theorem dL_law_577 : decode cL_law 577 = .ok (.iconst 3, 1) := by decide +kernel
theorem dL_law_578 : decode cL_law 578 = .ok (.iadd, 1) := by decide +kernel
theorem dL_law_579 : decode cL_law 579 = .ok (.iaload, 1) := by decide +kernel
theorem dL_law_580 : decode cL_law 580 = .ok (.aload_n 0, 1) := by decide +kernel
theorem dL_law_581 : decode cL_law 581 = .ok (.iload_n 3, 1) := by decide +kernel
theorem dL_law_582 : decode cL_law 582 = .ok (.iconst 4, 1) := by decide +kernel
theorem dL_law_583 : decode cL_law 583 = .ok (.iadd, 1) := by decide +kernel
theorem dL_law_584 : decode cL_law 584 = .ok (.iaload, 1) := by decide +kernel
theorem dL_law_585 : decode cL_law 585 = .ok (.invokevirtual 55, 3) := by decide +kernel
theorem dL_law_588 : decode cL_law 588 = .ok (.if_icmp .eq 1391, 3) := by decide +kernel
theorem dL_law_591 : decode cL_law 591 = .ok (.iconst 0, 1) := by decide +kernel
theorem dL_law_592 : decode cL_law 592 = .ok (.ireturn, 1) := by decide +kernel
theorem dL_law_593 : decode cL_law 593 = .ok (.aload_n 1, 1) := by decide +kernel
theorem dL_law_594 : decode cL_law 594 = .ok (.aload_n 0, 1) := by decide +kernel
theorem dL_law_595 : decode cL_law 595 = .ok (.iload_n 3, 1) := by decide +kernel
theorem dL_law_596 : decode cL_law 596 = .ok (.iconst 1, 1) := by decide +kernel
theorem dL_law_597 : decode cL_law 597 = .ok (.iadd, 1) := by decide +kernel
theorem dL_law_598 : decode cL_law 598 = .ok (.iaload, 1) := by decide +kernel
theorem dL_law_599 : decode cL_law 599 = .ok (.invokevirtual 56, 3) := by decide +kernel
theorem dL_law_602 : decode cL_law 602 = .ok (.aload_n 2, 1) := by decide +kernel
theorem dL_law_603 : decode cL_law 603 = .ok (.aload_n 0, 1) := by decide +kernel
theorem dL_law_604 : decode cL_law 604 = .ok (.iload_n 3, 1) := by decide +kernel
theorem dL_law_605 : decode cL_law 605 = .ok (.iconst 1, 1) := by decide +kernel
theorem dL_law_606 : decode cL_law 606 = .ok (.iadd, 1) := by decide +kernel
theorem dL_law_607 : decode cL_law 607 = .ok (.iaload, 1) := by decide +kernel
theorem dL_law_608 : decode cL_law 608 = .ok (.invokevirtual 59, 3) := by decide +kernel
theorem dL_law_611 : decode cL_law 611 = .ok (.if_icmp .eq 1368, 3) := by decide +kernel
theorem dL_law_614 : decode cL_law 614 = .ok (.iconst 0, 1) := by decide +kernel
theorem dL_law_615 : decode cL_law 615 = .ok (.ireturn, 1) := by decide +kernel
theorem dL_law_616 : decode cL_law 616 = .ok (.aload_n 1, 1) := by decide +kernel
theorem dL_law_617 : decode cL_law 617 = .ok (.aload_n 0, 1) := by decide +kernel
theorem dL_law_618 : decode cL_law 618 = .ok (.iload_n 3, 1) := by decide +kernel
theorem dL_law_619 : decode cL_law 619 = .ok (.iconst 1, 1) := by decide +kernel
theorem dL_law_620 : decode cL_law 620 = .ok (.iadd, 1) := by decide +kernel
theorem dL_law_621 : decode cL_law 621 = .ok (.iaload, 1) := by decide +kernel
theorem dL_law_622 : decode cL_law 622 = .ok (.invokevirtual 60, 3) := by decide +kernel
theorem dL_law_625 : decode cL_law 625 = .ok (.aload_n 2, 1) := by decide +kernel
theorem dL_law_626 : decode cL_law 626 = .ok (.aload_n 0, 1) := by decide +kernel
theorem dL_law_627 : decode cL_law 627 = .ok (.iload_n 3, 1) := by decide +kernel
theorem dL_law_628 : decode cL_law 628 = .ok (.iconst 1, 1) := by decide +kernel
theorem dL_law_629 : decode cL_law 629 = .ok (.iadd, 1) := by decide +kernel
theorem dL_law_630 : decode cL_law 630 = .ok (.iaload, 1) := by decide +kernel
theorem dL_law_631 : decode cL_law 631 = .ok (.invokevirtual 63, 3) := by decide +kernel
theorem dL_law_634 : decode cL_law 634 = .ok (.if_icmp .eq 1345, 3) := by decide +kernel
theorem dL_law_637 : decode cL_law 637 = .ok (.iconst 0, 1) := by decide +kernel
theorem dL_law_638 : decode cL_law 638 = .ok (.ireturn, 1) := by decide +kernel
theorem dL_law_639 : decode cL_law 639 = .ok (.aload_n 1, 1) := by decide +kernel
theorem dL_law_640 : decode cL_law 640 = .ok (.aload_n 0, 1) := by decide +kernel
theorem dL_law_641 : decode cL_law 641 = .ok (.iload_n 3, 1) := by decide +kernel
theorem dL_law_642 : decode cL_law 642 = .ok (.iconst 1, 1) := by decide +kernel
theorem dL_law_643 : decode cL_law 643 = .ok (.iadd, 1) := by decide +kernel
theorem dL_law_644 : decode cL_law 644 = .ok (.iaload, 1) := by decide +kernel
theorem dL_law_645 : decode cL_law 645 = .ok (.aload_n 0, 1) := by decide +kernel
theorem dL_law_646 : decode cL_law 646 = .ok (.iload_n 3, 1) := by decide +kernel
theorem dL_law_647 : decode cL_law 647 = .ok (.iconst 2, 1) := by decide +kernel
theorem dL_law_648 : decode cL_law 648 = .ok (.iadd, 1) := by decide +kernel
theorem dL_law_649 : decode cL_law 649 = .ok (.iaload, 1) := by decide +kernel
theorem dL_law_650 : decode cL_law 650 = .ok (.aload_n 0, 1) := by decide +kernel
theorem dL_law_651 : decode cL_law 651 = .ok (.iload_n 3, 1) := by decide +kernel
theorem dL_law_652 : decode cL_law 652 = .ok (.iconst 3, 1) := by decide +kernel
theorem dL_law_653 : decode cL_law 653 = .ok (.iadd, 1) := by decide +kernel
theorem dL_law_654 : decode cL_law 654 = .ok (.iaload, 1) := by decide +kernel
theorem dL_law_655 : decode cL_law 655 = .ok (.invokevirtual 64, 3) := by decide +kernel
theorem dL_law_658 : decode cL_law 658 = .ok (.aload_n 2, 1) := by decide +kernel
theorem dL_law_659 : decode cL_law 659 = .ok (.aload_n 0, 1) := by decide +kernel
theorem dL_law_660 : decode cL_law 660 = .ok (.iload_n 3, 1) := by decide +kernel
theorem dL_law_661 : decode cL_law 661 = .ok (.iconst 1, 1) := by decide +kernel
theorem dL_law_662 : decode cL_law 662 = .ok (.iadd, 1) := by decide +kernel
theorem dL_law_663 : decode cL_law 663 = .ok (.iaload, 1) := by decide +kernel
theorem dL_law_664 : decode cL_law 664 = .ok (.aload_n 0, 1) := by decide +kernel
theorem dL_law_665 : decode cL_law 665 = .ok (.iload_n 3, 1) := by decide +kernel
theorem dL_law_666 : decode cL_law 666 = .ok (.iconst 2, 1) := by decide +kernel
theorem dL_law_667 : decode cL_law 667 = .ok (.iadd, 1) := by decide +kernel
theorem dL_law_668 : decode cL_law 668 = .ok (.iaload, 1) := by decide +kernel
theorem dL_law_669 : decode cL_law 669 = .ok (.aload_n 0, 1) := by decide +kernel
theorem dL_law_670 : decode cL_law 670 = .ok (.iload_n 3, 1) := by decide +kernel
theorem dL_law_671 : decode cL_law 671 = .ok (.iconst 3, 1) := by decide +kernel
theorem dL_law_672 : decode cL_law 672 = .ok (.iadd, 1) := by decide +kernel
theorem dL_law_673 : decode cL_law 673 = .ok (.iaload, 1) := by decide +kernel
theorem dL_law_674 : decode cL_law 674 = .ok (.invokevirtual 67, 3) := by decide +kernel
theorem dL_law_677 : decode cL_law 677 = .ok (.if_icmp .eq 1302, 3) := by decide +kernel
theorem dL_law_680 : decode cL_law 680 = .ok (.iconst 0, 1) := by decide +kernel
theorem dL_law_681 : decode cL_law 681 = .ok (.ireturn, 1) := by decide +kernel
theorem dL_law_682 : decode cL_law 682 = .ok (.aload_n 1, 1) := by decide +kernel
theorem dL_law_683 : decode cL_law 683 = .ok (.aload_n 0, 1) := by decide +kernel
theorem dL_law_684 : decode cL_law 684 = .ok (.iload_n 3, 1) := by decide +kernel
theorem dL_law_685 : decode cL_law 685 = .ok (.iconst 1, 1) := by decide +kernel
theorem dL_law_686 : decode cL_law 686 = .ok (.iadd, 1) := by decide +kernel
theorem dL_law_687 : decode cL_law 687 = .ok (.iaload, 1) := by decide +kernel
theorem dL_law_688 : decode cL_law 688 = .ok (.aload_n 0, 1) := by decide +kernel
theorem dL_law_689 : decode cL_law 689 = .ok (.iload_n 3, 1) := by decide +kernel
theorem dL_law_690 : decode cL_law 690 = .ok (.iconst 2, 1) := by decide +kernel
theorem dL_law_691 : decode cL_law 691 = .ok (.iadd, 1) := by decide +kernel
theorem dL_law_692 : decode cL_law 692 = .ok (.iaload, 1) := by decide +kernel
theorem dL_law_693 : decode cL_law 693 = .ok (.aload_n 0, 1) := by decide +kernel
theorem dL_law_694 : decode cL_law 694 = .ok (.iload_n 3, 1) := by decide +kernel
theorem dL_law_695 : decode cL_law 695 = .ok (.iconst 3, 1) := by decide +kernel
theorem dL_law_696 : decode cL_law 696 = .ok (.iadd, 1) := by decide +kernel
theorem dL_law_697 : decode cL_law 697 = .ok (.iaload, 1) := by decide +kernel
theorem dL_law_698 : decode cL_law 698 = .ok (.aload_n 0, 1) := by decide +kernel
theorem dL_law_699 : decode cL_law 699 = .ok (.iload_n 3, 1) := by decide +kernel
theorem dL_law_700 : decode cL_law 700 = .ok (.iconst 4, 1) := by decide +kernel
theorem dL_law_701 : decode cL_law 701 = .ok (.iadd, 1) := by decide +kernel
theorem dL_law_702 : decode cL_law 702 = .ok (.iaload, 1) := by decide +kernel
theorem dL_law_703 : decode cL_law 703 = .ok (.aload_n 0, 1) := by decide +kernel
theorem dL_law_704 : decode cL_law 704 = .ok (.iload_n 3, 1) := by decide +kernel
theorem dL_law_705 : decode cL_law 705 = .ok (.iconst 5, 1) := by decide +kernel
theorem dL_law_706 : decode cL_law 706 = .ok (.iadd, 1) := by decide +kernel
theorem dL_law_707 : decode cL_law 707 = .ok (.iaload, 1) := by decide +kernel
theorem dL_law_708 : decode cL_law 708 = .ok (.invokevirtual 68, 3) := by decide +kernel
theorem dL_law_711 : decode cL_law 711 = .ok (.aload_n 2, 1) := by decide +kernel
theorem dL_law_712 : decode cL_law 712 = .ok (.aload_n 0, 1) := by decide +kernel
theorem dL_law_713 : decode cL_law 713 = .ok (.iload_n 3, 1) := by decide +kernel
theorem dL_law_714 : decode cL_law 714 = .ok (.iconst 1, 1) := by decide +kernel
theorem dL_law_715 : decode cL_law 715 = .ok (.iadd, 1) := by decide +kernel
theorem dL_law_716 : decode cL_law 716 = .ok (.iaload, 1) := by decide +kernel
theorem dL_law_717 : decode cL_law 717 = .ok (.aload_n 0, 1) := by decide +kernel
theorem dL_law_718 : decode cL_law 718 = .ok (.iload_n 3, 1) := by decide +kernel
theorem dL_law_719 : decode cL_law 719 = .ok (.iconst 2, 1) := by decide +kernel
theorem dL_law_720 : decode cL_law 720 = .ok (.iadd, 1) := by decide +kernel
theorem dL_law_721 : decode cL_law 721 = .ok (.iaload, 1) := by decide +kernel
theorem dL_law_722 : decode cL_law 722 = .ok (.aload_n 0, 1) := by decide +kernel
theorem dL_law_723 : decode cL_law 723 = .ok (.iload_n 3, 1) := by decide +kernel
theorem dL_law_724 : decode cL_law 724 = .ok (.iconst 3, 1) := by decide +kernel
theorem dL_law_725 : decode cL_law 725 = .ok (.iadd, 1) := by decide +kernel
theorem dL_law_726 : decode cL_law 726 = .ok (.iaload, 1) := by decide +kernel
theorem dL_law_727 : decode cL_law 727 = .ok (.aload_n 0, 1) := by decide +kernel
theorem dL_law_728 : decode cL_law 728 = .ok (.iload_n 3, 1) := by decide +kernel
theorem dL_law_729 : decode cL_law 729 = .ok (.iconst 4, 1) := by decide +kernel
theorem dL_law_730 : decode cL_law 730 = .ok (.iadd, 1) := by decide +kernel
theorem dL_law_731 : decode cL_law 731 = .ok (.iaload, 1) := by decide +kernel
theorem dL_law_732 : decode cL_law 732 = .ok (.aload_n 0, 1) := by decide +kernel
theorem dL_law_733 : decode cL_law 733 = .ok (.iload_n 3, 1) := by decide +kernel
theorem dL_law_734 : decode cL_law 734 = .ok (.iconst 5, 1) := by decide +kernel
theorem dL_law_735 : decode cL_law 735 = .ok (.iadd, 1) := by decide +kernel
theorem dL_law_736 : decode cL_law 736 = .ok (.iaload, 1) := by decide +kernel
theorem dL_law_737 : decode cL_law 737 = .ok (.invokevirtual 71, 3) := by decide +kernel
theorem dL_law_740 : decode cL_law 740 = .ok (.if_icmp .eq 1239, 3) := by decide +kernel
theorem dL_law_743 : decode cL_law 743 = .ok (.iconst 0, 1) := by decide +kernel
theorem dL_law_744 : decode cL_law 744 = .ok (.ireturn, 1) := by decide +kernel
theorem dL_law_745 : decode cL_law 745 = .ok (.aload_n 1, 1) := by decide +kernel
theorem dL_law_746 : decode cL_law 746 = .ok (.aload_n 0, 1) := by decide +kernel
theorem dL_law_747 : decode cL_law 747 = .ok (.iload_n 3, 1) := by decide +kernel
theorem dL_law_748 : decode cL_law 748 = .ok (.iconst 1, 1) := by decide +kernel
theorem dL_law_749 : decode cL_law 749 = .ok (.iadd, 1) := by decide +kernel
theorem dL_law_750 : decode cL_law 750 = .ok (.iaload, 1) := by decide +kernel
theorem dL_law_751 : decode cL_law 751 = .ok (.aload_n 0, 1) := by decide +kernel
theorem dL_law_752 : decode cL_law 752 = .ok (.iload_n 3, 1) := by decide +kernel
theorem dL_law_753 : decode cL_law 753 = .ok (.iconst 2, 1) := by decide +kernel
theorem dL_law_754 : decode cL_law 754 = .ok (.iadd, 1) := by decide +kernel
theorem dL_law_755 : decode cL_law 755 = .ok (.iaload, 1) := by decide +kernel
theorem dL_law_756 : decode cL_law 756 = .ok (.aload_n 0, 1) := by decide +kernel
theorem dL_law_757 : decode cL_law 757 = .ok (.iload_n 3, 1) := by decide +kernel
theorem dL_law_758 : decode cL_law 758 = .ok (.iconst 3, 1) := by decide +kernel
theorem dL_law_759 : decode cL_law 759 = .ok (.iadd, 1) := by decide +kernel
theorem dL_law_760 : decode cL_law 760 = .ok (.iaload, 1) := by decide +kernel
theorem dL_law_761 : decode cL_law 761 = .ok (.aload_n 0, 1) := by decide +kernel
theorem dL_law_762 : decode cL_law 762 = .ok (.iload_n 3, 1) := by decide +kernel
theorem dL_law_763 : decode cL_law 763 = .ok (.iconst 4, 1) := by decide +kernel
theorem dL_law_764 : decode cL_law 764 = .ok (.iadd, 1) := by decide +kernel
theorem dL_law_765 : decode cL_law 765 = .ok (.iaload, 1) := by decide +kernel
theorem dL_law_766 : decode cL_law 766 = .ok (.aload_n 0, 1) := by decide +kernel
theorem dL_law_767 : decode cL_law 767 = .ok (.iload_n 3, 1) := by decide +kernel
theorem dL_law_768 : decode cL_law 768 = .ok (.iconst 5, 1) := by decide +kernel
theorem dL_law_769 : decode cL_law 769 = .ok (.iadd, 1) := by decide +kernel
theorem dL_law_770 : decode cL_law 770 = .ok (.iaload, 1) := by decide +kernel
theorem dL_law_771 : decode cL_law 771 = .ok (.aload_n 0, 1) := by decide +kernel
theorem dL_law_772 : decode cL_law 772 = .ok (.iload_n 3, 1) := by decide +kernel
theorem dL_law_773 : decode cL_law 773 = .ok (.bipush 6, 2) := by decide +kernel
theorem dL_law_775 : decode cL_law 775 = .ok (.iadd, 1) := by decide +kernel
theorem dL_law_776 : decode cL_law 776 = .ok (.iaload, 1) := by decide +kernel
theorem dL_law_777 : decode cL_law 777 = .ok (.invokevirtual 72, 3) := by decide +kernel
theorem dL_law_780 : decode cL_law 780 = .ok (.aload_n 2, 1) := by decide +kernel
theorem dL_law_781 : decode cL_law 781 = .ok (.aload_n 0, 1) := by decide +kernel
theorem dL_law_782 : decode cL_law 782 = .ok (.iload_n 3, 1) := by decide +kernel
theorem dL_law_783 : decode cL_law 783 = .ok (.iconst 1, 1) := by decide +kernel
theorem dL_law_784 : decode cL_law 784 = .ok (.iadd, 1) := by decide +kernel
theorem dL_law_785 : decode cL_law 785 = .ok (.iaload, 1) := by decide +kernel
theorem dL_law_786 : decode cL_law 786 = .ok (.aload_n 0, 1) := by decide +kernel
theorem dL_law_787 : decode cL_law 787 = .ok (.iload_n 3, 1) := by decide +kernel
theorem dL_law_788 : decode cL_law 788 = .ok (.iconst 2, 1) := by decide +kernel
theorem dL_law_789 : decode cL_law 789 = .ok (.iadd, 1) := by decide +kernel
theorem dL_law_790 : decode cL_law 790 = .ok (.iaload, 1) := by decide +kernel
theorem dL_law_791 : decode cL_law 791 = .ok (.aload_n 0, 1) := by decide +kernel
theorem dL_law_792 : decode cL_law 792 = .ok (.iload_n 3, 1) := by decide +kernel
theorem dL_law_793 : decode cL_law 793 = .ok (.iconst 3, 1) := by decide +kernel
theorem dL_law_794 : decode cL_law 794 = .ok (.iadd, 1) := by decide +kernel
theorem dL_law_795 : decode cL_law 795 = .ok (.iaload, 1) := by decide +kernel
theorem dL_law_796 : decode cL_law 796 = .ok (.aload_n 0, 1) := by decide +kernel
theorem dL_law_797 : decode cL_law 797 = .ok (.iload_n 3, 1) := by decide +kernel
theorem dL_law_798 : decode cL_law 798 = .ok (.iconst 4, 1) := by decide +kernel
theorem dL_law_799 : decode cL_law 799 = .ok (.iadd, 1) := by decide +kernel
theorem dL_law_800 : decode cL_law 800 = .ok (.iaload, 1) := by decide +kernel
theorem dL_law_801 : decode cL_law 801 = .ok (.aload_n 0, 1) := by decide +kernel
theorem dL_law_802 : decode cL_law 802 = .ok (.iload_n 3, 1) := by decide +kernel
theorem dL_law_803 : decode cL_law 803 = .ok (.iconst 5, 1) := by decide +kernel
theorem dL_law_804 : decode cL_law 804 = .ok (.iadd, 1) := by decide +kernel
theorem dL_law_805 : decode cL_law 805 = .ok (.iaload, 1) := by decide +kernel
theorem dL_law_806 : decode cL_law 806 = .ok (.aload_n 0, 1) := by decide +kernel
theorem dL_law_807 : decode cL_law 807 = .ok (.iload_n 3, 1) := by decide +kernel
theorem dL_law_808 : decode cL_law 808 = .ok (.bipush 6, 2) := by decide +kernel
theorem dL_law_810 : decode cL_law 810 = .ok (.iadd, 1) := by decide +kernel
theorem dL_law_811 : decode cL_law 811 = .ok (.iaload, 1) := by decide +kernel
theorem dL_law_812 : decode cL_law 812 = .ok (.invokevirtual 76, 3) := by decide +kernel
theorem dL_law_815 : decode cL_law 815 = .ok (.if_icmp .eq 1164, 3) := by decide +kernel
theorem dL_law_818 : decode cL_law 818 = .ok (.iconst 0, 1) := by decide +kernel
theorem dL_law_819 : decode cL_law 819 = .ok (.ireturn, 1) := by decide +kernel
theorem dL_law_820 : decode cL_law 820 = .ok (.aload_n 1, 1) := by decide +kernel
theorem dL_law_821 : decode cL_law 821 = .ok (.aload_n 0, 1) := by decide +kernel
theorem dL_law_822 : decode cL_law 822 = .ok (.iload_n 3, 1) := by decide +kernel
theorem dL_law_823 : decode cL_law 823 = .ok (.iconst 1, 1) := by decide +kernel
theorem dL_law_824 : decode cL_law 824 = .ok (.iadd, 1) := by decide +kernel
theorem dL_law_825 : decode cL_law 825 = .ok (.iaload, 1) := by decide +kernel
theorem dL_law_826 : decode cL_law 826 = .ok (.aload_n 0, 1) := by decide +kernel
theorem dL_law_827 : decode cL_law 827 = .ok (.iload_n 3, 1) := by decide +kernel
theorem dL_law_828 : decode cL_law 828 = .ok (.iconst 2, 1) := by decide +kernel
theorem dL_law_829 : decode cL_law 829 = .ok (.iadd, 1) := by decide +kernel
theorem dL_law_830 : decode cL_law 830 = .ok (.iaload, 1) := by decide +kernel
theorem dL_law_831 : decode cL_law 831 = .ok (.aload_n 0, 1) := by decide +kernel
theorem dL_law_832 : decode cL_law 832 = .ok (.iload_n 3, 1) := by decide +kernel
theorem dL_law_833 : decode cL_law 833 = .ok (.iconst 3, 1) := by decide +kernel
theorem dL_law_834 : decode cL_law 834 = .ok (.iadd, 1) := by decide +kernel
theorem dL_law_835 : decode cL_law 835 = .ok (.iaload, 1) := by decide +kernel
theorem dL_law_836 : decode cL_law 836 = .ok (.invokevirtual 77, 3) := by decide +kernel
theorem dL_law_839 : decode cL_law 839 = .ok (.aload_n 2, 1) := by decide +kernel
theorem dL_law_840 : decode cL_law 840 = .ok (.aload_n 0, 1) := by decide +kernel
theorem dL_law_841 : decode cL_law 841 = .ok (.iload_n 3, 1) := by decide +kernel
theorem dL_law_842 : decode cL_law 842 = .ok (.iconst 1, 1) := by decide +kernel
theorem dL_law_843 : decode cL_law 843 = .ok (.iadd, 1) := by decide +kernel
theorem dL_law_844 : decode cL_law 844 = .ok (.iaload, 1) := by decide +kernel
theorem dL_law_845 : decode cL_law 845 = .ok (.aload_n 0, 1) := by decide +kernel
theorem dL_law_846 : decode cL_law 846 = .ok (.iload_n 3, 1) := by decide +kernel
theorem dL_law_847 : decode cL_law 847 = .ok (.iconst 2, 1) := by decide +kernel
theorem dL_law_848 : decode cL_law 848 = .ok (.iadd, 1) := by decide +kernel
theorem dL_law_849 : decode cL_law 849 = .ok (.iaload, 1) := by decide +kernel
theorem dL_law_850 : decode cL_law 850 = .ok (.aload_n 0, 1) := by decide +kernel
theorem dL_law_851 : decode cL_law 851 = .ok (.iload_n 3, 1) := by decide +kernel
theorem dL_law_852 : decode cL_law 852 = .ok (.iconst 3, 1) := by decide +kernel
theorem dL_law_853 : decode cL_law 853 = .ok (.iadd, 1) := by decide +kernel
theorem dL_law_854 : decode cL_law 854 = .ok (.iaload, 1) := by decide +kernel
theorem dL_law_855 : decode cL_law 855 = .ok (.invokevirtual 80, 3) := by decide +kernel
theorem dL_law_858 : decode cL_law 858 = .ok (.if_icmp .eq 1121, 3) := by decide +kernel
theorem dL_law_861 : decode cL_law 861 = .ok (.iconst 0, 1) := by decide +kernel
theorem dL_law_862 : decode cL_law 862 = .ok (.ireturn, 1) := by decide +kernel
theorem dL_law_863 : decode cL_law 863 = .ok (.aload_n 1, 1) := by decide +kernel
theorem dL_law_864 : decode cL_law 864 = .ok (.aload_n 0, 1) := by decide +kernel
theorem dL_law_865 : decode cL_law 865 = .ok (.iload_n 3, 1) := by decide +kernel
theorem dL_law_866 : decode cL_law 866 = .ok (.iconst 1, 1) := by decide +kernel
theorem dL_law_867 : decode cL_law 867 = .ok (.iadd, 1) := by decide +kernel
theorem dL_law_868 : decode cL_law 868 = .ok (.iaload, 1) := by decide +kernel
theorem dL_law_869 : decode cL_law 869 = .ok (.aload_n 0, 1) := by decide +kernel
theorem dL_law_870 : decode cL_law 870 = .ok (.iload_n 3, 1) := by decide +kernel
theorem dL_law_871 : decode cL_law 871 = .ok (.iconst 2, 1) := by decide +kernel
theorem dL_law_872 : decode cL_law 872 = .ok (.iadd, 1) := by decide +kernel
theorem dL_law_873 : decode cL_law 873 = .ok (.iaload, 1) := by decide +kernel
theorem dL_law_874 : decode cL_law 874 = .ok (.aload_n 0, 1) := by decide +kernel
theorem dL_law_875 : decode cL_law 875 = .ok (.iload_n 3, 1) := by decide +kernel
theorem dL_law_876 : decode cL_law 876 = .ok (.iconst 3, 1) := by decide +kernel
theorem dL_law_877 : decode cL_law 877 = .ok (.iadd, 1) := by decide +kernel
theorem dL_law_878 : decode cL_law 878 = .ok (.iaload, 1) := by decide +kernel
theorem dL_law_879 : decode cL_law 879 = .ok (.invokevirtual 81, 3) := by decide +kernel
theorem dL_law_882 : decode cL_law 882 = .ok (.aload_n 2, 1) := by decide +kernel
theorem dL_law_883 : decode cL_law 883 = .ok (.aload_n 0, 1) := by decide +kernel
theorem dL_law_884 : decode cL_law 884 = .ok (.iload_n 3, 1) := by decide +kernel
theorem dL_law_885 : decode cL_law 885 = .ok (.iconst 1, 1) := by decide +kernel
theorem dL_law_886 : decode cL_law 886 = .ok (.iadd, 1) := by decide +kernel
theorem dL_law_887 : decode cL_law 887 = .ok (.iaload, 1) := by decide +kernel
theorem dL_law_888 : decode cL_law 888 = .ok (.aload_n 0, 1) := by decide +kernel
theorem dL_law_889 : decode cL_law 889 = .ok (.iload_n 3, 1) := by decide +kernel
theorem dL_law_890 : decode cL_law 890 = .ok (.iconst 2, 1) := by decide +kernel
theorem dL_law_891 : decode cL_law 891 = .ok (.iadd, 1) := by decide +kernel
theorem dL_law_892 : decode cL_law 892 = .ok (.iaload, 1) := by decide +kernel
theorem dL_law_893 : decode cL_law 893 = .ok (.aload_n 0, 1) := by decide +kernel
theorem dL_law_894 : decode cL_law 894 = .ok (.iload_n 3, 1) := by decide +kernel
theorem dL_law_895 : decode cL_law 895 = .ok (.iconst 3, 1) := by decide +kernel
theorem dL_law_896 : decode cL_law 896 = .ok (.iadd, 1) := by decide +kernel
theorem dL_law_897 : decode cL_law 897 = .ok (.iaload, 1) := by decide +kernel
theorem dL_law_898 : decode cL_law 898 = .ok (.invokevirtual 84, 3) := by decide +kernel
theorem dL_law_901 : decode cL_law 901 = .ok (.if_icmp .eq 1078, 3) := by decide +kernel
theorem dL_law_904 : decode cL_law 904 = .ok (.iconst 0, 1) := by decide +kernel
theorem dL_law_905 : decode cL_law 905 = .ok (.ireturn, 1) := by decide +kernel
theorem dL_law_906 : decode cL_law 906 = .ok (.aload_n 1, 1) := by decide +kernel
theorem dL_law_907 : decode cL_law 907 = .ok (.aload_n 0, 1) := by decide +kernel
theorem dL_law_908 : decode cL_law 908 = .ok (.iload_n 3, 1) := by decide +kernel
theorem dL_law_909 : decode cL_law 909 = .ok (.iconst 1, 1) := by decide +kernel
theorem dL_law_910 : decode cL_law 910 = .ok (.iadd, 1) := by decide +kernel
theorem dL_law_911 : decode cL_law 911 = .ok (.iaload, 1) := by decide +kernel
theorem dL_law_912 : decode cL_law 912 = .ok (.aload_n 0, 1) := by decide +kernel
theorem dL_law_913 : decode cL_law 913 = .ok (.iload_n 3, 1) := by decide +kernel
theorem dL_law_914 : decode cL_law 914 = .ok (.iconst 2, 1) := by decide +kernel
theorem dL_law_915 : decode cL_law 915 = .ok (.iadd, 1) := by decide +kernel
theorem dL_law_916 : decode cL_law 916 = .ok (.iaload, 1) := by decide +kernel
theorem dL_law_917 : decode cL_law 917 = .ok (.aload_n 0, 1) := by decide +kernel
theorem dL_law_918 : decode cL_law 918 = .ok (.iload_n 3, 1) := by decide +kernel
theorem dL_law_919 : decode cL_law 919 = .ok (.iconst 3, 1) := by decide +kernel
theorem dL_law_920 : decode cL_law 920 = .ok (.iadd, 1) := by decide +kernel
theorem dL_law_921 : decode cL_law 921 = .ok (.iaload, 1) := by decide +kernel
theorem dL_law_922 : decode cL_law 922 = .ok (.invokevirtual 85, 3) := by decide +kernel
theorem dL_law_925 : decode cL_law 925 = .ok (.aload_n 2, 1) := by decide +kernel
theorem dL_law_926 : decode cL_law 926 = .ok (.aload_n 0, 1) := by decide +kernel
theorem dL_law_927 : decode cL_law 927 = .ok (.iload_n 3, 1) := by decide +kernel
theorem dL_law_928 : decode cL_law 928 = .ok (.iconst 1, 1) := by decide +kernel
theorem dL_law_929 : decode cL_law 929 = .ok (.iadd, 1) := by decide +kernel
theorem dL_law_930 : decode cL_law 930 = .ok (.iaload, 1) := by decide +kernel
theorem dL_law_931 : decode cL_law 931 = .ok (.aload_n 0, 1) := by decide +kernel
theorem dL_law_932 : decode cL_law 932 = .ok (.iload_n 3, 1) := by decide +kernel
theorem dL_law_933 : decode cL_law 933 = .ok (.iconst 2, 1) := by decide +kernel
theorem dL_law_934 : decode cL_law 934 = .ok (.iadd, 1) := by decide +kernel
theorem dL_law_935 : decode cL_law 935 = .ok (.iaload, 1) := by decide +kernel
theorem dL_law_936 : decode cL_law 936 = .ok (.aload_n 0, 1) := by decide +kernel
theorem dL_law_937 : decode cL_law 937 = .ok (.iload_n 3, 1) := by decide +kernel
theorem dL_law_938 : decode cL_law 938 = .ok (.iconst 3, 1) := by decide +kernel
theorem dL_law_939 : decode cL_law 939 = .ok (.iadd, 1) := by decide +kernel
theorem dL_law_940 : decode cL_law 940 = .ok (.iaload, 1) := by decide +kernel
theorem dL_law_941 : decode cL_law 941 = .ok (.invokevirtual 88, 3) := by decide +kernel
theorem dL_law_944 : decode cL_law 944 = .ok (.if_icmp .eq 1035, 3) := by decide +kernel
theorem dL_law_947 : decode cL_law 947 = .ok (.iconst 0, 1) := by decide +kernel
theorem dL_law_948 : decode cL_law 948 = .ok (.ireturn, 1) := by decide +kernel
theorem dL_law_949 : decode cL_law 949 = .ok (.aload_n 1, 1) := by decide +kernel
theorem dL_law_950 : decode cL_law 950 = .ok (.aload_n 0, 1) := by decide +kernel
theorem dL_law_951 : decode cL_law 951 = .ok (.iload_n 3, 1) := by decide +kernel
theorem dL_law_952 : decode cL_law 952 = .ok (.iconst 1, 1) := by decide +kernel
theorem dL_law_953 : decode cL_law 953 = .ok (.iadd, 1) := by decide +kernel
theorem dL_law_954 : decode cL_law 954 = .ok (.iaload, 1) := by decide +kernel
theorem dL_law_955 : decode cL_law 955 = .ok (.aload_n 0, 1) := by decide +kernel
theorem dL_law_956 : decode cL_law 956 = .ok (.iload_n 3, 1) := by decide +kernel
theorem dL_law_957 : decode cL_law 957 = .ok (.iconst 2, 1) := by decide +kernel
theorem dL_law_958 : decode cL_law 958 = .ok (.iadd, 1) := by decide +kernel
theorem dL_law_959 : decode cL_law 959 = .ok (.iaload, 1) := by decide +kernel
theorem dL_law_960 : decode cL_law 960 = .ok (.aload_n 0, 1) := by decide +kernel
theorem dL_law_961 : decode cL_law 961 = .ok (.iload_n 3, 1) := by decide +kernel
theorem dL_law_962 : decode cL_law 962 = .ok (.iconst 3, 1) := by decide +kernel
theorem dL_law_963 : decode cL_law 963 = .ok (.iadd, 1) := by decide +kernel
theorem dL_law_964 : decode cL_law 964 = .ok (.iaload, 1) := by decide +kernel
theorem dL_law_965 : decode cL_law 965 = .ok (.aload_n 0, 1) := by decide +kernel
theorem dL_law_966 : decode cL_law 966 = .ok (.iload_n 3, 1) := by decide +kernel
theorem dL_law_967 : decode cL_law 967 = .ok (.iconst 4, 1) := by decide +kernel
theorem dL_law_968 : decode cL_law 968 = .ok (.iadd, 1) := by decide +kernel
theorem dL_law_969 : decode cL_law 969 = .ok (.iaload, 1) := by decide +kernel
theorem dL_law_970 : decode cL_law 970 = .ok (.invokevirtual 89, 3) := by decide +kernel
theorem dL_law_973 : decode cL_law 973 = .ok (.aload_n 2, 1) := by decide +kernel
theorem dL_law_974 : decode cL_law 974 = .ok (.aload_n 0, 1) := by decide +kernel
theorem dL_law_975 : decode cL_law 975 = .ok (.iload_n 3, 1) := by decide +kernel
theorem dL_law_976 : decode cL_law 976 = .ok (.iconst 1, 1) := by decide +kernel
theorem dL_law_977 : decode cL_law 977 = .ok (.iadd, 1) := by decide +kernel
theorem dL_law_978 : decode cL_law 978 = .ok (.iaload, 1) := by decide +kernel
theorem dL_law_979 : decode cL_law 979 = .ok (.aload_n 0, 1) := by decide +kernel
theorem dL_law_980 : decode cL_law 980 = .ok (.iload_n 3, 1) := by decide +kernel
theorem dL_law_981 : decode cL_law 981 = .ok (.iconst 2, 1) := by decide +kernel
theorem dL_law_982 : decode cL_law 982 = .ok (.iadd, 1) := by decide +kernel
theorem dL_law_983 : decode cL_law 983 = .ok (.iaload, 1) := by decide +kernel
theorem dL_law_984 : decode cL_law 984 = .ok (.aload_n 0, 1) := by decide +kernel
theorem dL_law_985 : decode cL_law 985 = .ok (.iload_n 3, 1) := by decide +kernel
theorem dL_law_986 : decode cL_law 986 = .ok (.iconst 3, 1) := by decide +kernel
theorem dL_law_987 : decode cL_law 987 = .ok (.iadd, 1) := by decide +kernel
theorem dL_law_988 : decode cL_law 988 = .ok (.iaload, 1) := by decide +kernel
theorem dL_law_989 : decode cL_law 989 = .ok (.aload_n 0, 1) := by decide +kernel
theorem dL_law_990 : decode cL_law 990 = .ok (.iload_n 3, 1) := by decide +kernel
theorem dL_law_991 : decode cL_law 991 = .ok (.iconst 4, 1) := by decide +kernel
theorem dL_law_992 : decode cL_law 992 = .ok (.iadd, 1) := by decide +kernel
theorem dL_law_993 : decode cL_law 993 = .ok (.iaload, 1) := by decide +kernel
theorem dL_law_994 : decode cL_law 994 = .ok (.invokevirtual 92, 3) := by decide +kernel
theorem dL_law_997 : decode cL_law 997 = .ok (.if_icmp .eq 982, 3) := by decide +kernel
theorem dL_law_1000 : decode cL_law 1000 = .ok (.iconst 0, 1) := by decide +kernel
theorem dL_law_1001 : decode cL_law 1001 = .ok (.ireturn, 1) := by decide +kernel
theorem dL_law_1002 : decode cL_law 1002 = .ok (.aload_n 1, 1) := by decide +kernel
theorem dL_law_1003 : decode cL_law 1003 = .ok (.aload_n 0, 1) := by decide +kernel
theorem dL_law_1004 : decode cL_law 1004 = .ok (.iload_n 3, 1) := by decide +kernel
theorem dL_law_1005 : decode cL_law 1005 = .ok (.iconst 1, 1) := by decide +kernel
theorem dL_law_1006 : decode cL_law 1006 = .ok (.iadd, 1) := by decide +kernel
theorem dL_law_1007 : decode cL_law 1007 = .ok (.iaload, 1) := by decide +kernel
theorem dL_law_1008 : decode cL_law 1008 = .ok (.aload_n 0, 1) := by decide +kernel
theorem dL_law_1009 : decode cL_law 1009 = .ok (.iload_n 3, 1) := by decide +kernel
theorem dL_law_1010 : decode cL_law 1010 = .ok (.iconst 2, 1) := by decide +kernel
theorem dL_law_1011 : decode cL_law 1011 = .ok (.iadd, 1) := by decide +kernel
theorem dL_law_1012 : decode cL_law 1012 = .ok (.iaload, 1) := by decide +kernel
theorem dL_law_1013 : decode cL_law 1013 = .ok (.aload_n 0, 1) := by decide +kernel
theorem dL_law_1014 : decode cL_law 1014 = .ok (.iload_n 3, 1) := by decide +kernel
theorem dL_law_1015 : decode cL_law 1015 = .ok (.iconst 3, 1) := by decide +kernel
theorem dL_law_1016 : decode cL_law 1016 = .ok (.iadd, 1) := by decide +kernel
theorem dL_law_1017 : decode cL_law 1017 = .ok (.iaload, 1) := by decide +kernel
theorem dL_law_1018 : decode cL_law 1018 = .ok (.aload_n 0, 1) := by decide +kernel
theorem dL_law_1019 : decode cL_law 1019 = .ok (.iload_n 3, 1) := by decide +kernel
theorem dL_law_1020 : decode cL_law 1020 = .ok (.iconst 4, 1) := by decide +kernel
theorem dL_law_1021 : decode cL_law 1021 = .ok (.iadd, 1) := by decide +kernel
theorem dL_law_1022 : decode cL_law 1022 = .ok (.iaload, 1) := by decide +kernel
theorem dL_law_1023 : decode cL_law 1023 = .ok (.invokevirtual 93, 3) := by decide +kernel
theorem dL_law_1026 : decode cL_law 1026 = .ok (.aload_n 2, 1) := by decide +kernel
theorem dL_law_1027 : decode cL_law 1027 = .ok (.aload_n 0, 1) := by decide +kernel
theorem dL_law_1028 : decode cL_law 1028 = .ok (.iload_n 3, 1) := by decide +kernel
theorem dL_law_1029 : decode cL_law 1029 = .ok (.iconst 1, 1) := by decide +kernel
theorem dL_law_1030 : decode cL_law 1030 = .ok (.iadd, 1) := by decide +kernel
theorem dL_law_1031 : decode cL_law 1031 = .ok (.iaload, 1) := by decide +kernel
theorem dL_law_1032 : decode cL_law 1032 = .ok (.aload_n 0, 1) := by decide +kernel
theorem dL_law_1033 : decode cL_law 1033 = .ok (.iload_n 3, 1) := by decide +kernel
theorem dL_law_1034 : decode cL_law 1034 = .ok (.iconst 2, 1) := by decide +kernel
theorem dL_law_1035 : decode cL_law 1035 = .ok (.iadd, 1) := by decide +kernel
theorem dL_law_1036 : decode cL_law 1036 = .ok (.iaload, 1) := by decide +kernel
theorem dL_law_1037 : decode cL_law 1037 = .ok (.aload_n 0, 1) := by decide +kernel
theorem dL_law_1038 : decode cL_law 1038 = .ok (.iload_n 3, 1) := by decide +kernel
theorem dL_law_1039 : decode cL_law 1039 = .ok (.iconst 3, 1) := by decide +kernel
theorem dL_law_1040 : decode cL_law 1040 = .ok (.iadd, 1) := by decide +kernel
theorem dL_law_1041 : decode cL_law 1041 = .ok (.iaload, 1) := by decide +kernel
theorem dL_law_1042 : decode cL_law 1042 = .ok (.aload_n 0, 1) := by decide +kernel
theorem dL_law_1043 : decode cL_law 1043 = .ok (.iload_n 3, 1) := by decide +kernel
theorem dL_law_1044 : decode cL_law 1044 = .ok (.iconst 4, 1) := by decide +kernel
theorem dL_law_1045 : decode cL_law 1045 = .ok (.iadd, 1) := by decide +kernel
theorem dL_law_1046 : decode cL_law 1046 = .ok (.iaload, 1) := by decide +kernel
theorem dL_law_1047 : decode cL_law 1047 = .ok (.invokevirtual 96, 3) := by decide +kernel
theorem dL_law_1050 : decode cL_law 1050 = .ok (.if_icmp .eq 929, 3) := by decide +kernel
theorem dL_law_1053 : decode cL_law 1053 = .ok (.iconst 0, 1) := by decide +kernel
theorem dL_law_1054 : decode cL_law 1054 = .ok (.ireturn, 1) := by decide +kernel
theorem dL_law_1055 : decode cL_law 1055 = .ok (.aload_n 1, 1) := by decide +kernel
theorem dL_law_1056 : decode cL_law 1056 = .ok (.aload_n 0, 1) := by decide +kernel
theorem dL_law_1057 : decode cL_law 1057 = .ok (.iload_n 3, 1) := by decide +kernel
theorem dL_law_1058 : decode cL_law 1058 = .ok (.iconst 1, 1) := by decide +kernel
theorem dL_law_1059 : decode cL_law 1059 = .ok (.iadd, 1) := by decide +kernel
theorem dL_law_1060 : decode cL_law 1060 = .ok (.iaload, 1) := by decide +kernel
theorem dL_law_1061 : decode cL_law 1061 = .ok (.aload_n 0, 1) := by decide +kernel
theorem dL_law_1062 : decode cL_law 1062 = .ok (.iload_n 3, 1) := by decide +kernel
theorem dL_law_1063 : decode cL_law 1063 = .ok (.iconst 2, 1) := by decide +kernel
theorem dL_law_1064 : decode cL_law 1064 = .ok (.iadd, 1) := by decide +kernel
theorem dL_law_1065 : decode cL_law 1065 = .ok (.iaload, 1) := by decide +kernel
theorem dL_law_1066 : decode cL_law 1066 = .ok (.aload_n 0, 1) := by decide +kernel
theorem dL_law_1067 : decode cL_law 1067 = .ok (.iload_n 3, 1) := by decide +kernel
theorem dL_law_1068 : decode cL_law 1068 = .ok (.iconst 3, 1) := by decide +kernel
theorem dL_law_1069 : decode cL_law 1069 = .ok (.iadd, 1) := by decide +kernel
theorem dL_law_1070 : decode cL_law 1070 = .ok (.iaload, 1) := by decide +kernel
theorem dL_law_1071 : decode cL_law 1071 = .ok (.aload_n 0, 1) := by decide +kernel
theorem dL_law_1072 : decode cL_law 1072 = .ok (.iload_n 3, 1) := by decide +kernel
theorem dL_law_1073 : decode cL_law 1073 = .ok (.iconst 4, 1) := by decide +kernel
theorem dL_law_1074 : decode cL_law 1074 = .ok (.iadd, 1) := by decide +kernel
theorem dL_law_1075 : decode cL_law 1075 = .ok (.iaload, 1) := by decide +kernel
theorem dL_law_1076 : decode cL_law 1076 = .ok (.aload_n 0, 1) := by decide +kernel
theorem dL_law_1077 : decode cL_law 1077 = .ok (.iload_n 3, 1) := by decide +kernel
theorem dL_law_1078 : decode cL_law 1078 = .ok (.iconst 5, 1) := by decide +kernel
theorem dL_law_1079 : decode cL_law 1079 = .ok (.iadd, 1) := by decide +kernel
theorem dL_law_1080 : decode cL_law 1080 = .ok (.iaload, 1) := by decide +kernel
theorem dL_law_1081 : decode cL_law 1081 = .ok (.invokevirtual 97, 3) := by decide +kernel
theorem dL_law_1084 : decode cL_law 1084 = .ok (.aload_n 2, 1) := by decide +kernel
theorem dL_law_1085 : decode cL_law 1085 = .ok (.aload_n 0, 1) := by decide +kernel
theorem dL_law_1086 : decode cL_law 1086 = .ok (.iload_n 3, 1) := by decide +kernel
theorem dL_law_1087 : decode cL_law 1087 = .ok (.iconst 1, 1) := by decide +kernel
theorem dL_law_1088 : decode cL_law 1088 = .ok (.iadd, 1) := by decide +kernel
theorem dL_law_1089 : decode cL_law 1089 = .ok (.iaload, 1) := by decide +kernel
theorem dL_law_1090 : decode cL_law 1090 = .ok (.aload_n 0, 1) := by decide +kernel
theorem dL_law_1091 : decode cL_law 1091 = .ok (.iload_n 3, 1) := by decide +kernel
theorem dL_law_1092 : decode cL_law 1092 = .ok (.iconst 2, 1) := by decide +kernel
theorem dL_law_1093 : decode cL_law 1093 = .ok (.iadd, 1) := by decide +kernel
theorem dL_law_1094 : decode cL_law 1094 = .ok (.iaload, 1) := by decide +kernel
theorem dL_law_1095 : decode cL_law 1095 = .ok (.aload_n 0, 1) := by decide +kernel
theorem dL_law_1096 : decode cL_law 1096 = .ok (.iload_n 3, 1) := by decide +kernel
theorem dL_law_1097 : decode cL_law 1097 = .ok (.iconst 3, 1) := by decide +kernel
theorem dL_law_1098 : decode cL_law 1098 = .ok (.iadd, 1) := by decide +kernel
theorem dL_law_1099 : decode cL_law 1099 = .ok (.iaload, 1) := by decide +kernel
theorem dL_law_1100 : decode cL_law 1100 = .ok (.aload_n 0, 1) := by decide +kernel
theorem dL_law_1101 : decode cL_law 1101 = .ok (.iload_n 3, 1) := by decide +kernel
theorem dL_law_1102 : decode cL_law 1102 = .ok (.iconst 4, 1) := by decide +kernel
theorem dL_law_1103 : decode cL_law 1103 = .ok (.iadd, 1) := by decide +kernel
theorem dL_law_1104 : decode cL_law 1104 = .ok (.iaload, 1) := by decide +kernel
theorem dL_law_1105 : decode cL_law 1105 = .ok (.aload_n 0, 1) := by decide +kernel
theorem dL_law_1106 : decode cL_law 1106 = .ok (.iload_n 3, 1) := by decide +kernel
theorem dL_law_1107 : decode cL_law 1107 = .ok (.iconst 5, 1) := by decide +kernel
theorem dL_law_1108 : decode cL_law 1108 = .ok (.iadd, 1) := by decide +kernel
theorem dL_law_1109 : decode cL_law 1109 = .ok (.iaload, 1) := by decide +kernel
theorem dL_law_1110 : decode cL_law 1110 = .ok (.invokevirtual 100, 3) := by decide +kernel
theorem dL_law_1113 : decode cL_law 1113 = .ok (.if_icmp .eq 866, 3) := by decide +kernel
theorem dL_law_1116 : decode cL_law 1116 = .ok (.iconst 0, 1) := by decide +kernel
theorem dL_law_1117 : decode cL_law 1117 = .ok (.ireturn, 1) := by decide +kernel
theorem dL_law_1118 : decode cL_law 1118 = .ok (.aload_n 1, 1) := by decide +kernel
theorem dL_law_1119 : decode cL_law 1119 = .ok (.aload_n 0, 1) := by decide +kernel
theorem dL_law_1120 : decode cL_law 1120 = .ok (.iload_n 3, 1) := by decide +kernel
theorem dL_law_1121 : decode cL_law 1121 = .ok (.iconst 1, 1) := by decide +kernel
theorem dL_law_1122 : decode cL_law 1122 = .ok (.iadd, 1) := by decide +kernel
theorem dL_law_1123 : decode cL_law 1123 = .ok (.iaload, 1) := by decide +kernel
theorem dL_law_1124 : decode cL_law 1124 = .ok (.aload_n 0, 1) := by decide +kernel
theorem dL_law_1125 : decode cL_law 1125 = .ok (.iload_n 3, 1) := by decide +kernel
theorem dL_law_1126 : decode cL_law 1126 = .ok (.iconst 2, 1) := by decide +kernel
theorem dL_law_1127 : decode cL_law 1127 = .ok (.iadd, 1) := by decide +kernel
theorem dL_law_1128 : decode cL_law 1128 = .ok (.iaload, 1) := by decide +kernel
theorem dL_law_1129 : decode cL_law 1129 = .ok (.aload_n 0, 1) := by decide +kernel
theorem dL_law_1130 : decode cL_law 1130 = .ok (.iload_n 3, 1) := by decide +kernel
theorem dL_law_1131 : decode cL_law 1131 = .ok (.iconst 3, 1) := by decide +kernel
theorem dL_law_1132 : decode cL_law 1132 = .ok (.iadd, 1) := by decide +kernel
theorem dL_law_1133 : decode cL_law 1133 = .ok (.iaload, 1) := by decide +kernel
theorem dL_law_1134 : decode cL_law 1134 = .ok (.aload_n 0, 1) := by decide +kernel
theorem dL_law_1135 : decode cL_law 1135 = .ok (.iload_n 3, 1) := by decide +kernel
theorem dL_law_1136 : decode cL_law 1136 = .ok (.iconst 4, 1) := by decide +kernel
theorem dL_law_1137 : decode cL_law 1137 = .ok (.iadd, 1) := by decide +kernel
theorem dL_law_1138 : decode cL_law 1138 = .ok (.iaload, 1) := by decide +kernel
theorem dL_law_1139 : decode cL_law 1139 = .ok (.invokevirtual 101, 3) := by decide +kernel
theorem dL_law_1142 : decode cL_law 1142 = .ok (.aload_n 2, 1) := by decide +kernel
theorem dL_law_1143 : decode cL_law 1143 = .ok (.aload_n 0, 1) := by decide +kernel
theorem dL_law_1144 : decode cL_law 1144 = .ok (.iload_n 3, 1) := by decide +kernel
theorem dL_law_1145 : decode cL_law 1145 = .ok (.iconst 1, 1) := by decide +kernel
theorem dL_law_1146 : decode cL_law 1146 = .ok (.iadd, 1) := by decide +kernel
theorem dL_law_1147 : decode cL_law 1147 = .ok (.iaload, 1) := by decide +kernel
theorem dL_law_1148 : decode cL_law 1148 = .ok (.aload_n 0, 1) := by decide +kernel
theorem dL_law_1149 : decode cL_law 1149 = .ok (.iload_n 3, 1) := by decide +kernel
theorem dL_law_1150 : decode cL_law 1150 = .ok (.iconst 2, 1) := by decide +kernel
theorem dL_law_1151 : decode cL_law 1151 = .ok (.iadd, 1) := by decide +kernel
theorem dL_law_1152 : decode cL_law 1152 = .ok (.iaload, 1) := by decide +kernel
theorem dL_law_1153 : decode cL_law 1153 = .ok (.aload_n 0, 1) := by decide +kernel
theorem dL_law_1154 : decode cL_law 1154 = .ok (.iload_n 3, 1) := by decide +kernel
theorem dL_law_1155 : decode cL_law 1155 = .ok (.iconst 3, 1) := by decide +kernel
theorem dL_law_1156 : decode cL_law 1156 = .ok (.iadd, 1) := by decide +kernel
theorem dL_law_1157 : decode cL_law 1157 = .ok (.iaload, 1) := by decide +kernel
theorem dL_law_1158 : decode cL_law 1158 = .ok (.aload_n 0, 1) := by decide +kernel
theorem dL_law_1159 : decode cL_law 1159 = .ok (.iload_n 3, 1) := by decide +kernel
theorem dL_law_1160 : decode cL_law 1160 = .ok (.iconst 4, 1) := by decide +kernel
theorem dL_law_1161 : decode cL_law 1161 = .ok (.iadd, 1) := by decide +kernel
theorem dL_law_1162 : decode cL_law 1162 = .ok (.iaload, 1) := by decide +kernel
theorem dL_law_1163 : decode cL_law 1163 = .ok (.invokevirtual 104, 3) := by decide +kernel
theorem dL_law_1166 : decode cL_law 1166 = .ok (.if_icmp .eq 813, 3) := by decide +kernel
theorem dL_law_1169 : decode cL_law 1169 = .ok (.iconst 0, 1) := by decide +kernel
theorem dL_law_1170 : decode cL_law 1170 = .ok (.ireturn, 1) := by decide +kernel
theorem dL_law_1171 : decode cL_law 1171 = .ok (.aload_n 1, 1) := by decide +kernel
theorem dL_law_1172 : decode cL_law 1172 = .ok (.aload_n 0, 1) := by decide +kernel
theorem dL_law_1173 : decode cL_law 1173 = .ok (.iload_n 3, 1) := by decide +kernel
theorem dL_law_1174 : decode cL_law 1174 = .ok (.iconst 1, 1) := by decide +kernel
theorem dL_law_1175 : decode cL_law 1175 = .ok (.iadd, 1) := by decide +kernel
theorem dL_law_1176 : decode cL_law 1176 = .ok (.iaload, 1) := by decide +kernel
theorem dL_law_1177 : decode cL_law 1177 = .ok (.aload_n 0, 1) := by decide +kernel
theorem dL_law_1178 : decode cL_law 1178 = .ok (.iload_n 3, 1) := by decide +kernel
theorem dL_law_1179 : decode cL_law 1179 = .ok (.iconst 2, 1) := by decide +kernel
theorem dL_law_1180 : decode cL_law 1180 = .ok (.iadd, 1) := by decide +kernel
theorem dL_law_1181 : decode cL_law 1181 = .ok (.iaload, 1) := by decide +kernel
theorem dL_law_1182 : decode cL_law 1182 = .ok (.aload_n 0, 1) := by decide +kernel
theorem dL_law_1183 : decode cL_law 1183 = .ok (.iload_n 3, 1) := by decide +kernel
theorem dL_law_1184 : decode cL_law 1184 = .ok (.iconst 3, 1) := by decide +kernel
theorem dL_law_1185 : decode cL_law 1185 = .ok (.iadd, 1) := by decide +kernel
theorem dL_law_1186 : decode cL_law 1186 = .ok (.iaload, 1) := by decide +kernel
theorem dL_law_1187 : decode cL_law 1187 = .ok (.invokevirtual 105, 3) := by decide +kernel
theorem dL_law_1190 : decode cL_law 1190 = .ok (.aload_n 2, 1) := by decide +kernel
theorem dL_law_1191 : decode cL_law 1191 = .ok (.aload_n 0, 1) := by decide +kernel
theorem dL_law_1192 : decode cL_law 1192 = .ok (.iload_n 3, 1) := by decide +kernel
theorem dL_law_1193 : decode cL_law 1193 = .ok (.iconst 1, 1) := by decide +kernel
theorem dL_law_1194 : decode cL_law 1194 = .ok (.iadd, 1) := by decide +kernel
theorem dL_law_1195 : decode cL_law 1195 = .ok (.iaload, 1) := by decide +kernel
theorem dL_law_1196 : decode cL_law 1196 = .ok (.aload_n 0, 1) := by decide +kernel
theorem dL_law_1197 : decode cL_law 1197 = .ok (.iload_n 3, 1) := by decide +kernel
theorem dL_law_1198 : decode cL_law 1198 = .ok (.iconst 2, 1) := by decide +kernel
theorem dL_law_1199 : decode cL_law 1199 = .ok (.iadd, 1) := by decide +kernel
theorem dL_law_1200 : decode cL_law 1200 = .ok (.iaload, 1) := by decide +kernel
theorem dL_law_1201 : decode cL_law 1201 = .ok (.aload_n 0, 1) := by decide +kernel
theorem dL_law_1202 : decode cL_law 1202 = .ok (.iload_n 3, 1) := by decide +kernel
theorem dL_law_1203 : decode cL_law 1203 = .ok (.iconst 3, 1) := by decide +kernel
theorem dL_law_1204 : decode cL_law 1204 = .ok (.iadd, 1) := by decide +kernel
theorem dL_law_1205 : decode cL_law 1205 = .ok (.iaload, 1) := by decide +kernel
theorem dL_law_1206 : decode cL_law 1206 = .ok (.invokevirtual 108, 3) := by decide +kernel
theorem dL_law_1209 : decode cL_law 1209 = .ok (.if_icmp .eq 770, 3) := by decide +kernel
theorem dL_law_1212 : decode cL_law 1212 = .ok (.iconst 0, 1) := by decide +kernel
theorem dL_law_1213 : decode cL_law 1213 = .ok (.ireturn, 1) := by decide +kernel
theorem dL_law_1214 : decode cL_law 1214 = .ok (.aload_n 1, 1) := by decide +kernel
theorem dL_law_1215 : decode cL_law 1215 = .ok (.aload_n 0, 1) := by decide +kernel
theorem dL_law_1216 : decode cL_law 1216 = .ok (.iload_n 3, 1) := by decide +kernel
theorem dL_law_1217 : decode cL_law 1217 = .ok (.iconst 1, 1) := by decide +kernel
theorem dL_law_1218 : decode cL_law 1218 = .ok (.iadd, 1) := by decide +kernel
theorem dL_law_1219 : decode cL_law 1219 = .ok (.iaload, 1) := by decide +kernel
theorem dL_law_1220 : decode cL_law 1220 = .ok (.aload_n 0, 1) := by decide +kernel
theorem dL_law_1221 : decode cL_law 1221 = .ok (.iload_n 3, 1) := by decide +kernel
theorem dL_law_1222 : decode cL_law 1222 = .ok (.iconst 2, 1) := by decide +kernel
theorem dL_law_1223 : decode cL_law 1223 = .ok (.iadd, 1) := by decide +kernel
theorem dL_law_1224 : decode cL_law 1224 = .ok (.iaload, 1) := by decide +kernel
theorem dL_law_1225 : decode cL_law 1225 = .ok (.aload_n 0, 1) := by decide +kernel
theorem dL_law_1226 : decode cL_law 1226 = .ok (.iload_n 3, 1) := by decide +kernel
theorem dL_law_1227 : decode cL_law 1227 = .ok (.iconst 3, 1) := by decide +kernel
theorem dL_law_1228 : decode cL_law 1228 = .ok (.iadd, 1) := by decide +kernel
theorem dL_law_1229 : decode cL_law 1229 = .ok (.iaload, 1) := by decide +kernel
theorem dL_law_1230 : decode cL_law 1230 = .ok (.invokevirtual 109, 3) := by decide +kernel
theorem dL_law_1233 : decode cL_law 1233 = .ok (.aload_n 2, 1) := by decide +kernel
theorem dL_law_1234 : decode cL_law 1234 = .ok (.aload_n 0, 1) := by decide +kernel
theorem dL_law_1235 : decode cL_law 1235 = .ok (.iload_n 3, 1) := by decide +kernel
theorem dL_law_1236 : decode cL_law 1236 = .ok (.iconst 1, 1) := by decide +kernel
theorem dL_law_1237 : decode cL_law 1237 = .ok (.iadd, 1) := by decide +kernel
theorem dL_law_1238 : decode cL_law 1238 = .ok (.iaload, 1) := by decide +kernel
theorem dL_law_1239 : decode cL_law 1239 = .ok (.aload_n 0, 1) := by decide +kernel
theorem dL_law_1240 : decode cL_law 1240 = .ok (.iload_n 3, 1) := by decide +kernel
theorem dL_law_1241 : decode cL_law 1241 = .ok (.iconst 2, 1) := by decide +kernel
theorem dL_law_1242 : decode cL_law 1242 = .ok (.iadd, 1) := by decide +kernel
theorem dL_law_1243 : decode cL_law 1243 = .ok (.iaload, 1) := by decide +kernel
theorem dL_law_1244 : decode cL_law 1244 = .ok (.aload_n 0, 1) := by decide +kernel
theorem dL_law_1245 : decode cL_law 1245 = .ok (.iload_n 3, 1) := by decide +kernel
theorem dL_law_1246 : decode cL_law 1246 = .ok (.iconst 3, 1) := by decide +kernel
theorem dL_law_1247 : decode cL_law 1247 = .ok (.iadd, 1) := by decide +kernel
theorem dL_law_1248 : decode cL_law 1248 = .ok (.iaload, 1) := by decide +kernel
theorem dL_law_1249 : decode cL_law 1249 = .ok (.invokevirtual 112, 3) := by decide +kernel
theorem dL_law_1252 : decode cL_law 1252 = .ok (.if_icmp .eq 727, 3) := by decide +kernel
theorem dL_law_1255 : decode cL_law 1255 = .ok (.iconst 0, 1) := by decide +kernel
theorem dL_law_1256 : decode cL_law 1256 = .ok (.ireturn, 1) := by decide +kernel
theorem dL_law_1257 : decode cL_law 1257 = .ok (.aload_n 1, 1) := by decide +kernel
theorem dL_law_1258 : decode cL_law 1258 = .ok (.aload_n 0, 1) := by decide +kernel
theorem dL_law_1259 : decode cL_law 1259 = .ok (.iload_n 3, 1) := by decide +kernel
theorem dL_law_1260 : decode cL_law 1260 = .ok (.iconst 1, 1) := by decide +kernel
theorem dL_law_1261 : decode cL_law 1261 = .ok (.iadd, 1) := by decide +kernel
theorem dL_law_1262 : decode cL_law 1262 = .ok (.iaload, 1) := by decide +kernel
theorem dL_law_1263 : decode cL_law 1263 = .ok (.aload_n 0, 1) := by decide +kernel
theorem dL_law_1264 : decode cL_law 1264 = .ok (.iload_n 3, 1) := by decide +kernel
theorem dL_law_1265 : decode cL_law 1265 = .ok (.iconst 2, 1) := by decide +kernel
theorem dL_law_1266 : decode cL_law 1266 = .ok (.iadd, 1) := by decide +kernel
theorem dL_law_1267 : decode cL_law 1267 = .ok (.iaload, 1) := by decide +kernel
theorem dL_law_1268 : decode cL_law 1268 = .ok (.aload_n 0, 1) := by decide +kernel
theorem dL_law_1269 : decode cL_law 1269 = .ok (.iload_n 3, 1) := by decide +kernel
theorem dL_law_1270 : decode cL_law 1270 = .ok (.iconst 3, 1) := by decide +kernel
theorem dL_law_1271 : decode cL_law 1271 = .ok (.iadd, 1) := by decide +kernel
theorem dL_law_1272 : decode cL_law 1272 = .ok (.iaload, 1) := by decide +kernel
theorem dL_law_1273 : decode cL_law 1273 = .ok (.aload_n 0, 1) := by decide +kernel
theorem dL_law_1274 : decode cL_law 1274 = .ok (.iload_n 3, 1) := by decide +kernel
theorem dL_law_1275 : decode cL_law 1275 = .ok (.iconst 4, 1) := by decide +kernel
theorem dL_law_1276 : decode cL_law 1276 = .ok (.iadd, 1) := by decide +kernel
theorem dL_law_1277 : decode cL_law 1277 = .ok (.iaload, 1) := by decide +kernel
theorem dL_law_1278 : decode cL_law 1278 = .ok (.invokevirtual 113, 3) := by decide +kernel
theorem dL_law_1281 : decode cL_law 1281 = .ok (.aload_n 2, 1) := by decide +kernel
theorem dL_law_1282 : decode cL_law 1282 = .ok (.aload_n 0, 1) := by decide +kernel
theorem dL_law_1283 : decode cL_law 1283 = .ok (.iload_n 3, 1) := by decide +kernel
theorem dL_law_1284 : decode cL_law 1284 = .ok (.iconst 1, 1) := by decide +kernel
theorem dL_law_1285 : decode cL_law 1285 = .ok (.iadd, 1) := by decide +kernel
theorem dL_law_1286 : decode cL_law 1286 = .ok (.iaload, 1) := by decide +kernel
theorem dL_law_1287 : decode cL_law 1287 = .ok (.aload_n 0, 1) := by decide +kernel
theorem dL_law_1288 : decode cL_law 1288 = .ok (.iload_n 3, 1) := by decide +kernel
theorem dL_law_1289 : decode cL_law 1289 = .ok (.iconst 2, 1) := by decide +kernel
theorem dL_law_1290 : decode cL_law 1290 = .ok (.iadd, 1) := by decide +kernel
theorem dL_law_1291 : decode cL_law 1291 = .ok (.iaload, 1) := by decide +kernel
theorem dL_law_1292 : decode cL_law 1292 = .ok (.aload_n 0, 1) := by decide +kernel
theorem dL_law_1293 : decode cL_law 1293 = .ok (.iload_n 3, 1) := by decide +kernel
theorem dL_law_1294 : decode cL_law 1294 = .ok (.iconst 3, 1) := by decide +kernel
theorem dL_law_1295 : decode cL_law 1295 = .ok (.iadd, 1) := by decide +kernel
theorem dL_law_1296 : decode cL_law 1296 = .ok (.iaload, 1) := by decide +kernel
theorem dL_law_1297 : decode cL_law 1297 = .ok (.aload_n 0, 1) := by decide +kernel
theorem dL_law_1298 : decode cL_law 1298 = .ok (.iload_n 3, 1) := by decide +kernel
theorem dL_law_1299 : decode cL_law 1299 = .ok (.iconst 4, 1) := by decide +kernel
theorem dL_law_1300 : decode cL_law 1300 = .ok (.iadd, 1) := by decide +kernel
theorem dL_law_1301 : decode cL_law 1301 = .ok (.iaload, 1) := by decide +kernel
theorem dL_law_1302 : decode cL_law 1302 = .ok (.invokevirtual 116, 3) := by decide +kernel
theorem dL_law_1305 : decode cL_law 1305 = .ok (.if_icmp .eq 674, 3) := by decide +kernel
theorem dL_law_1308 : decode cL_law 1308 = .ok (.iconst 0, 1) := by decide +kernel
theorem dL_law_1309 : decode cL_law 1309 = .ok (.ireturn, 1) := by decide +kernel
theorem dL_law_1310 : decode cL_law 1310 = .ok (.aload_n 1, 1) := by decide +kernel
theorem dL_law_1311 : decode cL_law 1311 = .ok (.aload_n 0, 1) := by decide +kernel
theorem dL_law_1312 : decode cL_law 1312 = .ok (.iload_n 3, 1) := by decide +kernel
theorem dL_law_1313 : decode cL_law 1313 = .ok (.iconst 1, 1) := by decide +kernel
theorem dL_law_1314 : decode cL_law 1314 = .ok (.iadd, 1) := by decide +kernel
theorem dL_law_1315 : decode cL_law 1315 = .ok (.iaload, 1) := by decide +kernel
theorem dL_law_1316 : decode cL_law 1316 = .ok (.aload_n 0, 1) := by decide +kernel
theorem dL_law_1317 : decode cL_law 1317 = .ok (.iload_n 3, 1) := by decide +kernel
theorem dL_law_1318 : decode cL_law 1318 = .ok (.iconst 2, 1) := by decide +kernel
theorem dL_law_1319 : decode cL_law 1319 = .ok (.iadd, 1) := by decide +kernel
theorem dL_law_1320 : decode cL_law 1320 = .ok (.iaload, 1) := by decide +kernel
theorem dL_law_1321 : decode cL_law 1321 = .ok (.aload_n 0, 1) := by decide +kernel
theorem dL_law_1322 : decode cL_law 1322 = .ok (.iload_n 3, 1) := by decide +kernel
theorem dL_law_1323 : decode cL_law 1323 = .ok (.iconst 3, 1) := by decide +kernel
theorem dL_law_1324 : decode cL_law 1324 = .ok (.iadd, 1) := by decide +kernel
theorem dL_law_1325 : decode cL_law 1325 = .ok (.iaload, 1) := by decide +kernel
theorem dL_law_1326 : decode cL_law 1326 = .ok (.invokevirtual 117, 3) := by decide +kernel
theorem dL_law_1329 : decode cL_law 1329 = .ok (.aload_n 2, 1) := by decide +kernel
theorem dL_law_1330 : decode cL_law 1330 = .ok (.aload_n 0, 1) := by decide +kernel
theorem dL_law_1331 : decode cL_law 1331 = .ok (.iload_n 3, 1) := by decide +kernel
theorem dL_law_1332 : decode cL_law 1332 = .ok (.iconst 1, 1) := by decide +kernel
theorem dL_law_1333 : decode cL_law 1333 = .ok (.iadd, 1) := by decide +kernel
theorem dL_law_1334 : decode cL_law 1334 = .ok (.iaload, 1) := by decide +kernel
theorem dL_law_1335 : decode cL_law 1335 = .ok (.aload_n 0, 1) := by decide +kernel
theorem dL_law_1336 : decode cL_law 1336 = .ok (.iload_n 3, 1) := by decide +kernel
theorem dL_law_1337 : decode cL_law 1337 = .ok (.iconst 2, 1) := by decide +kernel
theorem dL_law_1338 : decode cL_law 1338 = .ok (.iadd, 1) := by decide +kernel
theorem dL_law_1339 : decode cL_law 1339 = .ok (.iaload, 1) := by decide +kernel
theorem dL_law_1340 : decode cL_law 1340 = .ok (.aload_n 0, 1) := by decide +kernel
theorem dL_law_1341 : decode cL_law 1341 = .ok (.iload_n 3, 1) := by decide +kernel
theorem dL_law_1342 : decode cL_law 1342 = .ok (.iconst 3, 1) := by decide +kernel
theorem dL_law_1343 : decode cL_law 1343 = .ok (.iadd, 1) := by decide +kernel
theorem dL_law_1344 : decode cL_law 1344 = .ok (.iaload, 1) := by decide +kernel
theorem dL_law_1345 : decode cL_law 1345 = .ok (.invokevirtual 120, 3) := by decide +kernel
theorem dL_law_1348 : decode cL_law 1348 = .ok (.if_icmp .eq 631, 3) := by decide +kernel
theorem dL_law_1351 : decode cL_law 1351 = .ok (.iconst 0, 1) := by decide +kernel
theorem dL_law_1352 : decode cL_law 1352 = .ok (.ireturn, 1) := by decide +kernel
theorem dL_law_1353 : decode cL_law 1353 = .ok (.aload_n 1, 1) := by decide +kernel
theorem dL_law_1354 : decode cL_law 1354 = .ok (.aload_n 0, 1) := by decide +kernel
theorem dL_law_1355 : decode cL_law 1355 = .ok (.iload_n 3, 1) := by decide +kernel
theorem dL_law_1356 : decode cL_law 1356 = .ok (.iconst 1, 1) := by decide +kernel
theorem dL_law_1357 : decode cL_law 1357 = .ok (.iadd, 1) := by decide +kernel
theorem dL_law_1358 : decode cL_law 1358 = .ok (.iaload, 1) := by decide +kernel
theorem dL_law_1359 : decode cL_law 1359 = .ok (.aload_n 0, 1) := by decide +kernel
theorem dL_law_1360 : decode cL_law 1360 = .ok (.iload_n 3, 1) := by decide +kernel
theorem dL_law_1361 : decode cL_law 1361 = .ok (.iconst 2, 1) := by decide +kernel
theorem dL_law_1362 : decode cL_law 1362 = .ok (.iadd, 1) := by decide +kernel
theorem dL_law_1363 : decode cL_law 1363 = .ok (.iaload, 1) := by decide +kernel
theorem dL_law_1364 : decode cL_law 1364 = .ok (.aload_n 0, 1) := by decide +kernel
theorem dL_law_1365 : decode cL_law 1365 = .ok (.iload_n 3, 1) := by decide +kernel
theorem dL_law_1366 : decode cL_law 1366 = .ok (.iconst 3, 1) := by decide +kernel
theorem dL_law_1367 : decode cL_law 1367 = .ok (.iadd, 1) := by decide +kernel
theorem dL_law_1368 : decode cL_law 1368 = .ok (.iaload, 1) := by decide +kernel
theorem dL_law_1369 : decode cL_law 1369 = .ok (.invokevirtual 121, 3) := by decide +kernel
theorem dL_law_1372 : decode cL_law 1372 = .ok (.aload_n 2, 1) := by decide +kernel
theorem dL_law_1373 : decode cL_law 1373 = .ok (.aload_n 0, 1) := by decide +kernel
theorem dL_law_1374 : decode cL_law 1374 = .ok (.iload_n 3, 1) := by decide +kernel
theorem dL_law_1375 : decode cL_law 1375 = .ok (.iconst 1, 1) := by decide +kernel
theorem dL_law_1376 : decode cL_law 1376 = .ok (.iadd, 1) := by decide +kernel
theorem dL_law_1377 : decode cL_law 1377 = .ok (.iaload, 1) := by decide +kernel
theorem dL_law_1378 : decode cL_law 1378 = .ok (.aload_n 0, 1) := by decide +kernel
theorem dL_law_1379 : decode cL_law 1379 = .ok (.iload_n 3, 1) := by decide +kernel
theorem dL_law_1380 : decode cL_law 1380 = .ok (.iconst 2, 1) := by decide +kernel
theorem dL_law_1381 : decode cL_law 1381 = .ok (.iadd, 1) := by decide +kernel
theorem dL_law_1382 : decode cL_law 1382 = .ok (.iaload, 1) := by decide +kernel
theorem dL_law_1383 : decode cL_law 1383 = .ok (.aload_n 0, 1) := by decide +kernel
theorem dL_law_1384 : decode cL_law 1384 = .ok (.iload_n 3, 1) := by decide +kernel
theorem dL_law_1385 : decode cL_law 1385 = .ok (.iconst 3, 1) := by decide +kernel
theorem dL_law_1386 : decode cL_law 1386 = .ok (.iadd, 1) := by decide +kernel
theorem dL_law_1387 : decode cL_law 1387 = .ok (.iaload, 1) := by decide +kernel
theorem dL_law_1388 : decode cL_law 1388 = .ok (.invokevirtual 124, 3) := by decide +kernel
theorem dL_law_1391 : decode cL_law 1391 = .ok (.if_icmp .eq 588, 3) := by decide +kernel
theorem dL_law_1394 : decode cL_law 1394 = .ok (.iconst 0, 1) := by decide +kernel
theorem dL_law_1395 : decode cL_law 1395 = .ok (.ireturn, 1) := by decide +kernel
theorem dL_law_1396 : decode cL_law 1396 = .ok (.aload_n 1, 1) := by decide +kernel
theorem dL_law_1397 : decode cL_law 1397 = .ok (.aload_n 0, 1) := by decide +kernel
theorem dL_law_1398 : decode cL_law 1398 = .ok (.iload_n 3, 1) := by decide +kernel
theorem dL_law_1399 : decode cL_law 1399 = .ok (.iconst 1, 1) := by decide +kernel
theorem dL_law_1400 : decode cL_law 1400 = .ok (.iadd, 1) := by decide +kernel
theorem dL_law_1401 : decode cL_law 1401 = .ok (.iaload, 1) := by decide +kernel
theorem dL_law_1402 : decode cL_law 1402 = .ok (.aload_n 0, 1) := by decide +kernel
theorem dL_law_1403 : decode cL_law 1403 = .ok (.iload_n 3, 1) := by decide +kernel
theorem dL_law_1404 : decode cL_law 1404 = .ok (.iconst 2, 1) := by decide +kernel
theorem dL_law_1405 : decode cL_law 1405 = .ok (.iadd, 1) := by decide +kernel
theorem dL_law_1406 : decode cL_law 1406 = .ok (.iaload, 1) := by decide +kernel
theorem dL_law_1407 : decode cL_law 1407 = .ok (.invokevirtual 125, 3) := by decide +kernel
theorem dL_law_1410 : decode cL_law 1410 = .ok (.aload_n 2, 1) := by decide +kernel
theorem dL_law_1411 : decode cL_law 1411 = .ok (.aload_n 0, 1) := by decide +kernel
theorem dL_law_1412 : decode cL_law 1412 = .ok (.iload_n 3, 1) := by decide +kernel
theorem dL_law_1413 : decode cL_law 1413 = .ok (.iconst 1, 1) := by decide +kernel
theorem dL_law_1414 : decode cL_law 1414 = .ok (.iadd, 1) := by decide +kernel
theorem dL_law_1415 : decode cL_law 1415 = .ok (.iaload, 1) := by decide +kernel
theorem dL_law_1416 : decode cL_law 1416 = .ok (.aload_n 0, 1) := by decide +kernel
theorem dL_law_1417 : decode cL_law 1417 = .ok (.iload_n 3, 1) := by decide +kernel
theorem dL_law_1418 : decode cL_law 1418 = .ok (.iconst 2, 1) := by decide +kernel
theorem dL_law_1419 : decode cL_law 1419 = .ok (.iadd, 1) := by decide +kernel
theorem dL_law_1420 : decode cL_law 1420 = .ok (.iaload, 1) := by decide +kernel
theorem dL_law_1421 : decode cL_law 1421 = .ok (.invokevirtual 128, 3) := by decide +kernel
theorem dL_law_1424 : decode cL_law 1424 = .ok (.if_icmp .eq 555, 3) := by decide +kernel
theorem dL_law_1427 : decode cL_law 1427 = .ok (.iconst 0, 1) := by decide +kernel
theorem dL_law_1428 : decode cL_law 1428 = .ok (.ireturn, 1) := by decide +kernel
theorem dL_law_1429 : decode cL_law 1429 = .ok (.aload_n 1, 1) := by decide +kernel
theorem dL_law_1430 : decode cL_law 1430 = .ok (.aload_n 0, 1) := by decide +kernel
theorem dL_law_1431 : decode cL_law 1431 = .ok (.iload_n 3, 1) := by decide +kernel
theorem dL_law_1432 : decode cL_law 1432 = .ok (.iconst 1, 1) := by decide +kernel
theorem dL_law_1433 : decode cL_law 1433 = .ok (.iadd, 1) := by decide +kernel
theorem dL_law_1434 : decode cL_law 1434 = .ok (.iaload, 1) := by decide +kernel
theorem dL_law_1435 : decode cL_law 1435 = .ok (.aload_n 0, 1) := by decide +kernel
theorem dL_law_1436 : decode cL_law 1436 = .ok (.iload_n 3, 1) := by decide +kernel
theorem dL_law_1437 : decode cL_law 1437 = .ok (.iconst 2, 1) := by decide +kernel
theorem dL_law_1438 : decode cL_law 1438 = .ok (.iadd, 1) := by decide +kernel
theorem dL_law_1439 : decode cL_law 1439 = .ok (.iaload, 1) := by decide +kernel
theorem dL_law_1440 : decode cL_law 1440 = .ok (.invokevirtual 129, 3) := by decide +kernel
theorem dL_law_1443 : decode cL_law 1443 = .ok (.aload_n 2, 1) := by decide +kernel
theorem dL_law_1444 : decode cL_law 1444 = .ok (.aload_n 0, 1) := by decide +kernel
theorem dL_law_1445 : decode cL_law 1445 = .ok (.iload_n 3, 1) := by decide +kernel
theorem dL_law_1446 : decode cL_law 1446 = .ok (.iconst 1, 1) := by decide +kernel
theorem dL_law_1447 : decode cL_law 1447 = .ok (.iadd, 1) := by decide +kernel
theorem dL_law_1448 : decode cL_law 1448 = .ok (.iaload, 1) := by decide +kernel
theorem dL_law_1449 : decode cL_law 1449 = .ok (.aload_n 0, 1) := by decide +kernel
theorem dL_law_1450 : decode cL_law 1450 = .ok (.iload_n 3, 1) := by decide +kernel
theorem dL_law_1451 : decode cL_law 1451 = .ok (.iconst 2, 1) := by decide +kernel
theorem dL_law_1452 : decode cL_law 1452 = .ok (.iadd, 1) := by decide +kernel
theorem dL_law_1453 : decode cL_law 1453 = .ok (.iaload, 1) := by decide +kernel
theorem dL_law_1454 : decode cL_law 1454 = .ok (.invokevirtual 132, 3) := by decide +kernel
theorem dL_law_1457 : decode cL_law 1457 = .ok (.if_icmp .eq 522, 3) := by decide +kernel
theorem dL_law_1460 : decode cL_law 1460 = .ok (.iconst 0, 1) := by decide +kernel
theorem dL_law_1461 : decode cL_law 1461 = .ok (.ireturn, 1) := by decide +kernel
theorem dL_law_1462 : decode cL_law 1462 = .ok (.aload_n 1, 1) := by decide +kernel
theorem dL_law_1463 : decode cL_law 1463 = .ok (.aload_n 0, 1) := by decide +kernel
theorem dL_law_1464 : decode cL_law 1464 = .ok (.iload_n 3, 1) := by decide +kernel
theorem dL_law_1465 : decode cL_law 1465 = .ok (.iconst 1, 1) := by decide +kernel
theorem dL_law_1466 : decode cL_law 1466 = .ok (.iadd, 1) := by decide +kernel
theorem dL_law_1467 : decode cL_law 1467 = .ok (.iaload, 1) := by decide +kernel
theorem dL_law_1468 : decode cL_law 1468 = .ok (.aload_n 0, 1) := by decide +kernel
theorem dL_law_1469 : decode cL_law 1469 = .ok (.iload_n 3, 1) := by decide +kernel
theorem dL_law_1470 : decode cL_law 1470 = .ok (.iconst 2, 1) := by decide +kernel
theorem dL_law_1471 : decode cL_law 1471 = .ok (.iadd, 1) := by decide +kernel
theorem dL_law_1472 : decode cL_law 1472 = .ok (.iaload, 1) := by decide +kernel
theorem dL_law_1473 : decode cL_law 1473 = .ok (.aload_n 0, 1) := by decide +kernel
theorem dL_law_1474 : decode cL_law 1474 = .ok (.iload_n 3, 1) := by decide +kernel
theorem dL_law_1475 : decode cL_law 1475 = .ok (.iconst 3, 1) := by decide +kernel
theorem dL_law_1476 : decode cL_law 1476 = .ok (.iadd, 1) := by decide +kernel
theorem dL_law_1477 : decode cL_law 1477 = .ok (.iaload, 1) := by decide +kernel
theorem dL_law_1478 : decode cL_law 1478 = .ok (.invokevirtual 133, 3) := by decide +kernel
theorem dL_law_1481 : decode cL_law 1481 = .ok (.aload_n 2, 1) := by decide +kernel
theorem dL_law_1482 : decode cL_law 1482 = .ok (.aload_n 0, 1) := by decide +kernel
theorem dL_law_1483 : decode cL_law 1483 = .ok (.iload_n 3, 1) := by decide +kernel
theorem dL_law_1484 : decode cL_law 1484 = .ok (.iconst 1, 1) := by decide +kernel
theorem dL_law_1485 : decode cL_law 1485 = .ok (.iadd, 1) := by decide +kernel
theorem dL_law_1486 : decode cL_law 1486 = .ok (.iaload, 1) := by decide +kernel
theorem dL_law_1487 : decode cL_law 1487 = .ok (.aload_n 0, 1) := by decide +kernel
theorem dL_law_1488 : decode cL_law 1488 = .ok (.iload_n 3, 1) := by decide +kernel
theorem dL_law_1489 : decode cL_law 1489 = .ok (.iconst 2, 1) := by decide +kernel
theorem dL_law_1490 : decode cL_law 1490 = .ok (.iadd, 1) := by decide +kernel
theorem dL_law_1491 : decode cL_law 1491 = .ok (.iaload, 1) := by decide +kernel
theorem dL_law_1492 : decode cL_law 1492 = .ok (.aload_n 0, 1) := by decide +kernel
theorem dL_law_1493 : decode cL_law 1493 = .ok (.iload_n 3, 1) := by decide +kernel
theorem dL_law_1494 : decode cL_law 1494 = .ok (.iconst 3, 1) := by decide +kernel
theorem dL_law_1495 : decode cL_law 1495 = .ok (.iadd, 1) := by decide +kernel
theorem dL_law_1496 : decode cL_law 1496 = .ok (.iaload, 1) := by decide +kernel
theorem dL_law_1497 : decode cL_law 1497 = .ok (.invokevirtual 136, 3) := by decide +kernel
theorem dL_law_1500 : decode cL_law 1500 = .ok (.if_icmp .eq 479, 3) := by decide +kernel
theorem dL_law_1503 : decode cL_law 1503 = .ok (.iconst 0, 1) := by decide +kernel
theorem dL_law_1504 : decode cL_law 1504 = .ok (.ireturn, 1) := by decide +kernel
theorem dL_law_1505 : decode cL_law 1505 = .ok (.aload_n 1, 1) := by decide +kernel
theorem dL_law_1506 : decode cL_law 1506 = .ok (.aload_n 0, 1) := by decide +kernel
theorem dL_law_1507 : decode cL_law 1507 = .ok (.iload_n 3, 1) := by decide +kernel
theorem dL_law_1508 : decode cL_law 1508 = .ok (.iconst 1, 1) := by decide +kernel
theorem dL_law_1509 : decode cL_law 1509 = .ok (.iadd, 1) := by decide +kernel
theorem dL_law_1510 : decode cL_law 1510 = .ok (.iaload, 1) := by decide +kernel
theorem dL_law_1511 : decode cL_law 1511 = .ok (.aload_n 0, 1) := by decide +kernel
theorem dL_law_1512 : decode cL_law 1512 = .ok (.iload_n 3, 1) := by decide +kernel
theorem dL_law_1513 : decode cL_law 1513 = .ok (.iconst 2, 1) := by decide +kernel
theorem dL_law_1514 : decode cL_law 1514 = .ok (.iadd, 1) := by decide +kernel
theorem dL_law_1515 : decode cL_law 1515 = .ok (.iaload, 1) := by decide +kernel
theorem dL_law_1516 : decode cL_law 1516 = .ok (.aload_n 0, 1) := by decide +kernel
theorem dL_law_1517 : decode cL_law 1517 = .ok (.iload_n 3, 1) := by decide +kernel
theorem dL_law_1518 : decode cL_law 1518 = .ok (.iconst 3, 1) := by decide +kernel
theorem dL_law_1519 : decode cL_law 1519 = .ok (.iadd, 1) := by decide +kernel
theorem dL_law_1520 : decode cL_law 1520 = .ok (.iaload, 1) := by decide +kernel
theorem dL_law_1521 : decode cL_law 1521 = .ok (.invokevirtual 137, 3) := by decide +kernel
theorem dL_law_1524 : decode cL_law 1524 = .ok (.aload_n 2, 1) := by decide +kernel
theorem dL_law_1525 : decode cL_law 1525 = .ok (.aload_n 0, 1) := by decide +kernel
theorem dL_law_1526 : decode cL_law 1526 = .ok (.iload_n 3, 1) := by decide +kernel
theorem dL_law_1527 : decode cL_law 1527 = .ok (.iconst 1, 1) := by decide +kernel
theorem dL_law_1528 : decode cL_law 1528 = .ok (.iadd, 1) := by decide +kernel
theorem dL_law_1529 : decode cL_law 1529 = .ok (.iaload, 1) := by decide +kernel
theorem dL_law_1530 : decode cL_law 1530 = .ok (.aload_n 0, 1) := by decide +kernel
theorem dL_law_1531 : decode cL_law 1531 = .ok (.iload_n 3, 1) := by decide +kernel
theorem dL_law_1532 : decode cL_law 1532 = .ok (.iconst 2, 1) := by decide +kernel
theorem dL_law_1533 : decode cL_law 1533 = .ok (.iadd, 1) := by decide +kernel
theorem dL_law_1534 : decode cL_law 1534 = .ok (.iaload, 1) := by decide +kernel
theorem dL_law_1535 : decode cL_law 1535 = .ok (.aload_n 0, 1) := by decide +kernel
theorem dL_law_1536 : decode cL_law 1536 = .ok (.iload_n 3, 1) := by decide +kernel
theorem dL_law_1537 : decode cL_law 1537 = .ok (.iconst 3, 1) := by decide +kernel
theorem dL_law_1538 : decode cL_law 1538 = .ok (.iadd, 1) := by decide +kernel
theorem dL_law_1539 : decode cL_law 1539 = .ok (.iaload, 1) := by decide +kernel
theorem dL_law_1540 : decode cL_law 1540 = .ok (.invokevirtual 140, 3) := by decide +kernel
theorem dL_law_1543 : decode cL_law 1543 = .ok (.if_icmp .eq 436, 3) := by decide +kernel
theorem dL_law_1546 : decode cL_law 1546 = .ok (.iconst 0, 1) := by decide +kernel
theorem dL_law_1547 : decode cL_law 1547 = .ok (.ireturn, 1) := by decide +kernel
theorem dL_law_1548 : decode cL_law 1548 = .ok (.aload_n 1, 1) := by decide +kernel
theorem dL_law_1549 : decode cL_law 1549 = .ok (.aload_n 0, 1) := by decide +kernel
theorem dL_law_1550 : decode cL_law 1550 = .ok (.iload_n 3, 1) := by decide +kernel
theorem dL_law_1551 : decode cL_law 1551 = .ok (.iconst 1, 1) := by decide +kernel
theorem dL_law_1552 : decode cL_law 1552 = .ok (.iadd, 1) := by decide +kernel
theorem dL_law_1553 : decode cL_law 1553 = .ok (.iaload, 1) := by decide +kernel
theorem dL_law_1554 : decode cL_law 1554 = .ok (.aload_n 0, 1) := by decide +kernel
theorem dL_law_1555 : decode cL_law 1555 = .ok (.iload_n 3, 1) := by decide +kernel
theorem dL_law_1556 : decode cL_law 1556 = .ok (.iconst 2, 1) := by decide +kernel
theorem dL_law_1557 : decode cL_law 1557 = .ok (.iadd, 1) := by decide +kernel
theorem dL_law_1558 : decode cL_law 1558 = .ok (.iaload, 1) := by decide +kernel
theorem dL_law_1559 : decode cL_law 1559 = .ok (.invokevirtual 141, 3) := by decide +kernel
theorem dL_law_1562 : decode cL_law 1562 = .ok (.aload_n 2, 1) := by decide +kernel
theorem dL_law_1563 : decode cL_law 1563 = .ok (.aload_n 0, 1) := by decide +kernel
theorem dL_law_1564 : decode cL_law 1564 = .ok (.iload_n 3, 1) := by decide +kernel
theorem dL_law_1565 : decode cL_law 1565 = .ok (.iconst 1, 1) := by decide +kernel
theorem dL_law_1566 : decode cL_law 1566 = .ok (.iadd, 1) := by decide +kernel
theorem dL_law_1567 : decode cL_law 1567 = .ok (.iaload, 1) := by decide +kernel
theorem dL_law_1568 : decode cL_law 1568 = .ok (.aload_n 0, 1) := by decide +kernel
theorem dL_law_1569 : decode cL_law 1569 = .ok (.iload_n 3, 1) := by decide +kernel
theorem dL_law_1570 : decode cL_law 1570 = .ok (.iconst 2, 1) := by decide +kernel
theorem dL_law_1571 : decode cL_law 1571 = .ok (.iadd, 1) := by decide +kernel
theorem dL_law_1572 : decode cL_law 1572 = .ok (.iaload, 1) := by decide +kernel
theorem dL_law_1573 : decode cL_law 1573 = .ok (.invokevirtual 144, 3) := by decide +kernel
theorem dL_law_1576 : decode cL_law 1576 = .ok (.if_icmp .eq 403, 3) := by decide +kernel
theorem dL_law_1579 : decode cL_law 1579 = .ok (.iconst 0, 1) := by decide +kernel
theorem dL_law_1580 : decode cL_law 1580 = .ok (.ireturn, 1) := by decide +kernel
theorem dL_law_1581 : decode cL_law 1581 = .ok (.aload_n 1, 1) := by decide +kernel
theorem dL_law_1582 : decode cL_law 1582 = .ok (.aload_n 0, 1) := by decide +kernel
theorem dL_law_1583 : decode cL_law 1583 = .ok (.iload_n 3, 1) := by decide +kernel
theorem dL_law_1584 : decode cL_law 1584 = .ok (.iconst 1, 1) := by decide +kernel
theorem dL_law_1585 : decode cL_law 1585 = .ok (.iadd, 1) := by decide +kernel
theorem dL_law_1586 : decode cL_law 1586 = .ok (.iaload, 1) := by decide +kernel
theorem dL_law_1587 : decode cL_law 1587 = .ok (.aload_n 0, 1) := by decide +kernel
theorem dL_law_1588 : decode cL_law 1588 = .ok (.iload_n 3, 1) := by decide +kernel
theorem dL_law_1589 : decode cL_law 1589 = .ok (.iconst 2, 1) := by decide +kernel
theorem dL_law_1590 : decode cL_law 1590 = .ok (.iadd, 1) := by decide +kernel
theorem dL_law_1591 : decode cL_law 1591 = .ok (.iaload, 1) := by decide +kernel
theorem dL_law_1592 : decode cL_law 1592 = .ok (.aload_n 0, 1) := by decide +kernel
theorem dL_law_1593 : decode cL_law 1593 = .ok (.iload_n 3, 1) := by decide +kernel
theorem dL_law_1594 : decode cL_law 1594 = .ok (.iconst 3, 1) := by decide +kernel
theorem dL_law_1595 : decode cL_law 1595 = .ok (.iadd, 1) := by decide +kernel
theorem dL_law_1596 : decode cL_law 1596 = .ok (.iaload, 1) := by decide +kernel
theorem dL_law_1597 : decode cL_law 1597 = .ok (.invokevirtual 145, 3) := by decide +kernel
theorem dL_law_1600 : decode cL_law 1600 = .ok (.aload_n 2, 1) := by decide +kernel
theorem dL_law_1601 : decode cL_law 1601 = .ok (.aload_n 0, 1) := by decide +kernel
theorem dL_law_1602 : decode cL_law 1602 = .ok (.iload_n 3, 1) := by decide +kernel
theorem dL_law_1603 : decode cL_law 1603 = .ok (.iconst 1, 1) := by decide +kernel
theorem dL_law_1604 : decode cL_law 1604 = .ok (.iadd, 1) := by decide +kernel
theorem dL_law_1605 : decode cL_law 1605 = .ok (.iaload, 1) := by decide +kernel
theorem dL_law_1606 : decode cL_law 1606 = .ok (.aload_n 0, 1) := by decide +kernel
theorem dL_law_1607 : decode cL_law 1607 = .ok (.iload_n 3, 1) := by decide +kernel
theorem dL_law_1608 : decode cL_law 1608 = .ok (.iconst 2, 1) := by decide +kernel
theorem dL_law_1609 : decode cL_law 1609 = .ok (.iadd, 1) := by decide +kernel
theorem dL_law_1610 : decode cL_law 1610 = .ok (.iaload, 1) := by decide +kernel
theorem dL_law_1611 : decode cL_law 1611 = .ok (.aload_n 0, 1) := by decide +kernel
theorem dL_law_1612 : decode cL_law 1612 = .ok (.iload_n 3, 1) := by decide +kernel
theorem dL_law_1613 : decode cL_law 1613 = .ok (.iconst 3, 1) := by decide +kernel
theorem dL_law_1614 : decode cL_law 1614 = .ok (.iadd, 1) := by decide +kernel
theorem dL_law_1615 : decode cL_law 1615 = .ok (.iaload, 1) := by decide +kernel
theorem dL_law_1616 : decode cL_law 1616 = .ok (.invokevirtual 148, 3) := by decide +kernel
theorem dL_law_1619 : decode cL_law 1619 = .ok (.if_icmp .eq 360, 3) := by decide +kernel
theorem dL_law_1622 : decode cL_law 1622 = .ok (.iconst 0, 1) := by decide +kernel
theorem dL_law_1623 : decode cL_law 1623 = .ok (.ireturn, 1) := by decide +kernel
theorem dL_law_1624 : decode cL_law 1624 = .ok (.aload_n 1, 1) := by decide +kernel
theorem dL_law_1625 : decode cL_law 1625 = .ok (.aload_n 0, 1) := by decide +kernel
theorem dL_law_1626 : decode cL_law 1626 = .ok (.iload_n 3, 1) := by decide +kernel
theorem dL_law_1627 : decode cL_law 1627 = .ok (.iconst 1, 1) := by decide +kernel
theorem dL_law_1628 : decode cL_law 1628 = .ok (.iadd, 1) := by decide +kernel
theorem dL_law_1629 : decode cL_law 1629 = .ok (.iaload, 1) := by decide +kernel
theorem dL_law_1630 : decode cL_law 1630 = .ok (.invokevirtual 149, 3) := by decide +kernel
theorem dL_law_1633 : decode cL_law 1633 = .ok (.aload_n 2, 1) := by decide +kernel
theorem dL_law_1634 : decode cL_law 1634 = .ok (.aload_n 0, 1) := by decide +kernel
theorem dL_law_1635 : decode cL_law 1635 = .ok (.iload_n 3, 1) := by decide +kernel
theorem dL_law_1636 : decode cL_law 1636 = .ok (.iconst 1, 1) := by decide +kernel
theorem dL_law_1637 : decode cL_law 1637 = .ok (.iadd, 1) := by decide +kernel
theorem dL_law_1638 : decode cL_law 1638 = .ok (.iaload, 1) := by decide +kernel
theorem dL_law_1639 : decode cL_law 1639 = .ok (.invokevirtual 152, 3) := by decide +kernel
theorem dL_law_1642 : decode cL_law 1642 = .ok (.if_icmp .eq 337, 3) := by decide +kernel
theorem dL_law_1645 : decode cL_law 1645 = .ok (.iconst 0, 1) := by decide +kernel
theorem dL_law_1646 : decode cL_law 1646 = .ok (.ireturn, 1) := by decide +kernel
theorem dL_law_1647 : decode cL_law 1647 = .ok (.aload_n 1, 1) := by decide +kernel
theorem dL_law_1648 : decode cL_law 1648 = .ok (.aload_n 0, 1) := by decide +kernel
theorem dL_law_1649 : decode cL_law 1649 = .ok (.iload_n 3, 1) := by decide +kernel
theorem dL_law_1650 : decode cL_law 1650 = .ok (.iconst 1, 1) := by decide +kernel
theorem dL_law_1651 : decode cL_law 1651 = .ok (.iadd, 1) := by decide +kernel
theorem dL_law_1652 : decode cL_law 1652 = .ok (.iaload, 1) := by decide +kernel
theorem dL_law_1653 : decode cL_law 1653 = .ok (.aload_n 0, 1) := by decide +kernel
theorem dL_law_1654 : decode cL_law 1654 = .ok (.iload_n 3, 1) := by decide +kernel
theorem dL_law_1655 : decode cL_law 1655 = .ok (.iconst 2, 1) := by decide +kernel
theorem dL_law_1656 : decode cL_law 1656 = .ok (.iadd, 1) := by decide +kernel
theorem dL_law_1657 : decode cL_law 1657 = .ok (.iaload, 1) := by decide +kernel
theorem dL_law_1658 : decode cL_law 1658 = .ok (.ifCond .eq 7, 3) := by decide +kernel
theorem dL_law_1661 : decode cL_law 1661 = .ok (.iconst 1, 1) := by decide +kernel
theorem dL_law_1662 : decode cL_law 1662 = .ok (.goto 4, 3) := by decide +kernel
theorem dL_law_1665 : decode cL_law 1665 = .ok (.iconst 0, 1) := by decide +kernel
theorem dL_law_1666 : decode cL_law 1666 = .ok (.invokevirtual 153, 3) := by decide +kernel
theorem dL_law_1669 : decode cL_law 1669 = .ok (.aload_n 2, 1) := by decide +kernel
theorem dL_law_1670 : decode cL_law 1670 = .ok (.aload_n 0, 1) := by decide +kernel
theorem dL_law_1671 : decode cL_law 1671 = .ok (.iload_n 3, 1) := by decide +kernel
theorem dL_law_1672 : decode cL_law 1672 = .ok (.iconst 1, 1) := by decide +kernel
theorem dL_law_1673 : decode cL_law 1673 = .ok (.iadd, 1) := by decide +kernel
theorem dL_law_1674 : decode cL_law 1674 = .ok (.iaload, 1) := by decide +kernel
theorem dL_law_1675 : decode cL_law 1675 = .ok (.aload_n 0, 1) := by decide +kernel
theorem dL_law_1676 : decode cL_law 1676 = .ok (.iload_n 3, 1) := by decide +kernel
theorem dL_law_1677 : decode cL_law 1677 = .ok (.iconst 2, 1) := by decide +kernel
theorem dL_law_1678 : decode cL_law 1678 = .ok (.iadd, 1) := by decide +kernel
theorem dL_law_1679 : decode cL_law 1679 = .ok (.iaload, 1) := by decide +kernel
theorem dL_law_1680 : decode cL_law 1680 = .ok (.ifCond .eq 7, 3) := by decide +kernel
theorem dL_law_1683 : decode cL_law 1683 = .ok (.iconst 1, 1) := by decide +kernel
theorem dL_law_1684 : decode cL_law 1684 = .ok (.goto 4, 3) := by decide +kernel
theorem dL_law_1687 : decode cL_law 1687 = .ok (.iconst 0, 1) := by decide +kernel
theorem dL_law_1688 : decode cL_law 1688 = .ok (.invokevirtual 157, 3) := by decide +kernel
theorem dL_law_1691 : decode cL_law 1691 = .ok (.if_icmp .eq 288, 3) := by decide +kernel
theorem dL_law_1694 : decode cL_law 1694 = .ok (.iconst 0, 1) := by decide +kernel
theorem dL_law_1695 : decode cL_law 1695 = .ok (.ireturn, 1) := by decide +kernel
theorem dL_law_1696 : decode cL_law 1696 = .ok (.aload_n 1, 1) := by decide +kernel
theorem dL_law_1697 : decode cL_law 1697 = .ok (.aload_n 0, 1) := by decide +kernel
theorem dL_law_1698 : decode cL_law 1698 = .ok (.iload_n 3, 1) := by decide +kernel
theorem dL_law_1699 : decode cL_law 1699 = .ok (.iconst 1, 1) := by decide +kernel
theorem dL_law_1700 : decode cL_law 1700 = .ok (.iadd, 1) := by decide +kernel
theorem dL_law_1701 : decode cL_law 1701 = .ok (.iaload, 1) := by decide +kernel
theorem dL_law_1702 : decode cL_law 1702 = .ok (.aload_n 0, 1) := by decide +kernel
theorem dL_law_1703 : decode cL_law 1703 = .ok (.iload_n 3, 1) := by decide +kernel
theorem dL_law_1704 : decode cL_law 1704 = .ok (.iconst 2, 1) := by decide +kernel
theorem dL_law_1705 : decode cL_law 1705 = .ok (.iadd, 1) := by decide +kernel
theorem dL_law_1706 : decode cL_law 1706 = .ok (.iaload, 1) := by decide +kernel
theorem dL_law_1707 : decode cL_law 1707 = .ok (.invokevirtual 158, 3) := by decide +kernel
theorem dL_law_1710 : decode cL_law 1710 = .ok (.aload_n 2, 1) := by decide +kernel
theorem dL_law_1711 : decode cL_law 1711 = .ok (.aload_n 0, 1) := by decide +kernel
theorem dL_law_1712 : decode cL_law 1712 = .ok (.iload_n 3, 1) := by decide +kernel
theorem dL_law_1713 : decode cL_law 1713 = .ok (.iconst 1, 1) := by decide +kernel
theorem dL_law_1714 : decode cL_law 1714 = .ok (.iadd, 1) := by decide +kernel
theorem dL_law_1715 : decode cL_law 1715 = .ok (.iaload, 1) := by decide +kernel
theorem dL_law_1716 : decode cL_law 1716 = .ok (.aload_n 0, 1) := by decide +kernel
theorem dL_law_1717 : decode cL_law 1717 = .ok (.iload_n 3, 1) := by decide +kernel
theorem dL_law_1718 : decode cL_law 1718 = .ok (.iconst 2, 1) := by decide +kernel
theorem dL_law_1719 : decode cL_law 1719 = .ok (.iadd, 1) := by decide +kernel
theorem dL_law_1720 : decode cL_law 1720 = .ok (.iaload, 1) := by decide +kernel
theorem dL_law_1721 : decode cL_law 1721 = .ok (.invokevirtual 162, 3) := by decide +kernel
theorem dL_law_1724 : decode cL_law 1724 = .ok (.if_icmp .eq 255, 3) := by decide +kernel
theorem dL_law_1727 : decode cL_law 1727 = .ok (.iconst 0, 1) := by decide +kernel
theorem dL_law_1728 : decode cL_law 1728 = .ok (.ireturn, 1) := by decide +kernel
theorem dL_law_1729 : decode cL_law 1729 = .ok (.aload_n 1, 1) := by decide +kernel
theorem dL_law_1730 : decode cL_law 1730 = .ok (.aload_n 0, 1) := by decide +kernel
theorem dL_law_1731 : decode cL_law 1731 = .ok (.iload_n 3, 1) := by decide +kernel
theorem dL_law_1732 : decode cL_law 1732 = .ok (.iconst 1, 1) := by decide +kernel
theorem dL_law_1733 : decode cL_law 1733 = .ok (.iadd, 1) := by decide +kernel
theorem dL_law_1734 : decode cL_law 1734 = .ok (.iaload, 1) := by decide +kernel
theorem dL_law_1735 : decode cL_law 1735 = .ok (.invokevirtual 163, 3) := by decide +kernel
theorem dL_law_1738 : decode cL_law 1738 = .ok (.aload_n 2, 1) := by decide +kernel
theorem dL_law_1739 : decode cL_law 1739 = .ok (.aload_n 0, 1) := by decide +kernel
theorem dL_law_1740 : decode cL_law 1740 = .ok (.iload_n 3, 1) := by decide +kernel
theorem dL_law_1741 : decode cL_law 1741 = .ok (.iconst 1, 1) := by decide +kernel
theorem dL_law_1742 : decode cL_law 1742 = .ok (.iadd, 1) := by decide +kernel
theorem dL_law_1743 : decode cL_law 1743 = .ok (.iaload, 1) := by decide +kernel
theorem dL_law_1744 : decode cL_law 1744 = .ok (.invokevirtual 166, 3) := by decide +kernel
theorem dL_law_1747 : decode cL_law 1747 = .ok (.if_icmp .eq 232, 3) := by decide +kernel
theorem dL_law_1750 : decode cL_law 1750 = .ok (.iconst 0, 1) := by decide +kernel
theorem dL_law_1751 : decode cL_law 1751 = .ok (.ireturn, 1) := by decide +kernel
theorem dL_law_1752 : decode cL_law 1752 = .ok (.aload_n 1, 1) := by decide +kernel
theorem dL_law_1753 : decode cL_law 1753 = .ok (.aload_n 0, 1) := by decide +kernel
theorem dL_law_1754 : decode cL_law 1754 = .ok (.iload_n 3, 1) := by decide +kernel
theorem dL_law_1755 : decode cL_law 1755 = .ok (.iconst 1, 1) := by decide +kernel
theorem dL_law_1756 : decode cL_law 1756 = .ok (.iadd, 1) := by decide +kernel
theorem dL_law_1757 : decode cL_law 1757 = .ok (.iaload, 1) := by decide +kernel
theorem dL_law_1758 : decode cL_law 1758 = .ok (.aload_n 0, 1) := by decide +kernel
theorem dL_law_1759 : decode cL_law 1759 = .ok (.iload_n 3, 1) := by decide +kernel
theorem dL_law_1760 : decode cL_law 1760 = .ok (.iconst 2, 1) := by decide +kernel
theorem dL_law_1761 : decode cL_law 1761 = .ok (.iadd, 1) := by decide +kernel
theorem dL_law_1762 : decode cL_law 1762 = .ok (.iaload, 1) := by decide +kernel
theorem dL_law_1763 : decode cL_law 1763 = .ok (.invokevirtual 167, 3) := by decide +kernel
theorem dL_law_1766 : decode cL_law 1766 = .ok (.aload_n 2, 1) := by decide +kernel
theorem dL_law_1767 : decode cL_law 1767 = .ok (.aload_n 0, 1) := by decide +kernel
theorem dL_law_1768 : decode cL_law 1768 = .ok (.iload_n 3, 1) := by decide +kernel
theorem dL_law_1769 : decode cL_law 1769 = .ok (.iconst 1, 1) := by decide +kernel
theorem dL_law_1770 : decode cL_law 1770 = .ok (.iadd, 1) := by decide +kernel
theorem dL_law_1771 : decode cL_law 1771 = .ok (.iaload, 1) := by decide +kernel
theorem dL_law_1772 : decode cL_law 1772 = .ok (.aload_n 0, 1) := by decide +kernel
theorem dL_law_1773 : decode cL_law 1773 = .ok (.iload_n 3, 1) := by decide +kernel
theorem dL_law_1774 : decode cL_law 1774 = .ok (.iconst 2, 1) := by decide +kernel
theorem dL_law_1775 : decode cL_law 1775 = .ok (.iadd, 1) := by decide +kernel
theorem dL_law_1776 : decode cL_law 1776 = .ok (.iaload, 1) := by decide +kernel
theorem dL_law_1777 : decode cL_law 1777 = .ok (.invokevirtual 170, 3) := by decide +kernel
theorem dL_law_1780 : decode cL_law 1780 = .ok (.if_icmp .eq 199, 3) := by decide +kernel
theorem dL_law_1783 : decode cL_law 1783 = .ok (.iconst 0, 1) := by decide +kernel
theorem dL_law_1784 : decode cL_law 1784 = .ok (.ireturn, 1) := by decide +kernel
theorem dL_law_1785 : decode cL_law 1785 = .ok (.aload_n 1, 1) := by decide +kernel
theorem dL_law_1786 : decode cL_law 1786 = .ok (.aload_n 0, 1) := by decide +kernel
theorem dL_law_1787 : decode cL_law 1787 = .ok (.iload_n 3, 1) := by decide +kernel
theorem dL_law_1788 : decode cL_law 1788 = .ok (.iconst 1, 1) := by decide +kernel
theorem dL_law_1789 : decode cL_law 1789 = .ok (.iadd, 1) := by decide +kernel
theorem dL_law_1790 : decode cL_law 1790 = .ok (.iaload, 1) := by decide +kernel
theorem dL_law_1791 : decode cL_law 1791 = .ok (.aload_n 0, 1) := by decide +kernel
theorem dL_law_1792 : decode cL_law 1792 = .ok (.iload_n 3, 1) := by decide +kernel
theorem dL_law_1793 : decode cL_law 1793 = .ok (.iconst 2, 1) := by decide +kernel
theorem dL_law_1794 : decode cL_law 1794 = .ok (.iadd, 1) := by decide +kernel
theorem dL_law_1795 : decode cL_law 1795 = .ok (.iaload, 1) := by decide +kernel
theorem dL_law_1796 : decode cL_law 1796 = .ok (.aload_n 0, 1) := by decide +kernel
theorem dL_law_1797 : decode cL_law 1797 = .ok (.iload_n 3, 1) := by decide +kernel
theorem dL_law_1798 : decode cL_law 1798 = .ok (.iconst 3, 1) := by decide +kernel
theorem dL_law_1799 : decode cL_law 1799 = .ok (.iadd, 1) := by decide +kernel
theorem dL_law_1800 : decode cL_law 1800 = .ok (.iaload, 1) := by decide +kernel
theorem dL_law_1801 : decode cL_law 1801 = .ok (.invokevirtual 171, 3) := by decide +kernel
theorem dL_law_1804 : decode cL_law 1804 = .ok (.aload_n 2, 1) := by decide +kernel
theorem dL_law_1805 : decode cL_law 1805 = .ok (.aload_n 0, 1) := by decide +kernel
theorem dL_law_1806 : decode cL_law 1806 = .ok (.iload_n 3, 1) := by decide +kernel
theorem dL_law_1807 : decode cL_law 1807 = .ok (.iconst 1, 1) := by decide +kernel
theorem dL_law_1808 : decode cL_law 1808 = .ok (.iadd, 1) := by decide +kernel
theorem dL_law_1809 : decode cL_law 1809 = .ok (.iaload, 1) := by decide +kernel
theorem dL_law_1810 : decode cL_law 1810 = .ok (.aload_n 0, 1) := by decide +kernel
theorem dL_law_1811 : decode cL_law 1811 = .ok (.iload_n 3, 1) := by decide +kernel
theorem dL_law_1812 : decode cL_law 1812 = .ok (.iconst 2, 1) := by decide +kernel
theorem dL_law_1813 : decode cL_law 1813 = .ok (.iadd, 1) := by decide +kernel
theorem dL_law_1814 : decode cL_law 1814 = .ok (.iaload, 1) := by decide +kernel
theorem dL_law_1815 : decode cL_law 1815 = .ok (.aload_n 0, 1) := by decide +kernel
theorem dL_law_1816 : decode cL_law 1816 = .ok (.iload_n 3, 1) := by decide +kernel
theorem dL_law_1817 : decode cL_law 1817 = .ok (.iconst 3, 1) := by decide +kernel
theorem dL_law_1818 : decode cL_law 1818 = .ok (.iadd, 1) := by decide +kernel
theorem dL_law_1819 : decode cL_law 1819 = .ok (.iaload, 1) := by decide +kernel
theorem dL_law_1820 : decode cL_law 1820 = .ok (.invokevirtual 174, 3) := by decide +kernel
theorem dL_law_1823 : decode cL_law 1823 = .ok (.if_icmp .eq 156, 3) := by decide +kernel
theorem dL_law_1826 : decode cL_law 1826 = .ok (.iconst 0, 1) := by decide +kernel
theorem dL_law_1827 : decode cL_law 1827 = .ok (.ireturn, 1) := by decide +kernel
theorem dL_law_1828 : decode cL_law 1828 = .ok (.aload_n 1, 1) := by decide +kernel
theorem dL_law_1829 : decode cL_law 1829 = .ok (.aload_n 0, 1) := by decide +kernel
theorem dL_law_1830 : decode cL_law 1830 = .ok (.iload_n 3, 1) := by decide +kernel
theorem dL_law_1831 : decode cL_law 1831 = .ok (.iconst 1, 1) := by decide +kernel
theorem dL_law_1832 : decode cL_law 1832 = .ok (.iadd, 1) := by decide +kernel
theorem dL_law_1833 : decode cL_law 1833 = .ok (.iaload, 1) := by decide +kernel
theorem dL_law_1834 : decode cL_law 1834 = .ok (.aload_n 0, 1) := by decide +kernel
theorem dL_law_1835 : decode cL_law 1835 = .ok (.iload_n 3, 1) := by decide +kernel
theorem dL_law_1836 : decode cL_law 1836 = .ok (.iconst 2, 1) := by decide +kernel
theorem dL_law_1837 : decode cL_law 1837 = .ok (.iadd, 1) := by decide +kernel
theorem dL_law_1838 : decode cL_law 1838 = .ok (.iaload, 1) := by decide +kernel
theorem dL_law_1839 : decode cL_law 1839 = .ok (.invokevirtual 175, 3) := by decide +kernel
theorem dL_law_1842 : decode cL_law 1842 = .ok (.aload_n 2, 1) := by decide +kernel
theorem dL_law_1843 : decode cL_law 1843 = .ok (.aload_n 0, 1) := by decide +kernel
theorem dL_law_1844 : decode cL_law 1844 = .ok (.iload_n 3, 1) := by decide +kernel
theorem dL_law_1845 : decode cL_law 1845 = .ok (.iconst 1, 1) := by decide +kernel
theorem dL_law_1846 : decode cL_law 1846 = .ok (.iadd, 1) := by decide +kernel
theorem dL_law_1847 : decode cL_law 1847 = .ok (.iaload, 1) := by decide +kernel
theorem dL_law_1848 : decode cL_law 1848 = .ok (.aload_n 0, 1) := by decide +kernel
theorem dL_law_1849 : decode cL_law 1849 = .ok (.iload_n 3, 1) := by decide +kernel
theorem dL_law_1850 : decode cL_law 1850 = .ok (.iconst 2, 1) := by decide +kernel
theorem dL_law_1851 : decode cL_law 1851 = .ok (.iadd, 1) := by decide +kernel
theorem dL_law_1852 : decode cL_law 1852 = .ok (.iaload, 1) := by decide +kernel
theorem dL_law_1853 : decode cL_law 1853 = .ok (.invokevirtual 178, 3) := by decide +kernel
theorem dL_law_1856 : decode cL_law 1856 = .ok (.if_icmp .eq 123, 3) := by decide +kernel
theorem dL_law_1859 : decode cL_law 1859 = .ok (.iconst 0, 1) := by decide +kernel
theorem dL_law_1860 : decode cL_law 1860 = .ok (.ireturn, 1) := by decide +kernel
theorem dL_law_1861 : decode cL_law 1861 = .ok (.aload_n 1, 1) := by decide +kernel
theorem dL_law_1862 : decode cL_law 1862 = .ok (.invokevirtual 179, 3) := by decide +kernel
theorem dL_law_1865 : decode cL_law 1865 = .ok (.aload_n 2, 1) := by decide +kernel
theorem dL_law_1866 : decode cL_law 1866 = .ok (.invokevirtual 182, 3) := by decide +kernel
theorem dL_law_1869 : decode cL_law 1869 = .ok (.if_icmp .eq 110, 3) := by decide +kernel
theorem dL_law_1872 : decode cL_law 1872 = .ok (.iconst 0, 1) := by decide +kernel
theorem dL_law_1873 : decode cL_law 1873 = .ok (.ireturn, 1) := by decide +kernel
theorem dL_law_1874 : decode cL_law 1874 = .ok (.aload_n 1, 1) := by decide +kernel
theorem dL_law_1875 : decode cL_law 1875 = .ok (.aload_n 0, 1) := by decide +kernel
theorem dL_law_1876 : decode cL_law 1876 = .ok (.iload_n 3, 1) := by decide +kernel
theorem dL_law_1877 : decode cL_law 1877 = .ok (.iconst 1, 1) := by decide +kernel
theorem dL_law_1878 : decode cL_law 1878 = .ok (.iadd, 1) := by decide +kernel
theorem dL_law_1879 : decode cL_law 1879 = .ok (.iaload, 1) := by decide +kernel
theorem dL_law_1880 : decode cL_law 1880 = .ok (.invokevirtual 183, 3) := by decide +kernel
theorem dL_law_1883 : decode cL_law 1883 = .ok (.aload_n 2, 1) := by decide +kernel
theorem dL_law_1884 : decode cL_law 1884 = .ok (.aload_n 0, 1) := by decide +kernel
theorem dL_law_1885 : decode cL_law 1885 = .ok (.iload_n 3, 1) := by decide +kernel
theorem dL_law_1886 : decode cL_law 1886 = .ok (.iconst 1, 1) := by decide +kernel
theorem dL_law_1887 : decode cL_law 1887 = .ok (.iadd, 1) := by decide +kernel
theorem dL_law_1888 : decode cL_law 1888 = .ok (.iaload, 1) := by decide +kernel
theorem dL_law_1889 : decode cL_law 1889 = .ok (.invokevirtual 186, 3) := by decide +kernel
theorem dL_law_1892 : decode cL_law 1892 = .ok (.if_icmp .eq 87, 3) := by decide +kernel
theorem dL_law_1895 : decode cL_law 1895 = .ok (.iconst 0, 1) := by decide +kernel
theorem dL_law_1896 : decode cL_law 1896 = .ok (.ireturn, 1) := by decide +kernel
theorem dL_law_1897 : decode cL_law 1897 = .ok (.aload_n 1, 1) := by decide +kernel
theorem dL_law_1898 : decode cL_law 1898 = .ok (.aload_n 0, 1) := by decide +kernel
theorem dL_law_1899 : decode cL_law 1899 = .ok (.iload_n 3, 1) := by decide +kernel
theorem dL_law_1900 : decode cL_law 1900 = .ok (.iconst 1, 1) := by decide +kernel
theorem dL_law_1901 : decode cL_law 1901 = .ok (.iadd, 1) := by decide +kernel
theorem dL_law_1902 : decode cL_law 1902 = .ok (.iaload, 1) := by decide +kernel
theorem dL_law_1903 : decode cL_law 1903 = .ok (.aload_n 0, 1) := by decide +kernel
theorem dL_law_1904 : decode cL_law 1904 = .ok (.iload_n 3, 1) := by decide +kernel
theorem dL_law_1905 : decode cL_law 1905 = .ok (.iconst 2, 1) := by decide +kernel
theorem dL_law_1906 : decode cL_law 1906 = .ok (.iadd, 1) := by decide +kernel
theorem dL_law_1907 : decode cL_law 1907 = .ok (.iaload, 1) := by decide +kernel
theorem dL_law_1908 : decode cL_law 1908 = .ok (.aload_n 0, 1) := by decide +kernel
theorem dL_law_1909 : decode cL_law 1909 = .ok (.iload_n 3, 1) := by decide +kernel
theorem dL_law_1910 : decode cL_law 1910 = .ok (.iconst 3, 1) := by decide +kernel
theorem dL_law_1911 : decode cL_law 1911 = .ok (.iadd, 1) := by decide +kernel
theorem dL_law_1912 : decode cL_law 1912 = .ok (.iaload, 1) := by decide +kernel
theorem dL_law_1913 : decode cL_law 1913 = .ok (.ifCond .eq 7, 3) := by decide +kernel
theorem dL_law_1916 : decode cL_law 1916 = .ok (.iconst 1, 1) := by decide +kernel
theorem dL_law_1917 : decode cL_law 1917 = .ok (.goto 4, 3) := by decide +kernel
theorem dL_law_1920 : decode cL_law 1920 = .ok (.iconst 0, 1) := by decide +kernel
theorem dL_law_1921 : decode cL_law 1921 = .ok (.invokevirtual 187, 3) := by decide +kernel
theorem dL_law_1924 : decode cL_law 1924 = .ok (.aload_n 2, 1) := by decide +kernel
theorem dL_law_1925 : decode cL_law 1925 = .ok (.aload_n 0, 1) := by decide +kernel
theorem dL_law_1926 : decode cL_law 1926 = .ok (.iload_n 3, 1) := by decide +kernel
theorem dL_law_1927 : decode cL_law 1927 = .ok (.iconst 1, 1) := by decide +kernel
theorem dL_law_1928 : decode cL_law 1928 = .ok (.iadd, 1) := by decide +kernel
theorem dL_law_1929 : decode cL_law 1929 = .ok (.iaload, 1) := by decide +kernel
theorem dL_law_1930 : decode cL_law 1930 = .ok (.aload_n 0, 1) := by decide +kernel
theorem dL_law_1931 : decode cL_law 1931 = .ok (.iload_n 3, 1) := by decide +kernel
theorem dL_law_1932 : decode cL_law 1932 = .ok (.iconst 2, 1) := by decide +kernel
theorem dL_law_1933 : decode cL_law 1933 = .ok (.iadd, 1) := by decide +kernel
theorem dL_law_1934 : decode cL_law 1934 = .ok (.iaload, 1) := by decide +kernel
theorem dL_law_1935 : decode cL_law 1935 = .ok (.aload_n 0, 1) := by decide +kernel
theorem dL_law_1936 : decode cL_law 1936 = .ok (.iload_n 3, 1) := by decide +kernel
theorem dL_law_1937 : decode cL_law 1937 = .ok (.iconst 3, 1) := by decide +kernel
theorem dL_law_1938 : decode cL_law 1938 = .ok (.iadd, 1) := by decide +kernel
theorem dL_law_1939 : decode cL_law 1939 = .ok (.iaload, 1) := by decide +kernel
theorem dL_law_1940 : decode cL_law 1940 = .ok (.ifCond .eq 7, 3) := by decide +kernel
theorem dL_law_1943 : decode cL_law 1943 = .ok (.iconst 1, 1) := by decide +kernel
theorem dL_law_1944 : decode cL_law 1944 = .ok (.goto 4, 3) := by decide +kernel
theorem dL_law_1947 : decode cL_law 1947 = .ok (.iconst 0, 1) := by decide +kernel
theorem dL_law_1948 : decode cL_law 1948 = .ok (.invokevirtual 191, 3) := by decide +kernel
theorem dL_law_1951 : decode cL_law 1951 = .ok (.if_icmp .eq 28, 3) := by decide +kernel
theorem dL_law_1954 : decode cL_law 1954 = .ok (.iconst 0, 1) := by decide +kernel
theorem dL_law_1955 : decode cL_law 1955 = .ok (.ireturn, 1) := by decide +kernel
theorem dL_law_1956 : decode cL_law 1956 = .ok (.aload_n 1, 1) := by decide +kernel
theorem dL_law_1957 : decode cL_law 1957 = .ok (.aload_n 0, 1) := by decide +kernel
theorem dL_law_1958 : decode cL_law 1958 = .ok (.iload_n 3, 1) := by decide +kernel
theorem dL_law_1959 : decode cL_law 1959 = .ok (.iconst 1, 1) := by decide +kernel
theorem dL_law_1960 : decode cL_law 1960 = .ok (.iadd, 1) := by decide +kernel
theorem dL_law_1961 : decode cL_law 1961 = .ok (.iaload, 1) := by decide +kernel
theorem dL_law_1962 : decode cL_law 1962 = .ok (.invokevirtual 192, 3) := by decide +kernel
theorem dL_law_1965 : decode cL_law 1965 = .ok (.aload_n 2, 1) := by decide +kernel
theorem dL_law_1966 : decode cL_law 1966 = .ok (.aload_n 0, 1) := by decide +kernel
theorem dL_law_1967 : decode cL_law 1967 = .ok (.iload_n 3, 1) := by decide +kernel
theorem dL_law_1968 : decode cL_law 1968 = .ok (.iconst 1, 1) := by decide +kernel
theorem dL_law_1969 : decode cL_law 1969 = .ok (.iadd, 1) := by decide +kernel
theorem dL_law_1970 : decode cL_law 1970 = .ok (.iaload, 1) := by decide +kernel
theorem dL_law_1971 : decode cL_law 1971 = .ok (.invokevirtual 195, 3) := by decide +kernel
theorem dL_law_1974 : decode cL_law 1974 = .ok (.if_icmp .eq 5, 3) := by decide +kernel
theorem dL_law_1977 : decode cL_law 1977 = .ok (.iconst 0, 1) := by decide +kernel
theorem dL_law_1978 : decode cL_law 1978 = .ok (.ireturn, 1) := by decide +kernel
theorem dL_law_1979 : decode cL_law 1979 = .ok (.iinc 3 7, 3) := by decide +kernel
theorem dL_law_1982 : decode cL_law 1982 = .ok (.goto (-1964), 3) := by decide +kernel
theorem dL_law_1985 : decode cL_law 1985 = .ok (.iconst 1, 1) := by decide +kernel
theorem dL_law_1986 : decode cL_law 1986 = .ok (.ireturn, 1) := by decide +kernel
