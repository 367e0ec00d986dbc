theorem dX3_search_0 : decode cX3_search 0 = .ok (.iload_n 2, 1) := by decide +kernel
theorem dX3_search_1 : decode cX3_search 1 = .ok (.iconst 5, 1) := by decide +kernel
theorem dX3_search_2 : decode cX3_search 2 = .ok (.if_icmp .lt 4, 3) := by decide +kernel
theorem dX3_search_5 : decode cX3_search 5 = .ok (.return_, 1) := by decide +kernel
theorem dX3_search_6 : decode cX3_search 6 = .ok (.iconst 0, 1) := by decide +kernel
theorem dX3_search_7 : decode cX3_search 7 = .ok (.istore 4, 2) := by decide +kernel
theorem dX3_search_9 : decode cX3_search 9 = .ok (.iload 4, 2) := by decide +kernel
theorem dX3_search_11 : decode cX3_search 11 = .ok (.aload_n 1, 1) := by decide +kernel
theorem dX3_search_12 : decode cX3_search 12 = .ok (.getfield 45, 3) := by decide +kernel
theorem dX3_search_15 : decode cX3_search 15 = .ok (.if_icmp .ge 57, 3) := by decide +kernel
theorem dX3_search_18 : decode cX3_search 18 = .ok (.aload_n 1, 1) := by decide +kernel
theorem dX3_search_19 : decode cX3_search 19 = .ok (.getfield 48, 3) := by decide +kernel
theorem dX3_search_22 : decode cX3_search 22 = .ok (.iload 4, 2) := by decide +kernel
theorem dX3_search_24 : decode cX3_search 24 = .ok (.iaload, 1) := by decide +kernel
theorem dX3_search_25 : decode cX3_search 25 = .ok (.iconst (-1), 1) := by decide +kernel
theorem dX3_search_26 : decode cX3_search 26 = .ok (.if_icmp .eq 40, 3) := by decide +kernel
theorem dX3_search_29 : decode cX3_search 29 = .ok (.iconst 0, 1) := by decide +kernel
theorem dX3_search_30 : decode cX3_search 30 = .ok (.istore 5, 2) := by decide +kernel
theorem dX3_search_32 : decode cX3_search 32 = .ok (.iload 5, 2) := by decide +kernel
theorem dX3_search_34 : decode cX3_search 34 = .ok (.aload_n 1, 1) := by decide +kernel
theorem dX3_search_35 : decode cX3_search 35 = .ok (.getfield 51, 3) := by decide +kernel
theorem dX3_search_38 : decode cX3_search 38 = .ok (.aload_n 1, 1) := by decide +kernel
theorem dX3_search_39 : decode cX3_search 39 = .ok (.getfield 54, 3) := by decide +kernel
theorem dX3_search_42 : decode cX3_search 42 = .ok (.iload 4, 2) := by decide +kernel
theorem dX3_search_44 : decode cX3_search 44 = .ok (.iaload, 1) := by decide +kernel
theorem dX3_search_45 : decode cX3_search 45 = .ok (.isub, 1) := by decide +kernel
theorem dX3_search_46 : decode cX3_search 46 = .ok (.if_icmp .gt 20, 3) := by decide +kernel
theorem dX3_search_49 : decode cX3_search 49 = .ok (.aload_n 0, 1) := by decide +kernel
theorem dX3_search_50 : decode cX3_search 50 = .ok (.aload_n 1, 1) := by decide +kernel
theorem dX3_search_51 : decode cX3_search 51 = .ok (.iload_n 2, 1) := by decide +kernel
theorem dX3_search_52 : decode cX3_search 52 = .ok (.iload_n 3, 1) := by decide +kernel
theorem dX3_search_53 : decode cX3_search 53 = .ok (.iload 4, 2) := by decide +kernel
theorem dX3_search_55 : decode cX3_search 55 = .ok (.iload 5, 2) := by decide +kernel
theorem dX3_search_57 : decode cX3_search 57 = .ok (.invokevirtual 57, 3) := by decide +kernel
theorem dX3_search_60 : decode cX3_search 60 = .ok (.iinc 5 1, 3) := by decide +kernel
theorem dX3_search_63 : decode cX3_search 63 = .ok (.goto (-31), 3) := by decide +kernel
theorem dX3_search_66 : decode cX3_search 66 = .ok (.iinc 4 1, 3) := by decide +kernel
theorem dX3_search_69 : decode cX3_search 69 = .ok (.goto (-60), 3) := by decide +kernel
theorem dX3_search_72 : decode cX3_search 72 = .ok (.return_, 1) := by decide +kernel
theorem dX3_step_0 : decode cX3_step 0 = .ok (.aload_n 1, 1) := by decide +kernel
theorem dX3_step_1 : decode cX3_step 1 = .ok (.getfield 48, 3) := by decide +kernel
theorem dX3_step_4 : decode cX3_step 4 = .ok (.iload 4, 2) := by decide +kernel
theorem dX3_step_6 : decode cX3_step 6 = .ok (.iaload, 1) := by decide +kernel
theorem dX3_step_7 : decode cX3_step 7 = .ok (.istore 6, 2) := by decide +kernel
theorem dX3_step_9 : decode cX3_step 9 = .ok (.aload_n 1, 1) := by decide +kernel
theorem dX3_step_10 : decode cX3_step 10 = .ok (.iload 4, 2) := by decide +kernel
theorem dX3_step_12 : decode cX3_step 12 = .ok (.iload 5, 2) := by decide +kernel
theorem dX3_step_14 : decode cX3_step 14 = .ok (.invokevirtual 61, 3) := by decide +kernel
theorem dX3_step_17 : decode cX3_step 17 = .ok (.istore 7, 2) := by decide +kernel
theorem dX3_step_19 : decode cX3_step 19 = .ok (.iload_n 3, 1) := by decide +kernel
theorem dX3_step_20 : decode cX3_step 20 = .ok (.iload 6, 2) := by decide +kernel
theorem dX3_step_22 : decode cX3_step 22 = .ok (.iload 5, 2) := by decide +kernel
theorem dX3_step_24 : decode cX3_step 24 = .ok (.iload 7, 2) := by decide +kernel
theorem dX3_step_26 : decode cX3_step 26 = .ok (.invokestatic 65, 3) := by decide +kernel
theorem dX3_step_29 : decode cX3_step 29 = .ok (.iadd, 1) := by decide +kernel
theorem dX3_step_30 : decode cX3_step 30 = .ok (.istore 8, 2) := by decide +kernel
theorem dX3_step_32 : decode cX3_step 32 = .ok (.iload_n 2, 1) := by decide +kernel
theorem dX3_step_33 : decode cX3_step 33 = .ok (.aload_n 0, 1) := by decide +kernel
theorem dX3_step_34 : decode cX3_step 34 = .ok (.getfield 28, 3) := by decide +kernel
theorem dX3_step_37 : decode cX3_step 37 = .ok (.iconst 1, 1) := by decide +kernel
theorem dX3_step_38 : decode cX3_step 38 = .ok (.isub, 1) := by decide +kernel
theorem dX3_step_39 : decode cX3_step 39 = .ok (.if_icmp .ne 7, 3) := by decide +kernel
theorem dX3_step_42 : decode cX3_step 42 = .ok (.iconst 1, 1) := by decide +kernel
theorem dX3_step_43 : decode cX3_step 43 = .ok (.goto 4, 3) := by decide +kernel
theorem dX3_step_46 : decode cX3_step 46 = .ok (.iconst 0, 1) := by decide +kernel
theorem dX3_step_47 : decode cX3_step 47 = .ok (.istore 9, 2) := by decide +kernel
theorem dX3_step_49 : decode cX3_step 49 = .ok (.iload 8, 2) := by decide +kernel
theorem dX3_step_51 : decode cX3_step 51 = .ok (.aload_n 0, 1) := by decide +kernel
theorem dX3_step_52 : decode cX3_step 52 = .ok (.getfield 31, 3) := by decide +kernel
theorem dX3_step_55 : decode cX3_step 55 = .ok (.if_icmp .ge 32, 3) := by decide +kernel
theorem dX3_step_58 : decode cX3_step 58 = .ok (.iload 9, 2) := by decide +kernel
theorem dX3_step_60 : decode cX3_step 60 = .ok (.ifCond .eq 14, 3) := by decide +kernel
theorem dX3_step_63 : decode cX3_step 63 = .ok (.iload 7, 2) := by decide +kernel
theorem dX3_step_65 : decode cX3_step 65 = .ok (.iconst 1, 1) := by decide +kernel
theorem dX3_step_66 : decode cX3_step 66 = .ok (.iadd, 1) := by decide +kernel
theorem dX3_step_67 : decode cX3_step 67 = .ok (.aload_n 0, 1) := by decide +kernel
theorem dX3_step_68 : decode cX3_step 68 = .ok (.getfield 24, 3) := by decide +kernel
theorem dX3_step_71 : decode cX3_step 71 = .ok (.if_icmp .lt 16, 3) := by decide +kernel
theorem dX3_step_74 : decode cX3_step 74 = .ok (.aload_n 0, 1) := by decide +kernel
theorem dX3_step_75 : decode cX3_step 75 = .ok (.aload_n 1, 1) := by decide +kernel
theorem dX3_step_76 : decode cX3_step 76 = .ok (.iload_n 2, 1) := by decide +kernel
theorem dX3_step_77 : decode cX3_step 77 = .ok (.iload 4, 2) := by decide +kernel
theorem dX3_step_79 : decode cX3_step 79 = .ok (.iload 5, 2) := by decide +kernel
theorem dX3_step_81 : decode cX3_step 81 = .ok (.invokevirtual 69, 3) := by decide +kernel
theorem dX3_step_84 : decode cX3_step 84 = .ok (.ifCond .eq 4, 3) := by decide +kernel
theorem dX3_step_87 : decode cX3_step 87 = .ok (.return_, 1) := by decide +kernel
theorem dX3_step_88 : decode cX3_step 88 = .ok (.aload_n 1, 1) := by decide +kernel
theorem dX3_step_89 : decode cX3_step 89 = .ok (.iload 4, 2) := by decide +kernel
theorem dX3_step_91 : decode cX3_step 91 = .ok (.iload 5, 2) := by decide +kernel
theorem dX3_step_93 : decode cX3_step 93 = .ok (.invokevirtual 73, 3) := by decide +kernel
theorem dX3_step_96 : decode cX3_step 96 = .ok (.ifCond .eq 4, 3) := by decide +kernel
theorem dX3_step_99 : decode cX3_step 99 = .ok (.return_, 1) := by decide +kernel
theorem dX3_step_100 : decode cX3_step 100 = .ok (.aload_n 0, 1) := by decide +kernel
theorem dX3_step_101 : decode cX3_step 101 = .ok (.getfield 11, 3) := by decide +kernel
theorem dX3_step_104 : decode cX3_step 104 = .ok (.iload_n 2, 1) := by decide +kernel
theorem dX3_step_105 : decode cX3_step 105 = .ok (.iload 4, 2) := by decide +kernel
theorem dX3_step_107 : decode cX3_step 107 = .ok (.iastore, 1) := by decide +kernel
theorem dX3_step_108 : decode cX3_step 108 = .ok (.aload_n 0, 1) := by decide +kernel
theorem dX3_step_109 : decode cX3_step 109 = .ok (.getfield 15, 3) := by decide +kernel
theorem dX3_step_112 : decode cX3_step 112 = .ok (.iload_n 2, 1) := by decide +kernel
theorem dX3_step_113 : decode cX3_step 113 = .ok (.iload 5, 2) := by decide +kernel
theorem dX3_step_115 : decode cX3_step 115 = .ok (.iastore, 1) := by decide +kernel
theorem dX3_step_116 : decode cX3_step 116 = .ok (.iload 9, 2) := by decide +kernel
theorem dX3_step_118 : decode cX3_step 118 = .ok (.ifCond .eq 12, 3) := by decide +kernel
theorem dX3_step_121 : decode cX3_step 121 = .ok (.aload_n 0, 1) := by decide +kernel
theorem dX3_step_122 : decode cX3_step 122 = .ok (.iload 8, 2) := by decide +kernel
theorem dX3_step_124 : decode cX3_step 124 = .ok (.invokevirtual 76, 3) := by decide +kernel
theorem dX3_step_127 : decode cX3_step 127 = .ok (.goto 24, 3) := by decide +kernel
theorem dX3_step_130 : decode cX3_step 130 = .ok (.aload_n 0, 1) := by decide +kernel
theorem dX3_step_131 : decode cX3_step 131 = .ok (.aload_n 1, 1) := by decide +kernel
theorem dX3_step_132 : decode cX3_step 132 = .ok (.iload_n 2, 1) := by decide +kernel
theorem dX3_step_133 : decode cX3_step 133 = .ok (.iconst 1, 1) := by decide +kernel
theorem dX3_step_134 : decode cX3_step 134 = .ok (.iadd, 1) := by decide +kernel
theorem dX3_step_135 : decode cX3_step 135 = .ok (.invokevirtual 80, 3) := by decide +kernel
theorem dX3_step_138 : decode cX3_step 138 = .ok (.ifCond .eq 13, 3) := by decide +kernel
theorem dX3_step_141 : decode cX3_step 141 = .ok (.aload_n 0, 1) := by decide +kernel
theorem dX3_step_142 : decode cX3_step 142 = .ok (.aload_n 1, 1) := by decide +kernel
theorem dX3_step_143 : decode cX3_step 143 = .ok (.iload_n 2, 1) := by decide +kernel
theorem dX3_step_144 : decode cX3_step 144 = .ok (.iconst 1, 1) := by decide +kernel
theorem dX3_step_145 : decode cX3_step 145 = .ok (.iadd, 1) := by decide +kernel
theorem dX3_step_146 : decode cX3_step 146 = .ok (.iload 8, 2) := by decide +kernel
theorem dX3_step_148 : decode cX3_step 148 = .ok (.invokevirtual 41, 3) := by decide +kernel
theorem dX3_step_151 : decode cX3_step 151 = .ok (.aload_n 1, 1) := by decide +kernel
theorem dX3_step_152 : decode cX3_step 152 = .ok (.iload 4, 2) := by decide +kernel
theorem dX3_step_154 : decode cX3_step 154 = .ok (.iload 6, 2) := by decide +kernel
theorem dX3_step_156 : decode cX3_step 156 = .ok (.invokevirtual 84, 3) := by decide +kernel
theorem dX3_step_159 : decode cX3_step 159 = .ok (.return_, 1) := by decide +kernel
theorem dX3_keep_0 : decode cX3_keep 0 = .ok (.aload_n 0, 1) := by decide +kernel
theorem dX3_keep_1 : decode cX3_keep 1 = .ok (.iload_n 1, 1) := by decide +kernel
theorem dX3_keep_2 : decode cX3_keep 2 = .ok (.putfield 31, 3) := by decide +kernel
theorem dX3_keep_5 : decode cX3_keep 5 = .ok (.aload_n 0, 1) := by decide +kernel
theorem dX3_keep_6 : decode cX3_keep 6 = .ok (.getfield 11, 3) := by decide +kernel
theorem dX3_keep_9 : decode cX3_keep 9 = .ok (.iconst 0, 1) := by decide +kernel
theorem dX3_keep_10 : decode cX3_keep 10 = .ok (.aload_n 0, 1) := by decide +kernel
theorem dX3_keep_11 : decode cX3_keep 11 = .ok (.getfield 18, 3) := by decide +kernel
theorem dX3_keep_14 : decode cX3_keep 14 = .ok (.iconst 0, 1) := by decide +kernel
theorem dX3_keep_15 : decode cX3_keep 15 = .ok (.iconst 5, 1) := by decide +kernel
theorem dX3_keep_16 : decode cX3_keep 16 = .ok (.invokestatic 88, 3) := by decide +kernel
theorem dX3_keep_19 : decode cX3_keep 19 = .ok (.aload_n 0, 1) := by decide +kernel
theorem dX3_keep_20 : decode cX3_keep 20 = .ok (.getfield 15, 3) := by decide +kernel
theorem dX3_keep_23 : decode cX3_keep 23 = .ok (.iconst 0, 1) := by decide +kernel
theorem dX3_keep_24 : decode cX3_keep 24 = .ok (.aload_n 0, 1) := by decide +kernel
theorem dX3_keep_25 : decode cX3_keep 25 = .ok (.getfield 21, 3) := by decide +kernel
theorem dX3_keep_28 : decode cX3_keep 28 = .ok (.iconst 0, 1) := by decide +kernel
theorem dX3_keep_29 : decode cX3_keep 29 = .ok (.iconst 5, 1) := by decide +kernel
theorem dX3_keep_30 : decode cX3_keep 30 = .ok (.invokestatic 88, 3) := by decide +kernel
theorem dX3_keep_33 : decode cX3_keep 33 = .ok (.return_, 1) := by decide +kernel
theorem dX3_cameLate_0 : decode cX3_cameLate 0 = .ok (.iload_n 2, 1) := by decide +kernel
theorem dX3_cameLate_1 : decode cX3_cameLate 1 = .ok (.iconst 1, 1) := by decide +kernel
theorem dX3_cameLate_2 : decode cX3_cameLate 2 = .ok (.isub, 1) := by decide +kernel
theorem dX3_cameLate_3 : decode cX3_cameLate 3 = .ok (.istore 5, 2) := by decide +kernel
theorem dX3_cameLate_5 : decode cX3_cameLate 5 = .ok (.iload 5, 2) := by decide +kernel
theorem dX3_cameLate_7 : decode cX3_cameLate 7 = .ok (.ifCond .lt 79, 3) := by decide +kernel
theorem dX3_cameLate_10 : decode cX3_cameLate 10 = .ok (.aload_n 0, 1) := by decide +kernel
theorem dX3_cameLate_11 : decode cX3_cameLate 11 = .ok (.getfield 11, 3) := by decide +kernel
theorem dX3_cameLate_14 : decode cX3_cameLate 14 = .ok (.iload 5, 2) := by decide +kernel
theorem dX3_cameLate_16 : decode cX3_cameLate 16 = .ok (.iaload, 1) := by decide +kernel
theorem dX3_cameLate_17 : decode cX3_cameLate 17 = .ok (.istore 6, 2) := by decide +kernel
theorem dX3_cameLate_19 : decode cX3_cameLate 19 = .ok (.iload 4, 2) := by decide +kernel
theorem dX3_cameLate_21 : decode cX3_cameLate 21 = .ok (.aload_n 1, 1) := by decide +kernel
theorem dX3_cameLate_22 : decode cX3_cameLate 22 = .ok (.getfield 54, 3) := by decide +kernel
theorem dX3_cameLate_25 : decode cX3_cameLate 25 = .ok (.iload_n 3, 1) := by decide +kernel
theorem dX3_cameLate_26 : decode cX3_cameLate 26 = .ok (.iaload, 1) := by decide +kernel
theorem dX3_cameLate_27 : decode cX3_cameLate 27 = .ok (.iadd, 1) := by decide +kernel
theorem dX3_cameLate_28 : decode cX3_cameLate 28 = .ok (.aload_n 0, 1) := by decide +kernel
theorem dX3_cameLate_29 : decode cX3_cameLate 29 = .ok (.getfield 15, 3) := by decide +kernel
theorem dX3_cameLate_32 : decode cX3_cameLate 32 = .ok (.iload 5, 2) := by decide +kernel
theorem dX3_cameLate_34 : decode cX3_cameLate 34 = .ok (.iaload, 1) := by decide +kernel
theorem dX3_cameLate_35 : decode cX3_cameLate 35 = .ok (.if_icmp .le 23, 3) := by decide +kernel
theorem dX3_cameLate_38 : decode cX3_cameLate 38 = .ok (.aload_n 0, 1) := by decide +kernel
theorem dX3_cameLate_39 : decode cX3_cameLate 39 = .ok (.getfield 15, 3) := by decide +kernel
theorem dX3_cameLate_42 : decode cX3_cameLate 42 = .ok (.iload 5, 2) := by decide +kernel
theorem dX3_cameLate_44 : decode cX3_cameLate 44 = .ok (.iaload, 1) := by decide +kernel
theorem dX3_cameLate_45 : decode cX3_cameLate 45 = .ok (.aload_n 1, 1) := by decide +kernel
theorem dX3_cameLate_46 : decode cX3_cameLate 46 = .ok (.getfield 54, 3) := by decide +kernel
theorem dX3_cameLate_49 : decode cX3_cameLate 49 = .ok (.iload 6, 2) := by decide +kernel
theorem dX3_cameLate_51 : decode cX3_cameLate 51 = .ok (.iaload, 1) := by decide +kernel
theorem dX3_cameLate_52 : decode cX3_cameLate 52 = .ok (.iadd, 1) := by decide +kernel
theorem dX3_cameLate_53 : decode cX3_cameLate 53 = .ok (.iload 4, 2) := by decide +kernel
theorem dX3_cameLate_55 : decode cX3_cameLate 55 = .ok (.if_icmp .gt 7, 3) := by decide +kernel
theorem dX3_cameLate_58 : decode cX3_cameLate 58 = .ok (.iconst 1, 1) := by decide +kernel
theorem dX3_cameLate_59 : decode cX3_cameLate 59 = .ok (.goto 4, 3) := by decide +kernel
theorem dX3_cameLate_62 : decode cX3_cameLate 62 = .ok (.iconst 0, 1) := by decide +kernel
theorem dX3_cameLate_63 : decode cX3_cameLate 63 = .ok (.istore 7, 2) := by decide +kernel
theorem dX3_cameLate_65 : decode cX3_cameLate 65 = .ok (.iload 7, 2) := by decide +kernel
theorem dX3_cameLate_67 : decode cX3_cameLate 67 = .ok (.ifCond .ne 5, 3) := by decide +kernel
theorem dX3_cameLate_70 : decode cX3_cameLate 70 = .ok (.iconst 0, 1) := by decide +kernel
theorem dX3_cameLate_71 : decode cX3_cameLate 71 = .ok (.ireturn, 1) := by decide +kernel
theorem dX3_cameLate_72 : decode cX3_cameLate 72 = .ok (.iload 6, 2) := by decide +kernel
theorem dX3_cameLate_74 : decode cX3_cameLate 74 = .ok (.iload_n 3, 1) := by decide +kernel
theorem dX3_cameLate_75 : decode cX3_cameLate 75 = .ok (.if_icmp .le 5, 3) := by decide +kernel
theorem dX3_cameLate_78 : decode cX3_cameLate 78 = .ok (.iconst 1, 1) := by decide +kernel
theorem dX3_cameLate_79 : decode cX3_cameLate 79 = .ok (.ireturn, 1) := by decide +kernel
theorem dX3_cameLate_80 : decode cX3_cameLate 80 = .ok (.iinc 5 (-1), 3) := by decide +kernel
theorem dX3_cameLate_83 : decode cX3_cameLate 83 = .ok (.goto (-78), 3) := by decide +kernel
theorem dX3_cameLate_86 : decode cX3_cameLate 86 = .ok (.iconst 0, 1) := by decide +kernel
theorem dX3_cameLate_87 : decode cX3_cameLate 87 = .ok (.ireturn, 1) := by decide +kernel
theorem dX3_isHopeful_0 : decode cX3_isHopeful 0 = .ok (.aload_n 0, 1) := by decide +kernel
theorem dX3_isHopeful_1 : decode cX3_isHopeful 1 = .ok (.getfield 28, 3) := by decide +kernel
theorem dX3_isHopeful_4 : decode cX3_isHopeful 4 = .ok (.iload_n 2, 1) := by decide +kernel
theorem dX3_isHopeful_5 : decode cX3_isHopeful 5 = .ok (.isub, 1) := by decide +kernel
theorem dX3_isHopeful_6 : decode cX3_isHopeful 6 = .ok (.istore_n 3, 1) := by decide +kernel
theorem dX3_isHopeful_7 : decode cX3_isHopeful 7 = .ok (.aload_n 0, 1) := by decide +kernel
theorem dX3_isHopeful_8 : decode cX3_isHopeful 8 = .ok (.getfield 24, 3) := by decide +kernel
theorem dX3_isHopeful_11 : decode cX3_isHopeful 11 = .ok (.aload_n 1, 1) := by decide +kernel
theorem dX3_isHopeful_12 : decode cX3_isHopeful 12 = .ok (.invokevirtual 34, 3) := by decide +kernel
theorem dX3_isHopeful_15 : decode cX3_isHopeful 15 = .ok (.isub, 1) := by decide +kernel
theorem dX3_isHopeful_16 : decode cX3_isHopeful 16 = .ok (.iload_n 3, 1) := by decide +kernel
theorem dX3_isHopeful_17 : decode cX3_isHopeful 17 = .ok (.if_icmp .le 5, 3) := by decide +kernel
theorem dX3_isHopeful_20 : decode cX3_isHopeful 20 = .ok (.iconst 0, 1) := by decide +kernel
theorem dX3_isHopeful_21 : decode cX3_isHopeful 21 = .ok (.ireturn, 1) := by decide +kernel
theorem dX3_isHopeful_22 : decode cX3_isHopeful 22 = .ok (.iconst 0, 1) := by decide +kernel
theorem dX3_isHopeful_23 : decode cX3_isHopeful 23 = .ok (.istore 4, 2) := by decide +kernel
theorem dX3_isHopeful_25 : decode cX3_isHopeful 25 = .ok (.iconst 0, 1) := by decide +kernel
theorem dX3_isHopeful_26 : decode cX3_isHopeful 26 = .ok (.istore 5, 2) := by decide +kernel
theorem dX3_isHopeful_28 : decode cX3_isHopeful 28 = .ok (.iload 5, 2) := by decide +kernel
theorem dX3_isHopeful_30 : decode cX3_isHopeful 30 = .ok (.iload_n 2, 1) := by decide +kernel
theorem dX3_isHopeful_31 : decode cX3_isHopeful 31 = .ok (.if_icmp .ge 32, 3) := by decide +kernel
theorem dX3_isHopeful_34 : decode cX3_isHopeful 34 = .ok (.iload 5, 2) := by decide +kernel
theorem dX3_isHopeful_36 : decode cX3_isHopeful 36 = .ok (.iconst 5, 1) := by decide +kernel
theorem dX3_isHopeful_37 : decode cX3_isHopeful 37 = .ok (.if_icmp .ge 26, 3) := by decide +kernel
theorem dX3_isHopeful_40 : decode cX3_isHopeful 40 = .ok (.aload_n 1, 1) := by decide +kernel
theorem dX3_isHopeful_41 : decode cX3_isHopeful 41 = .ok (.aload_n 0, 1) := by decide +kernel
theorem dX3_isHopeful_42 : decode cX3_isHopeful 42 = .ok (.getfield 11, 3) := by decide +kernel
theorem dX3_isHopeful_45 : decode cX3_isHopeful 45 = .ok (.iload 5, 2) := by decide +kernel
theorem dX3_isHopeful_47 : decode cX3_isHopeful 47 = .ok (.iaload, 1) := by decide +kernel
theorem dX3_isHopeful_48 : decode cX3_isHopeful 48 = .ok (.invokevirtual 94, 3) := by decide +kernel
theorem dX3_isHopeful_51 : decode cX3_isHopeful 51 = .ok (.ifCond .eq 6, 3) := by decide +kernel
theorem dX3_isHopeful_54 : decode cX3_isHopeful 54 = .ok (.iinc 4 1, 3) := by decide +kernel
theorem dX3_isHopeful_57 : decode cX3_isHopeful 57 = .ok (.iinc 5 1, 3) := by decide +kernel
theorem dX3_isHopeful_60 : decode cX3_isHopeful 60 = .ok (.goto (-32), 3) := by decide +kernel
theorem dX3_isHopeful_63 : decode cX3_isHopeful 63 = .ok (.iload 4, 2) := by decide +kernel
theorem dX3_isHopeful_65 : decode cX3_isHopeful 65 = .ok (.iconst 1, 1) := by decide +kernel
theorem dX3_isHopeful_66 : decode cX3_isHopeful 66 = .ok (.isub, 1) := by decide +kernel
theorem dX3_isHopeful_67 : decode cX3_isHopeful 67 = .ok (.iload_n 3, 1) := by decide +kernel
theorem dX3_isHopeful_68 : decode cX3_isHopeful 68 = .ok (.aload_n 1, 1) := by decide +kernel
theorem dX3_isHopeful_69 : decode cX3_isHopeful 69 = .ok (.invokestatic 98, 3) := by decide +kernel
theorem dX3_isHopeful_72 : decode cX3_isHopeful 72 = .ok (.iconst 1, 1) := by decide +kernel
theorem dX3_isHopeful_73 : decode cX3_isHopeful 73 = .ok (.isub, 1) := by decide +kernel
theorem dX3_isHopeful_74 : decode cX3_isHopeful 74 = .ok (.imul, 1) := by decide +kernel
theorem dX3_isHopeful_75 : decode cX3_isHopeful 75 = .ok (.if_icmp .gt 7, 3) := by decide +kernel
theorem dX3_isHopeful_78 : decode cX3_isHopeful 78 = .ok (.iconst 1, 1) := by decide +kernel
theorem dX3_isHopeful_79 : decode cX3_isHopeful 79 = .ok (.goto 4, 3) := by decide +kernel
theorem dX3_isHopeful_82 : decode cX3_isHopeful 82 = .ok (.iconst 0, 1) := by decide +kernel
theorem dX3_isHopeful_83 : decode cX3_isHopeful 83 = .ok (.ireturn, 1) := by decide +kernel
theorem dX3_longestInYard_0 : decode cX3_longestInYard 0 = .ok (.iconst 1, 1) := by decide +kernel
theorem dX3_longestInYard_1 : decode cX3_longestInYard 1 = .ok (.istore_n 1, 1) := by decide +kernel
theorem dX3_longestInYard_2 : decode cX3_longestInYard 2 = .ok (.iconst 0, 1) := by decide +kernel
theorem dX3_longestInYard_3 : decode cX3_longestInYard 3 = .ok (.istore_n 2, 1) := by decide +kernel
theorem dX3_longestInYard_4 : decode cX3_longestInYard 4 = .ok (.iload_n 2, 1) := by decide +kernel
theorem dX3_longestInYard_5 : decode cX3_longestInYard 5 = .ok (.aload_n 0, 1) := by decide +kernel
theorem dX3_longestInYard_6 : decode cX3_longestInYard 6 = .ok (.getfield 45, 3) := by decide +kernel
theorem dX3_longestInYard_9 : decode cX3_longestInYard 9 = .ok (.if_icmp .ge 30, 3) := by decide +kernel
theorem dX3_longestInYard_12 : decode cX3_longestInYard 12 = .ok (.aload_n 0, 1) := by decide +kernel
theorem dX3_longestInYard_13 : decode cX3_longestInYard 13 = .ok (.getfield 48, 3) := by decide +kernel
theorem dX3_longestInYard_16 : decode cX3_longestInYard 16 = .ok (.iload_n 2, 1) := by decide +kernel
theorem dX3_longestInYard_17 : decode cX3_longestInYard 17 = .ok (.iaload, 1) := by decide +kernel
theorem dX3_longestInYard_18 : decode cX3_longestInYard 18 = .ok (.iconst (-1), 1) := by decide +kernel
theorem dX3_longestInYard_19 : decode cX3_longestInYard 19 = .ok (.if_icmp .eq 14, 3) := by decide +kernel
theorem dX3_longestInYard_22 : decode cX3_longestInYard 22 = .ok (.iload_n 1, 1) := by decide +kernel
theorem dX3_longestInYard_23 : decode cX3_longestInYard 23 = .ok (.aload_n 0, 1) := by decide +kernel
theorem dX3_longestInYard_24 : decode cX3_longestInYard 24 = .ok (.getfield 54, 3) := by decide +kernel
theorem dX3_longestInYard_27 : decode cX3_longestInYard 27 = .ok (.iload_n 2, 1) := by decide +kernel
theorem dX3_longestInYard_28 : decode cX3_longestInYard 28 = .ok (.iaload, 1) := by decide +kernel
theorem dX3_longestInYard_29 : decode cX3_longestInYard 29 = .ok (.invokestatic 102, 3) := by decide +kernel
theorem dX3_longestInYard_32 : decode cX3_longestInYard 32 = .ok (.istore_n 1, 1) := by decide +kernel
theorem dX3_longestInYard_33 : decode cX3_longestInYard 33 = .ok (.iinc 2 1, 3) := by decide +kernel
theorem dX3_longestInYard_36 : decode cX3_longestInYard 36 = .ok (.goto (-32), 3) := by decide +kernel
theorem dX3_longestInYard_39 : decode cX3_longestInYard 39 = .ok (.iload_n 1, 1) := by decide +kernel
theorem dX3_longestInYard_40 : decode cX3_longestInYard 40 = .ok (.ireturn, 1) := by decide +kernel
theorem dX4_init_0 : decode cX4_init 0 = .ok (.aload_n 0, 1) := by decide +kernel
theorem dX4_init_1 : decode cX4_init 1 = .ok (.invokespecial 3, 3) := by decide +kernel
theorem dX4_init_4 : decode cX4_init 4 = .ok (.aload_n 0, 1) := by decide +kernel
theorem dX4_init_5 : decode cX4_init 5 = .ok (.bipush 72, 2) := by decide +kernel
theorem dX4_init_7 : decode cX4_init 7 = .ok (.newarray .int, 2) := by decide +kernel
theorem dX4_init_9 : decode cX4_init 9 = .ok (.putfield 9, 3) := by decide +kernel
theorem dX4_init_12 : decode cX4_init 12 = .ok (.aload_n 0, 1) := by decide +kernel
theorem dX4_init_13 : decode cX4_init 13 = .ok (.bipush 9, 2) := by decide +kernel
theorem dX4_init_15 : decode cX4_init 15 = .ok (.newarray .int, 2) := by decide +kernel
theorem dX4_init_17 : decode cX4_init 17 = .ok (.putfield 15, 3) := by decide +kernel
theorem dX4_init_20 : decode cX4_init 20 = .ok (.aload_n 0, 1) := by decide +kernel
theorem dX4_init_21 : decode cX4_init 21 = .ok (.bipush 9, 2) := by decide +kernel
theorem dX4_init_23 : decode cX4_init 23 = .ok (.newarray .long, 2) := by decide +kernel
theorem dX4_init_25 : decode cX4_init 25 = .ok (.putfield 18, 3) := by decide +kernel
theorem dX4_init_28 : decode cX4_init 28 = .ok (.return_, 1) := by decide +kernel
theorem dX4_begin_0 : decode cX4_begin 0 = .ok (.aload_n 0, 1) := by decide +kernel
theorem dX4_begin_1 : decode cX4_begin 1 = .ok (.getfield 9, 3) := by decide +kernel
theorem dX4_begin_4 : decode cX4_begin 4 = .ok (.iconst 0, 1) := by decide +kernel
theorem dX4_begin_5 : decode cX4_begin 5 = .ok (.invokestatic 22, 3) := by decide +kernel
theorem dX4_begin_8 : decode cX4_begin 8 = .ok (.aload_n 0, 1) := by decide +kernel
theorem dX4_begin_9 : decode cX4_begin 9 = .ok (.getfield 15, 3) := by decide +kernel
theorem dX4_begin_12 : decode cX4_begin 12 = .ok (.iconst 0, 1) := by decide +kernel
theorem dX4_begin_13 : decode cX4_begin 13 = .ok (.invokestatic 22, 3) := by decide +kernel
theorem dX4_begin_16 : decode cX4_begin 16 = .ok (.return_, 1) := by decide +kernel
theorem dX4_become_0 : decode cX4_become 0 = .ok (.aload_n 1, 1) := by decide +kernel
theorem dX4_become_1 : decode cX4_become 1 = .ok (.getfield 9, 3) := by decide +kernel
theorem dX4_become_4 : decode cX4_become 4 = .ok (.iconst 0, 1) := by decide +kernel
theorem dX4_become_5 : decode cX4_become 5 = .ok (.aload_n 0, 1) := by decide +kernel
theorem dX4_become_6 : decode cX4_become 6 = .ok (.getfield 9, 3) := by decide +kernel
theorem dX4_become_9 : decode cX4_become 9 = .ok (.iconst 0, 1) := by decide +kernel
theorem dX4_become_10 : decode cX4_become 10 = .ok (.aload_n 0, 1) := by decide +kernel
theorem dX4_become_11 : decode cX4_become 11 = .ok (.getfield 9, 3) := by decide +kernel
theorem dX4_become_14 : decode cX4_become 14 = .ok (.arraylength, 1) := by decide +kernel
theorem dX4_become_15 : decode cX4_become 15 = .ok (.invokestatic 28, 3) := by decide +kernel
theorem dX4_become_18 : decode cX4_become 18 = .ok (.aload_n 1, 1) := by decide +kernel
theorem dX4_become_19 : decode cX4_become 19 = .ok (.getfield 15, 3) := by decide +kernel
theorem dX4_become_22 : decode cX4_become 22 = .ok (.iconst 0, 1) := by decide +kernel
theorem dX4_become_23 : decode cX4_become 23 = .ok (.aload_n 0, 1) := by decide +kernel
theorem dX4_become_24 : decode cX4_become 24 = .ok (.getfield 15, 3) := by decide +kernel
theorem dX4_become_27 : decode cX4_become 27 = .ok (.iconst 0, 1) := by decide +kernel
theorem dX4_become_28 : decode cX4_become 28 = .ok (.aload_n 0, 1) := by decide +kernel
theorem dX4_become_29 : decode cX4_become 29 = .ok (.getfield 15, 3) := by decide +kernel
theorem dX4_become_32 : decode cX4_become 32 = .ok (.arraylength, 1) := by decide +kernel
theorem dX4_become_33 : decode cX4_become 33 = .ok (.invokestatic 28, 3) := by decide +kernel
theorem dX4_become_36 : decode cX4_become 36 = .ok (.return_, 1) := by decide +kernel
theorem dX4_setChance_0 : decode cX4_setChance 0 = .ok (.iload_n 1, 1) := by decide +kernel
theorem dX4_setChance_1 : decode cX4_setChance 1 = .ok (.ifCond .lt 13, 3) := by decide +kernel
theorem dX4_setChance_4 : decode cX4_setChance 4 = .ok (.iload_n 1, 1) := by decide +kernel
theorem dX4_setChance_5 : decode cX4_setChance 5 = .ok (.bipush 8, 2) := by decide +kernel
theorem dX4_setChance_7 : decode cX4_setChance 7 = .ok (.if_icmp .ge 7, 3) := by decide +kernel
theorem dX4_setChance_10 : decode cX4_setChance 10 = .ok (.iconst 1, 1) := by decide +kernel
theorem dX4_setChance_11 : decode cX4_setChance 11 = .ok (.goto 4, 3) := by decide +kernel
theorem dX4_setChance_14 : decode cX4_setChance 14 = .ok (.iconst 0, 1) := by decide +kernel
theorem dX4_setChance_15 : decode cX4_setChance 15 = .ok (.istore 4, 2) := by decide +kernel
theorem dX4_setChance_17 : decode cX4_setChance 17 = .ok (.iload 4, 2) := by decide +kernel
theorem dX4_setChance_19 : decode cX4_setChance 19 = .ok (.ifCond .eq 24, 3) := by decide +kernel
theorem dX4_setChance_22 : decode cX4_setChance 22 = .ok (.iload_n 2, 1) := by decide +kernel
theorem dX4_setChance_23 : decode cX4_setChance 23 = .ok (.iconst 1, 1) := by decide +kernel
theorem dX4_setChance_24 : decode cX4_setChance 24 = .ok (.if_icmp .lt 19, 3) := by decide +kernel
theorem dX4_setChance_27 : decode cX4_setChance 27 = .ok (.iload_n 2, 1) := by decide +kernel
theorem dX4_setChance_28 : decode cX4_setChance 28 = .ok (.bipush 8, 2) := by decide +kernel
theorem dX4_setChance_30 : decode cX4_setChance 30 = .ok (.if_icmp .gt 13, 3) := by decide +kernel
theorem dX4_setChance_33 : decode cX4_setChance 33 = .ok (.iload_n 3, 1) := by decide +kernel
theorem dX4_setChance_34 : decode cX4_setChance 34 = .ok (.ifCond .lt 9, 3) := by decide +kernel
theorem dX4_setChance_37 : decode cX4_setChance 37 = .ok (.iload_n 3, 1) := by decide +kernel
theorem dX4_setChance_38 : decode cX4_setChance 38 = .ok (.bipush 10, 2) := by decide +kernel
theorem dX4_setChance_40 : decode cX4_setChance 40 = .ok (.if_icmp .le 5, 3) := by decide +kernel
theorem dX4_setChance_43 : decode cX4_setChance 43 = .ok (.iconst 0, 1) := by decide +kernel
theorem dX4_setChance_44 : decode cX4_setChance 44 = .ok (.ireturn, 1) := by decide +kernel
theorem dX4_setChance_45 : decode cX4_setChance 45 = .ok (.aload_n 0, 1) := by decide +kernel
theorem dX4_setChance_46 : decode cX4_setChance 46 = .ok (.getfield 9, 3) := by decide +kernel
theorem dX4_setChance_49 : decode cX4_setChance 49 = .ok (.iload_n 1, 1) := by decide +kernel
theorem dX4_setChance_50 : decode cX4_setChance 50 = .ok (.bipush 9, 2) := by decide +kernel
theorem dX4_setChance_52 : decode cX4_setChance 52 = .ok (.imul, 1) := by decide +kernel
theorem dX4_setChance_53 : decode cX4_setChance 53 = .ok (.iload_n 2, 1) := by decide +kernel
theorem dX4_setChance_54 : decode cX4_setChance 54 = .ok (.iadd, 1) := by decide +kernel
theorem dX4_setChance_55 : decode cX4_setChance 55 = .ok (.iload_n 3, 1) := by decide +kernel
theorem dX4_setChance_56 : decode cX4_setChance 56 = .ok (.iastore, 1) := by decide +kernel
theorem dX4_setChance_57 : decode cX4_setChance 57 = .ok (.iconst 1, 1) := by decide +kernel
theorem dX4_setChance_58 : decode cX4_setChance 58 = .ok (.ireturn, 1) := by decide +kernel
theorem dX4_setReward_0 : decode cX4_setReward 0 = .ok (.iload_n 1, 1) := by decide +kernel
theorem dX4_setReward_1 : decode cX4_setReward 1 = .ok (.ifCond .lt 20, 3) := by decide +kernel
theorem dX4_setReward_4 : decode cX4_setReward 4 = .ok (.iload_n 1, 1) := by decide +kernel
theorem dX4_setReward_5 : decode cX4_setReward 5 = .ok (.bipush 8, 2) := by decide +kernel
theorem dX4_setReward_7 : decode cX4_setReward 7 = .ok (.if_icmp .gt 14, 3) := by decide +kernel
theorem dX4_setReward_10 : decode cX4_setReward 10 = .ok (.iload_n 2, 1) := by decide +kernel
theorem dX4_setReward_11 : decode cX4_setReward 11 = .ok (.ifCond .lt 10, 3) := by decide +kernel
theorem dX4_setReward_14 : decode cX4_setReward 14 = .ok (.iload_n 2, 1) := by decide +kernel
theorem dX4_setReward_15 : decode cX4_setReward 15 = .ok (.sipush 999, 3) := by decide +kernel
theorem dX4_setReward_18 : decode cX4_setReward 18 = .ok (.if_icmp .le 5, 3) := by decide +kernel
theorem dX4_setReward_21 : decode cX4_setReward 21 = .ok (.iconst 0, 1) := by decide +kernel
theorem dX4_setReward_22 : decode cX4_setReward 22 = .ok (.ireturn, 1) := by decide +kernel
theorem dX4_setReward_23 : decode cX4_setReward 23 = .ok (.aload_n 0, 1) := by decide +kernel
theorem dX4_setReward_24 : decode cX4_setReward 24 = .ok (.getfield 15, 3) := by decide +kernel
theorem dX4_setReward_27 : decode cX4_setReward 27 = .ok (.iload_n 1, 1) := by decide +kernel
theorem dX4_setReward_28 : decode cX4_setReward 28 = .ok (.iload_n 2, 1) := by decide +kernel
theorem dX4_setReward_29 : decode cX4_setReward 29 = .ok (.iastore, 1) := by decide +kernel
theorem dX4_setReward_30 : decode cX4_setReward 30 = .ok (.iconst 1, 1) := by decide +kernel
theorem dX4_setReward_31 : decode cX4_setReward 31 = .ok (.ireturn, 1) := by decide +kernel
theorem dX4_best_0 : decode cX4_best 0 = .ok (.iconst 0, 1) := by decide +kernel
theorem dX4_best_1 : decode cX4_best 1 = .ok (.istore 5, 2) := by decide +kernel
theorem dX4_best_3 : decode cX4_best 3 = .ok (.iload 5, 2) := by decide +kernel
theorem dX4_best_5 : decode cX4_best 5 = .ok (.bipush 8, 2) := by decide +kernel
theorem dX4_best_7 : decode cX4_best 7 = .ok (.if_icmp .gt 24, 3) := by decide +kernel
theorem dX4_best_10 : decode cX4_best 10 = .ok (.aload_n 0, 1) := by decide +kernel
theorem dX4_best_11 : decode cX4_best 11 = .ok (.getfield 18, 3) := by decide +kernel
theorem dX4_best_14 : decode cX4_best 14 = .ok (.iload 5, 2) := by decide +kernel
theorem dX4_best_16 : decode cX4_best 16 = .ok (.aload_n 0, 1) := by decide +kernel
theorem dX4_best_17 : decode cX4_best 17 = .ok (.getfield 15, 3) := by decide +kernel
theorem dX4_best_20 : decode cX4_best 20 = .ok (.iload 5, 2) := by decide +kernel
theorem dX4_best_22 : decode cX4_best 22 = .ok (.iaload, 1) := by decide +kernel
theorem dX4_best_23 : decode cX4_best 23 = .ok (.i2l, 1) := by decide +kernel
theorem dX4_best_24 : decode cX4_best 24 = .ok (.lastore, 1) := by decide +kernel
theorem dX4_best_25 : decode cX4_best 25 = .ok (.iinc 5 1, 3) := by decide +kernel
theorem dX4_best_28 : decode cX4_best 28 = .ok (.goto (-25), 3) := by decide +kernel
theorem dX4_best_31 : decode cX4_best 31 = .ok (.lconst 1, 1) := by decide +kernel
theorem dX4_best_32 : decode cX4_best 32 = .ok (.lstore 5, 2) := by decide +kernel
theorem dX4_best_34 : decode cX4_best 34 = .ok (.iconst 0, 1) := by decide +kernel
theorem dX4_best_35 : decode cX4_best 35 = .ok (.istore 7, 2) := by decide +kernel
theorem dX4_best_37 : decode cX4_best 37 = .ok (.iload_n 1, 1) := by decide +kernel
theorem dX4_best_38 : decode cX4_best 38 = .ok (.iconst 1, 1) := by decide +kernel
theorem dX4_best_39 : decode cX4_best 39 = .ok (.isub, 1) := by decide +kernel
theorem dX4_best_40 : decode cX4_best 40 = .ok (.istore 8, 2) := by decide +kernel
theorem dX4_best_42 : decode cX4_best 42 = .ok (.iload 8, 2) := by decide +kernel
theorem dX4_best_44 : decode cX4_best 44 = .ok (.iload_n 2, 1) := by decide +kernel
theorem dX4_best_45 : decode cX4_best 45 = .ok (.if_icmp .lt 111, 3) := by decide +kernel
theorem dX4_best_48 : decode cX4_best 48 = .ok (.iconst 0, 1) := by decide +kernel
theorem dX4_best_49 : decode cX4_best 49 = .ok (.istore 9, 2) := by decide +kernel
theorem dX4_best_51 : decode cX4_best 51 = .ok (.iload 9, 2) := by decide +kernel
theorem dX4_best_53 : decode cX4_best 53 = .ok (.bipush 8, 2) := by decide +kernel
theorem dX4_best_55 : decode cX4_best 55 = .ok (.if_icmp .gt 87, 3) := by decide +kernel
theorem dX4_best_58 : decode cX4_best 58 = .ok (.aload_n 0, 1) := by decide +kernel
theorem dX4_best_59 : decode cX4_best 59 = .ok (.getfield 15, 3) := by decide +kernel
theorem dX4_best_62 : decode cX4_best 62 = .ok (.iload 9, 2) := by decide +kernel
theorem dX4_best_64 : decode cX4_best 64 = .ok (.iaload, 1) := by decide +kernel
theorem dX4_best_65 : decode cX4_best 65 = .ok (.i2l, 1) := by decide +kernel
theorem dX4_best_66 : decode cX4_best 66 = .ok (.lload 5, 2) := by decide +kernel
theorem dX4_best_68 : decode cX4_best 68 = .ok (.lmul, 1) := by decide +kernel
theorem dX4_best_69 : decode cX4_best 69 = .ok (.ldc2_w 34, 3) := by decide +kernel
theorem dX4_best_72 : decode cX4_best 72 = .ok (.lmul, 1) := by decide +kernel
theorem dX4_best_73 : decode cX4_best 73 = .ok (.lstore 10, 2) := by decide +kernel
theorem dX4_best_75 : decode cX4_best 75 = .ok (.iload 9, 2) := by decide +kernel
theorem dX4_best_77 : decode cX4_best 77 = .ok (.bipush 8, 2) := by decide +kernel
theorem dX4_best_79 : decode cX4_best 79 = .ok (.if_icmp .ge 18, 3) := by decide +kernel
theorem dX4_best_82 : decode cX4_best 82 = .ok (.aload_n 0, 1) := by decide +kernel
theorem dX4_best_83 : decode cX4_best 83 = .ok (.iload 8, 2) := by decide +kernel
theorem dX4_best_85 : decode cX4_best 85 = .ok (.iload 9, 2) := by decide +kernel
theorem dX4_best_87 : decode cX4_best 87 = .ok (.iconst 1, 1) := by decide +kernel
theorem dX4_best_88 : decode cX4_best 88 = .ok (.iadd, 1) := by decide +kernel
theorem dX4_best_89 : decode cX4_best 89 = .ok (.lload 5, 2) := by decide +kernel
theorem dX4_best_91 : decode cX4_best 91 = .ok (.invokevirtual 36, 3) := by decide +kernel
theorem dX4_best_94 : decode cX4_best 94 = .ok (.goto 5, 3) := by decide +kernel
theorem dX4_best_97 : decode cX4_best 97 = .ok (.lload 10, 2) := by decide +kernel
theorem dX4_best_99 : decode cX4_best 99 = .ok (.lstore 12, 2) := by decide +kernel
theorem dX4_best_101 : decode cX4_best 101 = .ok (.aload_n 0, 1) := by decide +kernel
theorem dX4_best_102 : decode cX4_best 102 = .ok (.getfield 18, 3) := by decide +kernel
theorem dX4_best_105 : decode cX4_best 105 = .ok (.iload 9, 2) := by decide +kernel
theorem dX4_best_107 : decode cX4_best 107 = .ok (.lload 10, 2) := by decide +kernel
theorem dX4_best_109 : decode cX4_best 109 = .ok (.lload 12, 2) := by decide +kernel
theorem dX4_best_111 : decode cX4_best 111 = .ok (.invokestatic 40, 3) := by decide +kernel
theorem dX4_best_114 : decode cX4_best 114 = .ok (.lastore, 1) := by decide +kernel
theorem dX4_best_115 : decode cX4_best 115 = .ok (.iload 9, 2) := by decide +kernel
theorem dX4_best_117 : decode cX4_best 117 = .ok (.iload_n 3, 1) := by decide +kernel
theorem dX4_best_118 : decode cX4_best 118 = .ok (.if_icmp .ne 18, 3) := by decide +kernel
theorem dX4_best_121 : decode cX4_best 121 = .ok (.lload 12, 2) := by decide +kernel
theorem dX4_best_123 : decode cX4_best 123 = .ok (.lload 10, 2) := by decide +kernel
theorem dX4_best_125 : decode cX4_best 125 = .ok (.lcmp, 1) := by decide +kernel
theorem dX4_best_126 : decode cX4_best 126 = .ok (.ifCond .le 7, 3) := by decide +kernel
theorem dX4_best_129 : decode cX4_best 129 = .ok (.iconst 1, 1) := by decide +kernel
theorem dX4_best_130 : decode cX4_best 130 = .ok (.goto 4, 3) := by decide +kernel
theorem dX4_best_133 : decode cX4_best 133 = .ok (.iconst 0, 1) := by decide +kernel
theorem dX4_best_134 : decode cX4_best 134 = .ok (.istore 7, 2) := by decide +kernel
theorem dX4_best_136 : decode cX4_best 136 = .ok (.iinc 9 1, 3) := by decide +kernel
theorem dX4_best_139 : decode cX4_best 139 = .ok (.goto (-88), 3) := by decide +kernel
theorem dX4_best_142 : decode cX4_best 142 = .ok (.lload 5, 2) := by decide +kernel
theorem dX4_best_144 : decode cX4_best 144 = .ok (.ldc2_w 34, 3) := by decide +kernel
theorem dX4_best_147 : decode cX4_best 147 = .ok (.lmul, 1) := by decide +kernel
theorem dX4_best_148 : decode cX4_best 148 = .ok (.lstore 5, 2) := by decide +kernel
theorem dX4_best_150 : decode cX4_best 150 = .ok (.iinc 8 (-1), 3) := by decide +kernel
theorem dX4_best_153 : decode cX4_best 153 = .ok (.goto (-111), 3) := by decide +kernel
theorem dX4_best_156 : decode cX4_best 156 = .ok (.iload 4, 2) := by decide +kernel
theorem dX4_best_158 : decode cX4_best 158 = .ok (.ifCond .eq 14, 3) := by decide +kernel
theorem dX4_best_161 : decode cX4_best 161 = .ok (.iload 7, 2) := by decide +kernel
theorem dX4_best_163 : decode cX4_best 163 = .ok (.ifCond .eq 7, 3) := by decide +kernel
theorem dX4_best_166 : decode cX4_best 166 = .ok (.lconst 1, 1) := by decide +kernel
theorem dX4_best_167 : decode cX4_best 167 = .ok (.goto 4, 3) := by decide +kernel
theorem dX4_best_170 : decode cX4_best 170 = .ok (.lconst 0, 1) := by decide +kernel
theorem dX4_best_171 : decode cX4_best 171 = .ok (.lreturn, 1) := by decide +kernel
theorem dX4_best_172 : decode cX4_best 172 = .ok (.aload_n 0, 1) := by decide +kernel
theorem dX4_best_173 : decode cX4_best 173 = .ok (.getfield 18, 3) := by decide +kernel
theorem dX4_best_176 : decode cX4_best 176 = .ok (.iload_n 3, 1) := by decide +kernel
theorem dX4_best_177 : decode cX4_best 177 = .ok (.laload, 1) := by decide +kernel
theorem dX4_best_178 : decode cX4_best 178 = .ok (.lreturn, 1) := by decide +kernel
theorem dX4_odds_0 : decode cX4_odds 0 = .ok (.lconst 1, 1) := by decide +kernel
theorem dX4_odds_1 : decode cX4_odds 1 = .ok (.lstore_n 3, 1) := by decide +kernel
theorem dX4_odds_2 : decode cX4_odds 2 = .ok (.lconst 1, 1) := by decide +kernel
theorem dX4_odds_3 : decode cX4_odds 3 = .ok (.lstore 5, 2) := by decide +kernel
theorem dX4_odds_5 : decode cX4_odds 5 = .ok (.iconst 0, 1) := by decide +kernel
theorem dX4_odds_6 : decode cX4_odds 6 = .ok (.istore 7, 2) := by decide +kernel
theorem dX4_odds_8 : decode cX4_odds 8 = .ok (.iload 7, 2) := by decide +kernel
theorem dX4_odds_10 : decode cX4_odds 10 = .ok (.iload_n 1, 1) := by decide +kernel
theorem dX4_odds_11 : decode cX4_odds 11 = .ok (.if_icmp .ge 34, 3) := by decide +kernel
theorem dX4_odds_14 : decode cX4_odds 14 = .ok (.lload_n 3, 1) := by decide +kernel
theorem dX4_odds_15 : decode cX4_odds 15 = .ok (.bipush 10, 2) := by decide +kernel
theorem dX4_odds_17 : decode cX4_odds 17 = .ok (.aload_n 0, 1) := by decide +kernel
theorem dX4_odds_18 : decode cX4_odds 18 = .ok (.iload 7, 2) := by decide +kernel
theorem dX4_odds_20 : decode cX4_odds 20 = .ok (.iload 7, 2) := by decide +kernel
theorem dX4_odds_22 : decode cX4_odds 22 = .ok (.iconst 1, 1) := by decide +kernel
theorem dX4_odds_23 : decode cX4_odds 23 = .ok (.iadd, 1) := by decide +kernel
theorem dX4_odds_24 : decode cX4_odds 24 = .ok (.invokevirtual 46, 3) := by decide +kernel
theorem dX4_odds_27 : decode cX4_odds 27 = .ok (.isub, 1) := by decide +kernel
theorem dX4_odds_28 : decode cX4_odds 28 = .ok (.i2l, 1) := by decide +kernel
theorem dX4_odds_29 : decode cX4_odds 29 = .ok (.lmul, 1) := by decide +kernel
theorem dX4_odds_30 : decode cX4_odds 30 = .ok (.lstore_n 3, 1) := by decide +kernel
theorem dX4_odds_31 : decode cX4_odds 31 = .ok (.lload 5, 2) := by decide +kernel
theorem dX4_odds_33 : decode cX4_odds 33 = .ok (.ldc2_w 34, 3) := by decide +kernel
theorem dX4_odds_36 : decode cX4_odds 36 = .ok (.lmul, 1) := by decide +kernel
theorem dX4_odds_37 : decode cX4_odds 37 = .ok (.lstore 5, 2) := by decide +kernel
theorem dX4_odds_39 : decode cX4_odds 39 = .ok (.iinc 7 1, 3) := by decide +kernel
theorem dX4_odds_42 : decode cX4_odds 42 = .ok (.goto (-34), 3) := by decide +kernel
theorem dX4_odds_45 : decode cX4_odds 45 = .ok (.iload_n 2, 1) := by decide +kernel
theorem dX4_odds_46 : decode cX4_odds 46 = .ok (.ifCond .ne 6, 3) := by decide +kernel
theorem dX4_odds_49 : decode cX4_odds 49 = .ok (.lload 5, 2) := by decide +kernel
theorem dX4_odds_51 : decode cX4_odds 51 = .ok (.lreturn, 1) := by decide +kernel
theorem dX4_odds_52 : decode cX4_odds 52 = .ok (.iload_n 2, 1) := by decide +kernel
theorem dX4_odds_53 : decode cX4_odds 53 = .ok (.iload_n 1, 1) := by decide +kernel
theorem dX4_odds_54 : decode cX4_odds 54 = .ok (.if_icmp .gt 7, 3) := by decide +kernel
theorem dX4_odds_57 : decode cX4_odds 57 = .ok (.lload_n 3, 1) := by decide +kernel
theorem dX4_odds_58 : decode cX4_odds 58 = .ok (.goto 4, 3) := by decide +kernel
theorem dX4_odds_61 : decode cX4_odds 61 = .ok (.lconst 0, 1) := by decide +kernel
theorem dX4_odds_62 : decode cX4_odds 62 = .ok (.lreturn, 1) := by decide +kernel
theorem dX4_goingOn_0 : decode cX4_goingOn 0 = .ok (.aload_n 0, 1) := by decide +kernel
theorem dX4_goingOn_1 : decode cX4_goingOn 1 = .ok (.iload_n 1, 1) := by decide +kernel
theorem dX4_goingOn_2 : decode cX4_goingOn 2 = .ok (.iload_n 2, 1) := by decide +kernel
theorem dX4_goingOn_3 : decode cX4_goingOn 3 = .ok (.invokevirtual 46, 3) := by decide +kernel
theorem dX4_goingOn_6 : decode cX4_goingOn 6 = .ok (.i2l, 1) := by decide +kernel
theorem dX4_goingOn_7 : decode cX4_goingOn 7 = .ok (.lstore 5, 2) := by decide +kernel
theorem dX4_goingOn_9 : decode cX4_goingOn 9 = .ok (.lload 5, 2) := by decide +kernel
theorem dX4_goingOn_11 : decode cX4_goingOn 11 = .ok (.aload_n 0, 1) := by decide +kernel
theorem dX4_goingOn_12 : decode cX4_goingOn 12 = .ok (.getfield 15, 3) := by decide +kernel
theorem dX4_goingOn_15 : decode cX4_goingOn 15 = .ok (.iconst 0, 1) := by decide +kernel
theorem dX4_goingOn_16 : decode cX4_goingOn 16 = .ok (.iaload, 1) := by decide +kernel
theorem dX4_goingOn_17 : decode cX4_goingOn 17 = .ok (.i2l, 1) := by decide +kernel
theorem dX4_goingOn_18 : decode cX4_goingOn 18 = .ok (.lmul, 1) := by decide +kernel
theorem dX4_goingOn_19 : decode cX4_goingOn 19 = .ok (.lload_n 3, 1) := by decide +kernel
theorem dX4_goingOn_20 : decode cX4_goingOn 20 = .ok (.lmul, 1) := by decide +kernel
theorem dX4_goingOn_21 : decode cX4_goingOn 21 = .ok (.ldc2_w 34, 3) := by decide +kernel
theorem dX4_goingOn_24 : decode cX4_goingOn 24 = .ok (.lload 5, 2) := by decide +kernel
theorem dX4_goingOn_26 : decode cX4_goingOn 26 = .ok (.lsub, 1) := by decide +kernel
theorem dX4_goingOn_27 : decode cX4_goingOn 27 = .ok (.aload_n 0, 1) := by decide +kernel
theorem dX4_goingOn_28 : decode cX4_goingOn 28 = .ok (.getfield 18, 3) := by decide +kernel
theorem dX4_goingOn_31 : decode cX4_goingOn 31 = .ok (.iload_n 2, 1) := by decide +kernel
theorem dX4_goingOn_32 : decode cX4_goingOn 32 = .ok (.laload, 1) := by decide +kernel
theorem dX4_goingOn_33 : decode cX4_goingOn 33 = .ok (.lmul, 1) := by decide +kernel
theorem dX4_goingOn_34 : decode cX4_goingOn 34 = .ok (.ladd, 1) := by decide +kernel
theorem dX4_goingOn_35 : decode cX4_goingOn 35 = .ok (.lreturn, 1) := by decide +kernel
theorem dX4_chanceAt_0 : decode cX4_chanceAt 0 = .ok (.iload_n 1, 1) := by decide +kernel
theorem dX4_chanceAt_1 : decode cX4_chanceAt 1 = .ok (.bipush 9, 2) := by decide +kernel
theorem dX4_chanceAt_3 : decode cX4_chanceAt 3 = .ok (.imul, 1) := by decide +kernel
theorem dX4_chanceAt_4 : decode cX4_chanceAt 4 = .ok (.iload_n 2, 1) := by decide +kernel
theorem dX4_chanceAt_5 : decode cX4_chanceAt 5 = .ok (.iadd, 1) := by decide +kernel
theorem dX4_chanceAt_6 : decode cX4_chanceAt 6 = .ok (.istore_n 3, 1) := by decide +kernel
theorem dX4_chanceAt_7 : decode cX4_chanceAt 7 = .ok (.iload_n 3, 1) := by decide +kernel
theorem dX4_chanceAt_8 : decode cX4_chanceAt 8 = .ok (.ifCond .lt 21, 3) := by decide +kernel
theorem dX4_chanceAt_11 : decode cX4_chanceAt 11 = .ok (.iload_n 3, 1) := by decide +kernel
theorem dX4_chanceAt_12 : decode cX4_chanceAt 12 = .ok (.aload_n 0, 1) := by decide +kernel
theorem dX4_chanceAt_13 : decode cX4_chanceAt 13 = .ok (.getfield 9, 3) := by decide +kernel
theorem dX4_chanceAt_16 : decode cX4_chanceAt 16 = .ok (.arraylength, 1) := by decide +kernel
theorem dX4_chanceAt_17 : decode cX4_chanceAt 17 = .ok (.if_icmp .ge 12, 3) := by decide +kernel
theorem dX4_chanceAt_20 : decode cX4_chanceAt 20 = .ok (.aload_n 0, 1) := by decide +kernel
theorem dX4_chanceAt_21 : decode cX4_chanceAt 21 = .ok (.getfield 9, 3) := by decide +kernel
theorem dX4_chanceAt_24 : decode cX4_chanceAt 24 = .ok (.iload_n 3, 1) := by decide +kernel
theorem dX4_chanceAt_25 : decode cX4_chanceAt 25 = .ok (.iaload, 1) := by decide +kernel
theorem dX4_chanceAt_26 : decode cX4_chanceAt 26 = .ok (.goto 4, 3) := by decide +kernel
theorem dX4_chanceAt_29 : decode cX4_chanceAt 29 = .ok (.iconst 0, 1) := by decide +kernel
theorem dX4_chanceAt_30 : decode cX4_chanceAt 30 = .ok (.ireturn, 1) := by decide +kernel
theorem dX5_init_0 : decode cX5_init 0 = .ok (.aload_n 0, 1) := by decide +kernel
theorem dX5_init_1 : decode cX5_init 1 = .ok (.invokespecial 3, 3) := by decide +kernel
theorem dX5_init_4 : decode cX5_init 4 = .ok (.aload_n 0, 1) := by decide +kernel
theorem dX5_init_5 : decode cX5_init 5 = .ok (.iconst 5, 1) := by decide +kernel
theorem dX5_init_6 : decode cX5_init 6 = .ok (.putfield 9, 3) := by decide +kernel
theorem dX5_init_9 : decode cX5_init 9 = .ok (.aload_n 0, 1) := by decide +kernel
theorem dX5_init_10 : decode cX5_init 10 = .ok (.iconst 0, 1) := by decide +kernel
theorem dX5_init_11 : decode cX5_init 11 = .ok (.putfield 15, 3) := by decide +kernel
theorem dX5_init_14 : decode cX5_init 14 = .ok (.aload_n 0, 1) := by decide +kernel
theorem dX5_init_15 : decode cX5_init 15 = .ok (.bipush 20, 2) := by decide +kernel
theorem dX5_init_17 : decode cX5_init 17 = .ok (.newarray .int, 2) := by decide +kernel
theorem dX5_init_19 : decode cX5_init 19 = .ok (.putfield 18, 3) := by decide +kernel
theorem dX5_init_22 : decode cX5_init 22 = .ok (.aload_n 0, 1) := by decide +kernel
theorem dX5_init_23 : decode cX5_init 23 = .ok (.bipush 20, 2) := by decide +kernel
theorem dX5_init_25 : decode cX5_init 25 = .ok (.newarray .int, 2) := by decide +kernel
theorem dX5_init_27 : decode cX5_init 27 = .ok (.putfield 22, 3) := by decide +kernel
theorem dX5_init_30 : decode cX5_init 30 = .ok (.aload_n 0, 1) := by decide +kernel
theorem dX5_init_31 : decode cX5_init 31 = .ok (.bipush 20, 2) := by decide +kernel
theorem dX5_init_33 : decode cX5_init 33 = .ok (.newarray .int, 2) := by decide +kernel
theorem dX5_init_35 : decode cX5_init 35 = .ok (.putfield 25, 3) := by decide +kernel
theorem dX5_init_38 : decode cX5_init 38 = .ok (.aload_n 0, 1) := by decide +kernel
theorem dX5_init_39 : decode cX5_init 39 = .ok (.bipush 20, 2) := by decide +kernel
theorem dX5_init_41 : decode cX5_init 41 = .ok (.newarray .int, 2) := by decide +kernel
theorem dX5_init_43 : decode cX5_init 43 = .ok (.putfield 28, 3) := by decide +kernel
theorem dX5_init_46 : decode cX5_init 46 = .ok (.aload_n 0, 1) := by decide +kernel
theorem dX5_init_47 : decode cX5_init 47 = .ok (.bipush 20, 2) := by decide +kernel
theorem dX5_init_49 : decode cX5_init 49 = .ok (.newarray .int, 2) := by decide +kernel
theorem dX5_init_51 : decode cX5_init 51 = .ok (.putfield 31, 3) := by decide +kernel
theorem dX5_init_54 : decode cX5_init 54 = .ok (.aload_n 0, 1) := by decide +kernel
theorem dX5_init_55 : decode cX5_init 55 = .ok (.bipush 20, 2) := by decide +kernel
theorem dX5_init_57 : decode cX5_init 57 = .ok (.newarray .int, 2) := by decide +kernel
theorem dX5_init_59 : decode cX5_init 59 = .ok (.putfield 34, 3) := by decide +kernel
theorem dX5_init_62 : decode cX5_init 62 = .ok (.aload_n 0, 1) := by decide +kernel
theorem dX5_init_63 : decode cX5_init 63 = .ok (.bipush 20, 2) := by decide +kernel
theorem dX5_init_65 : decode cX5_init 65 = .ok (.newarray .int, 2) := by decide +kernel
theorem dX5_init_67 : decode cX5_init 67 = .ok (.putfield 37, 3) := by decide +kernel
theorem dX5_init_70 : decode cX5_init 70 = .ok (.aload_n 0, 1) := by decide +kernel
theorem dX5_init_71 : decode cX5_init 71 = .ok (.bipush 8, 2) := by decide +kernel
theorem dX5_init_73 : decode cX5_init 73 = .ok (.newarray .int, 2) := by decide +kernel
theorem dX5_init_75 : decode cX5_init 75 = .ok (.putfield 40, 3) := by decide +kernel
theorem dX5_init_78 : decode cX5_init 78 = .ok (.aload_n 0, 1) := by decide +kernel
theorem dX5_init_79 : decode cX5_init 79 = .ok (.sipush 160, 3) := by decide +kernel
theorem dX5_init_82 : decode cX5_init 82 = .ok (.newarray .int, 2) := by decide +kernel
theorem dX5_init_84 : decode cX5_init 84 = .ok (.putfield 43, 3) := by decide +kernel
theorem dX5_init_87 : decode cX5_init 87 = .ok (.aload_n 0, 1) := by decide +kernel
theorem dX5_init_88 : decode cX5_init 88 = .ok (.bipush 20, 2) := by decide +kernel
theorem dX5_init_90 : decode cX5_init 90 = .ok (.newarray .int, 2) := by decide +kernel
theorem dX5_init_92 : decode cX5_init 92 = .ok (.putfield 46, 3) := by decide +kernel
theorem dX5_init_95 : decode cX5_init 95 = .ok (.aload_n 0, 1) := by decide +kernel
theorem dX5_init_96 : decode cX5_init 96 = .ok (.iconst (-1), 1) := by decide +kernel
theorem dX5_init_97 : decode cX5_init 97 = .ok (.putfield 49, 3) := by decide +kernel
theorem dX5_init_100 : decode cX5_init 100 = .ok (.return_, 1) := by decide +kernel
theorem dX5_begin_0 : decode cX5_begin 0 = .ok (.aload_n 0, 1) := by decide +kernel
theorem dX5_begin_1 : decode cX5_begin 1 = .ok (.iload_n 1, 1) := by decide +kernel
theorem dX5_begin_2 : decode cX5_begin 2 = .ok (.putfield 9, 3) := by decide +kernel
theorem dX5_begin_5 : decode cX5_begin 5 = .ok (.aload_n 0, 1) := by decide +kernel
theorem dX5_begin_6 : decode cX5_begin 6 = .ok (.iconst 0, 1) := by decide +kernel
theorem dX5_begin_7 : decode cX5_begin 7 = .ok (.putfield 15, 3) := by decide +kernel
theorem dX5_begin_10 : decode cX5_begin 10 = .ok (.aload_n 0, 1) := by decide +kernel
theorem dX5_begin_11 : decode cX5_begin 11 = .ok (.invokevirtual 52, 3) := by decide +kernel
theorem dX5_begin_14 : decode cX5_begin 14 = .ok (.return_, 1) := by decide +kernel
theorem dX5_become_0 : decode cX5_become 0 = .ok (.aload_n 0, 1) := by decide +kernel
theorem dX5_become_1 : decode cX5_become 1 = .ok (.aload_n 1, 1) := by decide +kernel
theorem dX5_become_2 : decode cX5_become 2 = .ok (.getfield 9, 3) := by decide +kernel
theorem dX5_become_5 : decode cX5_become 5 = .ok (.putfield 9, 3) := by decide +kernel
theorem dX5_become_8 : decode cX5_become 8 = .ok (.aload_n 0, 1) := by decide +kernel
theorem dX5_become_9 : decode cX5_become 9 = .ok (.aload_n 1, 1) := by decide +kernel
theorem dX5_become_10 : decode cX5_become 10 = .ok (.getfield 15, 3) := by decide +kernel
theorem dX5_become_13 : decode cX5_become 13 = .ok (.putfield 15, 3) := by decide +kernel
theorem dX5_become_16 : decode cX5_become 16 = .ok (.aload_n 1, 1) := by decide +kernel
theorem dX5_become_17 : decode cX5_become 17 = .ok (.getfield 18, 3) := by decide +kernel
theorem dX5_become_20 : decode cX5_become 20 = .ok (.iconst 0, 1) := by decide +kernel
theorem dX5_become_21 : decode cX5_become 21 = .ok (.aload_n 0, 1) := by decide +kernel
theorem dX5_become_22 : decode cX5_become 22 = .ok (.getfield 18, 3) := by decide +kernel
theorem dX5_become_25 : decode cX5_become 25 = .ok (.iconst 0, 1) := by decide +kernel
theorem dX5_become_26 : decode cX5_become 26 = .ok (.bipush 20, 2) := by decide +kernel
theorem dX5_become_28 : decode cX5_become 28 = .ok (.invokestatic 55, 3) := by decide +kernel
theorem dX5_become_31 : decode cX5_become 31 = .ok (.aload_n 1, 1) := by decide +kernel
theorem dX5_become_32 : decode cX5_become 32 = .ok (.getfield 22, 3) := by decide +kernel
theorem dX5_become_35 : decode cX5_become 35 = .ok (.iconst 0, 1) := by decide +kernel
theorem dX5_become_36 : decode cX5_become 36 = .ok (.aload_n 0, 1) := by decide +kernel
theorem dX5_become_37 : decode cX5_become 37 = .ok (.getfield 22, 3) := by decide +kernel
theorem dX5_become_40 : decode cX5_become 40 = .ok (.iconst 0, 1) := by decide +kernel
theorem dX5_become_41 : decode cX5_become 41 = .ok (.bipush 20, 2) := by decide +kernel
theorem dX5_become_43 : decode cX5_become 43 = .ok (.invokestatic 55, 3) := by decide +kernel
theorem dX5_become_46 : decode cX5_become 46 = .ok (.aload_n 1, 1) := by decide +kernel
theorem dX5_become_47 : decode cX5_become 47 = .ok (.getfield 25, 3) := by decide +kernel
theorem dX5_become_50 : decode cX5_become 50 = .ok (.iconst 0, 1) := by decide +kernel
theorem dX5_become_51 : decode cX5_become 51 = .ok (.aload_n 0, 1) := by decide +kernel
theorem dX5_become_52 : decode cX5_become 52 = .ok (.getfield 25, 3) := by decide +kernel
theorem dX5_become_55 : decode cX5_become 55 = .ok (.iconst 0, 1) := by decide +kernel
theorem dX5_become_56 : decode cX5_become 56 = .ok (.bipush 20, 2) := by decide +kernel
theorem dX5_become_58 : decode cX5_become 58 = .ok (.invokestatic 55, 3) := by decide +kernel
theorem dX5_become_61 : decode cX5_become 61 = .ok (.aload_n 1, 1) := by decide +kernel
theorem dX5_become_62 : decode cX5_become 62 = .ok (.getfield 28, 3) := by decide +kernel
theorem dX5_become_65 : decode cX5_become 65 = .ok (.iconst 0, 1) := by decide +kernel
theorem dX5_become_66 : decode cX5_become 66 = .ok (.aload_n 0, 1) := by decide +kernel
theorem dX5_become_67 : decode cX5_become 67 = .ok (.getfield 28, 3) := by decide +kernel
theorem dX5_become_70 : decode cX5_become 70 = .ok (.iconst 0, 1) := by decide +kernel
theorem dX5_become_71 : decode cX5_become 71 = .ok (.bipush 20, 2) := by decide +kernel
theorem dX5_become_73 : decode cX5_become 73 = .ok (.invokestatic 55, 3) := by decide +kernel
theorem dX5_become_76 : decode cX5_become 76 = .ok (.aload_n 1, 1) := by decide +kernel
theorem dX5_become_77 : decode cX5_become 77 = .ok (.getfield 31, 3) := by decide +kernel
theorem dX5_become_80 : decode cX5_become 80 = .ok (.iconst 0, 1) := by decide +kernel
theorem dX5_become_81 : decode cX5_become 81 = .ok (.aload_n 0, 1) := by decide +kernel
theorem dX5_become_82 : decode cX5_become 82 = .ok (.getfield 31, 3) := by decide +kernel
theorem dX5_become_85 : decode cX5_become 85 = .ok (.iconst 0, 1) := by decide +kernel
theorem dX5_become_86 : decode cX5_become 86 = .ok (.bipush 20, 2) := by decide +kernel
theorem dX5_become_88 : decode cX5_become 88 = .ok (.invokestatic 55, 3) := by decide +kernel
theorem dX5_become_91 : decode cX5_become 91 = .ok (.aload_n 1, 1) := by decide +kernel
theorem dX5_become_92 : decode cX5_become 92 = .ok (.getfield 34, 3) := by decide +kernel
theorem dX5_become_95 : decode cX5_become 95 = .ok (.iconst 0, 1) := by decide +kernel
theorem dX5_become_96 : decode cX5_become 96 = .ok (.aload_n 0, 1) := by decide +kernel
theorem dX5_become_97 : decode cX5_become 97 = .ok (.getfield 34, 3) := by decide +kernel
theorem dX5_become_100 : decode cX5_become 100 = .ok (.iconst 0, 1) := by decide +kernel
theorem dX5_become_101 : decode cX5_become 101 = .ok (.bipush 20, 2) := by decide +kernel
theorem dX5_become_103 : decode cX5_become 103 = .ok (.invokestatic 55, 3) := by decide +kernel
theorem dX5_become_106 : decode cX5_become 106 = .ok (.aload_n 1, 1) := by decide +kernel
theorem dX5_become_107 : decode cX5_become 107 = .ok (.getfield 37, 3) := by decide +kernel
theorem dX5_become_110 : decode cX5_become 110 = .ok (.iconst 0, 1) := by decide +kernel
theorem dX5_become_111 : decode cX5_become 111 = .ok (.aload_n 0, 1) := by decide +kernel
theorem dX5_become_112 : decode cX5_become 112 = .ok (.getfield 37, 3) := by decide +kernel
theorem dX5_become_115 : decode cX5_become 115 = .ok (.iconst 0, 1) := by decide +kernel
theorem dX5_become_116 : decode cX5_become 116 = .ok (.bipush 20, 2) := by decide +kernel
theorem dX5_become_118 : decode cX5_become 118 = .ok (.invokestatic 55, 3) := by decide +kernel
theorem dX5_become_121 : decode cX5_become 121 = .ok (.aload_n 1, 1) := by decide +kernel
theorem dX5_become_122 : decode cX5_become 122 = .ok (.getfield 40, 3) := by decide +kernel
theorem dX5_become_125 : decode cX5_become 125 = .ok (.iconst 0, 1) := by decide +kernel
theorem dX5_become_126 : decode cX5_become 126 = .ok (.aload_n 0, 1) := by decide +kernel
theorem dX5_become_127 : decode cX5_become 127 = .ok (.getfield 40, 3) := by decide +kernel
theorem dX5_become_130 : decode cX5_become 130 = .ok (.iconst 0, 1) := by decide +kernel
theorem dX5_become_131 : decode cX5_become 131 = .ok (.bipush 8, 2) := by decide +kernel
theorem dX5_become_133 : decode cX5_become 133 = .ok (.invokestatic 55, 3) := by decide +kernel
theorem dX5_become_136 : decode cX5_become 136 = .ok (.aload_n 1, 1) := by decide +kernel
theorem dX5_become_137 : decode cX5_become 137 = .ok (.getfield 43, 3) := by decide +kernel
theorem dX5_become_140 : decode cX5_become 140 = .ok (.iconst 0, 1) := by decide +kernel
theorem dX5_become_141 : decode cX5_become 141 = .ok (.aload_n 0, 1) := by decide +kernel
theorem dX5_become_142 : decode cX5_become 142 = .ok (.getfield 43, 3) := by decide +kernel
theorem dX5_become_145 : decode cX5_become 145 = .ok (.iconst 0, 1) := by decide +kernel
theorem dX5_become_146 : decode cX5_become 146 = .ok (.aload_n 0, 1) := by decide +kernel
theorem dX5_become_147 : decode cX5_become 147 = .ok (.getfield 43, 3) := by decide +kernel
theorem dX5_become_150 : decode cX5_become 150 = .ok (.arraylength, 1) := by decide +kernel
theorem dX5_become_151 : decode cX5_become 151 = .ok (.invokestatic 55, 3) := by decide +kernel
theorem dX5_become_154 : decode cX5_become 154 = .ok (.return_, 1) := by decide +kernel
theorem dX5_add_0 : decode cX5_add 0 = .ok (.aload_n 0, 1) := by decide +kernel
theorem dX5_add_1 : decode cX5_add 1 = .ok (.getfield 15, 3) := by decide +kernel
theorem dX5_add_4 : decode cX5_add 4 = .ok (.bipush 20, 2) := by decide +kernel
theorem dX5_add_6 : decode cX5_add 6 = .ok (.if_icmp .lt 5, 3) := by decide +kernel
theorem dX5_add_9 : decode cX5_add 9 = .ok (.iconst (-1), 1) := by decide +kernel
theorem dX5_add_10 : decode cX5_add 10 = .ok (.ireturn, 1) := by decide +kernel
theorem dX5_add_11 : decode cX5_add 11 = .ok (.aload_n 0, 1) := by decide +kernel
theorem dX5_add_12 : decode cX5_add 12 = .ok (.getfield 18, 3) := by decide +kernel
theorem dX5_add_15 : decode cX5_add 15 = .ok (.aload_n 0, 1) := by decide +kernel
theorem dX5_add_16 : decode cX5_add 16 = .ok (.getfield 15, 3) := by decide +kernel
theorem dX5_add_19 : decode cX5_add 19 = .ok (.iload_n 1, 1) := by decide +kernel
theorem dX5_add_20 : decode cX5_add 20 = .ok (.iastore, 1) := by decide +kernel
theorem dX5_add_21 : decode cX5_add 21 = .ok (.aload_n 0, 1) := by decide +kernel
theorem dX5_add_22 : decode cX5_add 22 = .ok (.getfield 22, 3) := by decide +kernel
theorem dX5_add_25 : decode cX5_add 25 = .ok (.aload_n 0, 1) := by decide +kernel
theorem dX5_add_26 : decode cX5_add 26 = .ok (.getfield 15, 3) := by decide +kernel
theorem dX5_add_29 : decode cX5_add 29 = .ok (.iload_n 2, 1) := by decide +kernel
theorem dX5_add_30 : decode cX5_add 30 = .ok (.iastore, 1) := by decide +kernel
theorem dX5_add_31 : decode cX5_add 31 = .ok (.aload_n 0, 1) := by decide +kernel
theorem dX5_add_32 : decode cX5_add 32 = .ok (.getfield 25, 3) := by decide +kernel
theorem dX5_add_35 : decode cX5_add 35 = .ok (.aload_n 0, 1) := by decide +kernel
theorem dX5_add_36 : decode cX5_add 36 = .ok (.getfield 15, 3) := by decide +kernel
theorem dX5_add_39 : decode cX5_add 39 = .ok (.iload_n 3, 1) := by decide +kernel
theorem dX5_add_40 : decode cX5_add 40 = .ok (.iastore, 1) := by decide +kernel
theorem dX5_add_41 : decode cX5_add 41 = .ok (.aload_n 0, 1) := by decide +kernel
theorem dX5_add_42 : decode cX5_add 42 = .ok (.getfield 28, 3) := by decide +kernel
theorem dX5_add_45 : decode cX5_add 45 = .ok (.aload_n 0, 1) := by decide +kernel
theorem dX5_add_46 : decode cX5_add 46 = .ok (.getfield 15, 3) := by decide +kernel
theorem dX5_add_49 : decode cX5_add 49 = .ok (.iload 4, 2) := by decide +kernel
theorem dX5_add_51 : decode cX5_add 51 = .ok (.iastore, 1) := by decide +kernel
theorem dX5_add_52 : decode cX5_add 52 = .ok (.aload_n 0, 1) := by decide +kernel
theorem dX5_add_53 : decode cX5_add 53 = .ok (.getfield 31, 3) := by decide +kernel
theorem dX5_add_56 : decode cX5_add 56 = .ok (.aload_n 0, 1) := by decide +kernel
theorem dX5_add_57 : decode cX5_add 57 = .ok (.getfield 15, 3) := by decide +kernel
theorem dX5_add_60 : decode cX5_add 60 = .ok (.iload 5, 2) := by decide +kernel
theorem dX5_add_62 : decode cX5_add 62 = .ok (.iastore, 1) := by decide +kernel
theorem dX5_add_63 : decode cX5_add 63 = .ok (.aload_n 0, 1) := by decide +kernel
theorem dX5_add_64 : decode cX5_add 64 = .ok (.getfield 34, 3) := by decide +kernel
theorem dX5_add_67 : decode cX5_add 67 = .ok (.aload_n 0, 1) := by decide +kernel
theorem dX5_add_68 : decode cX5_add 68 = .ok (.getfield 15, 3) := by decide +kernel
theorem dX5_add_71 : decode cX5_add 71 = .ok (.iconst (-1), 1) := by decide +kernel
theorem dX5_add_72 : decode cX5_add 72 = .ok (.iastore, 1) := by decide +kernel
theorem dX5_add_73 : decode cX5_add 73 = .ok (.aload_n 0, 1) := by decide +kernel
theorem dX5_add_74 : decode cX5_add 74 = .ok (.getfield 37, 3) := by decide +kernel
theorem dX5_add_77 : decode cX5_add 77 = .ok (.aload_n 0, 1) := by decide +kernel
theorem dX5_add_78 : decode cX5_add 78 = .ok (.getfield 15, 3) := by decide +kernel
theorem dX5_add_81 : decode cX5_add 81 = .ok (.iconst (-1), 1) := by decide +kernel
theorem dX5_add_82 : decode cX5_add 82 = .ok (.iastore, 1) := by decide +kernel
theorem dX5_add_83 : decode cX5_add 83 = .ok (.aload_n 0, 1) := by decide +kernel
theorem dX5_add_84 : decode cX5_add 84 = .ok (.dup, 1) := by decide +kernel
theorem dX5_add_85 : decode cX5_add 85 = .ok (.getfield 15, 3) := by decide +kernel
theorem dX5_add_88 : decode cX5_add 88 = .ok (.iconst 1, 1) := by decide +kernel
theorem dX5_add_89 : decode cX5_add 89 = .ok (.iadd, 1) := by decide +kernel
theorem dX5_add_90 : decode cX5_add 90 = .ok (.putfield 15, 3) := by decide +kernel
theorem dX5_add_93 : decode cX5_add 93 = .ok (.aload_n 0, 1) := by decide +kernel
theorem dX5_add_94 : decode cX5_add 94 = .ok (.getfield 15, 3) := by decide +kernel
theorem dX5_add_97 : decode cX5_add 97 = .ok (.iconst 1, 1) := by decide +kernel
theorem dX5_add_98 : decode cX5_add 98 = .ok (.isub, 1) := by decide +kernel
theorem dX5_add_99 : decode cX5_add 99 = .ok (.ireturn, 1) := by decide +kernel
theorem dX5_isKnown_0 : decode cX5_isKnown 0 = .ok (.iload_n 1, 1) := by decide +kernel
theorem dX5_isKnown_1 : decode cX5_isKnown 1 = .ok (.ifCond .lt 15, 3) := by decide +kernel
theorem dX5_isKnown_4 : decode cX5_isKnown 4 = .ok (.iload_n 1, 1) := by decide +kernel
theorem dX5_isKnown_5 : decode cX5_isKnown 5 = .ok (.aload_n 0, 1) := by decide +kernel
theorem dX5_isKnown_6 : decode cX5_isKnown 6 = .ok (.getfield 15, 3) := by decide +kernel
theorem dX5_isKnown_9 : decode cX5_isKnown 9 = .ok (.if_icmp .ge 7, 3) := by decide +kernel
theorem dX5_isKnown_12 : decode cX5_isKnown 12 = .ok (.iconst 1, 1) := by decide +kernel
theorem dX5_isKnown_13 : decode cX5_isKnown 13 = .ok (.goto 4, 3) := by decide +kernel
theorem dX5_isKnown_16 : decode cX5_isKnown 16 = .ok (.iconst 0, 1) := by decide +kernel
theorem dX5_isKnown_17 : decode cX5_isKnown 17 = .ok (.ireturn, 1) := by decide +kernel
theorem dX5_isInYard_0 : decode cX5_isInYard 0 = .ok (.aload_n 0, 1) := by decide +kernel
theorem dX5_isInYard_1 : decode cX5_isInYard 1 = .ok (.iload_n 1, 1) := by decide +kernel
theorem dX5_isInYard_2 : decode cX5_isInYard 2 = .ok (.invokevirtual 61, 3) := by decide +kernel
theorem dX5_isInYard_5 : decode cX5_isInYard 5 = .ok (.ifCond .eq 17, 3) := by decide +kernel
theorem dX5_isInYard_8 : decode cX5_isInYard 8 = .ok (.aload_n 0, 1) := by decide +kernel
theorem dX5_isInYard_9 : decode cX5_isInYard 9 = .ok (.getfield 31, 3) := by decide +kernel
theorem dX5_isInYard_12 : decode cX5_isInYard 12 = .ok (.iload_n 1, 1) := by decide +kernel
theorem dX5_isInYard_13 : decode cX5_isInYard 13 = .ok (.iaload, 1) := by decide +kernel
theorem dX5_isInYard_14 : decode cX5_isInYard 14 = .ok (.iconst (-1), 1) := by decide +kernel
theorem dX5_isInYard_15 : decode cX5_isInYard 15 = .ok (.if_icmp .eq 7, 3) := by decide +kernel
theorem dX5_isInYard_18 : decode cX5_isInYard 18 = .ok (.iconst 1, 1) := by decide +kernel
theorem dX5_isInYard_19 : decode cX5_isInYard 19 = .ok (.goto 4, 3) := by decide +kernel
theorem dX5_isInYard_22 : decode cX5_isInYard 22 = .ok (.iconst 0, 1) := by decide +kernel
theorem dX5_isInYard_23 : decode cX5_isInYard 23 = .ok (.ireturn, 1) := by decide +kernel
theorem dX5_isInTower_0 : decode cX5_isInTower 0 = .ok (.aload_n 0, 1) := by decide +kernel
theorem dX5_isInTower_1 : decode cX5_isInTower 1 = .ok (.iload_n 1, 1) := by decide +kernel
theorem dX5_isInTower_2 : decode cX5_isInTower 2 = .ok (.invokevirtual 61, 3) := by decide +kernel
theorem dX5_isInTower_5 : decode cX5_isInTower 5 = .ok (.ifCond .eq 17, 3) := by decide +kernel
theorem dX5_isInTower_8 : decode cX5_isInTower 8 = .ok (.aload_n 0, 1) := by decide +kernel
theorem dX5_isInTower_9 : decode cX5_isInTower 9 = .ok (.getfield 31, 3) := by decide +kernel
theorem dX5_isInTower_12 : decode cX5_isInTower 12 = .ok (.iload_n 1, 1) := by decide +kernel
theorem dX5_isInTower_13 : decode cX5_isInTower 13 = .ok (.iaload, 1) := by decide +kernel
theorem dX5_isInTower_14 : decode cX5_isInTower 14 = .ok (.iconst (-1), 1) := by decide +kernel
theorem dX5_isInTower_15 : decode cX5_isInTower 15 = .ok (.if_icmp .ne 7, 3) := by decide +kernel
theorem dX5_isInTower_18 : decode cX5_isInTower 18 = .ok (.iconst 1, 1) := by decide +kernel
theorem dX5_isInTower_19 : decode cX5_isInTower 19 = .ok (.goto 4, 3) := by decide +kernel
theorem dX5_isInTower_22 : decode cX5_isInTower 22 = .ok (.iconst 0, 1) := by decide +kernel
theorem dX5_isInTower_23 : decode cX5_isInTower 23 = .ok (.ireturn, 1) := by decide +kernel
theorem dX5_fits_0 : decode cX5_fits 0 = .ok (.aload_n 0, 1) := by decide +kernel
theorem dX5_fits_1 : decode cX5_fits 1 = .ok (.iload_n 1, 1) := by decide +kernel
theorem dX5_fits_2 : decode cX5_fits 2 = .ok (.invokevirtual 61, 3) := by decide +kernel
theorem dX5_fits_5 : decode cX5_fits 5 = .ok (.ifCond .eq 26, 3) := by decide +kernel
theorem dX5_fits_8 : decode cX5_fits 8 = .ok (.iload_n 2, 1) := by decide +kernel
theorem dX5_fits_9 : decode cX5_fits 9 = .ok (.ifCond .lt 22, 3) := by decide +kernel
theorem dX5_fits_12 : decode cX5_fits 12 = .ok (.iload_n 2, 1) := by decide +kernel
theorem dX5_fits_13 : decode cX5_fits 13 = .ok (.aload_n 0, 1) := by decide +kernel
theorem dX5_fits_14 : decode cX5_fits 14 = .ok (.getfield 9, 3) := by decide +kernel
theorem dX5_fits_17 : decode cX5_fits 17 = .ok (.aload_n 0, 1) := by decide +kernel
theorem dX5_fits_18 : decode cX5_fits 18 = .ok (.getfield 18, 3) := by decide +kernel
theorem dX5_fits_21 : decode cX5_fits 21 = .ok (.iload_n 1, 1) := by decide +kernel
theorem dX5_fits_22 : decode cX5_fits 22 = .ok (.iaload, 1) := by decide +kernel
theorem dX5_fits_23 : decode cX5_fits 23 = .ok (.isub, 1) := by decide +kernel
theorem dX5_fits_24 : decode cX5_fits 24 = .ok (.if_icmp .gt 7, 3) := by decide +kernel
theorem dX5_fits_27 : decode cX5_fits 27 = .ok (.iconst 1, 1) := by decide +kernel
theorem dX5_fits_28 : decode cX5_fits 28 = .ok (.goto 4, 3) := by decide +kernel
theorem dX5_fits_31 : decode cX5_fits 31 = .ok (.iconst 0, 1) := by decide +kernel
theorem dX5_fits_32 : decode cX5_fits 32 = .ok (.ireturn, 1) := by decide +kernel
theorem dX5_inYard_0 : decode cX5_inYard 0 = .ok (.aload_n 0, 1) := by decide +kernel
theorem dX5_inYard_1 : decode cX5_inYard 1 = .ok (.invokevirtual 65, 3) := by decide +kernel
theorem dX5_inYard_4 : decode cX5_inYard 4 = .ok (.invokestatic 69, 3) := by decide +kernel
theorem dX5_inYard_7 : decode cX5_inYard 7 = .ok (.ireturn, 1) := by decide +kernel
theorem dX5_yardSet_0 : decode cX5_yardSet 0 = .ok (.iconst 0, 1) := by decide +kernel
theorem dX5_yardSet_1 : decode cX5_yardSet 1 = .ok (.istore_n 1, 1) := by decide +kernel
theorem dX5_yardSet_2 : decode cX5_yardSet 2 = .ok (.iconst 0, 1) := by decide +kernel
theorem dX5_yardSet_3 : decode cX5_yardSet 3 = .ok (.istore_n 2, 1) := by decide +kernel
theorem dX5_yardSet_4 : decode cX5_yardSet 4 = .ok (.iload_n 2, 1) := by decide +kernel
theorem dX5_yardSet_5 : decode cX5_yardSet 5 = .ok (.aload_n 0, 1) := by decide +kernel
theorem dX5_yardSet_6 : decode cX5_yardSet 6 = .ok (.getfield 15, 3) := by decide +kernel
theorem dX5_yardSet_9 : decode cX5_yardSet 9 = .ok (.if_icmp .ge 25, 3) := by decide +kernel
theorem dX5_yardSet_12 : decode cX5_yardSet 12 = .ok (.aload_n 0, 1) := by decide +kernel
theorem dX5_yardSet_13 : decode cX5_yardSet 13 = .ok (.getfield 31, 3) := by decide +kernel
theorem dX5_yardSet_16 : decode cX5_yardSet 16 = .ok (.iload_n 2, 1) := by decide +kernel
theorem dX5_yardSet_17 : decode cX5_yardSet 17 = .ok (.iaload, 1) := by decide +kernel
theorem dX5_yardSet_18 : decode cX5_yardSet 18 = .ok (.iconst (-1), 1) := by decide +kernel
theorem dX5_yardSet_19 : decode cX5_yardSet 19 = .ok (.if_icmp .eq 9, 3) := by decide +kernel
theorem dX5_yardSet_22 : decode cX5_yardSet 22 = .ok (.iload_n 1, 1) := by decide +kernel
theorem dX5_yardSet_23 : decode cX5_yardSet 23 = .ok (.iconst 1, 1) := by decide +kernel
theorem dX5_yardSet_24 : decode cX5_yardSet 24 = .ok (.iload_n 2, 1) := by decide +kernel
theorem dX5_yardSet_25 : decode cX5_yardSet 25 = .ok (.ishl, 1) := by decide +kernel
theorem dX5_yardSet_26 : decode cX5_yardSet 26 = .ok (.ior, 1) := by decide +kernel
theorem dX5_yardSet_27 : decode cX5_yardSet 27 = .ok (.istore_n 1, 1) := by decide +kernel
theorem dX5_yardSet_28 : decode cX5_yardSet 28 = .ok (.iinc 2 1, 3) := by decide +kernel
theorem dX5_yardSet_31 : decode cX5_yardSet 31 = .ok (.goto (-27), 3) := by decide +kernel
theorem dX5_yardSet_34 : decode cX5_yardSet 34 = .ok (.iload_n 1, 1) := by decide +kernel
theorem dX5_yardSet_35 : decode cX5_yardSet 35 = .ok (.ireturn, 1) := by decide +kernel
theorem dX5_tallest_0 : decode cX5_tallest 0 = .ok (.iconst 0, 1) := by decide +kernel
theorem dX5_tallest_1 : decode cX5_tallest 1 = .ok (.istore_n 1, 1) := by decide +kernel
theorem dX5_tallest_2 : decode cX5_tallest 2 = .ok (.iconst 0, 1) := by decide +kernel
theorem dX5_tallest_3 : decode cX5_tallest 3 = .ok (.istore_n 2, 1) := by decide +kernel
theorem dX5_tallest_4 : decode cX5_tallest 4 = .ok (.iload_n 2, 1) := by decide +kernel
theorem dX5_tallest_5 : decode cX5_tallest 5 = .ok (.aload_n 0, 1) := by decide +kernel
theorem dX5_tallest_6 : decode cX5_tallest 6 = .ok (.getfield 9, 3) := by decide +kernel
theorem dX5_tallest_9 : decode cX5_tallest 9 = .ok (.if_icmp .ge 20, 3) := by decide +kernel
theorem dX5_tallest_12 : decode cX5_tallest 12 = .ok (.iload_n 1, 1) := by decide +kernel
theorem dX5_tallest_13 : decode cX5_tallest 13 = .ok (.aload_n 0, 1) := by decide +kernel
theorem dX5_tallest_14 : decode cX5_tallest 14 = .ok (.getfield 40, 3) := by decide +kernel
theorem dX5_tallest_17 : decode cX5_tallest 17 = .ok (.iload_n 2, 1) := by decide +kernel
theorem dX5_tallest_18 : decode cX5_tallest 18 = .ok (.iaload, 1) := by decide +kernel
theorem dX5_tallest_19 : decode cX5_tallest 19 = .ok (.invokestatic 75, 3) := by decide +kernel
theorem dX5_tallest_22 : decode cX5_tallest 22 = .ok (.istore_n 1, 1) := by decide +kernel
theorem dX5_tallest_23 : decode cX5_tallest 23 = .ok (.iinc 2 1, 3) := by decide +kernel
theorem dX5_tallest_26 : decode cX5_tallest 26 = .ok (.goto (-22), 3) := by decide +kernel
theorem dX5_tallest_29 : decode cX5_tallest 29 = .ok (.iload_n 1, 1) := by decide +kernel
theorem dX5_tallest_30 : decode cX5_tallest 30 = .ok (.ireturn, 1) := by decide +kernel
theorem dX5_bears_0 : decode cX5_bears 0 = .ok (.aload_n 0, 1) := by decide +kernel
theorem dX5_bears_1 : decode cX5_bears 1 = .ok (.getfield 28, 3) := by decide +kernel
theorem dX5_bears_4 : decode cX5_bears 4 = .ok (.iload_n 1, 1) := by decide +kernel
theorem dX5_bears_5 : decode cX5_bears 5 = .ok (.iaload, 1) := by decide +kernel
theorem dX5_bears_6 : decode cX5_bears 6 = .ok (.istore_n 2, 1) := by decide +kernel
theorem dX5_bears_7 : decode cX5_bears 7 = .ok (.iload_n 2, 1) := by decide +kernel
theorem dX5_bears_8 : decode cX5_bears 8 = .ok (.iconst 4, 1) := by decide +kernel
theorem dX5_bears_9 : decode cX5_bears 9 = .ok (.iand, 1) := by decide +kernel
theorem dX5_bears_10 : decode cX5_bears 10 = .ok (.ifCond .eq 5, 3) := by decide +kernel
theorem dX5_bears_13 : decode cX5_bears 13 = .ok (.iconst 0, 1) := by decide +kernel
theorem dX5_bears_14 : decode cX5_bears 14 = .ok (.ireturn, 1) := by decide +kernel
theorem dX5_bears_15 : decode cX5_bears 15 = .ok (.aload_n 0, 1) := by decide +kernel
theorem dX5_bears_16 : decode cX5_bears 16 = .ok (.getfield 25, 3) := by decide +kernel
theorem dX5_bears_19 : decode cX5_bears 19 = .ok (.iload_n 1, 1) := by decide +kernel
theorem dX5_bears_20 : decode cX5_bears 20 = .ok (.iaload, 1) := by decide +kernel
theorem dX5_bears_21 : decode cX5_bears 21 = .ok (.istore_n 3, 1) := by decide +kernel
theorem dX5_bears_22 : decode cX5_bears 22 = .ok (.iload_n 2, 1) := by decide +kernel
theorem dX5_bears_23 : decode cX5_bears 23 = .ok (.iconst 1, 1) := by decide +kernel
theorem dX5_bears_24 : decode cX5_bears 24 = .ok (.iand, 1) := by decide +kernel
theorem dX5_bears_25 : decode cX5_bears 25 = .ok (.ifCond .eq 7, 3) := by decide +kernel
theorem dX5_bears_28 : decode cX5_bears 28 = .ok (.iload_n 3, 1) := by decide +kernel
theorem dX5_bears_29 : decode cX5_bears 29 = .ok (.iconst 2, 1) := by decide +kernel
theorem dX5_bears_30 : decode cX5_bears 30 = .ok (.idiv, 1) := by decide +kernel
theorem dX5_bears_31 : decode cX5_bears 31 = .ok (.istore_n 3, 1) := by decide +kernel
theorem dX5_bears_32 : decode cX5_bears 32 = .ok (.iload_n 2, 1) := by decide +kernel
theorem dX5_bears_33 : decode cX5_bears 33 = .ok (.iconst 2, 1) := by decide +kernel
theorem dX5_bears_34 : decode cX5_bears 34 = .ok (.iand, 1) := by decide +kernel
theorem dX5_bears_35 : decode cX5_bears 35 = .ok (.ifCond .eq 9, 3) := by decide +kernel
theorem dX5_bears_38 : decode cX5_bears 38 = .ok (.iload_n 3, 1) := by decide +kernel
theorem dX5_bears_39 : decode cX5_bears 39 = .ok (.iconst 3, 1) := by decide +kernel
theorem dX5_bears_40 : decode cX5_bears 40 = .ok (.idiv, 1) := by decide +kernel
theorem dX5_bears_41 : decode cX5_bears 41 = .ok (.goto 4, 3) := by decide +kernel
theorem dX5_bears_44 : decode cX5_bears 44 = .ok (.iload_n 3, 1) := by decide +kernel
theorem dX5_bears_45 : decode cX5_bears 45 = .ok (.ireturn, 1) := by decide +kernel
theorem dX5_loadOf_0 : decode cX5_loadOf 0 = .ok (.aload_n 0, 1) := by decide +kernel
theorem dX5_loadOf_1 : decode cX5_loadOf 1 = .ok (.iload_n 1, 1) := by decide +kernel
theorem dX5_loadOf_2 : decode cX5_loadOf 2 = .ok (.invokevirtual 81, 3) := by decide +kernel
theorem dX5_loadOf_5 : decode cX5_loadOf 5 = .ok (.ifCond .ne 5, 3) := by decide +kernel
theorem dX5_loadOf_8 : decode cX5_loadOf 8 = .ok (.iconst 0, 1) := by decide +kernel
theorem dX5_loadOf_9 : decode cX5_loadOf 9 = .ok (.ireturn, 1) := by decide +kernel
theorem dX5_loadOf_10 : decode cX5_loadOf 10 = .ok (.aload_n 0, 1) := by decide +kernel
theorem dX5_loadOf_11 : decode cX5_loadOf 11 = .ok (.invokevirtual 84, 3) := by decide +kernel
theorem dX5_loadOf_14 : decode cX5_loadOf 14 = .ok (.aload_n 0, 1) := by decide +kernel
theorem dX5_loadOf_15 : decode cX5_loadOf 15 = .ok (.getfield 46, 3) := by decide +kernel
theorem dX5_loadOf_18 : decode cX5_loadOf 18 = .ok (.iload_n 1, 1) := by decide +kernel
theorem dX5_loadOf_19 : decode cX5_loadOf 19 = .ok (.iaload, 1) := by decide +kernel
theorem dX5_loadOf_20 : decode cX5_loadOf 20 = .ok (.ireturn, 1) := by decide +kernel
