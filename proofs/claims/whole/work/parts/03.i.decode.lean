theorem dX10_topOne_0 : decode cX10_topOne 0 = .ok (.iconst (-1), 1) := by decide +kernel
theorem dX10_topOne_1 : decode cX10_topOne 1 = .ok (.istore_n 1, 1) := by decide +kernel
theorem dX10_topOne_2 : decode cX10_topOne 2 = .ok (.iconst 0, 1) := by decide +kernel
theorem dX10_topOne_3 : decode cX10_topOne 3 = .ok (.istore_n 2, 1) := by decide +kernel
theorem dX10_topOne_4 : decode cX10_topOne 4 = .ok (.iload_n 2, 1) := by decide +kernel
theorem dX10_topOne_5 : decode cX10_topOne 5 = .ok (.aload_n 0, 1) := by decide +kernel
theorem dX10_topOne_6 : decode cX10_topOne 6 = .ok (.getfield 7, 3) := by decide +kernel
theorem dX10_topOne_9 : decode cX10_topOne 9 = .ok (.iconst 1, 1) := by decide +kernel
theorem dX10_topOne_10 : decode cX10_topOne 10 = .ok (.iaload, 1) := by decide +kernel
theorem dX10_topOne_11 : decode cX10_topOne 11 = .ok (.if_icmp .ge 43, 3) := by decide +kernel
theorem dX10_topOne_14 : decode cX10_topOne 14 = .ok (.aload_n 0, 1) := by decide +kernel
theorem dX10_topOne_15 : decode cX10_topOne 15 = .ok (.iload_n 2, 1) := by decide +kernel
theorem dX10_topOne_16 : decode cX10_topOne 16 = .ok (.iconst 5, 1) := by decide +kernel
theorem dX10_topOne_17 : decode cX10_topOne 17 = .ok (.invokevirtual 94, 3) := by decide +kernel
theorem dX10_topOne_20 : decode cX10_topOne 20 = .ok (.iconst (-1), 1) := by decide +kernel
theorem dX10_topOne_21 : decode cX10_topOne 21 = .ok (.if_icmp .eq 27, 3) := by decide +kernel
theorem dX10_topOne_24 : decode cX10_topOne 24 = .ok (.iload_n 1, 1) := by decide +kernel
theorem dX10_topOne_25 : decode cX10_topOne 25 = .ok (.iconst (-1), 1) := by decide +kernel
theorem dX10_topOne_26 : decode cX10_topOne 26 = .ok (.if_icmp .eq 20, 3) := by decide +kernel
theorem dX10_topOne_29 : decode cX10_topOne 29 = .ok (.aload_n 0, 1) := by decide +kernel
theorem dX10_topOne_30 : decode cX10_topOne 30 = .ok (.iload_n 2, 1) := by decide +kernel
theorem dX10_topOne_31 : decode cX10_topOne 31 = .ok (.bipush 6, 2) := by decide +kernel
theorem dX10_topOne_33 : decode cX10_topOne 33 = .ok (.invokevirtual 94, 3) := by decide +kernel
theorem dX10_topOne_36 : decode cX10_topOne 36 = .ok (.aload_n 0, 1) := by decide +kernel
theorem dX10_topOne_37 : decode cX10_topOne 37 = .ok (.iload_n 1, 1) := by decide +kernel
theorem dX10_topOne_38 : decode cX10_topOne 38 = .ok (.bipush 6, 2) := by decide +kernel
theorem dX10_topOne_40 : decode cX10_topOne 40 = .ok (.invokevirtual 94, 3) := by decide +kernel
theorem dX10_topOne_43 : decode cX10_topOne 43 = .ok (.if_icmp .le 5, 3) := by decide +kernel
theorem dX10_topOne_46 : decode cX10_topOne 46 = .ok (.iload_n 2, 1) := by decide +kernel
theorem dX10_topOne_47 : decode cX10_topOne 47 = .ok (.istore_n 1, 1) := by decide +kernel
theorem dX10_topOne_48 : decode cX10_topOne 48 = .ok (.iinc 2 1, 3) := by decide +kernel
theorem dX10_topOne_51 : decode cX10_topOne 51 = .ok (.goto (-47), 3) := by decide +kernel
theorem dX10_topOne_54 : decode cX10_topOne 54 = .ok (.iload_n 1, 1) := by decide +kernel
theorem dX10_topOne_55 : decode cX10_topOne 55 = .ok (.ireturn, 1) := by decide +kernel
theorem dX10_judges_0 : decode cX10_judges 0 = .ok (.aload_n 0, 1) := by decide +kernel
theorem dX10_judges_1 : decode cX10_judges 1 = .ok (.invokevirtual 138, 3) := by decide +kernel
theorem dX10_judges_4 : decode cX10_judges 4 = .ok (.aload_n 0, 1) := by decide +kernel
theorem dX10_judges_5 : decode cX10_judges 5 = .ok (.invokevirtual 295, 3) := by decide +kernel
theorem dX10_judges_8 : decode cX10_judges 8 = .ok (.istore_n 2, 1) := by decide +kernel
theorem dX10_judges_9 : decode cX10_judges 9 = .ok (.aload_n 0, 1) := by decide +kernel
theorem dX10_judges_10 : decode cX10_judges 10 = .ok (.getfield 49, 3) := by decide +kernel
theorem dX10_judges_13 : decode cX10_judges 13 = .ok (.iconst 1, 1) := by decide +kernel
theorem dX10_judges_14 : decode cX10_judges 14 = .ok (.aload_n 0, 1) := by decide +kernel
theorem dX10_judges_15 : decode cX10_judges 15 = .ok (.invokevirtual 167, 3) := by decide +kernel
theorem dX10_judges_18 : decode cX10_judges 18 = .ok (.iastore, 1) := by decide +kernel
theorem dX10_judges_19 : decode cX10_judges 19 = .ok (.aload_n 0, 1) := by decide +kernel
theorem dX10_judges_20 : decode cX10_judges 20 = .ok (.getfield 49, 3) := by decide +kernel
theorem dX10_judges_23 : decode cX10_judges 23 = .ok (.iconst 2, 1) := by decide +kernel
theorem dX10_judges_24 : decode cX10_judges 24 = .ok (.aload_n 0, 1) := by decide +kernel
theorem dX10_judges_25 : decode cX10_judges 25 = .ok (.invokevirtual 298, 3) := by decide +kernel
theorem dX10_judges_28 : decode cX10_judges 28 = .ok (.iastore, 1) := by decide +kernel
theorem dX10_judges_29 : decode cX10_judges 29 = .ok (.aload_n 0, 1) := by decide +kernel
theorem dX10_judges_30 : decode cX10_judges 30 = .ok (.getfield 49, 3) := by decide +kernel
theorem dX10_judges_33 : decode cX10_judges 33 = .ok (.iconst 3, 1) := by decide +kernel
theorem dX10_judges_34 : decode cX10_judges 34 = .ok (.aload_n 0, 1) := by decide +kernel
theorem dX10_judges_35 : decode cX10_judges 35 = .ok (.getfield 7, 3) := by decide +kernel
theorem dX10_judges_38 : decode cX10_judges 38 = .ok (.iconst 3, 1) := by decide +kernel
theorem dX10_judges_39 : decode cX10_judges 39 = .ok (.iaload, 1) := by decide +kernel
theorem dX10_judges_40 : decode cX10_judges 40 = .ok (.iastore, 1) := by decide +kernel
theorem dX10_judges_41 : decode cX10_judges 41 = .ok (.aload_n 0, 1) := by decide +kernel
theorem dX10_judges_42 : decode cX10_judges 42 = .ok (.getfield 49, 3) := by decide +kernel
theorem dX10_judges_45 : decode cX10_judges 45 = .ok (.iconst 4, 1) := by decide +kernel
theorem dX10_judges_46 : decode cX10_judges 46 = .ok (.aload_n 0, 1) := by decide +kernel
theorem dX10_judges_47 : decode cX10_judges 47 = .ok (.getfield 7, 3) := by decide +kernel
theorem dX10_judges_50 : decode cX10_judges 50 = .ok (.iconst 4, 1) := by decide +kernel
theorem dX10_judges_51 : decode cX10_judges 51 = .ok (.iaload, 1) := by decide +kernel
theorem dX10_judges_52 : decode cX10_judges 52 = .ok (.iastore, 1) := by decide +kernel
theorem dX10_judges_53 : decode cX10_judges 53 = .ok (.aload_n 0, 1) := by decide +kernel
theorem dX10_judges_54 : decode cX10_judges 54 = .ok (.getfield 49, 3) := by decide +kernel
theorem dX10_judges_57 : decode cX10_judges 57 = .ok (.iconst 5, 1) := by decide +kernel
theorem dX10_judges_58 : decode cX10_judges 58 = .ok (.iload_n 2, 1) := by decide +kernel
theorem dX10_judges_59 : decode cX10_judges 59 = .ok (.iconst (-1), 1) := by decide +kernel
theorem dX10_judges_60 : decode cX10_judges 60 = .ok (.if_icmp .eq 18, 3) := by decide +kernel
theorem dX10_judges_63 : decode cX10_judges 63 = .ok (.aload_n 0, 1) := by decide +kernel
theorem dX10_judges_64 : decode cX10_judges 64 = .ok (.iload_n 2, 1) := by decide +kernel
theorem dX10_judges_65 : decode cX10_judges 65 = .ok (.iconst 3, 1) := by decide +kernel
theorem dX10_judges_66 : decode cX10_judges 66 = .ok (.invokevirtual 94, 3) := by decide +kernel
theorem dX10_judges_69 : decode cX10_judges 69 = .ok (.iconst 4, 1) := by decide +kernel
theorem dX10_judges_70 : decode cX10_judges 70 = .ok (.iand, 1) := by decide +kernel
theorem dX10_judges_71 : decode cX10_judges 71 = .ok (.ifCond .eq 7, 3) := by decide +kernel
theorem dX10_judges_74 : decode cX10_judges 74 = .ok (.iconst 1, 1) := by decide +kernel
theorem dX10_judges_75 : decode cX10_judges 75 = .ok (.goto 4, 3) := by decide +kernel
theorem dX10_judges_78 : decode cX10_judges 78 = .ok (.iconst 0, 1) := by decide +kernel
theorem dX10_judges_79 : decode cX10_judges 79 = .ok (.iastore, 1) := by decide +kernel
theorem dX10_judges_80 : decode cX10_judges 80 = .ok (.aload_n 0, 1) := by decide +kernel
theorem dX10_judges_81 : decode cX10_judges 81 = .ok (.getfield 49, 3) := by decide +kernel
theorem dX10_judges_84 : decode cX10_judges 84 = .ok (.bipush 6, 2) := by decide +kernel
theorem dX10_judges_86 : decode cX10_judges 86 = .ok (.aload_n 0, 1) := by decide +kernel
theorem dX10_judges_87 : decode cX10_judges 87 = .ok (.getfield 7, 3) := by decide +kernel
theorem dX10_judges_90 : decode cX10_judges 90 = .ok (.iconst 5, 1) := by decide +kernel
theorem dX10_judges_91 : decode cX10_judges 91 = .ok (.iaload, 1) := by decide +kernel
theorem dX10_judges_92 : decode cX10_judges 92 = .ok (.iastore, 1) := by decide +kernel
theorem dX10_judges_93 : decode cX10_judges 93 = .ok (.aload_n 0, 1) := by decide +kernel
theorem dX10_judges_94 : decode cX10_judges 94 = .ok (.getfield 49, 3) := by decide +kernel
theorem dX10_judges_97 : decode cX10_judges 97 = .ok (.bipush 7, 2) := by decide +kernel
theorem dX10_judges_99 : decode cX10_judges 99 = .ok (.aload_n 0, 1) := by decide +kernel
theorem dX10_judges_100 : decode cX10_judges 100 = .ok (.getfield 7, 3) := by decide +kernel
theorem dX10_judges_103 : decode cX10_judges 103 = .ok (.iconst 2, 1) := by decide +kernel
theorem dX10_judges_104 : decode cX10_judges 104 = .ok (.iaload, 1) := by decide +kernel
theorem dX10_judges_105 : decode cX10_judges 105 = .ok (.iastore, 1) := by decide +kernel
theorem dX10_judges_106 : decode cX10_judges 106 = .ok (.iconst 0, 1) := by decide +kernel
theorem dX10_judges_107 : decode cX10_judges 107 = .ok (.istore_n 3, 1) := by decide +kernel
theorem dX10_judges_108 : decode cX10_judges 108 = .ok (.iload_n 3, 1) := by decide +kernel
theorem dX10_judges_109 : decode cX10_judges 109 = .ok (.aload_n 0, 1) := by decide +kernel
theorem dX10_judges_110 : decode cX10_judges 110 = .ok (.getfield 7, 3) := by decide +kernel
theorem dX10_judges_113 : decode cX10_judges 113 = .ok (.sipush 340, 3) := by decide +kernel
theorem dX10_judges_116 : decode cX10_judges 116 = .ok (.iaload, 1) := by decide +kernel
theorem dX10_judges_117 : decode cX10_judges 117 = .ok (.if_icmp .ge 67, 3) := by decide +kernel
theorem dX10_judges_120 : decode cX10_judges 120 = .ok (.aload_n 0, 1) := by decide +kernel
theorem dX10_judges_121 : decode cX10_judges 121 = .ok (.getfield 7, 3) := by decide +kernel
theorem dX10_judges_124 : decode cX10_judges 124 = .ok (.sipush 345, 3) := by decide +kernel
theorem dX10_judges_127 : decode cX10_judges 127 = .ok (.iload_n 3, 1) := by decide +kernel
theorem dX10_judges_128 : decode cX10_judges 128 = .ok (.iadd, 1) := by decide +kernel
theorem dX10_judges_129 : decode cX10_judges 129 = .ok (.iaload, 1) := by decide +kernel
theorem dX10_judges_130 : decode cX10_judges 130 = .ok (.iload_n 1, 1) := by decide +kernel
theorem dX10_judges_131 : decode cX10_judges 131 = .ok (.if_icmp .ne 47, 3) := by decide +kernel
theorem dX10_judges_134 : decode cX10_judges 134 = .ok (.aload_n 0, 1) := by decide +kernel
theorem dX10_judges_135 : decode cX10_judges 135 = .ok (.aload_n 0, 1) := by decide +kernel
theorem dX10_judges_136 : decode cX10_judges 136 = .ok (.getfield 7, 3) := by decide +kernel
theorem dX10_judges_139 : decode cX10_judges 139 = .ok (.sipush 365, 3) := by decide +kernel
theorem dX10_judges_142 : decode cX10_judges 142 = .ok (.iload_n 3, 1) := by decide +kernel
theorem dX10_judges_143 : decode cX10_judges 143 = .ok (.iadd, 1) := by decide +kernel
theorem dX10_judges_144 : decode cX10_judges 144 = .ok (.iaload, 1) := by decide +kernel
theorem dX10_judges_145 : decode cX10_judges 145 = .ok (.aload_n 0, 1) := by decide +kernel
theorem dX10_judges_146 : decode cX10_judges 146 = .ok (.getfield 7, 3) := by decide +kernel
theorem dX10_judges_149 : decode cX10_judges 149 = .ok (.sipush 385, 3) := by decide +kernel
theorem dX10_judges_152 : decode cX10_judges 152 = .ok (.iload_n 3, 1) := by decide +kernel
theorem dX10_judges_153 : decode cX10_judges 153 = .ok (.iadd, 1) := by decide +kernel
theorem dX10_judges_154 : decode cX10_judges 154 = .ok (.iaload, 1) := by decide +kernel
theorem dX10_judges_155 : decode cX10_judges 155 = .ok (.invokevirtual 301, 3) := by decide +kernel
theorem dX10_judges_158 : decode cX10_judges 158 = .ok (.iconst 1, 1) := by decide +kernel
theorem dX10_judges_159 : decode cX10_judges 159 = .ok (.if_icmp .ne 6, 3) := by decide +kernel
theorem dX10_judges_162 : decode cX10_judges 162 = .ok (.goto 16, 3) := by decide +kernel
theorem dX10_judges_165 : decode cX10_judges 165 = .ok (.aload_n 0, 1) := by decide +kernel
theorem dX10_judges_166 : decode cX10_judges 166 = .ok (.getfield 7, 3) := by decide +kernel
theorem dX10_judges_169 : decode cX10_judges 169 = .ok (.bipush 7, 2) := by decide +kernel
theorem dX10_judges_171 : decode cX10_judges 171 = .ok (.dup2, 1) := by decide +kernel
theorem dX10_judges_172 : decode cX10_judges 172 = .ok (.iaload, 1) := by decide +kernel
theorem dX10_judges_173 : decode cX10_judges 173 = .ok (.iconst 1, 1) := by decide +kernel
theorem dX10_judges_174 : decode cX10_judges 174 = .ok (.iadd, 1) := by decide +kernel
theorem dX10_judges_175 : decode cX10_judges 175 = .ok (.iastore, 1) := by decide +kernel
theorem dX10_judges_176 : decode cX10_judges 176 = .ok (.iload_n 3, 1) := by decide +kernel
theorem dX10_judges_177 : decode cX10_judges 177 = .ok (.ireturn, 1) := by decide +kernel
theorem dX10_judges_178 : decode cX10_judges 178 = .ok (.iinc 3 1, 3) := by decide +kernel
theorem dX10_judges_181 : decode cX10_judges 181 = .ok (.goto (-73), 3) := by decide +kernel
theorem dX10_judges_184 : decode cX10_judges 184 = .ok (.iconst (-1), 1) := by decide +kernel
theorem dX10_judges_185 : decode cX10_judges 185 = .ok (.ireturn, 1) := by decide +kernel
theorem dX10_noon_0 : decode cX10_noon 0 = .ok (.aload_n 0, 1) := by decide +kernel
theorem dX10_noon_1 : decode cX10_noon 1 = .ok (.getfield 7, 3) := by decide +kernel
theorem dX10_noon_4 : decode cX10_noon 4 = .ok (.bipush 6, 2) := by decide +kernel
theorem dX10_noon_6 : decode cX10_noon 6 = .ok (.iaload, 1) := by decide +kernel
theorem dX10_noon_7 : decode cX10_noon 7 = .ok (.iconst 1, 1) := by decide +kernel
theorem dX10_noon_8 : decode cX10_noon 8 = .ok (.if_icmp .ne 6, 3) := by decide +kernel
theorem dX10_noon_11 : decode cX10_noon 11 = .ok (.bipush (-2), 2) := by decide +kernel
theorem dX10_noon_13 : decode cX10_noon 13 = .ok (.ireturn, 1) := by decide +kernel
theorem dX10_noon_14 : decode cX10_noon 14 = .ok (.aload_n 0, 1) := by decide +kernel
theorem dX10_noon_15 : decode cX10_noon 15 = .ok (.invokevirtual 138, 3) := by decide +kernel
theorem dX10_noon_18 : decode cX10_noon 18 = .ok (.aload_n 0, 1) := by decide +kernel
theorem dX10_noon_19 : decode cX10_noon 19 = .ok (.getfield 7, 3) := by decide +kernel
theorem dX10_noon_22 : decode cX10_noon 22 = .ok (.bipush 6, 2) := by decide +kernel
theorem dX10_noon_24 : decode cX10_noon 24 = .ok (.iconst 1, 1) := by decide +kernel
theorem dX10_noon_25 : decode cX10_noon 25 = .ok (.iastore, 1) := by decide +kernel
theorem dX10_noon_26 : decode cX10_noon 26 = .ok (.aload_n 0, 1) := by decide +kernel
theorem dX10_noon_27 : decode cX10_noon 27 = .ok (.getfield 7, 3) := by decide +kernel
theorem dX10_noon_30 : decode cX10_noon 30 = .ok (.iconst 5, 1) := by decide +kernel
theorem dX10_noon_31 : decode cX10_noon 31 = .ok (.aload_n 0, 1) := by decide +kernel
theorem dX10_noon_32 : decode cX10_noon 32 = .ok (.invokevirtual 167, 3) := by decide +kernel
theorem dX10_noon_35 : decode cX10_noon 35 = .ok (.iastore, 1) := by decide +kernel
theorem dX10_noon_36 : decode cX10_noon 36 = .ok (.aload_n 0, 1) := by decide +kernel
theorem dX10_noon_37 : decode cX10_noon 37 = .ok (.invokevirtual 83, 3) := by decide +kernel
theorem dX10_noon_40 : decode cX10_noon 40 = .ok (.aload_n 0, 1) := by decide +kernel
theorem dX10_noon_41 : decode cX10_noon 41 = .ok (.iconst 0, 1) := by decide +kernel
theorem dX10_noon_42 : decode cX10_noon 42 = .ok (.invokevirtual 304, 3) := by decide +kernel
theorem dX10_noon_45 : decode cX10_noon 45 = .ok (.ireturn, 1) := by decide +kernel
theorem dX10_dusk_0 : decode cX10_dusk 0 = .ok (.aload_n 0, 1) := by decide +kernel
theorem dX10_dusk_1 : decode cX10_dusk 1 = .ok (.iconst 1, 1) := by decide +kernel
theorem dX10_dusk_2 : decode cX10_dusk 2 = .ok (.invokevirtual 304, 3) := by decide +kernel
theorem dX10_dusk_5 : decode cX10_dusk 5 = .ok (.istore_n 1, 1) := by decide +kernel
theorem dX10_dusk_6 : decode cX10_dusk 6 = .ok (.iconst 0, 1) := by decide +kernel
theorem dX10_dusk_7 : decode cX10_dusk 7 = .ok (.istore_n 2, 1) := by decide +kernel
theorem dX10_dusk_8 : decode cX10_dusk 8 = .ok (.iload_n 2, 1) := by decide +kernel
theorem dX10_dusk_9 : decode cX10_dusk 9 = .ok (.aload_n 0, 1) := by decide +kernel
theorem dX10_dusk_10 : decode cX10_dusk 10 = .ok (.getfield 7, 3) := by decide +kernel
theorem dX10_dusk_13 : decode cX10_dusk 13 = .ok (.iconst 1, 1) := by decide +kernel
theorem dX10_dusk_14 : decode cX10_dusk 14 = .ok (.iaload, 1) := by decide +kernel
theorem dX10_dusk_15 : decode cX10_dusk 15 = .ok (.if_icmp .ge 87, 3) := by decide +kernel
theorem dX10_dusk_18 : decode cX10_dusk 18 = .ok (.aload_n 0, 1) := by decide +kernel
theorem dX10_dusk_19 : decode cX10_dusk 19 = .ok (.iload_n 2, 1) := by decide +kernel
theorem dX10_dusk_20 : decode cX10_dusk 20 = .ok (.iconst 5, 1) := by decide +kernel
theorem dX10_dusk_21 : decode cX10_dusk 21 = .ok (.invokevirtual 94, 3) := by decide +kernel
theorem dX10_dusk_24 : decode cX10_dusk 24 = .ok (.iconst (-1), 1) := by decide +kernel
theorem dX10_dusk_25 : decode cX10_dusk 25 = .ok (.if_icmp .ne 6, 3) := by decide +kernel
theorem dX10_dusk_28 : decode cX10_dusk 28 = .ok (.goto 68, 3) := by decide +kernel
theorem dX10_dusk_31 : decode cX10_dusk 31 = .ok (.aload_n 0, 1) := by decide +kernel
theorem dX10_dusk_32 : decode cX10_dusk 32 = .ok (.iload_n 2, 1) := by decide +kernel
theorem dX10_dusk_33 : decode cX10_dusk 33 = .ok (.bipush 6, 2) := by decide +kernel
theorem dX10_dusk_35 : decode cX10_dusk 35 = .ok (.invokevirtual 94, 3) := by decide +kernel
theorem dX10_dusk_38 : decode cX10_dusk 38 = .ok (.istore_n 3, 1) := by decide +kernel
theorem dX10_dusk_39 : decode cX10_dusk 39 = .ok (.aload_n 0, 1) := by decide +kernel
theorem dX10_dusk_40 : decode cX10_dusk 40 = .ok (.iload_n 2, 1) := by decide +kernel
theorem dX10_dusk_41 : decode cX10_dusk 41 = .ok (.iconst 4, 1) := by decide +kernel
theorem dX10_dusk_42 : decode cX10_dusk 42 = .ok (.bipush 59, 2) := by decide +kernel
theorem dX10_dusk_44 : decode cX10_dusk 44 = .ok (.bipush 10, 2) := by decide +kernel
theorem dX10_dusk_46 : decode cX10_dusk 46 = .ok (.aload_n 0, 1) := by decide +kernel
theorem dX10_dusk_47 : decode cX10_dusk 47 = .ok (.iload_n 2, 1) := by decide +kernel
theorem dX10_dusk_48 : decode cX10_dusk 48 = .ok (.iconst 5, 1) := by decide +kernel
theorem dX10_dusk_49 : decode cX10_dusk 49 = .ok (.invokevirtual 94, 3) := by decide +kernel
theorem dX10_dusk_52 : decode cX10_dusk 52 = .ok (.iadd, 1) := by decide +kernel
theorem dX10_dusk_53 : decode cX10_dusk 53 = .ok (.iconst 2, 1) := by decide +kernel
theorem dX10_dusk_54 : decode cX10_dusk 54 = .ok (.iload_n 3, 1) := by decide +kernel
theorem dX10_dusk_55 : decode cX10_dusk 55 = .ok (.imul, 1) := by decide +kernel
theorem dX10_dusk_56 : decode cX10_dusk 56 = .ok (.iadd, 1) := by decide +kernel
theorem dX10_dusk_57 : decode cX10_dusk 57 = .ok (.invokestatic 86, 3) := by decide +kernel
theorem dX10_dusk_60 : decode cX10_dusk 60 = .ok (.invokevirtual 90, 3) := by decide +kernel
theorem dX10_dusk_63 : decode cX10_dusk 63 = .ok (.aload_n 0, 1) := by decide +kernel
theorem dX10_dusk_64 : decode cX10_dusk 64 = .ok (.iload_n 2, 1) := by decide +kernel
theorem dX10_dusk_65 : decode cX10_dusk 65 = .ok (.iconst 2, 1) := by decide +kernel
theorem dX10_dusk_66 : decode cX10_dusk 66 = .ok (.iconst 0, 1) := by decide +kernel
theorem dX10_dusk_67 : decode cX10_dusk 67 = .ok (.aload_n 0, 1) := by decide +kernel
theorem dX10_dusk_68 : decode cX10_dusk 68 = .ok (.iload_n 2, 1) := by decide +kernel
theorem dX10_dusk_69 : decode cX10_dusk 69 = .ok (.iconst 2, 1) := by decide +kernel
theorem dX10_dusk_70 : decode cX10_dusk 70 = .ok (.invokevirtual 94, 3) := by decide +kernel
theorem dX10_dusk_73 : decode cX10_dusk 73 = .ok (.iload_n 3, 1) := by decide +kernel
theorem dX10_dusk_74 : decode cX10_dusk 74 = .ok (.isub, 1) := by decide +kernel
theorem dX10_dusk_75 : decode cX10_dusk 75 = .ok (.invokestatic 97, 3) := by decide +kernel
theorem dX10_dusk_78 : decode cX10_dusk 78 = .ok (.invokevirtual 90, 3) := by decide +kernel
theorem dX10_dusk_81 : decode cX10_dusk 81 = .ok (.aload_n 0, 1) := by decide +kernel
theorem dX10_dusk_82 : decode cX10_dusk 82 = .ok (.iload_n 2, 1) := by decide +kernel
theorem dX10_dusk_83 : decode cX10_dusk 83 = .ok (.iconst 5, 1) := by decide +kernel
theorem dX10_dusk_84 : decode cX10_dusk 84 = .ok (.iconst (-1), 1) := by decide +kernel
theorem dX10_dusk_85 : decode cX10_dusk 85 = .ok (.invokevirtual 90, 3) := by decide +kernel
theorem dX10_dusk_88 : decode cX10_dusk 88 = .ok (.aload_n 0, 1) := by decide +kernel
theorem dX10_dusk_89 : decode cX10_dusk 89 = .ok (.iload_n 2, 1) := by decide +kernel
theorem dX10_dusk_90 : decode cX10_dusk 90 = .ok (.bipush 6, 2) := by decide +kernel
theorem dX10_dusk_92 : decode cX10_dusk 92 = .ok (.iconst (-1), 1) := by decide +kernel
theorem dX10_dusk_93 : decode cX10_dusk 93 = .ok (.invokevirtual 90, 3) := by decide +kernel
theorem dX10_dusk_96 : decode cX10_dusk 96 = .ok (.iinc 2 1, 3) := by decide +kernel
theorem dX10_dusk_99 : decode cX10_dusk 99 = .ok (.goto (-91), 3) := by decide +kernel
theorem dX10_dusk_102 : decode cX10_dusk 102 = .ok (.aload_n 0, 1) := by decide +kernel
theorem dX10_dusk_103 : decode cX10_dusk 103 = .ok (.getfield 7, 3) := by decide +kernel
theorem dX10_dusk_106 : decode cX10_dusk 106 = .ok (.iconst 3, 1) := by decide +kernel
theorem dX10_dusk_107 : decode cX10_dusk 107 = .ok (.iconst 0, 1) := by decide +kernel
theorem dX10_dusk_108 : decode cX10_dusk 108 = .ok (.iastore, 1) := by decide +kernel
theorem dX10_dusk_109 : decode cX10_dusk 109 = .ok (.aload_n 0, 1) := by decide +kernel
theorem dX10_dusk_110 : decode cX10_dusk 110 = .ok (.getfield 7, 3) := by decide +kernel
theorem dX10_dusk_113 : decode cX10_dusk 113 = .ok (.iconst 4, 1) := by decide +kernel
theorem dX10_dusk_114 : decode cX10_dusk 114 = .ok (.iconst 0, 1) := by decide +kernel
theorem dX10_dusk_115 : decode cX10_dusk 115 = .ok (.iastore, 1) := by decide +kernel
theorem dX10_dusk_116 : decode cX10_dusk 116 = .ok (.aload_n 0, 1) := by decide +kernel
theorem dX10_dusk_117 : decode cX10_dusk 117 = .ok (.getfield 7, 3) := by decide +kernel
theorem dX10_dusk_120 : decode cX10_dusk 120 = .ok (.iconst 5, 1) := by decide +kernel
theorem dX10_dusk_121 : decode cX10_dusk 121 = .ok (.iconst 0, 1) := by decide +kernel
theorem dX10_dusk_122 : decode cX10_dusk 122 = .ok (.iastore, 1) := by decide +kernel
theorem dX10_dusk_123 : decode cX10_dusk 123 = .ok (.aload_n 0, 1) := by decide +kernel
theorem dX10_dusk_124 : decode cX10_dusk 124 = .ok (.getfield 7, 3) := by decide +kernel
theorem dX10_dusk_127 : decode cX10_dusk 127 = .ok (.bipush 6, 2) := by decide +kernel
theorem dX10_dusk_129 : decode cX10_dusk 129 = .ok (.iconst 0, 1) := by decide +kernel
theorem dX10_dusk_130 : decode cX10_dusk 130 = .ok (.iastore, 1) := by decide +kernel
theorem dX10_dusk_131 : decode cX10_dusk 131 = .ok (.aload_n 0, 1) := by decide +kernel
theorem dX10_dusk_132 : decode cX10_dusk 132 = .ok (.getfield 7, 3) := by decide +kernel
theorem dX10_dusk_135 : decode cX10_dusk 135 = .ok (.iconst 2, 1) := by decide +kernel
theorem dX10_dusk_136 : decode cX10_dusk 136 = .ok (.dup2, 1) := by decide +kernel
theorem dX10_dusk_137 : decode cX10_dusk 137 = .ok (.iaload, 1) := by decide +kernel
theorem dX10_dusk_138 : decode cX10_dusk 138 = .ok (.iconst 1, 1) := by decide +kernel
theorem dX10_dusk_139 : decode cX10_dusk 139 = .ok (.iadd, 1) := by decide +kernel
theorem dX10_dusk_140 : decode cX10_dusk 140 = .ok (.iastore, 1) := by decide +kernel
theorem dX10_dusk_141 : decode cX10_dusk 141 = .ok (.aload_n 0, 1) := by decide +kernel
theorem dX10_dusk_142 : decode cX10_dusk 142 = .ok (.invokevirtual 83, 3) := by decide +kernel
theorem dX10_dusk_145 : decode cX10_dusk 145 = .ok (.iload_n 1, 1) := by decide +kernel
theorem dX10_dusk_146 : decode cX10_dusk 146 = .ok (.ireturn, 1) := by decide +kernel
theorem dX10_goesOn_0 : decode cX10_goesOn 0 = .ok (.aload_n 0, 1) := by decide +kernel
theorem dX10_goesOn_1 : decode cX10_goesOn 1 = .ok (.invokevirtual 167, 3) := by decide +kernel
theorem dX10_goesOn_4 : decode cX10_goesOn 4 = .ok (.istore 5, 2) := by decide +kernel
theorem dX10_goesOn_6 : decode cX10_goesOn 6 = .ok (.iload_n 1, 1) := by decide +kernel
theorem dX10_goesOn_7 : decode cX10_goesOn 7 = .ok (.iload_n 2, 1) := by decide +kernel
theorem dX10_goesOn_8 : decode cX10_goesOn 8 = .ok (.if_icmp .ne 77, 3) := by decide +kernel
theorem dX10_goesOn_11 : decode cX10_goesOn 11 = .ok (.iload 5, 2) := by decide +kernel
theorem dX10_goesOn_13 : decode cX10_goesOn 13 = .ok (.iload_n 3, 1) := by decide +kernel
theorem dX10_goesOn_14 : decode cX10_goesOn 14 = .ok (.if_icmp .lt 20, 3) := by decide +kernel
theorem dX10_goesOn_17 : decode cX10_goesOn 17 = .ok (.aload_n 0, 1) := by decide +kernel
theorem dX10_goesOn_18 : decode cX10_goesOn 18 = .ok (.getfield 307, 3) := by decide +kernel
theorem dX10_goesOn_21 : decode cX10_goesOn 21 = .ok (.iconst (-1), 1) := by decide +kernel
theorem dX10_goesOn_22 : decode cX10_goesOn 22 = .ok (.if_icmp .eq 13, 3) := by decide +kernel
theorem dX10_goesOn_25 : decode cX10_goesOn 25 = .ok (.iload 4, 2) := by decide +kernel
theorem dX10_goesOn_27 : decode cX10_goesOn 27 = .ok (.aload_n 0, 1) := by decide +kernel
theorem dX10_goesOn_28 : decode cX10_goesOn 28 = .ok (.getfield 307, 3) := by decide +kernel
theorem dX10_goesOn_31 : decode cX10_goesOn 31 = .ok (.if_icmp .lt 4, 3) := by decide +kernel
theorem dX10_goesOn_34 : decode cX10_goesOn 34 = .ok (.return_, 1) := by decide +kernel
theorem dX10_goesOn_35 : decode cX10_goesOn 35 = .ok (.aload_n 0, 1) := by decide +kernel
theorem dX10_goesOn_36 : decode cX10_goesOn 36 = .ok (.iload 4, 2) := by decide +kernel
theorem dX10_goesOn_38 : decode cX10_goesOn 38 = .ok (.putfield 307, 3) := by decide +kernel
theorem dX10_goesOn_41 : decode cX10_goesOn 41 = .ok (.iconst 0, 1) := by decide +kernel
theorem dX10_goesOn_42 : decode cX10_goesOn 42 = .ok (.istore 6, 2) := by decide +kernel
theorem dX10_goesOn_44 : decode cX10_goesOn 44 = .ok (.iload 6, 2) := by decide +kernel
theorem dX10_goesOn_46 : decode cX10_goesOn 46 = .ok (.iload_n 2, 1) := by decide +kernel
theorem dX10_goesOn_47 : decode cX10_goesOn 47 = .ok (.if_icmp .ge 37, 3) := by decide +kernel
theorem dX10_goesOn_50 : decode cX10_goesOn 50 = .ok (.aload_n 0, 1) := by decide +kernel
theorem dX10_goesOn_51 : decode cX10_goesOn 51 = .ok (.getfield 64, 3) := by decide +kernel
theorem dX10_goesOn_54 : decode cX10_goesOn 54 = .ok (.iload 6, 2) := by decide +kernel
theorem dX10_goesOn_56 : decode cX10_goesOn 56 = .ok (.aload_n 0, 1) := by decide +kernel
theorem dX10_goesOn_57 : decode cX10_goesOn 57 = .ok (.getfield 58, 3) := by decide +kernel
theorem dX10_goesOn_60 : decode cX10_goesOn 60 = .ok (.iload 6, 2) := by decide +kernel
theorem dX10_goesOn_62 : decode cX10_goesOn 62 = .ok (.iaload, 1) := by decide +kernel
theorem dX10_goesOn_63 : decode cX10_goesOn 63 = .ok (.iastore, 1) := by decide +kernel
theorem dX10_goesOn_64 : decode cX10_goesOn 64 = .ok (.aload_n 0, 1) := by decide +kernel
theorem dX10_goesOn_65 : decode cX10_goesOn 65 = .ok (.getfield 67, 3) := by decide +kernel
theorem dX10_goesOn_68 : decode cX10_goesOn 68 = .ok (.iload 6, 2) := by decide +kernel
theorem dX10_goesOn_70 : decode cX10_goesOn 70 = .ok (.aload_n 0, 1) := by decide +kernel
theorem dX10_goesOn_71 : decode cX10_goesOn 71 = .ok (.getfield 61, 3) := by decide +kernel
theorem dX10_goesOn_74 : decode cX10_goesOn 74 = .ok (.iload 6, 2) := by decide +kernel
theorem dX10_goesOn_76 : decode cX10_goesOn 76 = .ok (.iaload, 1) := by decide +kernel
theorem dX10_goesOn_77 : decode cX10_goesOn 77 = .ok (.iastore, 1) := by decide +kernel
theorem dX10_goesOn_78 : decode cX10_goesOn 78 = .ok (.iinc 6 1, 3) := by decide +kernel
theorem dX10_goesOn_81 : decode cX10_goesOn 81 = .ok (.goto (-37), 3) := by decide +kernel
theorem dX10_goesOn_84 : decode cX10_goesOn 84 = .ok (.return_, 1) := by decide +kernel
theorem dX10_goesOn_85 : decode cX10_goesOn 85 = .ok (.iload 5, 2) := by decide +kernel
theorem dX10_goesOn_87 : decode cX10_goesOn 87 = .ok (.iload_n 2, 1) := by decide +kernel
theorem dX10_goesOn_88 : decode cX10_goesOn 88 = .ok (.iadd, 1) := by decide +kernel
theorem dX10_goesOn_89 : decode cX10_goesOn 89 = .ok (.iload_n 1, 1) := by decide +kernel
theorem dX10_goesOn_90 : decode cX10_goesOn 90 = .ok (.isub, 1) := by decide +kernel
theorem dX10_goesOn_91 : decode cX10_goesOn 91 = .ok (.iload_n 3, 1) := by decide +kernel
theorem dX10_goesOn_92 : decode cX10_goesOn 92 = .ok (.if_icmp .ge 4, 3) := by decide +kernel
theorem dX10_goesOn_95 : decode cX10_goesOn 95 = .ok (.return_, 1) := by decide +kernel
theorem dX10_goesOn_96 : decode cX10_goesOn 96 = .ok (.iconst 0, 1) := by decide +kernel
theorem dX10_goesOn_97 : decode cX10_goesOn 97 = .ok (.istore 6, 2) := by decide +kernel
theorem dX10_goesOn_99 : decode cX10_goesOn 99 = .ok (.iload 6, 2) := by decide +kernel
theorem dX10_goesOn_101 : decode cX10_goesOn 101 = .ok (.aload_n 0, 1) := by decide +kernel
theorem dX10_goesOn_102 : decode cX10_goesOn 102 = .ok (.getfield 310, 3) := by decide +kernel
theorem dX10_goesOn_105 : decode cX10_goesOn 105 = .ok (.if_icmp .ge 135, 3) := by decide +kernel
theorem dX10_goesOn_108 : decode cX10_goesOn 108 = .ok (.aload_n 0, 1) := by decide +kernel
theorem dX10_goesOn_109 : decode cX10_goesOn 109 = .ok (.getfield 55, 3) := by decide +kernel
theorem dX10_goesOn_112 : decode cX10_goesOn 112 = .ok (.iload 6, 2) := by decide +kernel
theorem dX10_goesOn_114 : decode cX10_goesOn 114 = .ok (.iaload, 1) := by decide +kernel
theorem dX10_goesOn_115 : decode cX10_goesOn 115 = .ok (.istore 7, 2) := by decide +kernel
theorem dX10_goesOn_117 : decode cX10_goesOn 117 = .ok (.aload_n 0, 1) := by decide +kernel
theorem dX10_goesOn_118 : decode cX10_goesOn 118 = .ok (.getfield 23, 3) := by decide +kernel
theorem dX10_goesOn_121 : decode cX10_goesOn 121 = .ok (.iload 7, 2) := by decide +kernel
theorem dX10_goesOn_123 : decode cX10_goesOn 123 = .ok (.iaload, 1) := by decide +kernel
theorem dX10_goesOn_124 : decode cX10_goesOn 124 = .ok (.iconst (-1), 1) := by decide +kernel
theorem dX10_goesOn_125 : decode cX10_goesOn 125 = .ok (.if_icmp .eq 6, 3) := by decide +kernel
theorem dX10_goesOn_128 : decode cX10_goesOn 128 = .ok (.goto 106, 3) := by decide +kernel
theorem dX10_goesOn_131 : decode cX10_goesOn 131 = .ok (.iconst 0, 1) := by decide +kernel
theorem dX10_goesOn_132 : decode cX10_goesOn 132 = .ok (.istore 8, 2) := by decide +kernel
theorem dX10_goesOn_134 : decode cX10_goesOn 134 = .ok (.iload 8, 2) := by decide +kernel
theorem dX10_goesOn_136 : decode cX10_goesOn 136 = .ok (.aload_n 0, 1) := by decide +kernel
theorem dX10_goesOn_137 : decode cX10_goesOn 137 = .ok (.getfield 7, 3) := by decide +kernel
theorem dX10_goesOn_140 : decode cX10_goesOn 140 = .ok (.iconst 0, 1) := by decide +kernel
theorem dX10_goesOn_141 : decode cX10_goesOn 141 = .ok (.iaload, 1) := by decide +kernel
theorem dX10_goesOn_142 : decode cX10_goesOn 142 = .ok (.aload_n 0, 1) := by decide +kernel
theorem dX10_goesOn_143 : decode cX10_goesOn 143 = .ok (.iload 7, 2) := by decide +kernel
theorem dX10_goesOn_145 : decode cX10_goesOn 145 = .ok (.iconst 0, 1) := by decide +kernel
theorem dX10_goesOn_146 : decode cX10_goesOn 146 = .ok (.invokevirtual 94, 3) := by decide +kernel
theorem dX10_goesOn_149 : decode cX10_goesOn 149 = .ok (.isub, 1) := by decide +kernel
theorem dX10_goesOn_150 : decode cX10_goesOn 150 = .ok (.if_icmp .gt 84, 3) := by decide +kernel
theorem dX10_goesOn_153 : decode cX10_goesOn 153 = .ok (.aload_n 0, 1) := by decide +kernel
theorem dX10_goesOn_154 : decode cX10_goesOn 154 = .ok (.iload 7, 2) := by decide +kernel
theorem dX10_goesOn_156 : decode cX10_goesOn 156 = .ok (.iload 8, 2) := by decide +kernel
theorem dX10_goesOn_158 : decode cX10_goesOn 158 = .ok (.invokevirtual 141, 3) := by decide +kernel
theorem dX10_goesOn_161 : decode cX10_goesOn 161 = .ok (.ifCond .ne 51, 3) := by decide +kernel
theorem dX10_goesOn_164 : decode cX10_goesOn 164 = .ok (.aload_n 0, 1) := by decide +kernel
theorem dX10_goesOn_165 : decode cX10_goesOn 165 = .ok (.getfield 58, 3) := by decide +kernel
theorem dX10_goesOn_168 : decode cX10_goesOn 168 = .ok (.iload_n 1, 1) := by decide +kernel
theorem dX10_goesOn_169 : decode cX10_goesOn 169 = .ok (.iload 7, 2) := by decide +kernel
theorem dX10_goesOn_171 : decode cX10_goesOn 171 = .ok (.iastore, 1) := by decide +kernel
theorem dX10_goesOn_172 : decode cX10_goesOn 172 = .ok (.aload_n 0, 1) := by decide +kernel
theorem dX10_goesOn_173 : decode cX10_goesOn 173 = .ok (.getfield 61, 3) := by decide +kernel
theorem dX10_goesOn_176 : decode cX10_goesOn 176 = .ok (.iload_n 1, 1) := by decide +kernel
theorem dX10_goesOn_177 : decode cX10_goesOn 177 = .ok (.iload 8, 2) := by decide +kernel
theorem dX10_goesOn_179 : decode cX10_goesOn 179 = .ok (.iastore, 1) := by decide +kernel
theorem dX10_goesOn_180 : decode cX10_goesOn 180 = .ok (.aload_n 0, 1) := by decide +kernel
theorem dX10_goesOn_181 : decode cX10_goesOn 181 = .ok (.iload_n 1, 1) := by decide +kernel
theorem dX10_goesOn_182 : decode cX10_goesOn 182 = .ok (.iconst 1, 1) := by decide +kernel
theorem dX10_goesOn_183 : decode cX10_goesOn 183 = .ok (.iadd, 1) := by decide +kernel
theorem dX10_goesOn_184 : decode cX10_goesOn 184 = .ok (.iload_n 2, 1) := by decide +kernel
theorem dX10_goesOn_185 : decode cX10_goesOn 185 = .ok (.iload_n 3, 1) := by decide +kernel
theorem dX10_goesOn_186 : decode cX10_goesOn 186 = .ok (.iload 4, 2) := by decide +kernel
theorem dX10_goesOn_188 : decode cX10_goesOn 188 = .ok (.aload_n 0, 1) := by decide +kernel
theorem dX10_goesOn_189 : decode cX10_goesOn 189 = .ok (.aload_n 0, 1) := by decide +kernel
theorem dX10_goesOn_190 : decode cX10_goesOn 190 = .ok (.iload 7, 2) := by decide +kernel
theorem dX10_goesOn_192 : decode cX10_goesOn 192 = .ok (.iconst 4, 1) := by decide +kernel
theorem dX10_goesOn_193 : decode cX10_goesOn 193 = .ok (.invokevirtual 94, 3) := by decide +kernel
theorem dX10_goesOn_196 : decode cX10_goesOn 196 = .ok (.iload 8, 2) := by decide +kernel
theorem dX10_goesOn_198 : decode cX10_goesOn 198 = .ok (.aload_n 0, 1) := by decide +kernel
theorem dX10_goesOn_199 : decode cX10_goesOn 199 = .ok (.getfield 26, 3) := by decide +kernel
theorem dX10_goesOn_202 : decode cX10_goesOn 202 = .ok (.iload 7, 2) := by decide +kernel
theorem dX10_goesOn_204 : decode cX10_goesOn 204 = .ok (.iaload, 1) := by decide +kernel
theorem dX10_goesOn_205 : decode cX10_goesOn 205 = .ok (.invokevirtual 144, 3) := by decide +kernel
theorem dX10_goesOn_208 : decode cX10_goesOn 208 = .ok (.iadd, 1) := by decide +kernel
theorem dX10_goesOn_209 : decode cX10_goesOn 209 = .ok (.invokevirtual 313, 3) := by decide +kernel
theorem dX10_goesOn_212 : decode cX10_goesOn 212 = .ok (.aload_n 0, 1) := by decide +kernel
theorem dX10_goesOn_213 : decode cX10_goesOn 213 = .ok (.getfield 23, 3) := by decide +kernel
theorem dX10_goesOn_216 : decode cX10_goesOn 216 = .ok (.iload 7, 2) := by decide +kernel
theorem dX10_goesOn_218 : decode cX10_goesOn 218 = .ok (.iconst (-1), 1) := by decide +kernel
theorem dX10_goesOn_219 : decode cX10_goesOn 219 = .ok (.iastore, 1) := by decide +kernel
theorem dX10_goesOn_220 : decode cX10_goesOn 220 = .ok (.aload_n 0, 1) := by decide +kernel
theorem dX10_goesOn_221 : decode cX10_goesOn 221 = .ok (.getfield 26, 3) := by decide +kernel
theorem dX10_goesOn_224 : decode cX10_goesOn 224 = .ok (.iload 7, 2) := by decide +kernel
theorem dX10_goesOn_226 : decode cX10_goesOn 226 = .ok (.iconst (-1), 1) := by decide +kernel
theorem dX10_goesOn_227 : decode cX10_goesOn 227 = .ok (.iastore, 1) := by decide +kernel
theorem dX10_goesOn_228 : decode cX10_goesOn 228 = .ok (.iinc 8 1, 3) := by decide +kernel
theorem dX10_goesOn_231 : decode cX10_goesOn 231 = .ok (.goto (-97), 3) := by decide +kernel
theorem dX10_goesOn_234 : decode cX10_goesOn 234 = .ok (.iinc 6 1, 3) := by decide +kernel
theorem dX10_goesOn_237 : decode cX10_goesOn 237 = .ok (.goto (-138), 3) := by decide +kernel
theorem dX10_goesOn_240 : decode cX10_goesOn 240 = .ok (.return_, 1) := by decide +kernel
theorem dX10_plans_0 : decode cX10_plans 0 = .ok (.aload_n 0, 1) := by decide +kernel
theorem dX10_plans_1 : decode cX10_plans 1 = .ok (.iconst 0, 1) := by decide +kernel
theorem dX10_plans_2 : decode cX10_plans 2 = .ok (.putfield 310, 3) := by decide +kernel
theorem dX10_plans_5 : decode cX10_plans 5 = .ok (.iconst 0, 1) := by decide +kernel
theorem dX10_plans_6 : decode cX10_plans 6 = .ok (.istore_n 2, 1) := by decide +kernel
theorem dX10_plans_7 : decode cX10_plans 7 = .ok (.iload_n 2, 1) := by decide +kernel
theorem dX10_plans_8 : decode cX10_plans 8 = .ok (.aload_n 0, 1) := by decide +kernel
theorem dX10_plans_9 : decode cX10_plans 9 = .ok (.getfield 7, 3) := by decide +kernel
theorem dX10_plans_12 : decode cX10_plans 12 = .ok (.iconst 1, 1) := by decide +kernel
theorem dX10_plans_13 : decode cX10_plans 13 = .ok (.iaload, 1) := by decide +kernel
theorem dX10_plans_14 : decode cX10_plans 14 = .ok (.if_icmp .ge 53, 3) := by decide +kernel
theorem dX10_plans_17 : decode cX10_plans 17 = .ok (.aload_n 0, 1) := by decide +kernel
theorem dX10_plans_18 : decode cX10_plans 18 = .ok (.iload_n 2, 1) := by decide +kernel
theorem dX10_plans_19 : decode cX10_plans 19 = .ok (.iconst 5, 1) := by decide +kernel
theorem dX10_plans_20 : decode cX10_plans 20 = .ok (.invokevirtual 94, 3) := by decide +kernel
theorem dX10_plans_23 : decode cX10_plans 23 = .ok (.iconst (-1), 1) := by decide +kernel
theorem dX10_plans_24 : decode cX10_plans 24 = .ok (.if_icmp .eq 6, 3) := by decide +kernel
theorem dX10_plans_27 : decode cX10_plans 27 = .ok (.goto 34, 3) := by decide +kernel
theorem dX10_plans_30 : decode cX10_plans 30 = .ok (.aload_n 0, 1) := by decide +kernel
theorem dX10_plans_31 : decode cX10_plans 31 = .ok (.getfield 310, 3) := by decide +kernel
theorem dX10_plans_34 : decode cX10_plans 34 = .ok (.bipush 6, 2) := by decide +kernel
theorem dX10_plans_36 : decode cX10_plans 36 = .ok (.if_icmp .ne 5, 3) := by decide +kernel
theorem dX10_plans_39 : decode cX10_plans 39 = .ok (.iconst (-1), 1) := by decide +kernel
theorem dX10_plans_40 : decode cX10_plans 40 = .ok (.ireturn, 1) := by decide +kernel
theorem dX10_plans_41 : decode cX10_plans 41 = .ok (.aload_n 0, 1) := by decide +kernel
theorem dX10_plans_42 : decode cX10_plans 42 = .ok (.getfield 55, 3) := by decide +kernel
theorem dX10_plans_45 : decode cX10_plans 45 = .ok (.aload_n 0, 1) := by decide +kernel
theorem dX10_plans_46 : decode cX10_plans 46 = .ok (.getfield 310, 3) := by decide +kernel
theorem dX10_plans_49 : decode cX10_plans 49 = .ok (.iload_n 2, 1) := by decide +kernel
theorem dX10_plans_50 : decode cX10_plans 50 = .ok (.iastore, 1) := by decide +kernel
theorem dX10_plans_51 : decode cX10_plans 51 = .ok (.aload_n 0, 1) := by decide +kernel
theorem dX10_plans_52 : decode cX10_plans 52 = .ok (.dup, 1) := by decide +kernel
theorem dX10_plans_53 : decode cX10_plans 53 = .ok (.getfield 310, 3) := by decide +kernel
theorem dX10_plans_56 : decode cX10_plans 56 = .ok (.iconst 1, 1) := by decide +kernel
theorem dX10_plans_57 : decode cX10_plans 57 = .ok (.iadd, 1) := by decide +kernel
theorem dX10_plans_58 : decode cX10_plans 58 = .ok (.putfield 310, 3) := by decide +kernel
theorem dX10_plans_61 : decode cX10_plans 61 = .ok (.iinc 2 1, 3) := by decide +kernel
theorem dX10_plans_64 : decode cX10_plans 64 = .ok (.goto (-57), 3) := by decide +kernel
theorem dX10_plans_67 : decode cX10_plans 67 = .ok (.aload_n 0, 1) := by decide +kernel
theorem dX10_plans_68 : decode cX10_plans 68 = .ok (.getfield 7, 3) := by decide +kernel
theorem dX10_plans_71 : decode cX10_plans 71 = .ok (.iconst 0, 1) := by decide +kernel
theorem dX10_plans_72 : decode cX10_plans 72 = .ok (.iaload, 1) := by decide +kernel
theorem dX10_plans_73 : decode cX10_plans 73 = .ok (.iconst 5, 1) := by decide +kernel
theorem dX10_plans_74 : decode cX10_plans 74 = .ok (.if_icmp .le 5, 3) := by decide +kernel
theorem dX10_plans_77 : decode cX10_plans 77 = .ok (.iconst (-1), 1) := by decide +kernel
theorem dX10_plans_78 : decode cX10_plans 78 = .ok (.ireturn, 1) := by decide +kernel
theorem dX10_plans_79 : decode cX10_plans 79 = .ok (.aload_n 0, 1) := by decide +kernel
theorem dX10_plans_80 : decode cX10_plans 80 = .ok (.getfield 19, 3) := by decide +kernel
theorem dX10_plans_83 : decode cX10_plans 83 = .ok (.istore_n 2, 1) := by decide +kernel
theorem dX10_plans_84 : decode cX10_plans 84 = .ok (.aload_n 0, 1) := by decide +kernel
theorem dX10_plans_85 : decode cX10_plans 85 = .ok (.invokevirtual 138, 3) := by decide +kernel
theorem dX10_plans_88 : decode cX10_plans 88 = .ok (.aload_n 0, 1) := by decide +kernel
theorem dX10_plans_89 : decode cX10_plans 89 = .ok (.iconst (-1), 1) := by decide +kernel
theorem dX10_plans_90 : decode cX10_plans 90 = .ok (.putfield 307, 3) := by decide +kernel
theorem dX10_plans_93 : decode cX10_plans 93 = .ok (.iconst (-1), 1) := by decide +kernel
theorem dX10_plans_94 : decode cX10_plans 94 = .ok (.istore_n 3, 1) := by decide +kernel
theorem dX10_plans_95 : decode cX10_plans 95 = .ok (.iload_n 3, 1) := by decide +kernel
theorem dX10_plans_96 : decode cX10_plans 96 = .ok (.iconst 5, 1) := by decide +kernel
theorem dX10_plans_97 : decode cX10_plans 97 = .ok (.if_icmp .ge 25, 3) := by decide +kernel
theorem dX10_plans_100 : decode cX10_plans 100 = .ok (.aload_n 0, 1) := by decide +kernel
theorem dX10_plans_101 : decode cX10_plans 101 = .ok (.getfield 307, 3) := by decide +kernel
theorem dX10_plans_104 : decode cX10_plans 104 = .ok (.iconst (-1), 1) := by decide +kernel
theorem dX10_plans_105 : decode cX10_plans 105 = .ok (.if_icmp .ne 17, 3) := by decide +kernel
theorem dX10_plans_108 : decode cX10_plans 108 = .ok (.iinc 3 1, 3) := by decide +kernel
theorem dX10_plans_111 : decode cX10_plans 111 = .ok (.aload_n 0, 1) := by decide +kernel
theorem dX10_plans_112 : decode cX10_plans 112 = .ok (.iconst 0, 1) := by decide +kernel
theorem dX10_plans_113 : decode cX10_plans 113 = .ok (.iload_n 3, 1) := by decide +kernel
theorem dX10_plans_114 : decode cX10_plans 114 = .ok (.iload_n 1, 1) := by decide +kernel
theorem dX10_plans_115 : decode cX10_plans 115 = .ok (.iconst 0, 1) := by decide +kernel
theorem dX10_plans_116 : decode cX10_plans 116 = .ok (.invokevirtual 313, 3) := by decide +kernel
theorem dX10_plans_119 : decode cX10_plans 119 = .ok (.goto (-24), 3) := by decide +kernel
theorem dX10_plans_122 : decode cX10_plans 122 = .ok (.aload_n 0, 1) := by decide +kernel
theorem dX10_plans_123 : decode cX10_plans 123 = .ok (.iload_n 2, 1) := by decide +kernel
theorem dX10_plans_124 : decode cX10_plans 124 = .ok (.putfield 19, 3) := by decide +kernel
theorem dX10_plans_127 : decode cX10_plans 127 = .ok (.aload_n 0, 1) := by decide +kernel
theorem dX10_plans_128 : decode cX10_plans 128 = .ok (.getfield 307, 3) := by decide +kernel
theorem dX10_plans_131 : decode cX10_plans 131 = .ok (.iconst (-1), 1) := by decide +kernel
theorem dX10_plans_132 : decode cX10_plans 132 = .ok (.if_icmp .ne 7, 3) := by decide +kernel
theorem dX10_plans_135 : decode cX10_plans 135 = .ok (.iconst (-1), 1) := by decide +kernel
theorem dX10_plans_136 : decode cX10_plans 136 = .ok (.goto 4, 3) := by decide +kernel
theorem dX10_plans_139 : decode cX10_plans 139 = .ok (.iload_n 3, 1) := by decide +kernel
theorem dX10_plans_140 : decode cX10_plans 140 = .ok (.ireturn, 1) := by decide +kernel
theorem dX10_plan_0 : decode cX10_plan 0 = .ok (.iload_n 1, 1) := by decide +kernel
theorem dX10_plan_1 : decode cX10_plan 1 = .ok (.iconst 1, 1) := by decide +kernel
theorem dX10_plan_2 : decode cX10_plan 2 = .ok (.bipush 20, 2) := by decide +kernel
theorem dX10_plan_4 : decode cX10_plan 4 = .ok (.invokestatic 76, 3) := by decide +kernel
theorem dX10_plan_7 : decode cX10_plan 7 = .ok (.ifCond .ne 5, 3) := by decide +kernel
theorem dX10_plan_10 : decode cX10_plan 10 = .ok (.iconst (-1), 1) := by decide +kernel
theorem dX10_plan_11 : decode cX10_plan 11 = .ok (.ireturn, 1) := by decide +kernel
theorem dX10_plan_12 : decode cX10_plan 12 = .ok (.aload_n 0, 1) := by decide +kernel
theorem dX10_plan_13 : decode cX10_plan 13 = .ok (.iload_n 1, 1) := by decide +kernel
theorem dX10_plan_14 : decode cX10_plan 14 = .ok (.invokevirtual 317, 3) := by decide +kernel
theorem dX10_plan_17 : decode cX10_plan 17 = .ok (.istore_n 3, 1) := by decide +kernel
theorem dX10_plan_18 : decode cX10_plan 18 = .ok (.iload_n 3, 1) := by decide +kernel
theorem dX10_plan_19 : decode cX10_plan 19 = .ok (.iconst (-1), 1) := by decide +kernel
theorem dX10_plan_20 : decode cX10_plan 20 = .ok (.if_icmp .ne 5, 3) := by decide +kernel
theorem dX10_plan_23 : decode cX10_plan 23 = .ok (.iconst (-1), 1) := by decide +kernel
theorem dX10_plan_24 : decode cX10_plan 24 = .ok (.ireturn, 1) := by decide +kernel
theorem dX10_plan_25 : decode cX10_plan 25 = .ok (.iload_n 2, 1) := by decide +kernel
theorem dX10_plan_26 : decode cX10_plan 26 = .ok (.ifCond .ne 5, 3) := by decide +kernel
theorem dX10_plan_29 : decode cX10_plan 29 = .ok (.iload_n 3, 1) := by decide +kernel
theorem dX10_plan_30 : decode cX10_plan 30 = .ok (.ireturn, 1) := by decide +kernel
theorem dX10_plan_31 : decode cX10_plan 31 = .ok (.iload_n 2, 1) := by decide +kernel
theorem dX10_plan_32 : decode cX10_plan 32 = .ok (.iconst 1, 1) := by decide +kernel
theorem dX10_plan_33 : decode cX10_plan 33 = .ok (.if_icmp .ne 8, 3) := by decide +kernel
theorem dX10_plan_36 : decode cX10_plan 36 = .ok (.aload_n 0, 1) := by decide +kernel
theorem dX10_plan_37 : decode cX10_plan 37 = .ok (.getfield 307, 3) := by decide +kernel
theorem dX10_plan_40 : decode cX10_plan 40 = .ok (.ireturn, 1) := by decide +kernel
theorem dX10_plan_41 : decode cX10_plan 41 = .ok (.iload_n 2, 1) := by decide +kernel
theorem dX10_plan_42 : decode cX10_plan 42 = .ok (.bipush 10, 2) := by decide +kernel
theorem dX10_plan_44 : decode cX10_plan 44 = .ok (.bipush 9, 2) := by decide +kernel
theorem dX10_plan_46 : decode cX10_plan 46 = .ok (.iload_n 3, 1) := by decide +kernel
theorem dX10_plan_47 : decode cX10_plan 47 = .ok (.iadd, 1) := by decide +kernel
theorem dX10_plan_48 : decode cX10_plan 48 = .ok (.invokestatic 76, 3) := by decide +kernel
theorem dX10_plan_51 : decode cX10_plan 51 = .ok (.ifCond .eq 15, 3) := by decide +kernel
theorem dX10_plan_54 : decode cX10_plan 54 = .ok (.aload_n 0, 1) := by decide +kernel
theorem dX10_plan_55 : decode cX10_plan 55 = .ok (.getfield 64, 3) := by decide +kernel
theorem dX10_plan_58 : decode cX10_plan 58 = .ok (.iload_n 2, 1) := by decide +kernel
theorem dX10_plan_59 : decode cX10_plan 59 = .ok (.bipush 10, 2) := by decide +kernel
theorem dX10_plan_61 : decode cX10_plan 61 = .ok (.isub, 1) := by decide +kernel
theorem dX10_plan_62 : decode cX10_plan 62 = .ok (.iaload, 1) := by decide +kernel
theorem dX10_plan_63 : decode cX10_plan 63 = .ok (.goto 29, 3) := by decide +kernel
theorem dX10_plan_66 : decode cX10_plan 66 = .ok (.iload_n 2, 1) := by decide +kernel
theorem dX10_plan_67 : decode cX10_plan 67 = .ok (.bipush 20, 2) := by decide +kernel
theorem dX10_plan_69 : decode cX10_plan 69 = .ok (.bipush 19, 2) := by decide +kernel
theorem dX10_plan_71 : decode cX10_plan 71 = .ok (.iload_n 3, 1) := by decide +kernel
theorem dX10_plan_72 : decode cX10_plan 72 = .ok (.iadd, 1) := by decide +kernel
theorem dX10_plan_73 : decode cX10_plan 73 = .ok (.invokestatic 76, 3) := by decide +kernel
theorem dX10_plan_76 : decode cX10_plan 76 = .ok (.ifCond .eq 15, 3) := by decide +kernel
theorem dX10_plan_79 : decode cX10_plan 79 = .ok (.aload_n 0, 1) := by decide +kernel
theorem dX10_plan_80 : decode cX10_plan 80 = .ok (.getfield 67, 3) := by decide +kernel
theorem dX10_plan_83 : decode cX10_plan 83 = .ok (.iload_n 2, 1) := by decide +kernel
theorem dX10_plan_84 : decode cX10_plan 84 = .ok (.bipush 20, 2) := by decide +kernel
theorem dX10_plan_86 : decode cX10_plan 86 = .ok (.isub, 1) := by decide +kernel
theorem dX10_plan_87 : decode cX10_plan 87 = .ok (.iaload, 1) := by decide +kernel
theorem dX10_plan_88 : decode cX10_plan 88 = .ok (.goto 4, 3) := by decide +kernel
theorem dX10_plan_91 : decode cX10_plan 91 = .ok (.iconst (-1), 1) := by decide +kernel
theorem dX10_plan_92 : decode cX10_plan 92 = .ok (.ireturn, 1) := by decide +kernel
theorem dX10_down_0 : decode cX10_down 0 = .ok (.iload_n 1, 1) := by decide +kernel
theorem dX10_down_1 : decode cX10_down 1 = .ok (.iconst 0, 1) := by decide +kernel
theorem dX10_down_2 : decode cX10_down 2 = .ok (.aload_n 0, 1) := by decide +kernel
theorem dX10_down_3 : decode cX10_down 3 = .ok (.invokevirtual 298, 3) := by decide +kernel
theorem dX10_down_6 : decode cX10_down 6 = .ok (.iconst 1, 1) := by decide +kernel
theorem dX10_down_7 : decode cX10_down 7 = .ok (.isub, 1) := by decide +kernel
theorem dX10_down_8 : decode cX10_down 8 = .ok (.invokestatic 76, 3) := by decide +kernel
theorem dX10_down_11 : decode cX10_down 11 = .ok (.ifCond .ne 5, 3) := by decide +kernel
theorem dX10_down_14 : decode cX10_down 14 = .ok (.iconst (-1), 1) := by decide +kernel
theorem dX10_down_15 : decode cX10_down 15 = .ok (.ireturn, 1) := by decide +kernel
theorem dX10_down_16 : decode cX10_down 16 = .ok (.aload_n 0, 1) := by decide +kernel
theorem dX10_down_17 : decode cX10_down 17 = .ok (.invokevirtual 138, 3) := by decide +kernel
theorem dX10_down_20 : decode cX10_down 20 = .ok (.iconst (-1), 1) := by decide +kernel
theorem dX10_down_21 : decode cX10_down 21 = .ok (.istore_n 2, 1) := by decide +kernel
theorem dX10_down_22 : decode cX10_down 22 = .ok (.iconst 0, 1) := by decide +kernel
theorem dX10_down_23 : decode cX10_down 23 = .ok (.istore_n 3, 1) := by decide +kernel
theorem dX10_down_24 : decode cX10_down 24 = .ok (.iload_n 3, 1) := by decide +kernel
theorem dX10_down_25 : decode cX10_down 25 = .ok (.iload_n 1, 1) := by decide +kernel
theorem dX10_down_26 : decode cX10_down 26 = .ok (.if_icmp .gt 42, 3) := by decide +kernel
theorem dX10_down_29 : decode cX10_down 29 = .ok (.iconst 0, 1) := by decide +kernel
theorem dX10_down_30 : decode cX10_down 30 = .ok (.istore_n 2, 1) := by decide +kernel
theorem dX10_down_31 : decode cX10_down 31 = .ok (.aload_n 0, 1) := by decide +kernel
theorem dX10_down_32 : decode cX10_down 32 = .ok (.getfield 23, 3) := by decide +kernel
theorem dX10_down_35 : decode cX10_down 35 = .ok (.iload_n 2, 1) := by decide +kernel
theorem dX10_down_36 : decode cX10_down 36 = .ok (.iaload, 1) := by decide +kernel
theorem dX10_down_37 : decode cX10_down 37 = .ok (.iconst (-1), 1) := by decide +kernel
theorem dX10_down_38 : decode cX10_down 38 = .ok (.if_icmp .eq 11, 3) := by decide +kernel
theorem dX10_down_41 : decode cX10_down 41 = .ok (.aload_n 0, 1) := by decide +kernel
theorem dX10_down_42 : decode cX10_down 42 = .ok (.iload_n 2, 1) := by decide +kernel
theorem dX10_down_43 : decode cX10_down 43 = .ok (.invokevirtual 152, 3) := by decide +kernel
theorem dX10_down_46 : decode cX10_down 46 = .ok (.ifCond .ne 9, 3) := by decide +kernel
theorem dX10_down_49 : decode cX10_down 49 = .ok (.iinc 2 1, 3) := by decide +kernel
theorem dX10_down_52 : decode cX10_down 52 = .ok (.goto (-21), 3) := by decide +kernel
theorem dX10_down_55 : decode cX10_down 55 = .ok (.aload_n 0, 1) := by decide +kernel
theorem dX10_down_56 : decode cX10_down 56 = .ok (.getfield 23, 3) := by decide +kernel
theorem dX10_down_59 : decode cX10_down 59 = .ok (.iload_n 2, 1) := by decide +kernel
theorem dX10_down_60 : decode cX10_down 60 = .ok (.iconst (-1), 1) := by decide +kernel
theorem dX10_down_61 : decode cX10_down 61 = .ok (.iastore, 1) := by decide +kernel
theorem dX10_down_62 : decode cX10_down 62 = .ok (.iinc 3 1, 3) := by decide +kernel
theorem dX10_down_65 : decode cX10_down 65 = .ok (.goto (-41), 3) := by decide +kernel
theorem dX10_down_68 : decode cX10_down 68 = .ok (.iload_n 2, 1) := by decide +kernel
theorem dX10_down_69 : decode cX10_down 69 = .ok (.ireturn, 1) := by decide +kernel
theorem dX10_isTower_0 : decode cX10_isTower 0 = .ok (.iconst 0, 1) := by decide +kernel
theorem dX10_isTower_1 : decode cX10_isTower 1 = .ok (.istore_n 1, 1) := by decide +kernel
theorem dX10_isTower_2 : decode cX10_isTower 2 = .ok (.iload_n 1, 1) := by decide +kernel
theorem dX10_isTower_3 : decode cX10_isTower 3 = .ok (.aload_n 0, 1) := by decide +kernel
theorem dX10_isTower_4 : decode cX10_isTower 4 = .ok (.getfield 7, 3) := by decide +kernel
theorem dX10_isTower_7 : decode cX10_isTower 7 = .ok (.iconst 1, 1) := by decide +kernel
theorem dX10_isTower_8 : decode cX10_isTower 8 = .ok (.iaload, 1) := by decide +kernel
theorem dX10_isTower_9 : decode cX10_isTower 9 = .ok (.if_icmp .ge 165, 3) := by decide +kernel
theorem dX10_isTower_12 : decode cX10_isTower 12 = .ok (.aload_n 0, 1) := by decide +kernel
theorem dX10_isTower_13 : decode cX10_isTower 13 = .ok (.getfield 23, 3) := by decide +kernel
theorem dX10_isTower_16 : decode cX10_isTower 16 = .ok (.iload_n 1, 1) := by decide +kernel
theorem dX10_isTower_17 : decode cX10_isTower 17 = .ok (.iaload, 1) := by decide +kernel
theorem dX10_isTower_18 : decode cX10_isTower 18 = .ok (.iconst (-1), 1) := by decide +kernel
theorem dX10_isTower_19 : decode cX10_isTower 19 = .ok (.if_icmp .ne 6, 3) := by decide +kernel
theorem dX10_isTower_22 : decode cX10_isTower 22 = .ok (.goto 146, 3) := by decide +kernel
theorem dX10_isTower_25 : decode cX10_isTower 25 = .ok (.iconst 0, 1) := by decide +kernel
theorem dX10_isTower_26 : decode cX10_isTower 26 = .ok (.istore_n 2, 1) := by decide +kernel
theorem dX10_isTower_27 : decode cX10_isTower 27 = .ok (.iconst 0, 1) := by decide +kernel
theorem dX10_isTower_28 : decode cX10_isTower 28 = .ok (.istore_n 3, 1) := by decide +kernel
theorem dX10_isTower_29 : decode cX10_isTower 29 = .ok (.iload_n 3, 1) := by decide +kernel
theorem dX10_isTower_30 : decode cX10_isTower 30 = .ok (.aload_n 0, 1) := by decide +kernel
theorem dX10_isTower_31 : decode cX10_isTower 31 = .ok (.getfield 7, 3) := by decide +kernel
theorem dX10_isTower_34 : decode cX10_isTower 34 = .ok (.iconst 1, 1) := by decide +kernel
theorem dX10_isTower_35 : decode cX10_isTower 35 = .ok (.iaload, 1) := by decide +kernel
theorem dX10_isTower_36 : decode cX10_isTower 36 = .ok (.if_icmp .ge 120, 3) := by decide +kernel
theorem dX10_isTower_39 : decode cX10_isTower 39 = .ok (.iload_n 3, 1) := by decide +kernel
theorem dX10_isTower_40 : decode cX10_isTower 40 = .ok (.iload_n 1, 1) := by decide +kernel
theorem dX10_isTower_41 : decode cX10_isTower 41 = .ok (.if_icmp .eq 109, 3) := by decide +kernel
theorem dX10_isTower_44 : decode cX10_isTower 44 = .ok (.aload_n 0, 1) := by decide +kernel
theorem dX10_isTower_45 : decode cX10_isTower 45 = .ok (.getfield 23, 3) := by decide +kernel
theorem dX10_isTower_48 : decode cX10_isTower 48 = .ok (.iload_n 3, 1) := by decide +kernel
theorem dX10_isTower_49 : decode cX10_isTower 49 = .ok (.iaload, 1) := by decide +kernel
theorem dX10_isTower_50 : decode cX10_isTower 50 = .ok (.iconst (-1), 1) := by decide +kernel
theorem dX10_isTower_51 : decode cX10_isTower 51 = .ok (.if_icmp .eq 99, 3) := by decide +kernel
theorem dX10_isTower_54 : decode cX10_isTower 54 = .ok (.aload_n 0, 1) := by decide +kernel
theorem dX10_isTower_55 : decode cX10_isTower 55 = .ok (.getfield 23, 3) := by decide +kernel
theorem dX10_isTower_58 : decode cX10_isTower 58 = .ok (.iload_n 3, 1) := by decide +kernel
theorem dX10_isTower_59 : decode cX10_isTower 59 = .ok (.iaload, 1) := by decide +kernel
theorem dX10_isTower_60 : decode cX10_isTower 60 = .ok (.aload_n 0, 1) := by decide +kernel
theorem dX10_isTower_61 : decode cX10_isTower 61 = .ok (.getfield 23, 3) := by decide +kernel
theorem dX10_isTower_64 : decode cX10_isTower 64 = .ok (.iload_n 1, 1) := by decide +kernel
theorem dX10_isTower_65 : decode cX10_isTower 65 = .ok (.iaload, 1) := by decide +kernel
theorem dX10_isTower_66 : decode cX10_isTower 66 = .ok (.aload_n 0, 1) := by decide +kernel
theorem dX10_isTower_67 : decode cX10_isTower 67 = .ok (.iload_n 1, 1) := by decide +kernel
theorem dX10_isTower_68 : decode cX10_isTower 68 = .ok (.iconst 0, 1) := by decide +kernel
theorem dX10_isTower_69 : decode cX10_isTower 69 = .ok (.invokevirtual 94, 3) := by decide +kernel
theorem dX10_isTower_72 : decode cX10_isTower 72 = .ok (.iadd, 1) := by decide +kernel
theorem dX10_isTower_73 : decode cX10_isTower 73 = .ok (.iconst 1, 1) := by decide +kernel
theorem dX10_isTower_74 : decode cX10_isTower 74 = .ok (.isub, 1) := by decide +kernel
theorem dX10_isTower_75 : decode cX10_isTower 75 = .ok (.if_icmp .gt 75, 3) := by decide +kernel
theorem dX10_isTower_78 : decode cX10_isTower 78 = .ok (.aload_n 0, 1) := by decide +kernel
theorem dX10_isTower_79 : decode cX10_isTower 79 = .ok (.getfield 23, 3) := by decide +kernel
theorem dX10_isTower_82 : decode cX10_isTower 82 = .ok (.iload_n 1, 1) := by decide +kernel
theorem dX10_isTower_83 : decode cX10_isTower 83 = .ok (.iaload, 1) := by decide +kernel
theorem dX10_isTower_84 : decode cX10_isTower 84 = .ok (.aload_n 0, 1) := by decide +kernel
theorem dX10_isTower_85 : decode cX10_isTower 85 = .ok (.getfield 23, 3) := by decide +kernel
theorem dX10_isTower_88 : decode cX10_isTower 88 = .ok (.iload_n 3, 1) := by decide +kernel
theorem dX10_isTower_89 : decode cX10_isTower 89 = .ok (.iaload, 1) := by decide +kernel
theorem dX10_isTower_90 : decode cX10_isTower 90 = .ok (.aload_n 0, 1) := by decide +kernel
theorem dX10_isTower_91 : decode cX10_isTower 91 = .ok (.iload_n 3, 1) := by decide +kernel
theorem dX10_isTower_92 : decode cX10_isTower 92 = .ok (.iconst 0, 1) := by decide +kernel
theorem dX10_isTower_93 : decode cX10_isTower 93 = .ok (.invokevirtual 94, 3) := by decide +kernel
theorem dX10_isTower_96 : decode cX10_isTower 96 = .ok (.iadd, 1) := by decide +kernel
theorem dX10_isTower_97 : decode cX10_isTower 97 = .ok (.iconst 1, 1) := by decide +kernel
theorem dX10_isTower_98 : decode cX10_isTower 98 = .ok (.isub, 1) := by decide +kernel
theorem dX10_isTower_99 : decode cX10_isTower 99 = .ok (.if_icmp .le 6, 3) := by decide +kernel
theorem dX10_isTower_102 : decode cX10_isTower 102 = .ok (.goto 48, 3) := by decide +kernel
theorem dX10_isTower_105 : decode cX10_isTower 105 = .ok (.aload_n 0, 1) := by decide +kernel
theorem dX10_isTower_106 : decode cX10_isTower 106 = .ok (.getfield 26, 3) := by decide +kernel
theorem dX10_isTower_109 : decode cX10_isTower 109 = .ok (.iload_n 3, 1) := by decide +kernel
theorem dX10_isTower_110 : decode cX10_isTower 110 = .ok (.iaload, 1) := by decide +kernel
theorem dX10_isTower_111 : decode cX10_isTower 111 = .ok (.aload_n 0, 1) := by decide +kernel
theorem dX10_isTower_112 : decode cX10_isTower 112 = .ok (.getfield 26, 3) := by decide +kernel
theorem dX10_isTower_115 : decode cX10_isTower 115 = .ok (.iload_n 1, 1) := by decide +kernel
theorem dX10_isTower_116 : decode cX10_isTower 116 = .ok (.iaload, 1) := by decide +kernel
theorem dX10_isTower_117 : decode cX10_isTower 117 = .ok (.if_icmp .ne 5, 3) := by decide +kernel
theorem dX10_isTower_120 : decode cX10_isTower 120 = .ok (.iconst 0, 1) := by decide +kernel
theorem dX10_isTower_121 : decode cX10_isTower 121 = .ok (.ireturn, 1) := by decide +kernel
theorem dX10_isTower_122 : decode cX10_isTower 122 = .ok (.aload_n 0, 1) := by decide +kernel
theorem dX10_isTower_123 : decode cX10_isTower 123 = .ok (.getfield 26, 3) := by decide +kernel
theorem dX10_isTower_126 : decode cX10_isTower 126 = .ok (.iload_n 3, 1) := by decide +kernel
theorem dX10_isTower_127 : decode cX10_isTower 127 = .ok (.iaload, 1) := by decide +kernel
theorem dX10_isTower_128 : decode cX10_isTower 128 = .ok (.aload_n 0, 1) := by decide +kernel
theorem dX10_isTower_129 : decode cX10_isTower 129 = .ok (.getfield 26, 3) := by decide +kernel
theorem dX10_isTower_132 : decode cX10_isTower 132 = .ok (.iload_n 1, 1) := by decide +kernel
theorem dX10_isTower_133 : decode cX10_isTower 133 = .ok (.iaload, 1) := by decide +kernel
theorem dX10_isTower_134 : decode cX10_isTower 134 = .ok (.if_icmp .ge 16, 3) := by decide +kernel
theorem dX10_isTower_137 : decode cX10_isTower 137 = .ok (.iload_n 2, 1) := by decide +kernel
theorem dX10_isTower_138 : decode cX10_isTower 138 = .ok (.aload_n 0, 1) := by decide +kernel
theorem dX10_isTower_139 : decode cX10_isTower 139 = .ok (.getfield 26, 3) := by decide +kernel
theorem dX10_isTower_142 : decode cX10_isTower 142 = .ok (.iload_n 3, 1) := by decide +kernel
theorem dX10_isTower_143 : decode cX10_isTower 143 = .ok (.iaload, 1) := by decide +kernel
theorem dX10_isTower_144 : decode cX10_isTower 144 = .ok (.iconst 1, 1) := by decide +kernel
theorem dX10_isTower_145 : decode cX10_isTower 145 = .ok (.iadd, 1) := by decide +kernel
theorem dX10_isTower_146 : decode cX10_isTower 146 = .ok (.invokestatic 97, 3) := by decide +kernel
theorem dX10_isTower_149 : decode cX10_isTower 149 = .ok (.istore_n 2, 1) := by decide +kernel
theorem dX10_isTower_150 : decode cX10_isTower 150 = .ok (.iinc 3 1, 3) := by decide +kernel
theorem dX10_isTower_153 : decode cX10_isTower 153 = .ok (.goto (-124), 3) := by decide +kernel
theorem dX10_isTower_156 : decode cX10_isTower 156 = .ok (.iload_n 2, 1) := by decide +kernel
theorem dX10_isTower_157 : decode cX10_isTower 157 = .ok (.aload_n 0, 1) := by decide +kernel
theorem dX10_isTower_158 : decode cX10_isTower 158 = .ok (.getfield 26, 3) := by decide +kernel
theorem dX10_isTower_161 : decode cX10_isTower 161 = .ok (.iload_n 1, 1) := by decide +kernel
theorem dX10_isTower_162 : decode cX10_isTower 162 = .ok (.iaload, 1) := by decide +kernel
theorem dX10_isTower_163 : decode cX10_isTower 163 = .ok (.if_icmp .eq 5, 3) := by decide +kernel
theorem dX10_isTower_166 : decode cX10_isTower 166 = .ok (.iconst 0, 1) := by decide +kernel
theorem dX10_isTower_167 : decode cX10_isTower 167 = .ok (.ireturn, 1) := by decide +kernel
theorem dX10_isTower_168 : decode cX10_isTower 168 = .ok (.iinc 1 1, 3) := by decide +kernel
theorem dX10_isTower_171 : decode cX10_isTower 171 = .ok (.goto (-169), 3) := by decide +kernel
theorem dX10_isTower_174 : decode cX10_isTower 174 = .ok (.aload_n 0, 1) := by decide +kernel
theorem dX10_isTower_175 : decode cX10_isTower 175 = .ok (.getfield 19, 3) := by decide +kernel
theorem dX10_isTower_178 : decode cX10_isTower 178 = .ok (.istore_n 1, 1) := by decide +kernel
theorem dX10_isTower_179 : decode cX10_isTower 179 = .ok (.aload_n 0, 1) := by decide +kernel
theorem dX10_isTower_180 : decode cX10_isTower 180 = .ok (.invokevirtual 124, 3) := by decide +kernel
theorem dX10_isTower_183 : decode cX10_isTower 183 = .ok (.iconst (-1), 1) := by decide +kernel
theorem dX10_isTower_184 : decode cX10_isTower 184 = .ok (.if_icmp .ne 7, 3) := by decide +kernel
theorem dX10_isTower_187 : decode cX10_isTower 187 = .ok (.iconst 1, 1) := by decide +kernel
theorem dX10_isTower_188 : decode cX10_isTower 188 = .ok (.goto 4, 3) := by decide +kernel
theorem dX10_isTower_191 : decode cX10_isTower 191 = .ok (.iconst 0, 1) := by decide +kernel
theorem dX10_isTower_192 : decode cX10_isTower 192 = .ok (.istore_n 2, 1) := by decide +kernel
theorem dX10_isTower_193 : decode cX10_isTower 193 = .ok (.aload_n 0, 1) := by decide +kernel
theorem dX10_isTower_194 : decode cX10_isTower 194 = .ok (.iload_n 1, 1) := by decide +kernel
theorem dX10_isTower_195 : decode cX10_isTower 195 = .ok (.putfield 19, 3) := by decide +kernel
theorem dX10_isTower_198 : decode cX10_isTower 198 = .ok (.iconst 0, 1) := by decide +kernel
theorem dX10_isTower_199 : decode cX10_isTower 199 = .ok (.istore_n 3, 1) := by decide +kernel
theorem dX10_isTower_200 : decode cX10_isTower 200 = .ok (.iload_n 3, 1) := by decide +kernel
theorem dX10_isTower_201 : decode cX10_isTower 201 = .ok (.aload_n 0, 1) := by decide +kernel
theorem dX10_isTower_202 : decode cX10_isTower 202 = .ok (.getfield 7, 3) := by decide +kernel
theorem dX10_isTower_205 : decode cX10_isTower 205 = .ok (.iconst 1, 1) := by decide +kernel
theorem dX10_isTower_206 : decode cX10_isTower 206 = .ok (.iaload, 1) := by decide +kernel
theorem dX10_isTower_207 : decode cX10_isTower 207 = .ok (.if_icmp .ge 37, 3) := by decide +kernel
theorem dX10_isTower_210 : decode cX10_isTower 210 = .ok (.iload_n 2, 1) := by decide +kernel
theorem dX10_isTower_211 : decode cX10_isTower 211 = .ok (.ifCond .eq 33, 3) := by decide +kernel
theorem dX10_isTower_214 : decode cX10_isTower 214 = .ok (.aload_n 0, 1) := by decide +kernel
theorem dX10_isTower_215 : decode cX10_isTower 215 = .ok (.getfield 23, 3) := by decide +kernel
theorem dX10_isTower_218 : decode cX10_isTower 218 = .ok (.iload_n 3, 1) := by decide +kernel
theorem dX10_isTower_219 : decode cX10_isTower 219 = .ok (.iaload, 1) := by decide +kernel
theorem dX10_isTower_220 : decode cX10_isTower 220 = .ok (.iconst (-1), 1) := by decide +kernel
theorem dX10_isTower_221 : decode cX10_isTower 221 = .ok (.if_icmp .eq 11, 3) := by decide +kernel
theorem dX10_isTower_224 : decode cX10_isTower 224 = .ok (.aload_n 0, 1) := by decide +kernel
theorem dX10_isTower_225 : decode cX10_isTower 225 = .ok (.iload_n 3, 1) := by decide +kernel
theorem dX10_isTower_226 : decode cX10_isTower 226 = .ok (.invokevirtual 120, 3) := by decide +kernel
theorem dX10_isTower_229 : decode cX10_isTower 229 = .ok (.ifCond .eq 7, 3) := by decide +kernel
theorem dX10_isTower_232 : decode cX10_isTower 232 = .ok (.iconst 1, 1) := by decide +kernel
theorem dX10_isTower_233 : decode cX10_isTower 233 = .ok (.goto 4, 3) := by decide +kernel
theorem dX10_isTower_236 : decode cX10_isTower 236 = .ok (.iconst 0, 1) := by decide +kernel
theorem dX10_isTower_237 : decode cX10_isTower 237 = .ok (.istore_n 2, 1) := by decide +kernel
theorem dX10_isTower_238 : decode cX10_isTower 238 = .ok (.iinc 3 1, 3) := by decide +kernel
theorem dX10_isTower_241 : decode cX10_isTower 241 = .ok (.goto (-41), 3) := by decide +kernel
theorem dX10_isTower_244 : decode cX10_isTower 244 = .ok (.iload_n 2, 1) := by decide +kernel
theorem dX10_isTower_245 : decode cX10_isTower 245 = .ok (.ireturn, 1) := by decide +kernel
theorem dX10_triesTowers_0 : decode cX10_triesTowers 0 = .ok (.iload_n 2, 1) := by decide +kernel
theorem dX10_triesTowers_1 : decode cX10_triesTowers 1 = .ok (.aload_n 0, 1) := by decide +kernel
theorem dX10_triesTowers_2 : decode cX10_triesTowers 2 = .ok (.getfield 7, 3) := by decide +kernel
theorem dX10_triesTowers_5 : decode cX10_triesTowers 5 = .ok (.iconst 1, 1) := by decide +kernel
theorem dX10_triesTowers_6 : decode cX10_triesTowers 6 = .ok (.iaload, 1) := by decide +kernel
theorem dX10_triesTowers_7 : decode cX10_triesTowers 7 = .ok (.if_icmp .ne 66, 3) := by decide +kernel
theorem dX10_triesTowers_10 : decode cX10_triesTowers 10 = .ok (.aload_n 0, 1) := by decide +kernel
theorem dX10_triesTowers_11 : decode cX10_triesTowers 11 = .ok (.invokevirtual 320, 3) := by decide +kernel
theorem dX10_triesTowers_14 : decode cX10_triesTowers 14 = .ok (.ifCond .ne 4, 3) := by decide +kernel
theorem dX10_triesTowers_17 : decode cX10_triesTowers 17 = .ok (.return_, 1) := by decide +kernel
theorem dX10_triesTowers_18 : decode cX10_triesTowers 18 = .ok (.iconst 0, 1) := by decide +kernel
theorem dX10_triesTowers_19 : decode cX10_triesTowers 19 = .ok (.istore_n 3, 1) := by decide +kernel
theorem dX10_triesTowers_20 : decode cX10_triesTowers 20 = .ok (.iload_n 3, 1) := by decide +kernel
theorem dX10_triesTowers_21 : decode cX10_triesTowers 21 = .ok (.iload_n 2, 1) := by decide +kernel
theorem dX10_triesTowers_22 : decode cX10_triesTowers 22 = .ok (.if_icmp .ge 40, 3) := by decide +kernel
theorem dX10_triesTowers_25 : decode cX10_triesTowers 25 = .ok (.aload_n 0, 1) := by decide +kernel
theorem dX10_triesTowers_26 : decode cX10_triesTowers 26 = .ok (.getfield 323, 3) := by decide +kernel
theorem dX10_triesTowers_29 : decode cX10_triesTowers 29 = .ok (.ifCond .ne 33, 3) := by decide +kernel
theorem dX10_triesTowers_32 : decode cX10_triesTowers 32 = .ok (.aload_n 0, 1) := by decide +kernel
theorem dX10_triesTowers_33 : decode cX10_triesTowers 33 = .ok (.getfield 70, 3) := by decide +kernel
theorem dX10_triesTowers_36 : decode cX10_triesTowers 36 = .ok (.iload_n 3, 1) := by decide +kernel
theorem dX10_triesTowers_37 : decode cX10_triesTowers 37 = .ok (.aload_n 0, 1) := by decide +kernel
theorem dX10_triesTowers_38 : decode cX10_triesTowers 38 = .ok (.getfield 23, 3) := by decide +kernel
theorem dX10_triesTowers_41 : decode cX10_triesTowers 41 = .ok (.iload_n 3, 1) := by decide +kernel
theorem dX10_triesTowers_42 : decode cX10_triesTowers 42 = .ok (.iaload, 1) := by decide +kernel
theorem dX10_triesTowers_43 : decode cX10_triesTowers 43 = .ok (.iastore, 1) := by decide +kernel
theorem dX10_triesTowers_44 : decode cX10_triesTowers 44 = .ok (.aload_n 0, 1) := by decide +kernel
theorem dX10_triesTowers_45 : decode cX10_triesTowers 45 = .ok (.getfield 73, 3) := by decide +kernel
theorem dX10_triesTowers_48 : decode cX10_triesTowers 48 = .ok (.iload_n 3, 1) := by decide +kernel
theorem dX10_triesTowers_49 : decode cX10_triesTowers 49 = .ok (.aload_n 0, 1) := by decide +kernel
theorem dX10_triesTowers_50 : decode cX10_triesTowers 50 = .ok (.getfield 26, 3) := by decide +kernel
theorem dX10_triesTowers_53 : decode cX10_triesTowers 53 = .ok (.iload_n 3, 1) := by decide +kernel
theorem dX10_triesTowers_54 : decode cX10_triesTowers 54 = .ok (.iaload, 1) := by decide +kernel
theorem dX10_triesTowers_55 : decode cX10_triesTowers 55 = .ok (.iastore, 1) := by decide +kernel
theorem dX10_triesTowers_56 : decode cX10_triesTowers 56 = .ok (.iinc 3 1, 3) := by decide +kernel
theorem dX10_triesTowers_59 : decode cX10_triesTowers 59 = .ok (.goto (-39), 3) := by decide +kernel
theorem dX10_triesTowers_62 : decode cX10_triesTowers 62 = .ok (.aload_n 0, 1) := by decide +kernel
theorem dX10_triesTowers_63 : decode cX10_triesTowers 63 = .ok (.dup, 1) := by decide +kernel
theorem dX10_triesTowers_64 : decode cX10_triesTowers 64 = .ok (.getfield 323, 3) := by decide +kernel
theorem dX10_triesTowers_67 : decode cX10_triesTowers 67 = .ok (.iconst 1, 1) := by decide +kernel
theorem dX10_triesTowers_68 : decode cX10_triesTowers 68 = .ok (.iadd, 1) := by decide +kernel
theorem dX10_triesTowers_69 : decode cX10_triesTowers 69 = .ok (.putfield 323, 3) := by decide +kernel
theorem dX10_triesTowers_72 : decode cX10_triesTowers 72 = .ok (.return_, 1) := by decide +kernel
theorem dX10_triesTowers_73 : decode cX10_triesTowers 73 = .ok (.iload_n 1, 1) := by decide +kernel
theorem dX10_triesTowers_74 : decode cX10_triesTowers 74 = .ok (.iload_n 2, 1) := by decide +kernel
theorem dX10_triesTowers_75 : decode cX10_triesTowers 75 = .ok (.ishr, 1) := by decide +kernel
theorem dX10_triesTowers_76 : decode cX10_triesTowers 76 = .ok (.iconst 1, 1) := by decide +kernel
theorem dX10_triesTowers_77 : decode cX10_triesTowers 77 = .ok (.iand, 1) := by decide +kernel
theorem dX10_triesTowers_78 : decode cX10_triesTowers 78 = .ok (.ifCond .ne 12, 3) := by decide +kernel
theorem dX10_triesTowers_81 : decode cX10_triesTowers 81 = .ok (.aload_n 0, 1) := by decide +kernel
theorem dX10_triesTowers_82 : decode cX10_triesTowers 82 = .ok (.iload_n 1, 1) := by decide +kernel
theorem dX10_triesTowers_83 : decode cX10_triesTowers 83 = .ok (.iload_n 2, 1) := by decide +kernel
theorem dX10_triesTowers_84 : decode cX10_triesTowers 84 = .ok (.iconst 1, 1) := by decide +kernel
theorem dX10_triesTowers_85 : decode cX10_triesTowers 85 = .ok (.iadd, 1) := by decide +kernel
theorem dX10_triesTowers_86 : decode cX10_triesTowers 86 = .ok (.invokevirtual 326, 3) := by decide +kernel
theorem dX10_triesTowers_89 : decode cX10_triesTowers 89 = .ok (.return_, 1) := by decide +kernel
theorem dX10_triesTowers_90 : decode cX10_triesTowers 90 = .ok (.iconst 0, 1) := by decide +kernel
theorem dX10_triesTowers_91 : decode cX10_triesTowers 91 = .ok (.istore_n 3, 1) := by decide +kernel
theorem dX10_triesTowers_92 : decode cX10_triesTowers 92 = .ok (.iload_n 3, 1) := by decide +kernel
theorem dX10_triesTowers_93 : decode cX10_triesTowers 93 = .ok (.aload_n 0, 1) := by decide +kernel
theorem dX10_triesTowers_94 : decode cX10_triesTowers 94 = .ok (.getfield 7, 3) := by decide +kernel
theorem dX10_triesTowers_97 : decode cX10_triesTowers 97 = .ok (.iconst 0, 1) := by decide +kernel
theorem dX10_triesTowers_98 : decode cX10_triesTowers 98 = .ok (.iaload, 1) := by decide +kernel
theorem dX10_triesTowers_99 : decode cX10_triesTowers 99 = .ok (.aload_n 0, 1) := by decide +kernel
theorem dX10_triesTowers_100 : decode cX10_triesTowers 100 = .ok (.iload_n 2, 1) := by decide +kernel
theorem dX10_triesTowers_101 : decode cX10_triesTowers 101 = .ok (.iconst 0, 1) := by decide +kernel
theorem dX10_triesTowers_102 : decode cX10_triesTowers 102 = .ok (.invokevirtual 94, 3) := by decide +kernel
theorem dX10_triesTowers_105 : decode cX10_triesTowers 105 = .ok (.isub, 1) := by decide +kernel
theorem dX10_triesTowers_106 : decode cX10_triesTowers 106 = .ok (.if_icmp .gt 78, 3) := by decide +kernel
theorem dX10_triesTowers_109 : decode cX10_triesTowers 109 = .ok (.aload_n 0, 1) := by decide +kernel
theorem dX10_triesTowers_110 : decode cX10_triesTowers 110 = .ok (.iload_n 2, 1) := by decide +kernel
theorem dX10_triesTowers_111 : decode cX10_triesTowers 111 = .ok (.iconst 4, 1) := by decide +kernel
theorem dX10_triesTowers_112 : decode cX10_triesTowers 112 = .ok (.invokevirtual 94, 3) := by decide +kernel
theorem dX10_triesTowers_115 : decode cX10_triesTowers 115 = .ok (.bipush 10, 2) := by decide +kernel
theorem dX10_triesTowers_117 : decode cX10_triesTowers 117 = .ok (.isub, 1) := by decide +kernel
theorem dX10_triesTowers_118 : decode cX10_triesTowers 118 = .ok (.iload_n 3, 1) := by decide +kernel
theorem dX10_triesTowers_119 : decode cX10_triesTowers 119 = .ok (.isub, 1) := by decide +kernel
theorem dX10_triesTowers_120 : decode cX10_triesTowers 120 = .ok (.istore 4, 2) := by decide +kernel
theorem dX10_triesTowers_122 : decode cX10_triesTowers 122 = .ok (.iload 4, 2) := by decide +kernel
theorem dX10_triesTowers_124 : decode cX10_triesTowers 124 = .ok (.ifCond .lt 54, 3) := by decide +kernel
theorem dX10_triesTowers_127 : decode cX10_triesTowers 127 = .ok (.iload 4, 2) := by decide +kernel
theorem dX10_triesTowers_129 : decode cX10_triesTowers 129 = .ok (.iconst 2, 1) := by decide +kernel
theorem dX10_triesTowers_130 : decode cX10_triesTowers 130 = .ok (.irem, 1) := by decide +kernel
theorem dX10_triesTowers_131 : decode cX10_triesTowers 131 = .ok (.ifCond .ne 47, 3) := by decide +kernel
theorem dX10_triesTowers_134 : decode cX10_triesTowers 134 = .ok (.iload 4, 2) := by decide +kernel
theorem dX10_triesTowers_136 : decode cX10_triesTowers 136 = .ok (.iconst 2, 1) := by decide +kernel
theorem dX10_triesTowers_137 : decode cX10_triesTowers 137 = .ok (.idiv, 1) := by decide +kernel
theorem dX10_triesTowers_138 : decode cX10_triesTowers 138 = .ok (.bipush 6, 2) := by decide +kernel
theorem dX10_triesTowers_140 : decode cX10_triesTowers 140 = .ok (.if_icmp .lt 6, 3) := by decide +kernel
theorem dX10_triesTowers_143 : decode cX10_triesTowers 143 = .ok (.goto 35, 3) := by decide +kernel
theorem dX10_triesTowers_146 : decode cX10_triesTowers 146 = .ok (.aload_n 0, 1) := by decide +kernel
theorem dX10_triesTowers_147 : decode cX10_triesTowers 147 = .ok (.getfield 23, 3) := by decide +kernel
theorem dX10_triesTowers_150 : decode cX10_triesTowers 150 = .ok (.iload_n 2, 1) := by decide +kernel
theorem dX10_triesTowers_151 : decode cX10_triesTowers 151 = .ok (.iload_n 3, 1) := by decide +kernel
theorem dX10_triesTowers_152 : decode cX10_triesTowers 152 = .ok (.iastore, 1) := by decide +kernel
theorem dX10_triesTowers_153 : decode cX10_triesTowers 153 = .ok (.aload_n 0, 1) := by decide +kernel
theorem dX10_triesTowers_154 : decode cX10_triesTowers 154 = .ok (.getfield 26, 3) := by decide +kernel
theorem dX10_triesTowers_157 : decode cX10_triesTowers 157 = .ok (.iload_n 2, 1) := by decide +kernel
theorem dX10_triesTowers_158 : decode cX10_triesTowers 158 = .ok (.iload 4, 2) := by decide +kernel
theorem dX10_triesTowers_160 : decode cX10_triesTowers 160 = .ok (.iconst 2, 1) := by decide +kernel
theorem dX10_triesTowers_161 : decode cX10_triesTowers 161 = .ok (.idiv, 1) := by decide +kernel
theorem dX10_triesTowers_162 : decode cX10_triesTowers 162 = .ok (.iastore, 1) := by decide +kernel
theorem dX10_triesTowers_163 : decode cX10_triesTowers 163 = .ok (.aload_n 0, 1) := by decide +kernel
theorem dX10_triesTowers_164 : decode cX10_triesTowers 164 = .ok (.iload_n 1, 1) := by decide +kernel
theorem dX10_triesTowers_165 : decode cX10_triesTowers 165 = .ok (.iload_n 2, 1) := by decide +kernel
theorem dX10_triesTowers_166 : decode cX10_triesTowers 166 = .ok (.iconst 1, 1) := by decide +kernel
theorem dX10_triesTowers_167 : decode cX10_triesTowers 167 = .ok (.iadd, 1) := by decide +kernel
theorem dX10_triesTowers_168 : decode cX10_triesTowers 168 = .ok (.invokevirtual 326, 3) := by decide +kernel
theorem dX10_triesTowers_171 : decode cX10_triesTowers 171 = .ok (.aload_n 0, 1) := by decide +kernel
theorem dX10_triesTowers_172 : decode cX10_triesTowers 172 = .ok (.getfield 23, 3) := by decide +kernel
theorem dX10_triesTowers_175 : decode cX10_triesTowers 175 = .ok (.iload_n 2, 1) := by decide +kernel
theorem dX10_triesTowers_176 : decode cX10_triesTowers 176 = .ok (.iconst (-1), 1) := by decide +kernel
theorem dX10_triesTowers_177 : decode cX10_triesTowers 177 = .ok (.iastore, 1) := by decide +kernel
theorem dX10_triesTowers_178 : decode cX10_triesTowers 178 = .ok (.iinc 3 1, 3) := by decide +kernel
theorem dX10_triesTowers_181 : decode cX10_triesTowers 181 = .ok (.goto (-89), 3) := by decide +kernel
theorem dX10_triesTowers_184 : decode cX10_triesTowers 184 = .ok (.return_, 1) := by decide +kernel
