theorem dX10_init_0 : decode cX10_init 0 = .ok (.aload_n 0, 1) := by decide +kernel
theorem dX10_init_1 : decode cX10_init 1 = .ok (.invokespecial 1, 3) := by decide +kernel
theorem dX10_init_4 : decode cX10_init 4 = .ok (.aload_n 0, 1) := by decide +kernel
theorem dX10_init_5 : decode cX10_init 5 = .ok (.sipush 1225, 3) := by decide +kernel
theorem dX10_init_8 : decode cX10_init 8 = .ok (.newarray .int, 2) := by decide +kernel
theorem dX10_init_10 : decode cX10_init 10 = .ok (.putfield 7, 3) := by decide +kernel
theorem dX10_init_13 : decode cX10_init 13 = .ok (.aload_n 0, 1) := by decide +kernel
theorem dX10_init_14 : decode cX10_init 14 = .ok (.sipush 1225, 3) := by decide +kernel
theorem dX10_init_17 : decode cX10_init 17 = .ok (.newarray .int, 2) := by decide +kernel
theorem dX10_init_19 : decode cX10_init 19 = .ok (.putfield 13, 3) := by decide +kernel
theorem dX10_init_22 : decode cX10_init 22 = .ok (.aload_n 0, 1) := by decide +kernel
theorem dX10_init_23 : decode cX10_init 23 = .ok (.bipush 60, 2) := by decide +kernel
theorem dX10_init_25 : decode cX10_init 25 = .ok (.newarray .int, 2) := by decide +kernel
theorem dX10_init_27 : decode cX10_init 27 = .ok (.putfield 16, 3) := by decide +kernel
theorem dX10_init_30 : decode cX10_init 30 = .ok (.aload_n 0, 1) := by decide +kernel
theorem dX10_init_31 : decode cX10_init 31 = .ok (.iconst (-1), 1) := by decide +kernel
theorem dX10_init_32 : decode cX10_init 32 = .ok (.putfield 19, 3) := by decide +kernel
theorem dX10_init_35 : decode cX10_init 35 = .ok (.aload_n 0, 1) := by decide +kernel
theorem dX10_init_36 : decode cX10_init 36 = .ok (.bipush 20, 2) := by decide +kernel
theorem dX10_init_38 : decode cX10_init 38 = .ok (.newarray .int, 2) := by decide +kernel
theorem dX10_init_40 : decode cX10_init 40 = .ok (.putfield 23, 3) := by decide +kernel
theorem dX10_init_43 : decode cX10_init 43 = .ok (.aload_n 0, 1) := by decide +kernel
theorem dX10_init_44 : decode cX10_init 44 = .ok (.bipush 20, 2) := by decide +kernel
theorem dX10_init_46 : decode cX10_init 46 = .ok (.newarray .int, 2) := by decide +kernel
theorem dX10_init_48 : decode cX10_init 48 = .ok (.putfield 26, 3) := by decide +kernel
theorem dX10_init_51 : decode cX10_init 51 = .ok (.aload_n 0, 1) := by decide +kernel
theorem dX10_init_52 : decode cX10_init 52 = .ok (.bipush 20, 2) := by decide +kernel
theorem dX10_init_54 : decode cX10_init 54 = .ok (.newarray .int, 2) := by decide +kernel
theorem dX10_init_56 : decode cX10_init 56 = .ok (.putfield 29, 3) := by decide +kernel
theorem dX10_init_59 : decode cX10_init 59 = .ok (.aload_n 0, 1) := by decide +kernel
theorem dX10_init_60 : decode cX10_init 60 = .ok (.bipush 8, 2) := by decide +kernel
theorem dX10_init_62 : decode cX10_init 62 = .ok (.bipush 21, 2) := by decide +kernel
theorem dX10_init_64 : decode cX10_init 64 = .ok (.multianewarray 32 2, 4) := by decide +kernel
theorem dX10_init_68 : decode cX10_init 68 = .ok (.putfield 34, 3) := by decide +kernel
theorem dX10_init_71 : decode cX10_init 71 = .ok (.aload_n 0, 1) := by decide +kernel
theorem dX10_init_72 : decode cX10_init 72 = .ok (.bipush 48, 2) := by decide +kernel
theorem dX10_init_74 : decode cX10_init 74 = .ok (.newarray .int, 2) := by decide +kernel
theorem dX10_init_76 : decode cX10_init 76 = .ok (.putfield 37, 3) := by decide +kernel
theorem dX10_init_79 : decode cX10_init 79 = .ok (.aload_n 0, 1) := by decide +kernel
theorem dX10_init_80 : decode cX10_init 80 = .ok (.sipush 820, 3) := by decide +kernel
theorem dX10_init_83 : decode cX10_init 83 = .ok (.newarray .int, 2) := by decide +kernel
theorem dX10_init_85 : decode cX10_init 85 = .ok (.putfield 40, 3) := by decide +kernel
theorem dX10_init_88 : decode cX10_init 88 = .ok (.aload_n 0, 1) := by decide +kernel
theorem dX10_init_89 : decode cX10_init 89 = .ok (.sipush 400, 3) := by decide +kernel
theorem dX10_init_92 : decode cX10_init 92 = .ok (.newarray .int, 2) := by decide +kernel
theorem dX10_init_94 : decode cX10_init 94 = .ok (.putfield 43, 3) := by decide +kernel
theorem dX10_init_97 : decode cX10_init 97 = .ok (.aload_n 0, 1) := by decide +kernel
theorem dX10_init_98 : decode cX10_init 98 = .ok (.sipush 420, 3) := by decide +kernel
theorem dX10_init_101 : decode cX10_init 101 = .ok (.newarray .int, 2) := by decide +kernel
theorem dX10_init_103 : decode cX10_init 103 = .ok (.putfield 46, 3) := by decide +kernel
theorem dX10_init_106 : decode cX10_init 106 = .ok (.aload_n 0, 1) := by decide +kernel
theorem dX10_init_107 : decode cX10_init 107 = .ok (.bipush 8, 2) := by decide +kernel
theorem dX10_init_109 : decode cX10_init 109 = .ok (.newarray .int, 2) := by decide +kernel
theorem dX10_init_111 : decode cX10_init 111 = .ok (.putfield 49, 3) := by decide +kernel
theorem dX10_init_114 : decode cX10_init 114 = .ok (.aload_n 0, 1) := by decide +kernel
theorem dX10_init_115 : decode cX10_init 115 = .ok (.iconst (-1), 1) := by decide +kernel
theorem dX10_init_116 : decode cX10_init 116 = .ok (.putfield 52, 3) := by decide +kernel
theorem dX10_init_119 : decode cX10_init 119 = .ok (.aload_n 0, 1) := by decide +kernel
theorem dX10_init_120 : decode cX10_init 120 = .ok (.bipush 6, 2) := by decide +kernel
theorem dX10_init_122 : decode cX10_init 122 = .ok (.newarray .int, 2) := by decide +kernel
theorem dX10_init_124 : decode cX10_init 124 = .ok (.putfield 55, 3) := by decide +kernel
theorem dX10_init_127 : decode cX10_init 127 = .ok (.aload_n 0, 1) := by decide +kernel
theorem dX10_init_128 : decode cX10_init 128 = .ok (.iconst 5, 1) := by decide +kernel
theorem dX10_init_129 : decode cX10_init 129 = .ok (.newarray .int, 2) := by decide +kernel
theorem dX10_init_131 : decode cX10_init 131 = .ok (.putfield 58, 3) := by decide +kernel
theorem dX10_init_134 : decode cX10_init 134 = .ok (.aload_n 0, 1) := by decide +kernel
theorem dX10_init_135 : decode cX10_init 135 = .ok (.iconst 5, 1) := by decide +kernel
theorem dX10_init_136 : decode cX10_init 136 = .ok (.newarray .int, 2) := by decide +kernel
theorem dX10_init_138 : decode cX10_init 138 = .ok (.putfield 61, 3) := by decide +kernel
theorem dX10_init_141 : decode cX10_init 141 = .ok (.aload_n 0, 1) := by decide +kernel
theorem dX10_init_142 : decode cX10_init 142 = .ok (.iconst 5, 1) := by decide +kernel
theorem dX10_init_143 : decode cX10_init 143 = .ok (.newarray .int, 2) := by decide +kernel
theorem dX10_init_145 : decode cX10_init 145 = .ok (.putfield 64, 3) := by decide +kernel
theorem dX10_init_148 : decode cX10_init 148 = .ok (.aload_n 0, 1) := by decide +kernel
theorem dX10_init_149 : decode cX10_init 149 = .ok (.iconst 5, 1) := by decide +kernel
theorem dX10_init_150 : decode cX10_init 150 = .ok (.newarray .int, 2) := by decide +kernel
theorem dX10_init_152 : decode cX10_init 152 = .ok (.putfield 67, 3) := by decide +kernel
theorem dX10_init_155 : decode cX10_init 155 = .ok (.aload_n 0, 1) := by decide +kernel
theorem dX10_init_156 : decode cX10_init 156 = .ok (.bipush 20, 2) := by decide +kernel
theorem dX10_init_158 : decode cX10_init 158 = .ok (.newarray .int, 2) := by decide +kernel
theorem dX10_init_160 : decode cX10_init 160 = .ok (.putfield 70, 3) := by decide +kernel
theorem dX10_init_163 : decode cX10_init 163 = .ok (.aload_n 0, 1) := by decide +kernel
theorem dX10_init_164 : decode cX10_init 164 = .ok (.bipush 20, 2) := by decide +kernel
theorem dX10_init_166 : decode cX10_init 166 = .ok (.newarray .int, 2) := by decide +kernel
theorem dX10_init_168 : decode cX10_init 168 = .ok (.putfield 73, 3) := by decide +kernel
theorem dX10_init_171 : decode cX10_init 171 = .ok (.aload_n 0, 1) := by decide +kernel
theorem dX10_init_172 : decode cX10_init 172 = .ok (.getfield 7, 3) := by decide +kernel
theorem dX10_init_175 : decode cX10_init 175 = .ok (.iconst 0, 1) := by decide +kernel
theorem dX10_init_176 : decode cX10_init 176 = .ok (.iconst 5, 1) := by decide +kernel
theorem dX10_init_177 : decode cX10_init 177 = .ok (.iastore, 1) := by decide +kernel
theorem dX10_init_178 : decode cX10_init 178 = .ok (.return_, 1) := by decide +kernel
theorem dX10_isIn_0 : decode cX10_isIn 0 = .ok (.iload_n 0, 1) := by decide +kernel
theorem dX10_isIn_1 : decode cX10_isIn 1 = .ok (.iload_n 1, 1) := by decide +kernel
theorem dX10_isIn_2 : decode cX10_isIn 2 = .ok (.if_icmp .lt 12, 3) := by decide +kernel
theorem dX10_isIn_5 : decode cX10_isIn 5 = .ok (.iload_n 0, 1) := by decide +kernel
theorem dX10_isIn_6 : decode cX10_isIn 6 = .ok (.iload_n 2, 1) := by decide +kernel
theorem dX10_isIn_7 : decode cX10_isIn 7 = .ok (.if_icmp .gt 7, 3) := by decide +kernel
theorem dX10_isIn_10 : decode cX10_isIn 10 = .ok (.iconst 1, 1) := by decide +kernel
theorem dX10_isIn_11 : decode cX10_isIn 11 = .ok (.goto 4, 3) := by decide +kernel
theorem dX10_isIn_14 : decode cX10_isIn 14 = .ok (.iconst 0, 1) := by decide +kernel
theorem dX10_isIn_15 : decode cX10_isIn 15 = .ok (.ireturn, 1) := by decide +kernel
theorem dX10_least_0 : decode cX10_least 0 = .ok (.iload_n 0, 1) := by decide +kernel
theorem dX10_least_1 : decode cX10_least 1 = .ok (.iload_n 1, 1) := by decide +kernel
theorem dX10_least_2 : decode cX10_least 2 = .ok (.if_icmp .ge 7, 3) := by decide +kernel
theorem dX10_least_5 : decode cX10_least 5 = .ok (.iload_n 0, 1) := by decide +kernel
theorem dX10_least_6 : decode cX10_least 6 = .ok (.goto 4, 3) := by decide +kernel
theorem dX10_least_9 : decode cX10_least 9 = .ok (.iload_n 1, 1) := by decide +kernel
theorem dX10_least_10 : decode cX10_least 10 = .ok (.ireturn, 1) := by decide +kernel
theorem dX10_most_0 : decode cX10_most 0 = .ok (.iload_n 0, 1) := by decide +kernel
theorem dX10_most_1 : decode cX10_most 1 = .ok (.iload_n 1, 1) := by decide +kernel
theorem dX10_most_2 : decode cX10_most 2 = .ok (.if_icmp .le 7, 3) := by decide +kernel
theorem dX10_most_5 : decode cX10_most 5 = .ok (.iload_n 0, 1) := by decide +kernel
theorem dX10_most_6 : decode cX10_most 6 = .ok (.goto 4, 3) := by decide +kernel
theorem dX10_most_9 : decode cX10_most 9 = .ok (.iload_n 1, 1) := by decide +kernel
theorem dX10_most_10 : decode cX10_most 10 = .ok (.ireturn, 1) := by decide +kernel
theorem dX10_isBlock_0 : decode cX10_isBlock 0 = .ok (.iload_n 1, 1) := by decide +kernel
theorem dX10_isBlock_1 : decode cX10_isBlock 1 = .ok (.iconst 0, 1) := by decide +kernel
theorem dX10_isBlock_2 : decode cX10_isBlock 2 = .ok (.aload_n 0, 1) := by decide +kernel
theorem dX10_isBlock_3 : decode cX10_isBlock 3 = .ok (.getfield 7, 3) := by decide +kernel
theorem dX10_isBlock_6 : decode cX10_isBlock 6 = .ok (.iconst 1, 1) := by decide +kernel
theorem dX10_isBlock_7 : decode cX10_isBlock 7 = .ok (.iaload, 1) := by decide +kernel
theorem dX10_isBlock_8 : decode cX10_isBlock 8 = .ok (.iconst 1, 1) := by decide +kernel
theorem dX10_isBlock_9 : decode cX10_isBlock 9 = .ok (.isub, 1) := by decide +kernel
theorem dX10_isBlock_10 : decode cX10_isBlock 10 = .ok (.invokestatic 76, 3) := by decide +kernel
theorem dX10_isBlock_13 : decode cX10_isBlock 13 = .ok (.ireturn, 1) := by decide +kernel
theorem dX10_own_0 : decode cX10_own 0 = .ok (.aload_n 0, 1) := by decide +kernel
theorem dX10_own_1 : decode cX10_own 1 = .ok (.getfield 7, 3) := by decide +kernel
theorem dX10_own_4 : decode cX10_own 4 = .ok (.bipush 20, 2) := by decide +kernel
theorem dX10_own_6 : decode cX10_own 6 = .ok (.bipush 8, 2) := by decide +kernel
theorem dX10_own_8 : decode cX10_own 8 = .ok (.iload_n 1, 1) := by decide +kernel
theorem dX10_own_9 : decode cX10_own 9 = .ok (.imul, 1) := by decide +kernel
theorem dX10_own_10 : decode cX10_own 10 = .ok (.iadd, 1) := by decide +kernel
theorem dX10_own_11 : decode cX10_own 11 = .ok (.iload_n 2, 1) := by decide +kernel
theorem dX10_own_12 : decode cX10_own 12 = .ok (.iadd, 1) := by decide +kernel
theorem dX10_own_13 : decode cX10_own 13 = .ok (.iaload, 1) := by decide +kernel
theorem dX10_own_14 : decode cX10_own 14 = .ok (.ireturn, 1) := by decide +kernel
theorem dX10_gives_0 : decode cX10_gives 0 = .ok (.aload_n 0, 1) := by decide +kernel
theorem dX10_gives_1 : decode cX10_gives 1 = .ok (.getfield 7, 3) := by decide +kernel
theorem dX10_gives_4 : decode cX10_gives 4 = .ok (.bipush 20, 2) := by decide +kernel
theorem dX10_gives_6 : decode cX10_gives 6 = .ok (.bipush 8, 2) := by decide +kernel
theorem dX10_gives_8 : decode cX10_gives 8 = .ok (.iload_n 1, 1) := by decide +kernel
theorem dX10_gives_9 : decode cX10_gives 9 = .ok (.imul, 1) := by decide +kernel
theorem dX10_gives_10 : decode cX10_gives 10 = .ok (.iadd, 1) := by decide +kernel
theorem dX10_gives_11 : decode cX10_gives 11 = .ok (.iload_n 2, 1) := by decide +kernel
theorem dX10_gives_12 : decode cX10_gives 12 = .ok (.iadd, 1) := by decide +kernel
theorem dX10_gives_13 : decode cX10_gives 13 = .ok (.iload_n 3, 1) := by decide +kernel
theorem dX10_gives_14 : decode cX10_gives 14 = .ok (.iastore, 1) := by decide +kernel
theorem dX10_gives_15 : decode cX10_gives 15 = .ok (.return_, 1) := by decide +kernel
theorem dX10_forgets_0 : decode cX10_forgets 0 = .ok (.aload_n 0, 1) := by decide +kernel
theorem dX10_forgets_1 : decode cX10_forgets 1 = .ok (.iconst 0, 1) := by decide +kernel
theorem dX10_forgets_2 : decode cX10_forgets 2 = .ok (.putfield 80, 3) := by decide +kernel
theorem dX10_forgets_5 : decode cX10_forgets 5 = .ok (.return_, 1) := by decide +kernel
theorem dX10_columns_0 : decode cX10_columns 0 = .ok (.iload_n 1, 1) := by decide +kernel
theorem dX10_columns_1 : decode cX10_columns 1 = .ok (.iconst 2, 1) := by decide +kernel
theorem dX10_columns_2 : decode cX10_columns 2 = .ok (.bipush 8, 2) := by decide +kernel
theorem dX10_columns_4 : decode cX10_columns 4 = .ok (.invokestatic 76, 3) := by decide +kernel
theorem dX10_columns_7 : decode cX10_columns 7 = .ok (.ifCond .ne 5, 3) := by decide +kernel
theorem dX10_columns_10 : decode cX10_columns 10 = .ok (.iconst 0, 1) := by decide +kernel
theorem dX10_columns_11 : decode cX10_columns 11 = .ok (.ireturn, 1) := by decide +kernel
theorem dX10_columns_12 : decode cX10_columns 12 = .ok (.iconst 0, 1) := by decide +kernel
theorem dX10_columns_13 : decode cX10_columns 13 = .ok (.istore_n 2, 1) := by decide +kernel
theorem dX10_columns_14 : decode cX10_columns 14 = .ok (.iload_n 2, 1) := by decide +kernel
theorem dX10_columns_15 : decode cX10_columns 15 = .ok (.sipush 1225, 3) := by decide +kernel
theorem dX10_columns_18 : decode cX10_columns 18 = .ok (.if_icmp .ge 16, 3) := by decide +kernel
theorem dX10_columns_21 : decode cX10_columns 21 = .ok (.aload_n 0, 1) := by decide +kernel
theorem dX10_columns_22 : decode cX10_columns 22 = .ok (.getfield 7, 3) := by decide +kernel
theorem dX10_columns_25 : decode cX10_columns 25 = .ok (.iload_n 2, 1) := by decide +kernel
theorem dX10_columns_26 : decode cX10_columns 26 = .ok (.iconst 0, 1) := by decide +kernel
theorem dX10_columns_27 : decode cX10_columns 27 = .ok (.iastore, 1) := by decide +kernel
theorem dX10_columns_28 : decode cX10_columns 28 = .ok (.iinc 2 1, 3) := by decide +kernel
theorem dX10_columns_31 : decode cX10_columns 31 = .ok (.goto (-17), 3) := by decide +kernel
theorem dX10_columns_34 : decode cX10_columns 34 = .ok (.aload_n 0, 1) := by decide +kernel
theorem dX10_columns_35 : decode cX10_columns 35 = .ok (.getfield 7, 3) := by decide +kernel
theorem dX10_columns_38 : decode cX10_columns 38 = .ok (.iconst 0, 1) := by decide +kernel
theorem dX10_columns_39 : decode cX10_columns 39 = .ok (.iload_n 1, 1) := by decide +kernel
theorem dX10_columns_40 : decode cX10_columns 40 = .ok (.iastore, 1) := by decide +kernel
theorem dX10_columns_41 : decode cX10_columns 41 = .ok (.aload_n 0, 1) := by decide +kernel
theorem dX10_columns_42 : decode cX10_columns 42 = .ok (.invokevirtual 83, 3) := by decide +kernel
theorem dX10_columns_45 : decode cX10_columns 45 = .ok (.iconst 1, 1) := by decide +kernel
theorem dX10_columns_46 : decode cX10_columns 46 = .ok (.ireturn, 1) := by decide +kernel
theorem dX10_block_0 : decode cX10_block 0 = .ok (.iload_n 1, 1) := by decide +kernel
theorem dX10_block_1 : decode cX10_block 1 = .ok (.iconst 1, 1) := by decide +kernel
theorem dX10_block_2 : decode cX10_block 2 = .ok (.iconst 3, 1) := by decide +kernel
theorem dX10_block_3 : decode cX10_block 3 = .ok (.aload_n 0, 1) := by decide +kernel
theorem dX10_block_4 : decode cX10_block 4 = .ok (.getfield 7, 3) := by decide +kernel
theorem dX10_block_7 : decode cX10_block 7 = .ok (.iconst 0, 1) := by decide +kernel
theorem dX10_block_8 : decode cX10_block 8 = .ok (.iaload, 1) := by decide +kernel
theorem dX10_block_9 : decode cX10_block 9 = .ok (.invokestatic 86, 3) := by decide +kernel
theorem dX10_block_12 : decode cX10_block 12 = .ok (.invokestatic 76, 3) := by decide +kernel
theorem dX10_block_15 : decode cX10_block 15 = .ok (.ifCond .eq 57, 3) := by decide +kernel
theorem dX10_block_18 : decode cX10_block 18 = .ok (.iload_n 2, 1) := by decide +kernel
theorem dX10_block_19 : decode cX10_block 19 = .ok (.iconst 1, 1) := by decide +kernel
theorem dX10_block_20 : decode cX10_block 20 = .ok (.bipush 99, 2) := by decide +kernel
theorem dX10_block_22 : decode cX10_block 22 = .ok (.invokestatic 76, 3) := by decide +kernel
theorem dX10_block_25 : decode cX10_block 25 = .ok (.ifCond .eq 47, 3) := by decide +kernel
theorem dX10_block_28 : decode cX10_block 28 = .ok (.iload_n 3, 1) := by decide +kernel
theorem dX10_block_29 : decode cX10_block 29 = .ok (.iconst 0, 1) := by decide +kernel
theorem dX10_block_30 : decode cX10_block 30 = .ok (.sipush 999, 3) := by decide +kernel
theorem dX10_block_33 : decode cX10_block 33 = .ok (.invokestatic 76, 3) := by decide +kernel
theorem dX10_block_36 : decode cX10_block 36 = .ok (.ifCond .eq 36, 3) := by decide +kernel
theorem dX10_block_39 : decode cX10_block 39 = .ok (.iload 4, 2) := by decide +kernel
theorem dX10_block_41 : decode cX10_block 41 = .ok (.iconst 0, 1) := by decide +kernel
theorem dX10_block_42 : decode cX10_block 42 = .ok (.bipush 7, 2) := by decide +kernel
theorem dX10_block_44 : decode cX10_block 44 = .ok (.invokestatic 76, 3) := by decide +kernel
theorem dX10_block_47 : decode cX10_block 47 = .ok (.ifCond .eq 25, 3) := by decide +kernel
theorem dX10_block_50 : decode cX10_block 50 = .ok (.iload 5, 2) := by decide +kernel
theorem dX10_block_52 : decode cX10_block 52 = .ok (.iconst 0, 1) := by decide +kernel
theorem dX10_block_53 : decode cX10_block 53 = .ok (.bipush 59, 2) := by decide +kernel
theorem dX10_block_55 : decode cX10_block 55 = .ok (.invokestatic 76, 3) := by decide +kernel
theorem dX10_block_58 : decode cX10_block 58 = .ok (.ifCond .eq 14, 3) := by decide +kernel
theorem dX10_block_61 : decode cX10_block 61 = .ok (.aload_n 0, 1) := by decide +kernel
theorem dX10_block_62 : decode cX10_block 62 = .ok (.getfield 7, 3) := by decide +kernel
theorem dX10_block_65 : decode cX10_block 65 = .ok (.iconst 1, 1) := by decide +kernel
theorem dX10_block_66 : decode cX10_block 66 = .ok (.iaload, 1) := by decide +kernel
theorem dX10_block_67 : decode cX10_block 67 = .ok (.bipush 20, 2) := by decide +kernel
theorem dX10_block_69 : decode cX10_block 69 = .ok (.if_icmp .ne 5, 3) := by decide +kernel
theorem dX10_block_72 : decode cX10_block 72 = .ok (.iconst (-1), 1) := by decide +kernel
theorem dX10_block_73 : decode cX10_block 73 = .ok (.ireturn, 1) := by decide +kernel
theorem dX10_block_74 : decode cX10_block 74 = .ok (.aload_n 0, 1) := by decide +kernel
theorem dX10_block_75 : decode cX10_block 75 = .ok (.getfield 7, 3) := by decide +kernel
theorem dX10_block_78 : decode cX10_block 78 = .ok (.iconst 1, 1) := by decide +kernel
theorem dX10_block_79 : decode cX10_block 79 = .ok (.iaload, 1) := by decide +kernel
theorem dX10_block_80 : decode cX10_block 80 = .ok (.istore 6, 2) := by decide +kernel
theorem dX10_block_82 : decode cX10_block 82 = .ok (.aload_n 0, 1) := by decide +kernel
theorem dX10_block_83 : decode cX10_block 83 = .ok (.iload 6, 2) := by decide +kernel
theorem dX10_block_85 : decode cX10_block 85 = .ok (.iconst 0, 1) := by decide +kernel
theorem dX10_block_86 : decode cX10_block 86 = .ok (.iload_n 1, 1) := by decide +kernel
theorem dX10_block_87 : decode cX10_block 87 = .ok (.invokevirtual 90, 3) := by decide +kernel
theorem dX10_block_90 : decode cX10_block 90 = .ok (.aload_n 0, 1) := by decide +kernel
theorem dX10_block_91 : decode cX10_block 91 = .ok (.iload 6, 2) := by decide +kernel
theorem dX10_block_93 : decode cX10_block 93 = .ok (.iconst 1, 1) := by decide +kernel
theorem dX10_block_94 : decode cX10_block 94 = .ok (.iload_n 2, 1) := by decide +kernel
theorem dX10_block_95 : decode cX10_block 95 = .ok (.invokevirtual 90, 3) := by decide +kernel
theorem dX10_block_98 : decode cX10_block 98 = .ok (.aload_n 0, 1) := by decide +kernel
theorem dX10_block_99 : decode cX10_block 99 = .ok (.iload 6, 2) := by decide +kernel
theorem dX10_block_101 : decode cX10_block 101 = .ok (.iconst 2, 1) := by decide +kernel
theorem dX10_block_102 : decode cX10_block 102 = .ok (.iload_n 3, 1) := by decide +kernel
theorem dX10_block_103 : decode cX10_block 103 = .ok (.invokevirtual 90, 3) := by decide +kernel
theorem dX10_block_106 : decode cX10_block 106 = .ok (.aload_n 0, 1) := by decide +kernel
theorem dX10_block_107 : decode cX10_block 107 = .ok (.iload 6, 2) := by decide +kernel
theorem dX10_block_109 : decode cX10_block 109 = .ok (.iconst 3, 1) := by decide +kernel
theorem dX10_block_110 : decode cX10_block 110 = .ok (.iload 4, 2) := by decide +kernel
theorem dX10_block_112 : decode cX10_block 112 = .ok (.invokevirtual 90, 3) := by decide +kernel
theorem dX10_block_115 : decode cX10_block 115 = .ok (.aload_n 0, 1) := by decide +kernel
theorem dX10_block_116 : decode cX10_block 116 = .ok (.iload 6, 2) := by decide +kernel
theorem dX10_block_118 : decode cX10_block 118 = .ok (.iconst 4, 1) := by decide +kernel
theorem dX10_block_119 : decode cX10_block 119 = .ok (.iload 5, 2) := by decide +kernel
theorem dX10_block_121 : decode cX10_block 121 = .ok (.invokevirtual 90, 3) := by decide +kernel
theorem dX10_block_124 : decode cX10_block 124 = .ok (.aload_n 0, 1) := by decide +kernel
theorem dX10_block_125 : decode cX10_block 125 = .ok (.iload 6, 2) := by decide +kernel
theorem dX10_block_127 : decode cX10_block 127 = .ok (.iconst 5, 1) := by decide +kernel
theorem dX10_block_128 : decode cX10_block 128 = .ok (.iconst (-1), 1) := by decide +kernel
theorem dX10_block_129 : decode cX10_block 129 = .ok (.invokevirtual 90, 3) := by decide +kernel
theorem dX10_block_132 : decode cX10_block 132 = .ok (.aload_n 0, 1) := by decide +kernel
theorem dX10_block_133 : decode cX10_block 133 = .ok (.iload 6, 2) := by decide +kernel
theorem dX10_block_135 : decode cX10_block 135 = .ok (.bipush 6, 2) := by decide +kernel
theorem dX10_block_137 : decode cX10_block 137 = .ok (.iconst (-1), 1) := by decide +kernel
theorem dX10_block_138 : decode cX10_block 138 = .ok (.invokevirtual 90, 3) := by decide +kernel
theorem dX10_block_141 : decode cX10_block 141 = .ok (.aload_n 0, 1) := by decide +kernel
theorem dX10_block_142 : decode cX10_block 142 = .ok (.getfield 7, 3) := by decide +kernel
theorem dX10_block_145 : decode cX10_block 145 = .ok (.iconst 1, 1) := by decide +kernel
theorem dX10_block_146 : decode cX10_block 146 = .ok (.dup2, 1) := by decide +kernel
theorem dX10_block_147 : decode cX10_block 147 = .ok (.iaload, 1) := by decide +kernel
theorem dX10_block_148 : decode cX10_block 148 = .ok (.iconst 1, 1) := by decide +kernel
theorem dX10_block_149 : decode cX10_block 149 = .ok (.iadd, 1) := by decide +kernel
theorem dX10_block_150 : decode cX10_block 150 = .ok (.iastore, 1) := by decide +kernel
theorem dX10_block_151 : decode cX10_block 151 = .ok (.aload_n 0, 1) := by decide +kernel
theorem dX10_block_152 : decode cX10_block 152 = .ok (.invokevirtual 83, 3) := by decide +kernel
theorem dX10_block_155 : decode cX10_block 155 = .ok (.iload 6, 2) := by decide +kernel
theorem dX10_block_157 : decode cX10_block 157 = .ok (.ireturn, 1) := by decide +kernel
theorem dX10_laysTower_0 : decode cX10_laysTower 0 = .ok (.iconst 0, 1) := by decide +kernel
theorem dX10_laysTower_1 : decode cX10_laysTower 1 = .ok (.istore_n 1, 1) := by decide +kernel
theorem dX10_laysTower_2 : decode cX10_laysTower 2 = .ok (.iload_n 1, 1) := by decide +kernel
theorem dX10_laysTower_3 : decode cX10_laysTower 3 = .ok (.aload_n 0, 1) := by decide +kernel
theorem dX10_laysTower_4 : decode cX10_laysTower 4 = .ok (.getfield 7, 3) := by decide +kernel
theorem dX10_laysTower_7 : decode cX10_laysTower 7 = .ok (.iconst 1, 1) := by decide +kernel
theorem dX10_laysTower_8 : decode cX10_laysTower 8 = .ok (.iaload, 1) := by decide +kernel
theorem dX10_laysTower_9 : decode cX10_laysTower 9 = .ok (.if_icmp .ge 34, 3) := by decide +kernel
theorem dX10_laysTower_12 : decode cX10_laysTower 12 = .ok (.aload_n 0, 1) := by decide +kernel
theorem dX10_laysTower_13 : decode cX10_laysTower 13 = .ok (.getfield 23, 3) := by decide +kernel
theorem dX10_laysTower_16 : decode cX10_laysTower 16 = .ok (.iload_n 1, 1) := by decide +kernel
theorem dX10_laysTower_17 : decode cX10_laysTower 17 = .ok (.aload_n 0, 1) := by decide +kernel
theorem dX10_laysTower_18 : decode cX10_laysTower 18 = .ok (.iload_n 1, 1) := by decide +kernel
theorem dX10_laysTower_19 : decode cX10_laysTower 19 = .ok (.iconst 5, 1) := by decide +kernel
theorem dX10_laysTower_20 : decode cX10_laysTower 20 = .ok (.invokevirtual 94, 3) := by decide +kernel
theorem dX10_laysTower_23 : decode cX10_laysTower 23 = .ok (.iastore, 1) := by decide +kernel
theorem dX10_laysTower_24 : decode cX10_laysTower 24 = .ok (.aload_n 0, 1) := by decide +kernel
theorem dX10_laysTower_25 : decode cX10_laysTower 25 = .ok (.getfield 26, 3) := by decide +kernel
theorem dX10_laysTower_28 : decode cX10_laysTower 28 = .ok (.iload_n 1, 1) := by decide +kernel
theorem dX10_laysTower_29 : decode cX10_laysTower 29 = .ok (.aload_n 0, 1) := by decide +kernel
theorem dX10_laysTower_30 : decode cX10_laysTower 30 = .ok (.iload_n 1, 1) := by decide +kernel
theorem dX10_laysTower_31 : decode cX10_laysTower 31 = .ok (.bipush 6, 2) := by decide +kernel
theorem dX10_laysTower_33 : decode cX10_laysTower 33 = .ok (.invokevirtual 94, 3) := by decide +kernel
theorem dX10_laysTower_36 : decode cX10_laysTower 36 = .ok (.iastore, 1) := by decide +kernel
theorem dX10_laysTower_37 : decode cX10_laysTower 37 = .ok (.iinc 1 1, 3) := by decide +kernel
theorem dX10_laysTower_40 : decode cX10_laysTower 40 = .ok (.goto (-38), 3) := by decide +kernel
theorem dX10_laysTower_43 : decode cX10_laysTower 43 = .ok (.return_, 1) := by decide +kernel
theorem dX10_highOf_0 : decode cX10_highOf 0 = .ok (.iconst 0, 1) := by decide +kernel
theorem dX10_highOf_1 : decode cX10_highOf 1 = .ok (.istore_n 2, 1) := by decide +kernel
theorem dX10_highOf_2 : decode cX10_highOf 2 = .ok (.iconst 0, 1) := by decide +kernel
theorem dX10_highOf_3 : decode cX10_highOf 3 = .ok (.istore_n 3, 1) := by decide +kernel
theorem dX10_highOf_4 : decode cX10_highOf 4 = .ok (.iload_n 3, 1) := by decide +kernel
theorem dX10_highOf_5 : decode cX10_highOf 5 = .ok (.aload_n 0, 1) := by decide +kernel
theorem dX10_highOf_6 : decode cX10_highOf 6 = .ok (.getfield 7, 3) := by decide +kernel
theorem dX10_highOf_9 : decode cX10_highOf 9 = .ok (.iconst 1, 1) := by decide +kernel
theorem dX10_highOf_10 : decode cX10_highOf 10 = .ok (.iaload, 1) := by decide +kernel
theorem dX10_highOf_11 : decode cX10_highOf 11 = .ok (.if_icmp .ge 60, 3) := by decide +kernel
theorem dX10_highOf_14 : decode cX10_highOf 14 = .ok (.aload_n 0, 1) := by decide +kernel
theorem dX10_highOf_15 : decode cX10_highOf 15 = .ok (.getfield 23, 3) := by decide +kernel
theorem dX10_highOf_18 : decode cX10_highOf 18 = .ok (.iload_n 3, 1) := by decide +kernel
theorem dX10_highOf_19 : decode cX10_highOf 19 = .ok (.iaload, 1) := by decide +kernel
theorem dX10_highOf_20 : decode cX10_highOf 20 = .ok (.iconst (-1), 1) := by decide +kernel
theorem dX10_highOf_21 : decode cX10_highOf 21 = .ok (.if_icmp .eq 44, 3) := by decide +kernel
theorem dX10_highOf_24 : decode cX10_highOf 24 = .ok (.iload_n 1, 1) := by decide +kernel
theorem dX10_highOf_25 : decode cX10_highOf 25 = .ok (.aload_n 0, 1) := by decide +kernel
theorem dX10_highOf_26 : decode cX10_highOf 26 = .ok (.getfield 23, 3) := by decide +kernel
theorem dX10_highOf_29 : decode cX10_highOf 29 = .ok (.iload_n 3, 1) := by decide +kernel
theorem dX10_highOf_30 : decode cX10_highOf 30 = .ok (.iaload, 1) := by decide +kernel
theorem dX10_highOf_31 : decode cX10_highOf 31 = .ok (.aload_n 0, 1) := by decide +kernel
theorem dX10_highOf_32 : decode cX10_highOf 32 = .ok (.getfield 23, 3) := by decide +kernel
theorem dX10_highOf_35 : decode cX10_highOf 35 = .ok (.iload_n 3, 1) := by decide +kernel
theorem dX10_highOf_36 : decode cX10_highOf 36 = .ok (.iaload, 1) := by decide +kernel
theorem dX10_highOf_37 : decode cX10_highOf 37 = .ok (.aload_n 0, 1) := by decide +kernel
theorem dX10_highOf_38 : decode cX10_highOf 38 = .ok (.iload_n 3, 1) := by decide +kernel
theorem dX10_highOf_39 : decode cX10_highOf 39 = .ok (.iconst 0, 1) := by decide +kernel
theorem dX10_highOf_40 : decode cX10_highOf 40 = .ok (.invokevirtual 94, 3) := by decide +kernel
theorem dX10_highOf_43 : decode cX10_highOf 43 = .ok (.iadd, 1) := by decide +kernel
theorem dX10_highOf_44 : decode cX10_highOf 44 = .ok (.iconst 1, 1) := by decide +kernel
theorem dX10_highOf_45 : decode cX10_highOf 45 = .ok (.isub, 1) := by decide +kernel
theorem dX10_highOf_46 : decode cX10_highOf 46 = .ok (.invokestatic 76, 3) := by decide +kernel
theorem dX10_highOf_49 : decode cX10_highOf 49 = .ok (.ifCond .eq 16, 3) := by decide +kernel
theorem dX10_highOf_52 : decode cX10_highOf 52 = .ok (.iload_n 2, 1) := by decide +kernel
theorem dX10_highOf_53 : decode cX10_highOf 53 = .ok (.aload_n 0, 1) := by decide +kernel
theorem dX10_highOf_54 : decode cX10_highOf 54 = .ok (.getfield 26, 3) := by decide +kernel
theorem dX10_highOf_57 : decode cX10_highOf 57 = .ok (.iload_n 3, 1) := by decide +kernel
theorem dX10_highOf_58 : decode cX10_highOf 58 = .ok (.iaload, 1) := by decide +kernel
theorem dX10_highOf_59 : decode cX10_highOf 59 = .ok (.iconst 1, 1) := by decide +kernel
theorem dX10_highOf_60 : decode cX10_highOf 60 = .ok (.iadd, 1) := by decide +kernel
theorem dX10_highOf_61 : decode cX10_highOf 61 = .ok (.invokestatic 97, 3) := by decide +kernel
theorem dX10_highOf_64 : decode cX10_highOf 64 = .ok (.istore_n 2, 1) := by decide +kernel
theorem dX10_highOf_65 : decode cX10_highOf 65 = .ok (.iinc 3 1, 3) := by decide +kernel
theorem dX10_highOf_68 : decode cX10_highOf 68 = .ok (.goto (-64), 3) := by decide +kernel
theorem dX10_highOf_71 : decode cX10_highOf 71 = .ok (.iload_n 2, 1) := by decide +kernel
theorem dX10_highOf_72 : decode cX10_highOf 72 = .ok (.ireturn, 1) := by decide +kernel
theorem dX10_highest_0 : decode cX10_highest 0 = .ok (.iconst 0, 1) := by decide +kernel
theorem dX10_highest_1 : decode cX10_highest 1 = .ok (.istore_n 1, 1) := by decide +kernel
theorem dX10_highest_2 : decode cX10_highest 2 = .ok (.iconst 0, 1) := by decide +kernel
theorem dX10_highest_3 : decode cX10_highest 3 = .ok (.istore_n 2, 1) := by decide +kernel
theorem dX10_highest_4 : decode cX10_highest 4 = .ok (.iload_n 2, 1) := by decide +kernel
theorem dX10_highest_5 : decode cX10_highest 5 = .ok (.aload_n 0, 1) := by decide +kernel
theorem dX10_highest_6 : decode cX10_highest 6 = .ok (.getfield 7, 3) := by decide +kernel
theorem dX10_highest_9 : decode cX10_highest 9 = .ok (.iconst 1, 1) := by decide +kernel
theorem dX10_highest_10 : decode cX10_highest 10 = .ok (.iaload, 1) := by decide +kernel
theorem dX10_highest_11 : decode cX10_highest 11 = .ok (.if_icmp .ge 32, 3) := by decide +kernel
theorem dX10_highest_14 : decode cX10_highest 14 = .ok (.aload_n 0, 1) := by decide +kernel
theorem dX10_highest_15 : decode cX10_highest 15 = .ok (.getfield 23, 3) := by decide +kernel
theorem dX10_highest_18 : decode cX10_highest 18 = .ok (.iload_n 2, 1) := by decide +kernel
theorem dX10_highest_19 : decode cX10_highest 19 = .ok (.iaload, 1) := by decide +kernel
theorem dX10_highest_20 : decode cX10_highest 20 = .ok (.iconst (-1), 1) := by decide +kernel
theorem dX10_highest_21 : decode cX10_highest 21 = .ok (.if_icmp .eq 16, 3) := by decide +kernel
theorem dX10_highest_24 : decode cX10_highest 24 = .ok (.iload_n 1, 1) := by decide +kernel
theorem dX10_highest_25 : decode cX10_highest 25 = .ok (.aload_n 0, 1) := by decide +kernel
theorem dX10_highest_26 : decode cX10_highest 26 = .ok (.getfield 26, 3) := by decide +kernel
theorem dX10_highest_29 : decode cX10_highest 29 = .ok (.iload_n 2, 1) := by decide +kernel
theorem dX10_highest_30 : decode cX10_highest 30 = .ok (.iaload, 1) := by decide +kernel
theorem dX10_highest_31 : decode cX10_highest 31 = .ok (.iconst 1, 1) := by decide +kernel
theorem dX10_highest_32 : decode cX10_highest 32 = .ok (.iadd, 1) := by decide +kernel
theorem dX10_highest_33 : decode cX10_highest 33 = .ok (.invokestatic 97, 3) := by decide +kernel
theorem dX10_highest_36 : decode cX10_highest 36 = .ok (.istore_n 1, 1) := by decide +kernel
theorem dX10_highest_37 : decode cX10_highest 37 = .ok (.iinc 2 1, 3) := by decide +kernel
theorem dX10_highest_40 : decode cX10_highest 40 = .ok (.goto (-36), 3) := by decide +kernel
theorem dX10_highest_43 : decode cX10_highest 43 = .ok (.iload_n 1, 1) := by decide +kernel
theorem dX10_highest_44 : decode cX10_highest 44 = .ok (.ireturn, 1) := by decide +kernel
theorem dX10_levelAt_0 : decode cX10_levelAt 0 = .ok (.iconst 0, 1) := by decide +kernel
theorem dX10_levelAt_1 : decode cX10_levelAt 1 = .ok (.istore_n 3, 1) := by decide +kernel
theorem dX10_levelAt_2 : decode cX10_levelAt 2 = .ok (.iconst 0, 1) := by decide +kernel
theorem dX10_levelAt_3 : decode cX10_levelAt 3 = .ok (.istore 4, 2) := by decide +kernel
theorem dX10_levelAt_5 : decode cX10_levelAt 5 = .ok (.iload 4, 2) := by decide +kernel
theorem dX10_levelAt_7 : decode cX10_levelAt 7 = .ok (.aload_n 0, 1) := by decide +kernel
theorem dX10_levelAt_8 : decode cX10_levelAt 8 = .ok (.iload_n 1, 1) := by decide +kernel
theorem dX10_levelAt_9 : decode cX10_levelAt 9 = .ok (.iconst 0, 1) := by decide +kernel
theorem dX10_levelAt_10 : decode cX10_levelAt 10 = .ok (.invokevirtual 94, 3) := by decide +kernel
theorem dX10_levelAt_13 : decode cX10_levelAt 13 = .ok (.if_icmp .ge 22, 3) := by decide +kernel
theorem dX10_levelAt_16 : decode cX10_levelAt 16 = .ok (.iload_n 3, 1) := by decide +kernel
theorem dX10_levelAt_17 : decode cX10_levelAt 17 = .ok (.aload_n 0, 1) := by decide +kernel
theorem dX10_levelAt_18 : decode cX10_levelAt 18 = .ok (.iload_n 2, 1) := by decide +kernel
theorem dX10_levelAt_19 : decode cX10_levelAt 19 = .ok (.iload 4, 2) := by decide +kernel
theorem dX10_levelAt_21 : decode cX10_levelAt 21 = .ok (.iadd, 1) := by decide +kernel
theorem dX10_levelAt_22 : decode cX10_levelAt 22 = .ok (.invokevirtual 100, 3) := by decide +kernel
theorem dX10_levelAt_25 : decode cX10_levelAt 25 = .ok (.invokestatic 97, 3) := by decide +kernel
theorem dX10_levelAt_28 : decode cX10_levelAt 28 = .ok (.istore_n 3, 1) := by decide +kernel
theorem dX10_levelAt_29 : decode cX10_levelAt 29 = .ok (.iinc 4 1, 3) := by decide +kernel
theorem dX10_levelAt_32 : decode cX10_levelAt 32 = .ok (.goto (-27), 3) := by decide +kernel
theorem dX10_levelAt_35 : decode cX10_levelAt 35 = .ok (.iload_n 3, 1) := by decide +kernel
theorem dX10_levelAt_36 : decode cX10_levelAt 36 = .ok (.ireturn, 1) := by decide +kernel
theorem dX10_laysGrid_0 : decode cX10_laysGrid 0 = .ok (.iconst 0, 1) := by decide +kernel
theorem dX10_laysGrid_1 : decode cX10_laysGrid 1 = .ok (.istore_n 1, 1) := by decide +kernel
theorem dX10_laysGrid_2 : decode cX10_laysGrid 2 = .ok (.iload_n 1, 1) := by decide +kernel
theorem dX10_laysGrid_3 : decode cX10_laysGrid 3 = .ok (.bipush 8, 2) := by decide +kernel
theorem dX10_laysGrid_5 : decode cX10_laysGrid 5 = .ok (.if_icmp .ge 32, 3) := by decide +kernel
theorem dX10_laysGrid_8 : decode cX10_laysGrid 8 = .ok (.iconst 0, 1) := by decide +kernel
theorem dX10_laysGrid_9 : decode cX10_laysGrid 9 = .ok (.istore_n 2, 1) := by decide +kernel
theorem dX10_laysGrid_10 : decode cX10_laysGrid 10 = .ok (.iload_n 2, 1) := by decide +kernel
theorem dX10_laysGrid_11 : decode cX10_laysGrid 11 = .ok (.bipush 21, 2) := by decide +kernel
theorem dX10_laysGrid_13 : decode cX10_laysGrid 13 = .ok (.if_icmp .ge 18, 3) := by decide +kernel
theorem dX10_laysGrid_16 : decode cX10_laysGrid 16 = .ok (.aload_n 0, 1) := by decide +kernel
theorem dX10_laysGrid_17 : decode cX10_laysGrid 17 = .ok (.getfield 34, 3) := by decide +kernel
theorem dX10_laysGrid_20 : decode cX10_laysGrid 20 = .ok (.iload_n 1, 1) := by decide +kernel
theorem dX10_laysGrid_21 : decode cX10_laysGrid 21 = .ok (.aaload, 1) := by decide +kernel
theorem dX10_laysGrid_22 : decode cX10_laysGrid 22 = .ok (.iload_n 2, 1) := by decide +kernel
theorem dX10_laysGrid_23 : decode cX10_laysGrid 23 = .ok (.iconst (-1), 1) := by decide +kernel
theorem dX10_laysGrid_24 : decode cX10_laysGrid 24 = .ok (.iastore, 1) := by decide +kernel
theorem dX10_laysGrid_25 : decode cX10_laysGrid 25 = .ok (.iinc 2 1, 3) := by decide +kernel
theorem dX10_laysGrid_28 : decode cX10_laysGrid 28 = .ok (.goto (-18), 3) := by decide +kernel
theorem dX10_laysGrid_31 : decode cX10_laysGrid 31 = .ok (.iinc 1 1, 3) := by decide +kernel
theorem dX10_laysGrid_34 : decode cX10_laysGrid 34 = .ok (.goto (-32), 3) := by decide +kernel
theorem dX10_laysGrid_37 : decode cX10_laysGrid 37 = .ok (.iconst 0, 1) := by decide +kernel
theorem dX10_laysGrid_38 : decode cX10_laysGrid 38 = .ok (.istore_n 1, 1) := by decide +kernel
theorem dX10_laysGrid_39 : decode cX10_laysGrid 39 = .ok (.iload_n 1, 1) := by decide +kernel
theorem dX10_laysGrid_40 : decode cX10_laysGrid 40 = .ok (.aload_n 0, 1) := by decide +kernel
theorem dX10_laysGrid_41 : decode cX10_laysGrid 41 = .ok (.getfield 7, 3) := by decide +kernel
theorem dX10_laysGrid_44 : decode cX10_laysGrid 44 = .ok (.iconst 1, 1) := by decide +kernel
theorem dX10_laysGrid_45 : decode cX10_laysGrid 45 = .ok (.iaload, 1) := by decide +kernel
theorem dX10_laysGrid_46 : decode cX10_laysGrid 46 = .ok (.if_icmp .ge 58, 3) := by decide +kernel
theorem dX10_laysGrid_49 : decode cX10_laysGrid 49 = .ok (.aload_n 0, 1) := by decide +kernel
theorem dX10_laysGrid_50 : decode cX10_laysGrid 50 = .ok (.getfield 23, 3) := by decide +kernel
theorem dX10_laysGrid_53 : decode cX10_laysGrid 53 = .ok (.iload_n 1, 1) := by decide +kernel
theorem dX10_laysGrid_54 : decode cX10_laysGrid 54 = .ok (.iaload, 1) := by decide +kernel
theorem dX10_laysGrid_55 : decode cX10_laysGrid 55 = .ok (.iconst (-1), 1) := by decide +kernel
theorem dX10_laysGrid_56 : decode cX10_laysGrid 56 = .ok (.if_icmp .eq 42, 3) := by decide +kernel
theorem dX10_laysGrid_59 : decode cX10_laysGrid 59 = .ok (.iconst 0, 1) := by decide +kernel
theorem dX10_laysGrid_60 : decode cX10_laysGrid 60 = .ok (.istore_n 2, 1) := by decide +kernel
theorem dX10_laysGrid_61 : decode cX10_laysGrid 61 = .ok (.iload_n 2, 1) := by decide +kernel
theorem dX10_laysGrid_62 : decode cX10_laysGrid 62 = .ok (.aload_n 0, 1) := by decide +kernel
theorem dX10_laysGrid_63 : decode cX10_laysGrid 63 = .ok (.iload_n 1, 1) := by decide +kernel
theorem dX10_laysGrid_64 : decode cX10_laysGrid 64 = .ok (.iconst 0, 1) := by decide +kernel
theorem dX10_laysGrid_65 : decode cX10_laysGrid 65 = .ok (.invokevirtual 94, 3) := by decide +kernel
theorem dX10_laysGrid_68 : decode cX10_laysGrid 68 = .ok (.if_icmp .ge 30, 3) := by decide +kernel
theorem dX10_laysGrid_71 : decode cX10_laysGrid 71 = .ok (.aload_n 0, 1) := by decide +kernel
theorem dX10_laysGrid_72 : decode cX10_laysGrid 72 = .ok (.getfield 34, 3) := by decide +kernel
theorem dX10_laysGrid_75 : decode cX10_laysGrid 75 = .ok (.aload_n 0, 1) := by decide +kernel
theorem dX10_laysGrid_76 : decode cX10_laysGrid 76 = .ok (.getfield 23, 3) := by decide +kernel
theorem dX10_laysGrid_79 : decode cX10_laysGrid 79 = .ok (.iload_n 1, 1) := by decide +kernel
theorem dX10_laysGrid_80 : decode cX10_laysGrid 80 = .ok (.iaload, 1) := by decide +kernel
theorem dX10_laysGrid_81 : decode cX10_laysGrid 81 = .ok (.iload_n 2, 1) := by decide +kernel
theorem dX10_laysGrid_82 : decode cX10_laysGrid 82 = .ok (.iadd, 1) := by decide +kernel
theorem dX10_laysGrid_83 : decode cX10_laysGrid 83 = .ok (.aaload, 1) := by decide +kernel
theorem dX10_laysGrid_84 : decode cX10_laysGrid 84 = .ok (.aload_n 0, 1) := by decide +kernel
theorem dX10_laysGrid_85 : decode cX10_laysGrid 85 = .ok (.getfield 26, 3) := by decide +kernel
theorem dX10_laysGrid_88 : decode cX10_laysGrid 88 = .ok (.iload_n 1, 1) := by decide +kernel
theorem dX10_laysGrid_89 : decode cX10_laysGrid 89 = .ok (.iaload, 1) := by decide +kernel
theorem dX10_laysGrid_90 : decode cX10_laysGrid 90 = .ok (.iload_n 1, 1) := by decide +kernel
theorem dX10_laysGrid_91 : decode cX10_laysGrid 91 = .ok (.iastore, 1) := by decide +kernel
theorem dX10_laysGrid_92 : decode cX10_laysGrid 92 = .ok (.iinc 2 1, 3) := by decide +kernel
theorem dX10_laysGrid_95 : decode cX10_laysGrid 95 = .ok (.goto (-34), 3) := by decide +kernel
theorem dX10_laysGrid_98 : decode cX10_laysGrid 98 = .ok (.iinc 1 1, 3) := by decide +kernel
theorem dX10_laysGrid_101 : decode cX10_laysGrid 101 = .ok (.goto (-62), 3) := by decide +kernel
theorem dX10_laysGrid_104 : decode cX10_laysGrid 104 = .ok (.return_, 1) := by decide +kernel
theorem dX10_isBorne_0 : decode cX10_isBorne 0 = .ok (.aload_n 0, 1) := by decide +kernel
theorem dX10_isBorne_1 : decode cX10_isBorne 1 = .ok (.getfield 26, 3) := by decide +kernel
theorem dX10_isBorne_4 : decode cX10_isBorne 4 = .ok (.iload_n 1, 1) := by decide +kernel
theorem dX10_isBorne_5 : decode cX10_isBorne 5 = .ok (.iaload, 1) := by decide +kernel
theorem dX10_isBorne_6 : decode cX10_isBorne 6 = .ok (.ifCond .eq 29, 3) := by decide +kernel
theorem dX10_isBorne_9 : decode cX10_isBorne 9 = .ok (.aload_n 0, 1) := by decide +kernel
theorem dX10_isBorne_10 : decode cX10_isBorne 10 = .ok (.getfield 34, 3) := by decide +kernel
theorem dX10_isBorne_13 : decode cX10_isBorne 13 = .ok (.aload_n 0, 1) := by decide +kernel
theorem dX10_isBorne_14 : decode cX10_isBorne 14 = .ok (.getfield 23, 3) := by decide +kernel
theorem dX10_isBorne_17 : decode cX10_isBorne 17 = .ok (.iload_n 1, 1) := by decide +kernel
theorem dX10_isBorne_18 : decode cX10_isBorne 18 = .ok (.iaload, 1) := by decide +kernel
theorem dX10_isBorne_19 : decode cX10_isBorne 19 = .ok (.iload_n 2, 1) := by decide +kernel
theorem dX10_isBorne_20 : decode cX10_isBorne 20 = .ok (.iadd, 1) := by decide +kernel
theorem dX10_isBorne_21 : decode cX10_isBorne 21 = .ok (.aaload, 1) := by decide +kernel
theorem dX10_isBorne_22 : decode cX10_isBorne 22 = .ok (.aload_n 0, 1) := by decide +kernel
theorem dX10_isBorne_23 : decode cX10_isBorne 23 = .ok (.getfield 26, 3) := by decide +kernel
theorem dX10_isBorne_26 : decode cX10_isBorne 26 = .ok (.iload_n 1, 1) := by decide +kernel
theorem dX10_isBorne_27 : decode cX10_isBorne 27 = .ok (.iaload, 1) := by decide +kernel
theorem dX10_isBorne_28 : decode cX10_isBorne 28 = .ok (.iconst 1, 1) := by decide +kernel
theorem dX10_isBorne_29 : decode cX10_isBorne 29 = .ok (.isub, 1) := by decide +kernel
theorem dX10_isBorne_30 : decode cX10_isBorne 30 = .ok (.iaload, 1) := by decide +kernel
theorem dX10_isBorne_31 : decode cX10_isBorne 31 = .ok (.iconst (-1), 1) := by decide +kernel
theorem dX10_isBorne_32 : decode cX10_isBorne 32 = .ok (.if_icmp .eq 7, 3) := by decide +kernel
theorem dX10_isBorne_35 : decode cX10_isBorne 35 = .ok (.iconst 1, 1) := by decide +kernel
theorem dX10_isBorne_36 : decode cX10_isBorne 36 = .ok (.goto 4, 3) := by decide +kernel
theorem dX10_isBorne_39 : decode cX10_isBorne 39 = .ok (.iconst 0, 1) := by decide +kernel
theorem dX10_isBorne_40 : decode cX10_isBorne 40 = .ok (.ireturn, 1) := by decide +kernel
theorem dX10_standsThere_0 : decode cX10_standsThere 0 = .ok (.aload_n 0, 1) := by decide +kernel
theorem dX10_standsThere_1 : decode cX10_standsThere 1 = .ok (.iload_n 1, 1) := by decide +kernel
theorem dX10_standsThere_2 : decode cX10_standsThere 2 = .ok (.iconst 0, 1) := by decide +kernel
theorem dX10_standsThere_3 : decode cX10_standsThere 3 = .ok (.invokevirtual 94, 3) := by decide +kernel
theorem dX10_standsThere_6 : decode cX10_standsThere 6 = .ok (.istore_n 2, 1) := by decide +kernel
theorem dX10_standsThere_7 : decode cX10_standsThere 7 = .ok (.iload_n 2, 1) := by decide +kernel
theorem dX10_standsThere_8 : decode cX10_standsThere 8 = .ok (.iconst 3, 1) := by decide +kernel
theorem dX10_standsThere_9 : decode cX10_standsThere 9 = .ok (.if_icmp .ne 36, 3) := by decide +kernel
theorem dX10_standsThere_12 : decode cX10_standsThere 12 = .ok (.aload_n 0, 1) := by decide +kernel
theorem dX10_standsThere_13 : decode cX10_standsThere 13 = .ok (.iload_n 1, 1) := by decide +kernel
theorem dX10_standsThere_14 : decode cX10_standsThere 14 = .ok (.iconst 1, 1) := by decide +kernel
theorem dX10_standsThere_15 : decode cX10_standsThere 15 = .ok (.invokevirtual 104, 3) := by decide +kernel
theorem dX10_standsThere_18 : decode cX10_standsThere 18 = .ok (.ifCond .ne 21, 3) := by decide +kernel
theorem dX10_standsThere_21 : decode cX10_standsThere 21 = .ok (.aload_n 0, 1) := by decide +kernel
theorem dX10_standsThere_22 : decode cX10_standsThere 22 = .ok (.iload_n 1, 1) := by decide +kernel
theorem dX10_standsThere_23 : decode cX10_standsThere 23 = .ok (.iconst 0, 1) := by decide +kernel
theorem dX10_standsThere_24 : decode cX10_standsThere 24 = .ok (.invokevirtual 104, 3) := by decide +kernel
theorem dX10_standsThere_27 : decode cX10_standsThere 27 = .ok (.ifCond .eq 16, 3) := by decide +kernel
theorem dX10_standsThere_30 : decode cX10_standsThere 30 = .ok (.aload_n 0, 1) := by decide +kernel
theorem dX10_standsThere_31 : decode cX10_standsThere 31 = .ok (.iload_n 1, 1) := by decide +kernel
theorem dX10_standsThere_32 : decode cX10_standsThere 32 = .ok (.iconst 2, 1) := by decide +kernel
theorem dX10_standsThere_33 : decode cX10_standsThere 33 = .ok (.invokevirtual 104, 3) := by decide +kernel
theorem dX10_standsThere_36 : decode cX10_standsThere 36 = .ok (.ifCond .eq 7, 3) := by decide +kernel
theorem dX10_standsThere_39 : decode cX10_standsThere 39 = .ok (.iconst 1, 1) := by decide +kernel
theorem dX10_standsThere_40 : decode cX10_standsThere 40 = .ok (.goto 4, 3) := by decide +kernel
theorem dX10_standsThere_43 : decode cX10_standsThere 43 = .ok (.iconst 0, 1) := by decide +kernel
theorem dX10_standsThere_44 : decode cX10_standsThere 44 = .ok (.ireturn, 1) := by decide +kernel
theorem dX10_standsThere_45 : decode cX10_standsThere 45 = .ok (.aload_n 0, 1) := by decide +kernel
theorem dX10_standsThere_46 : decode cX10_standsThere 46 = .ok (.iload_n 1, 1) := by decide +kernel
theorem dX10_standsThere_47 : decode cX10_standsThere 47 = .ok (.iconst 0, 1) := by decide +kernel
theorem dX10_standsThere_48 : decode cX10_standsThere 48 = .ok (.invokevirtual 104, 3) := by decide +kernel
theorem dX10_standsThere_51 : decode cX10_standsThere 51 = .ok (.ifCond .eq 18, 3) := by decide +kernel
theorem dX10_standsThere_54 : decode cX10_standsThere 54 = .ok (.aload_n 0, 1) := by decide +kernel
theorem dX10_standsThere_55 : decode cX10_standsThere 55 = .ok (.iload_n 1, 1) := by decide +kernel
theorem dX10_standsThere_56 : decode cX10_standsThere 56 = .ok (.iload_n 2, 1) := by decide +kernel
theorem dX10_standsThere_57 : decode cX10_standsThere 57 = .ok (.iconst 1, 1) := by decide +kernel
theorem dX10_standsThere_58 : decode cX10_standsThere 58 = .ok (.isub, 1) := by decide +kernel
theorem dX10_standsThere_59 : decode cX10_standsThere 59 = .ok (.invokevirtual 104, 3) := by decide +kernel
theorem dX10_standsThere_62 : decode cX10_standsThere 62 = .ok (.ifCond .eq 7, 3) := by decide +kernel
theorem dX10_standsThere_65 : decode cX10_standsThere 65 = .ok (.iconst 1, 1) := by decide +kernel
theorem dX10_standsThere_66 : decode cX10_standsThere 66 = .ok (.goto 4, 3) := by decide +kernel
theorem dX10_standsThere_69 : decode cX10_standsThere 69 = .ok (.iconst 0, 1) := by decide +kernel
theorem dX10_standsThere_70 : decode cX10_standsThere 70 = .ok (.ireturn, 1) := by decide +kernel
theorem dX10_laysLoads_0 : decode cX10_laysLoads 0 = .ok (.aload_n 0, 1) := by decide +kernel
theorem dX10_laysLoads_1 : decode cX10_laysLoads 1 = .ok (.invokevirtual 108, 3) := by decide +kernel
theorem dX10_laysLoads_4 : decode cX10_laysLoads 4 = .ok (.iconst 0, 1) := by decide +kernel
theorem dX10_laysLoads_5 : decode cX10_laysLoads 5 = .ok (.istore_n 1, 1) := by decide +kernel
theorem dX10_laysLoads_6 : decode cX10_laysLoads 6 = .ok (.iload_n 1, 1) := by decide +kernel
theorem dX10_laysLoads_7 : decode cX10_laysLoads 7 = .ok (.aload_n 0, 1) := by decide +kernel
theorem dX10_laysLoads_8 : decode cX10_laysLoads 8 = .ok (.getfield 7, 3) := by decide +kernel
theorem dX10_laysLoads_11 : decode cX10_laysLoads 11 = .ok (.iconst 1, 1) := by decide +kernel
theorem dX10_laysLoads_12 : decode cX10_laysLoads 12 = .ok (.iaload, 1) := by decide +kernel
theorem dX10_laysLoads_13 : decode cX10_laysLoads 13 = .ok (.if_icmp .ge 16, 3) := by decide +kernel
theorem dX10_laysLoads_16 : decode cX10_laysLoads 16 = .ok (.aload_n 0, 1) := by decide +kernel
theorem dX10_laysLoads_17 : decode cX10_laysLoads 17 = .ok (.getfield 29, 3) := by decide +kernel
theorem dX10_laysLoads_20 : decode cX10_laysLoads 20 = .ok (.iload_n 1, 1) := by decide +kernel
theorem dX10_laysLoads_21 : decode cX10_laysLoads 21 = .ok (.iconst 0, 1) := by decide +kernel
theorem dX10_laysLoads_22 : decode cX10_laysLoads 22 = .ok (.iastore, 1) := by decide +kernel
theorem dX10_laysLoads_23 : decode cX10_laysLoads 23 = .ok (.iinc 1 1, 3) := by decide +kernel
theorem dX10_laysLoads_26 : decode cX10_laysLoads 26 = .ok (.goto (-20), 3) := by decide +kernel
theorem dX10_laysLoads_29 : decode cX10_laysLoads 29 = .ok (.bipush 20, 2) := by decide +kernel
theorem dX10_laysLoads_31 : decode cX10_laysLoads 31 = .ok (.istore_n 1, 1) := by decide +kernel
theorem dX10_laysLoads_32 : decode cX10_laysLoads 32 = .ok (.iload_n 1, 1) := by decide +kernel
theorem dX10_laysLoads_33 : decode cX10_laysLoads 33 = .ok (.ifCond .le 195, 3) := by decide +kernel
theorem dX10_laysLoads_36 : decode cX10_laysLoads 36 = .ok (.iconst 0, 1) := by decide +kernel
theorem dX10_laysLoads_37 : decode cX10_laysLoads 37 = .ok (.istore_n 2, 1) := by decide +kernel
theorem dX10_laysLoads_38 : decode cX10_laysLoads 38 = .ok (.iload_n 2, 1) := by decide +kernel
theorem dX10_laysLoads_39 : decode cX10_laysLoads 39 = .ok (.aload_n 0, 1) := by decide +kernel
theorem dX10_laysLoads_40 : decode cX10_laysLoads 40 = .ok (.getfield 7, 3) := by decide +kernel
theorem dX10_laysLoads_43 : decode cX10_laysLoads 43 = .ok (.iconst 1, 1) := by decide +kernel
theorem dX10_laysLoads_44 : decode cX10_laysLoads 44 = .ok (.iaload, 1) := by decide +kernel
theorem dX10_laysLoads_45 : decode cX10_laysLoads 45 = .ok (.if_icmp .ge 177, 3) := by decide +kernel
theorem dX10_laysLoads_48 : decode cX10_laysLoads 48 = .ok (.aload_n 0, 1) := by decide +kernel
theorem dX10_laysLoads_49 : decode cX10_laysLoads 49 = .ok (.getfield 23, 3) := by decide +kernel
theorem dX10_laysLoads_52 : decode cX10_laysLoads 52 = .ok (.iload_n 2, 1) := by decide +kernel
theorem dX10_laysLoads_53 : decode cX10_laysLoads 53 = .ok (.iaload, 1) := by decide +kernel
theorem dX10_laysLoads_54 : decode cX10_laysLoads 54 = .ok (.iconst (-1), 1) := by decide +kernel
theorem dX10_laysLoads_55 : decode cX10_laysLoads 55 = .ok (.if_icmp .eq 161, 3) := by decide +kernel
theorem dX10_laysLoads_58 : decode cX10_laysLoads 58 = .ok (.aload_n 0, 1) := by decide +kernel
theorem dX10_laysLoads_59 : decode cX10_laysLoads 59 = .ok (.getfield 26, 3) := by decide +kernel
theorem dX10_laysLoads_62 : decode cX10_laysLoads 62 = .ok (.iload_n 2, 1) := by decide +kernel
theorem dX10_laysLoads_63 : decode cX10_laysLoads 63 = .ok (.iaload, 1) := by decide +kernel
theorem dX10_laysLoads_64 : decode cX10_laysLoads 64 = .ok (.iload_n 1, 1) := by decide +kernel
theorem dX10_laysLoads_65 : decode cX10_laysLoads 65 = .ok (.if_icmp .eq 6, 3) := by decide +kernel
theorem dX10_laysLoads_68 : decode cX10_laysLoads 68 = .ok (.goto 148, 3) := by decide +kernel
theorem dX10_laysLoads_71 : decode cX10_laysLoads 71 = .ok (.iconst 0, 1) := by decide +kernel
theorem dX10_laysLoads_72 : decode cX10_laysLoads 72 = .ok (.istore_n 3, 1) := by decide +kernel
theorem dX10_laysLoads_73 : decode cX10_laysLoads 73 = .ok (.iconst 0, 1) := by decide +kernel
theorem dX10_laysLoads_74 : decode cX10_laysLoads 74 = .ok (.istore 4, 2) := by decide +kernel
theorem dX10_laysLoads_76 : decode cX10_laysLoads 76 = .ok (.iload 4, 2) := by decide +kernel
theorem dX10_laysLoads_78 : decode cX10_laysLoads 78 = .ok (.aload_n 0, 1) := by decide +kernel
theorem dX10_laysLoads_79 : decode cX10_laysLoads 79 = .ok (.iload_n 2, 1) := by decide +kernel
theorem dX10_laysLoads_80 : decode cX10_laysLoads 80 = .ok (.iconst 0, 1) := by decide +kernel
theorem dX10_laysLoads_81 : decode cX10_laysLoads 81 = .ok (.invokevirtual 94, 3) := by decide +kernel
theorem dX10_laysLoads_84 : decode cX10_laysLoads 84 = .ok (.if_icmp .ge 27, 3) := by decide +kernel
theorem dX10_laysLoads_87 : decode cX10_laysLoads 87 = .ok (.iload_n 3, 1) := by decide +kernel
theorem dX10_laysLoads_88 : decode cX10_laysLoads 88 = .ok (.aload_n 0, 1) := by decide +kernel
theorem dX10_laysLoads_89 : decode cX10_laysLoads 89 = .ok (.iload_n 2, 1) := by decide +kernel
theorem dX10_laysLoads_90 : decode cX10_laysLoads 90 = .ok (.iload 4, 2) := by decide +kernel
theorem dX10_laysLoads_92 : decode cX10_laysLoads 92 = .ok (.invokevirtual 104, 3) := by decide +kernel
theorem dX10_laysLoads_95 : decode cX10_laysLoads 95 = .ok (.ifCond .eq 7, 3) := by decide +kernel
theorem dX10_laysLoads_98 : decode cX10_laysLoads 98 = .ok (.iconst 1, 1) := by decide +kernel
theorem dX10_laysLoads_99 : decode cX10_laysLoads 99 = .ok (.goto 4, 3) := by decide +kernel
theorem dX10_laysLoads_102 : decode cX10_laysLoads 102 = .ok (.iconst 0, 1) := by decide +kernel
theorem dX10_laysLoads_103 : decode cX10_laysLoads 103 = .ok (.iadd, 1) := by decide +kernel
theorem dX10_laysLoads_104 : decode cX10_laysLoads 104 = .ok (.istore_n 3, 1) := by decide +kernel
theorem dX10_laysLoads_105 : decode cX10_laysLoads 105 = .ok (.iinc 4 1, 3) := by decide +kernel
theorem dX10_laysLoads_108 : decode cX10_laysLoads 108 = .ok (.goto (-32), 3) := by decide +kernel
theorem dX10_laysLoads_111 : decode cX10_laysLoads 111 = .ok (.iload_n 3, 1) := by decide +kernel
theorem dX10_laysLoads_112 : decode cX10_laysLoads 112 = .ok (.ifCond .ne 6, 3) := by decide +kernel
theorem dX10_laysLoads_115 : decode cX10_laysLoads 115 = .ok (.goto 101, 3) := by decide +kernel
theorem dX10_laysLoads_118 : decode cX10_laysLoads 118 = .ok (.aload_n 0, 1) := by decide +kernel
theorem dX10_laysLoads_119 : decode cX10_laysLoads 119 = .ok (.iload_n 2, 1) := by decide +kernel
theorem dX10_laysLoads_120 : decode cX10_laysLoads 120 = .ok (.iconst 1, 1) := by decide +kernel
theorem dX10_laysLoads_121 : decode cX10_laysLoads 121 = .ok (.invokevirtual 94, 3) := by decide +kernel
theorem dX10_laysLoads_124 : decode cX10_laysLoads 124 = .ok (.aload_n 0, 1) := by decide +kernel
theorem dX10_laysLoads_125 : decode cX10_laysLoads 125 = .ok (.getfield 29, 3) := by decide +kernel
theorem dX10_laysLoads_128 : decode cX10_laysLoads 128 = .ok (.iload_n 2, 1) := by decide +kernel
theorem dX10_laysLoads_129 : decode cX10_laysLoads 129 = .ok (.iaload, 1) := by decide +kernel
theorem dX10_laysLoads_130 : decode cX10_laysLoads 130 = .ok (.iadd, 1) := by decide +kernel
theorem dX10_laysLoads_131 : decode cX10_laysLoads 131 = .ok (.istore 4, 2) := by decide +kernel
theorem dX10_laysLoads_133 : decode cX10_laysLoads 133 = .ok (.iload 4, 2) := by decide +kernel
theorem dX10_laysLoads_135 : decode cX10_laysLoads 135 = .ok (.iload_n 3, 1) := by decide +kernel
theorem dX10_laysLoads_136 : decode cX10_laysLoads 136 = .ok (.irem, 1) := by decide +kernel
theorem dX10_laysLoads_137 : decode cX10_laysLoads 137 = .ok (.istore 5, 2) := by decide +kernel
theorem dX10_laysLoads_139 : decode cX10_laysLoads 139 = .ok (.iconst 0, 1) := by decide +kernel
theorem dX10_laysLoads_140 : decode cX10_laysLoads 140 = .ok (.istore 6, 2) := by decide +kernel
theorem dX10_laysLoads_142 : decode cX10_laysLoads 142 = .ok (.iload 6, 2) := by decide +kernel
theorem dX10_laysLoads_144 : decode cX10_laysLoads 144 = .ok (.aload_n 0, 1) := by decide +kernel
theorem dX10_laysLoads_145 : decode cX10_laysLoads 145 = .ok (.iload_n 2, 1) := by decide +kernel
theorem dX10_laysLoads_146 : decode cX10_laysLoads 146 = .ok (.iconst 0, 1) := by decide +kernel
theorem dX10_laysLoads_147 : decode cX10_laysLoads 147 = .ok (.invokevirtual 94, 3) := by decide +kernel
theorem dX10_laysLoads_150 : decode cX10_laysLoads 150 = .ok (.if_icmp .ge 66, 3) := by decide +kernel
theorem dX10_laysLoads_153 : decode cX10_laysLoads 153 = .ok (.aload_n 0, 1) := by decide +kernel
theorem dX10_laysLoads_154 : decode cX10_laysLoads 154 = .ok (.iload_n 2, 1) := by decide +kernel
theorem dX10_laysLoads_155 : decode cX10_laysLoads 155 = .ok (.iload 6, 2) := by decide +kernel
theorem dX10_laysLoads_157 : decode cX10_laysLoads 157 = .ok (.invokevirtual 104, 3) := by decide +kernel
theorem dX10_laysLoads_160 : decode cX10_laysLoads 160 = .ok (.ifCond .ne 6, 3) := by decide +kernel
theorem dX10_laysLoads_163 : decode cX10_laysLoads 163 = .ok (.goto 47, 3) := by decide +kernel
theorem dX10_laysLoads_166 : decode cX10_laysLoads 166 = .ok (.aload_n 0, 1) := by decide +kernel
theorem dX10_laysLoads_167 : decode cX10_laysLoads 167 = .ok (.getfield 29, 3) := by decide +kernel
theorem dX10_laysLoads_170 : decode cX10_laysLoads 170 = .ok (.aload_n 0, 1) := by decide +kernel
theorem dX10_laysLoads_171 : decode cX10_laysLoads 171 = .ok (.getfield 34, 3) := by decide +kernel
theorem dX10_laysLoads_174 : decode cX10_laysLoads 174 = .ok (.aload_n 0, 1) := by decide +kernel
theorem dX10_laysLoads_175 : decode cX10_laysLoads 175 = .ok (.getfield 23, 3) := by decide +kernel
theorem dX10_laysLoads_178 : decode cX10_laysLoads 178 = .ok (.iload_n 2, 1) := by decide +kernel
theorem dX10_laysLoads_179 : decode cX10_laysLoads 179 = .ok (.iaload, 1) := by decide +kernel
theorem dX10_laysLoads_180 : decode cX10_laysLoads 180 = .ok (.iload 6, 2) := by decide +kernel
theorem dX10_laysLoads_182 : decode cX10_laysLoads 182 = .ok (.iadd, 1) := by decide +kernel
theorem dX10_laysLoads_183 : decode cX10_laysLoads 183 = .ok (.aaload, 1) := by decide +kernel
theorem dX10_laysLoads_184 : decode cX10_laysLoads 184 = .ok (.iload_n 1, 1) := by decide +kernel
theorem dX10_laysLoads_185 : decode cX10_laysLoads 185 = .ok (.iconst 1, 1) := by decide +kernel
theorem dX10_laysLoads_186 : decode cX10_laysLoads 186 = .ok (.isub, 1) := by decide +kernel
theorem dX10_laysLoads_187 : decode cX10_laysLoads 187 = .ok (.iaload, 1) := by decide +kernel
theorem dX10_laysLoads_188 : decode cX10_laysLoads 188 = .ok (.dup2, 1) := by decide +kernel
theorem dX10_laysLoads_189 : decode cX10_laysLoads 189 = .ok (.iaload, 1) := by decide +kernel
theorem dX10_laysLoads_190 : decode cX10_laysLoads 190 = .ok (.iload 4, 2) := by decide +kernel
theorem dX10_laysLoads_192 : decode cX10_laysLoads 192 = .ok (.iload_n 3, 1) := by decide +kernel
theorem dX10_laysLoads_193 : decode cX10_laysLoads 193 = .ok (.idiv, 1) := by decide +kernel
theorem dX10_laysLoads_194 : decode cX10_laysLoads 194 = .ok (.iload 5, 2) := by decide +kernel
theorem dX10_laysLoads_196 : decode cX10_laysLoads 196 = .ok (.ifCond .le 7, 3) := by decide +kernel
theorem dX10_laysLoads_199 : decode cX10_laysLoads 199 = .ok (.iconst 1, 1) := by decide +kernel
theorem dX10_laysLoads_200 : decode cX10_laysLoads 200 = .ok (.goto 4, 3) := by decide +kernel
theorem dX10_laysLoads_203 : decode cX10_laysLoads 203 = .ok (.iconst 0, 1) := by decide +kernel
theorem dX10_laysLoads_204 : decode cX10_laysLoads 204 = .ok (.iadd, 1) := by decide +kernel
theorem dX10_laysLoads_205 : decode cX10_laysLoads 205 = .ok (.iadd, 1) := by decide +kernel
theorem dX10_laysLoads_206 : decode cX10_laysLoads 206 = .ok (.iastore, 1) := by decide +kernel
theorem dX10_laysLoads_207 : decode cX10_laysLoads 207 = .ok (.iinc 5 (-1), 3) := by decide +kernel
theorem dX10_laysLoads_210 : decode cX10_laysLoads 210 = .ok (.iinc 6 1, 3) := by decide +kernel
theorem dX10_laysLoads_213 : decode cX10_laysLoads 213 = .ok (.goto (-71), 3) := by decide +kernel
theorem dX10_laysLoads_216 : decode cX10_laysLoads 216 = .ok (.iinc 2 1, 3) := by decide +kernel
theorem dX10_laysLoads_219 : decode cX10_laysLoads 219 = .ok (.goto (-181), 3) := by decide +kernel
theorem dX10_laysLoads_222 : decode cX10_laysLoads 222 = .ok (.iinc 1 (-1), 3) := by decide +kernel
theorem dX10_laysLoads_225 : decode cX10_laysLoads 225 = .ok (.goto (-193), 3) := by decide +kernel
theorem dX10_laysLoads_228 : decode cX10_laysLoads 228 = .ok (.return_, 1) := by decide +kernel
theorem dX10_bears_0 : decode cX10_bears 0 = .ok (.aload_n 0, 1) := by decide +kernel
theorem dX10_bears_1 : decode cX10_bears 1 = .ok (.iload_n 1, 1) := by decide +kernel
theorem dX10_bears_2 : decode cX10_bears 2 = .ok (.iconst 2, 1) := by decide +kernel
theorem dX10_bears_3 : decode cX10_bears 3 = .ok (.invokevirtual 94, 3) := by decide +kernel
theorem dX10_bears_6 : decode cX10_bears 6 = .ok (.istore_n 2, 1) := by decide +kernel
theorem dX10_bears_7 : decode cX10_bears 7 = .ok (.aload_n 0, 1) := by decide +kernel
theorem dX10_bears_8 : decode cX10_bears 8 = .ok (.iload_n 1, 1) := by decide +kernel
theorem dX10_bears_9 : decode cX10_bears 9 = .ok (.iconst 3, 1) := by decide +kernel
theorem dX10_bears_10 : decode cX10_bears 10 = .ok (.invokevirtual 94, 3) := by decide +kernel
theorem dX10_bears_13 : decode cX10_bears 13 = .ok (.istore_n 3, 1) := by decide +kernel
theorem dX10_bears_14 : decode cX10_bears 14 = .ok (.iload_n 3, 1) := by decide +kernel
theorem dX10_bears_15 : decode cX10_bears 15 = .ok (.iconst 4, 1) := by decide +kernel
theorem dX10_bears_16 : decode cX10_bears 16 = .ok (.iand, 1) := by decide +kernel
theorem dX10_bears_17 : decode cX10_bears 17 = .ok (.ifCond .eq 5, 3) := by decide +kernel
theorem dX10_bears_20 : decode cX10_bears 20 = .ok (.iconst 0, 1) := by decide +kernel
theorem dX10_bears_21 : decode cX10_bears 21 = .ok (.ireturn, 1) := by decide +kernel
theorem dX10_bears_22 : decode cX10_bears 22 = .ok (.iload_n 3, 1) := by decide +kernel
theorem dX10_bears_23 : decode cX10_bears 23 = .ok (.iconst 1, 1) := by decide +kernel
theorem dX10_bears_24 : decode cX10_bears 24 = .ok (.iand, 1) := by decide +kernel
theorem dX10_bears_25 : decode cX10_bears 25 = .ok (.ifCond .eq 7, 3) := by decide +kernel
theorem dX10_bears_28 : decode cX10_bears 28 = .ok (.iload_n 2, 1) := by decide +kernel
theorem dX10_bears_29 : decode cX10_bears 29 = .ok (.iconst 2, 1) := by decide +kernel
theorem dX10_bears_30 : decode cX10_bears 30 = .ok (.idiv, 1) := by decide +kernel
theorem dX10_bears_31 : decode cX10_bears 31 = .ok (.istore_n 2, 1) := by decide +kernel
theorem dX10_bears_32 : decode cX10_bears 32 = .ok (.iload_n 3, 1) := by decide +kernel
theorem dX10_bears_33 : decode cX10_bears 33 = .ok (.iconst 2, 1) := by decide +kernel
theorem dX10_bears_34 : decode cX10_bears 34 = .ok (.iand, 1) := by decide +kernel
theorem dX10_bears_35 : decode cX10_bears 35 = .ok (.ifCond .eq 9, 3) := by decide +kernel
theorem dX10_bears_38 : decode cX10_bears 38 = .ok (.iload_n 2, 1) := by decide +kernel
theorem dX10_bears_39 : decode cX10_bears 39 = .ok (.iconst 3, 1) := by decide +kernel
theorem dX10_bears_40 : decode cX10_bears 40 = .ok (.idiv, 1) := by decide +kernel
theorem dX10_bears_41 : decode cX10_bears 41 = .ok (.goto 4, 3) := by decide +kernel
theorem dX10_bears_44 : decode cX10_bears 44 = .ok (.iload_n 2, 1) := by decide +kernel
theorem dX10_bears_45 : decode cX10_bears 45 = .ok (.ireturn, 1) := by decide +kernel
theorem dX10_tooMuch_0 : decode cX10_tooMuch 0 = .ok (.aload_n 0, 1) := by decide +kernel
theorem dX10_tooMuch_1 : decode cX10_tooMuch 1 = .ok (.invokevirtual 111, 3) := by decide +kernel
theorem dX10_tooMuch_4 : decode cX10_tooMuch 4 = .ok (.iconst (-1), 1) := by decide +kernel
theorem dX10_tooMuch_5 : decode cX10_tooMuch 5 = .ok (.istore_n 1, 1) := by decide +kernel
theorem dX10_tooMuch_6 : decode cX10_tooMuch 6 = .ok (.iconst 0, 1) := by decide +kernel
theorem dX10_tooMuch_7 : decode cX10_tooMuch 7 = .ok (.istore_n 2, 1) := by decide +kernel
theorem dX10_tooMuch_8 : decode cX10_tooMuch 8 = .ok (.iload_n 2, 1) := by decide +kernel
theorem dX10_tooMuch_9 : decode cX10_tooMuch 9 = .ok (.aload_n 0, 1) := by decide +kernel
theorem dX10_tooMuch_10 : decode cX10_tooMuch 10 = .ok (.getfield 7, 3) := by decide +kernel
theorem dX10_tooMuch_13 : decode cX10_tooMuch 13 = .ok (.iconst 1, 1) := by decide +kernel
theorem dX10_tooMuch_14 : decode cX10_tooMuch 14 = .ok (.iaload, 1) := by decide +kernel
theorem dX10_tooMuch_15 : decode cX10_tooMuch 15 = .ok (.if_icmp .ge 55, 3) := by decide +kernel
theorem dX10_tooMuch_18 : decode cX10_tooMuch 18 = .ok (.aload_n 0, 1) := by decide +kernel
theorem dX10_tooMuch_19 : decode cX10_tooMuch 19 = .ok (.getfield 23, 3) := by decide +kernel
theorem dX10_tooMuch_22 : decode cX10_tooMuch 22 = .ok (.iload_n 2, 1) := by decide +kernel
theorem dX10_tooMuch_23 : decode cX10_tooMuch 23 = .ok (.iaload, 1) := by decide +kernel
theorem dX10_tooMuch_24 : decode cX10_tooMuch 24 = .ok (.iconst (-1), 1) := by decide +kernel
theorem dX10_tooMuch_25 : decode cX10_tooMuch 25 = .ok (.if_icmp .eq 39, 3) := by decide +kernel
theorem dX10_tooMuch_28 : decode cX10_tooMuch 28 = .ok (.aload_n 0, 1) := by decide +kernel
theorem dX10_tooMuch_29 : decode cX10_tooMuch 29 = .ok (.getfield 29, 3) := by decide +kernel
theorem dX10_tooMuch_32 : decode cX10_tooMuch 32 = .ok (.iload_n 2, 1) := by decide +kernel
theorem dX10_tooMuch_33 : decode cX10_tooMuch 33 = .ok (.iaload, 1) := by decide +kernel
theorem dX10_tooMuch_34 : decode cX10_tooMuch 34 = .ok (.aload_n 0, 1) := by decide +kernel
theorem dX10_tooMuch_35 : decode cX10_tooMuch 35 = .ok (.iload_n 2, 1) := by decide +kernel
theorem dX10_tooMuch_36 : decode cX10_tooMuch 36 = .ok (.invokevirtual 114, 3) := by decide +kernel
theorem dX10_tooMuch_39 : decode cX10_tooMuch 39 = .ok (.if_icmp .le 25, 3) := by decide +kernel
theorem dX10_tooMuch_42 : decode cX10_tooMuch 42 = .ok (.iload_n 1, 1) := by decide +kernel
theorem dX10_tooMuch_43 : decode cX10_tooMuch 43 = .ok (.iconst (-1), 1) := by decide +kernel
theorem dX10_tooMuch_44 : decode cX10_tooMuch 44 = .ok (.if_icmp .eq 18, 3) := by decide +kernel
theorem dX10_tooMuch_47 : decode cX10_tooMuch 47 = .ok (.aload_n 0, 1) := by decide +kernel
theorem dX10_tooMuch_48 : decode cX10_tooMuch 48 = .ok (.getfield 26, 3) := by decide +kernel
theorem dX10_tooMuch_51 : decode cX10_tooMuch 51 = .ok (.iload_n 2, 1) := by decide +kernel
theorem dX10_tooMuch_52 : decode cX10_tooMuch 52 = .ok (.iaload, 1) := by decide +kernel
theorem dX10_tooMuch_53 : decode cX10_tooMuch 53 = .ok (.aload_n 0, 1) := by decide +kernel
theorem dX10_tooMuch_54 : decode cX10_tooMuch 54 = .ok (.getfield 26, 3) := by decide +kernel
theorem dX10_tooMuch_57 : decode cX10_tooMuch 57 = .ok (.iload_n 1, 1) := by decide +kernel
theorem dX10_tooMuch_58 : decode cX10_tooMuch 58 = .ok (.iaload, 1) := by decide +kernel
theorem dX10_tooMuch_59 : decode cX10_tooMuch 59 = .ok (.if_icmp .le 5, 3) := by decide +kernel
theorem dX10_tooMuch_62 : decode cX10_tooMuch 62 = .ok (.iload_n 2, 1) := by decide +kernel
theorem dX10_tooMuch_63 : decode cX10_tooMuch 63 = .ok (.istore_n 1, 1) := by decide +kernel
theorem dX10_tooMuch_64 : decode cX10_tooMuch 64 = .ok (.iinc 2 1, 3) := by decide +kernel
theorem dX10_tooMuch_67 : decode cX10_tooMuch 67 = .ok (.goto (-59), 3) := by decide +kernel
theorem dX10_tooMuch_70 : decode cX10_tooMuch 70 = .ok (.iload_n 1, 1) := by decide +kernel
theorem dX10_tooMuch_71 : decode cX10_tooMuch 71 = .ok (.ireturn, 1) := by decide +kernel
theorem dX10_isOnTop_0 : decode cX10_isOnTop 0 = .ok (.iconst 0, 1) := by decide +kernel
theorem dX10_isOnTop_1 : decode cX10_isOnTop 1 = .ok (.istore_n 2, 1) := by decide +kernel
theorem dX10_isOnTop_2 : decode cX10_isOnTop 2 = .ok (.iload_n 2, 1) := by decide +kernel
theorem dX10_isOnTop_3 : decode cX10_isOnTop 3 = .ok (.aload_n 0, 1) := by decide +kernel
theorem dX10_isOnTop_4 : decode cX10_isOnTop 4 = .ok (.getfield 7, 3) := by decide +kernel
theorem dX10_isOnTop_7 : decode cX10_isOnTop 7 = .ok (.iconst 1, 1) := by decide +kernel
theorem dX10_isOnTop_8 : decode cX10_isOnTop 8 = .ok (.iaload, 1) := by decide +kernel
theorem dX10_isOnTop_9 : decode cX10_isOnTop 9 = .ok (.if_icmp .ge 87, 3) := by decide +kernel
theorem dX10_isOnTop_12 : decode cX10_isOnTop 12 = .ok (.aload_n 0, 1) := by decide +kernel
theorem dX10_isOnTop_13 : decode cX10_isOnTop 13 = .ok (.getfield 23, 3) := by decide +kernel
theorem dX10_isOnTop_16 : decode cX10_isOnTop 16 = .ok (.iload_n 2, 1) := by decide +kernel
theorem dX10_isOnTop_17 : decode cX10_isOnTop 17 = .ok (.iaload, 1) := by decide +kernel
theorem dX10_isOnTop_18 : decode cX10_isOnTop 18 = .ok (.iconst (-1), 1) := by decide +kernel
theorem dX10_isOnTop_19 : decode cX10_isOnTop 19 = .ok (.if_icmp .eq 71, 3) := by decide +kernel
theorem dX10_isOnTop_22 : decode cX10_isOnTop 22 = .ok (.aload_n 0, 1) := by decide +kernel
theorem dX10_isOnTop_23 : decode cX10_isOnTop 23 = .ok (.getfield 26, 3) := by decide +kernel
theorem dX10_isOnTop_26 : decode cX10_isOnTop 26 = .ok (.iload_n 2, 1) := by decide +kernel
theorem dX10_isOnTop_27 : decode cX10_isOnTop 27 = .ok (.iaload, 1) := by decide +kernel
theorem dX10_isOnTop_28 : decode cX10_isOnTop 28 = .ok (.aload_n 0, 1) := by decide +kernel
theorem dX10_isOnTop_29 : decode cX10_isOnTop 29 = .ok (.getfield 26, 3) := by decide +kernel
theorem dX10_isOnTop_32 : decode cX10_isOnTop 32 = .ok (.iload_n 1, 1) := by decide +kernel
theorem dX10_isOnTop_33 : decode cX10_isOnTop 33 = .ok (.iaload, 1) := by decide +kernel
theorem dX10_isOnTop_34 : decode cX10_isOnTop 34 = .ok (.if_icmp .gt 6, 3) := by decide +kernel
theorem dX10_isOnTop_37 : decode cX10_isOnTop 37 = .ok (.goto 53, 3) := by decide +kernel
theorem dX10_isOnTop_40 : decode cX10_isOnTop 40 = .ok (.aload_n 0, 1) := by decide +kernel
theorem dX10_isOnTop_41 : decode cX10_isOnTop 41 = .ok (.getfield 23, 3) := by decide +kernel
theorem dX10_isOnTop_44 : decode cX10_isOnTop 44 = .ok (.iload_n 2, 1) := by decide +kernel
theorem dX10_isOnTop_45 : decode cX10_isOnTop 45 = .ok (.iaload, 1) := by decide +kernel
theorem dX10_isOnTop_46 : decode cX10_isOnTop 46 = .ok (.aload_n 0, 1) := by decide +kernel
theorem dX10_isOnTop_47 : decode cX10_isOnTop 47 = .ok (.getfield 23, 3) := by decide +kernel
theorem dX10_isOnTop_50 : decode cX10_isOnTop 50 = .ok (.iload_n 1, 1) := by decide +kernel
theorem dX10_isOnTop_51 : decode cX10_isOnTop 51 = .ok (.iaload, 1) := by decide +kernel
theorem dX10_isOnTop_52 : decode cX10_isOnTop 52 = .ok (.aload_n 0, 1) := by decide +kernel
theorem dX10_isOnTop_53 : decode cX10_isOnTop 53 = .ok (.iload_n 1, 1) := by decide +kernel
theorem dX10_isOnTop_54 : decode cX10_isOnTop 54 = .ok (.iconst 0, 1) := by decide +kernel
theorem dX10_isOnTop_55 : decode cX10_isOnTop 55 = .ok (.invokevirtual 94, 3) := by decide +kernel
theorem dX10_isOnTop_58 : decode cX10_isOnTop 58 = .ok (.iadd, 1) := by decide +kernel
theorem dX10_isOnTop_59 : decode cX10_isOnTop 59 = .ok (.iconst 1, 1) := by decide +kernel
theorem dX10_isOnTop_60 : decode cX10_isOnTop 60 = .ok (.isub, 1) := by decide +kernel
theorem dX10_isOnTop_61 : decode cX10_isOnTop 61 = .ok (.if_icmp .gt 29, 3) := by decide +kernel
theorem dX10_isOnTop_64 : decode cX10_isOnTop 64 = .ok (.aload_n 0, 1) := by decide +kernel
theorem dX10_isOnTop_65 : decode cX10_isOnTop 65 = .ok (.getfield 23, 3) := by decide +kernel
theorem dX10_isOnTop_68 : decode cX10_isOnTop 68 = .ok (.iload_n 1, 1) := by decide +kernel
theorem dX10_isOnTop_69 : decode cX10_isOnTop 69 = .ok (.iaload, 1) := by decide +kernel
theorem dX10_isOnTop_70 : decode cX10_isOnTop 70 = .ok (.aload_n 0, 1) := by decide +kernel
theorem dX10_isOnTop_71 : decode cX10_isOnTop 71 = .ok (.getfield 23, 3) := by decide +kernel
theorem dX10_isOnTop_74 : decode cX10_isOnTop 74 = .ok (.iload_n 2, 1) := by decide +kernel
theorem dX10_isOnTop_75 : decode cX10_isOnTop 75 = .ok (.iaload, 1) := by decide +kernel
theorem dX10_isOnTop_76 : decode cX10_isOnTop 76 = .ok (.aload_n 0, 1) := by decide +kernel
theorem dX10_isOnTop_77 : decode cX10_isOnTop 77 = .ok (.iload_n 2, 1) := by decide +kernel
theorem dX10_isOnTop_78 : decode cX10_isOnTop 78 = .ok (.iconst 0, 1) := by decide +kernel
theorem dX10_isOnTop_79 : decode cX10_isOnTop 79 = .ok (.invokevirtual 94, 3) := by decide +kernel
theorem dX10_isOnTop_82 : decode cX10_isOnTop 82 = .ok (.iadd, 1) := by decide +kernel
theorem dX10_isOnTop_83 : decode cX10_isOnTop 83 = .ok (.iconst 1, 1) := by decide +kernel
theorem dX10_isOnTop_84 : decode cX10_isOnTop 84 = .ok (.isub, 1) := by decide +kernel
theorem dX10_isOnTop_85 : decode cX10_isOnTop 85 = .ok (.if_icmp .gt 5, 3) := by decide +kernel
theorem dX10_isOnTop_88 : decode cX10_isOnTop 88 = .ok (.iconst 0, 1) := by decide +kernel
theorem dX10_isOnTop_89 : decode cX10_isOnTop 89 = .ok (.ireturn, 1) := by decide +kernel
theorem dX10_isOnTop_90 : decode cX10_isOnTop 90 = .ok (.iinc 2 1, 3) := by decide +kernel
theorem dX10_isOnTop_93 : decode cX10_isOnTop 93 = .ok (.goto (-91), 3) := by decide +kernel
theorem dX10_isOnTop_96 : decode cX10_isOnTop 96 = .ok (.iconst 1, 1) := by decide +kernel
theorem dX10_isOnTop_97 : decode cX10_isOnTop 97 = .ok (.ireturn, 1) := by decide +kernel
theorem dX10_lays_0 : decode cX10_lays 0 = .ok (.aload_n 0, 1) := by decide +kernel
theorem dX10_lays_1 : decode cX10_lays 1 = .ok (.iload_n 1, 1) := by decide +kernel
theorem dX10_lays_2 : decode cX10_lays 2 = .ok (.iload_n 2, 1) := by decide +kernel
theorem dX10_lays_3 : decode cX10_lays 3 = .ok (.invokevirtual 117, 3) := by decide +kernel
theorem dX10_lays_6 : decode cX10_lays 6 = .ok (.istore_n 3, 1) := by decide +kernel
theorem dX10_lays_7 : decode cX10_lays 7 = .ok (.aload_n 0, 1) := by decide +kernel
theorem dX10_lays_8 : decode cX10_lays 8 = .ok (.getfield 23, 3) := by decide +kernel
theorem dX10_lays_11 : decode cX10_lays 11 = .ok (.iload_n 1, 1) := by decide +kernel
theorem dX10_lays_12 : decode cX10_lays 12 = .ok (.iload_n 2, 1) := by decide +kernel
theorem dX10_lays_13 : decode cX10_lays 13 = .ok (.iastore, 1) := by decide +kernel
theorem dX10_lays_14 : decode cX10_lays 14 = .ok (.aload_n 0, 1) := by decide +kernel
theorem dX10_lays_15 : decode cX10_lays 15 = .ok (.getfield 26, 3) := by decide +kernel
theorem dX10_lays_18 : decode cX10_lays 18 = .ok (.iload_n 1, 1) := by decide +kernel
theorem dX10_lays_19 : decode cX10_lays 19 = .ok (.iload_n 3, 1) := by decide +kernel
theorem dX10_lays_20 : decode cX10_lays 20 = .ok (.iastore, 1) := by decide +kernel
theorem dX10_lays_21 : decode cX10_lays 21 = .ok (.aload_n 0, 1) := by decide +kernel
theorem dX10_lays_22 : decode cX10_lays 22 = .ok (.invokevirtual 108, 3) := by decide +kernel
theorem dX10_lays_25 : decode cX10_lays 25 = .ok (.aload_n 0, 1) := by decide +kernel
theorem dX10_lays_26 : decode cX10_lays 26 = .ok (.iload_n 1, 1) := by decide +kernel
theorem dX10_lays_27 : decode cX10_lays 27 = .ok (.invokevirtual 120, 3) := by decide +kernel
theorem dX10_lays_30 : decode cX10_lays 30 = .ok (.ifCond .ne 5, 3) := by decide +kernel
theorem dX10_lays_33 : decode cX10_lays 33 = .ok (.iconst 2, 1) := by decide +kernel
theorem dX10_lays_34 : decode cX10_lays 34 = .ok (.ireturn, 1) := by decide +kernel
theorem dX10_lays_35 : decode cX10_lays 35 = .ok (.aload_n 0, 1) := by decide +kernel
theorem dX10_lays_36 : decode cX10_lays 36 = .ok (.aload_n 0, 1) := by decide +kernel
theorem dX10_lays_37 : decode cX10_lays 37 = .ok (.invokevirtual 124, 3) := by decide +kernel
theorem dX10_lays_40 : decode cX10_lays 40 = .ok (.putfield 19, 3) := by decide +kernel
theorem dX10_lays_43 : decode cX10_lays 43 = .ok (.aload_n 0, 1) := by decide +kernel
theorem dX10_lays_44 : decode cX10_lays 44 = .ok (.getfield 19, 3) := by decide +kernel
theorem dX10_lays_47 : decode cX10_lays 47 = .ok (.iconst (-1), 1) := by decide +kernel
theorem dX10_lays_48 : decode cX10_lays 48 = .ok (.if_icmp .ne 7, 3) := by decide +kernel
theorem dX10_lays_51 : decode cX10_lays 51 = .ok (.iconst 0, 1) := by decide +kernel
theorem dX10_lays_52 : decode cX10_lays 52 = .ok (.goto 4, 3) := by decide +kernel
theorem dX10_lays_55 : decode cX10_lays 55 = .ok (.iconst 3, 1) := by decide +kernel
theorem dX10_lays_56 : decode cX10_lays 56 = .ok (.ireturn, 1) := by decide +kernel
theorem dX10_costOf_0 : decode cX10_costOf 0 = .ok (.iload_n 1, 1) := by decide +kernel
theorem dX10_costOf_1 : decode cX10_costOf 1 = .ok (.bipush 10, 2) := by decide +kernel
theorem dX10_costOf_3 : decode cX10_costOf 3 = .ok (.isub, 1) := by decide +kernel
theorem dX10_costOf_4 : decode cX10_costOf 4 = .ok (.iload_n 2, 1) := by decide +kernel
theorem dX10_costOf_5 : decode cX10_costOf 5 = .ok (.isub, 1) := by decide +kernel
theorem dX10_costOf_6 : decode cX10_costOf 6 = .ok (.istore 4, 2) := by decide +kernel
theorem dX10_costOf_8 : decode cX10_costOf 8 = .ok (.iload 4, 2) := by decide +kernel
theorem dX10_costOf_10 : decode cX10_costOf 10 = .ok (.ifCond .ge 9, 3) := by decide +kernel
theorem dX10_costOf_13 : decode cX10_costOf 13 = .ok (.iload 4, 2) := by decide +kernel
theorem dX10_costOf_15 : decode cX10_costOf 15 = .ok (.ineg, 1) := by decide +kernel
theorem dX10_costOf_16 : decode cX10_costOf 16 = .ok (.goto 5, 3) := by decide +kernel
theorem dX10_costOf_19 : decode cX10_costOf 19 = .ok (.iload 4, 2) := by decide +kernel
theorem dX10_costOf_21 : decode cX10_costOf 21 = .ok (.iload_n 3, 1) := by decide +kernel
theorem dX10_costOf_22 : decode cX10_costOf 22 = .ok (.iadd, 1) := by decide +kernel
theorem dX10_costOf_23 : decode cX10_costOf 23 = .ok (.ireturn, 1) := by decide +kernel
