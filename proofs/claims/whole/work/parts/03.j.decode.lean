theorem dX10_which_0 : decode cX10_which 0 = .ok (.iload_n 1, 1) := by decide +kernel
theorem dX10_which_1 : decode cX10_which 1 = .ok (.iconst 1, 1) := by decide +kernel
theorem dX10_which_2 : decode cX10_which 2 = .ok (.iconst 1, 1) := by decide +kernel
theorem dX10_which_3 : decode cX10_which 3 = .ok (.aload_n 0, 1) := by decide +kernel
theorem dX10_which_4 : decode cX10_which 4 = .ok (.getfield 7, 3) := by decide +kernel
theorem dX10_which_7 : decode cX10_which 7 = .ok (.iconst 1, 1) := by decide +kernel
theorem dX10_which_8 : decode cX10_which 8 = .ok (.iaload, 1) := by decide +kernel
theorem dX10_which_9 : decode cX10_which 9 = .ok (.ishl, 1) := by decide +kernel
theorem dX10_which_10 : decode cX10_which 10 = .ok (.iconst 1, 1) := by decide +kernel
theorem dX10_which_11 : decode cX10_which 11 = .ok (.isub, 1) := by decide +kernel
theorem dX10_which_12 : decode cX10_which 12 = .ok (.invokestatic 76, 3) := by decide +kernel
theorem dX10_which_15 : decode cX10_which 15 = .ok (.ifCond .eq 12, 3) := by decide +kernel
theorem dX10_which_18 : decode cX10_which 18 = .ok (.iload_n 1, 1) := by decide +kernel
theorem dX10_which_19 : decode cX10_which 19 = .ok (.invokestatic 158, 3) := by decide +kernel
theorem dX10_which_22 : decode cX10_which 22 = .ok (.bipush 6, 2) := by decide +kernel
theorem dX10_which_24 : decode cX10_which 24 = .ok (.if_icmp .le 5, 3) := by decide +kernel
theorem dX10_which_27 : decode cX10_which 27 = .ok (.iconst (-1), 1) := by decide +kernel
theorem dX10_which_28 : decode cX10_which 28 = .ok (.ireturn, 1) := by decide +kernel
theorem dX10_which_29 : decode cX10_which 29 = .ok (.iconst 0, 1) := by decide +kernel
theorem dX10_which_30 : decode cX10_which 30 = .ok (.istore_n 3, 1) := by decide +kernel
theorem dX10_which_31 : decode cX10_which 31 = .ok (.iload_n 3, 1) := by decide +kernel
theorem dX10_which_32 : decode cX10_which 32 = .ok (.aload_n 0, 1) := by decide +kernel
theorem dX10_which_33 : decode cX10_which 33 = .ok (.getfield 7, 3) := by decide +kernel
theorem dX10_which_36 : decode cX10_which 36 = .ok (.iconst 1, 1) := by decide +kernel
theorem dX10_which_37 : decode cX10_which 37 = .ok (.iaload, 1) := by decide +kernel
theorem dX10_which_38 : decode cX10_which 38 = .ok (.if_icmp .ge 37, 3) := by decide +kernel
theorem dX10_which_41 : decode cX10_which 41 = .ok (.iload_n 1, 1) := by decide +kernel
theorem dX10_which_42 : decode cX10_which 42 = .ok (.iload_n 3, 1) := by decide +kernel
theorem dX10_which_43 : decode cX10_which 43 = .ok (.ishr, 1) := by decide +kernel
theorem dX10_which_44 : decode cX10_which 44 = .ok (.iconst 1, 1) := by decide +kernel
theorem dX10_which_45 : decode cX10_which 45 = .ok (.iand, 1) := by decide +kernel
theorem dX10_which_46 : decode cX10_which 46 = .ok (.iconst 1, 1) := by decide +kernel
theorem dX10_which_47 : decode cX10_which 47 = .ok (.if_icmp .ne 15, 3) := by decide +kernel
theorem dX10_which_50 : decode cX10_which 50 = .ok (.aload_n 0, 1) := by decide +kernel
theorem dX10_which_51 : decode cX10_which 51 = .ok (.iload_n 3, 1) := by decide +kernel
theorem dX10_which_52 : decode cX10_which 52 = .ok (.iconst 5, 1) := by decide +kernel
theorem dX10_which_53 : decode cX10_which 53 = .ok (.invokevirtual 94, 3) := by decide +kernel
theorem dX10_which_56 : decode cX10_which 56 = .ok (.iconst (-1), 1) := by decide +kernel
theorem dX10_which_57 : decode cX10_which 57 = .ok (.if_icmp .eq 5, 3) := by decide +kernel
theorem dX10_which_60 : decode cX10_which 60 = .ok (.iconst (-1), 1) := by decide +kernel
theorem dX10_which_61 : decode cX10_which 61 = .ok (.ireturn, 1) := by decide +kernel
theorem dX10_which_62 : decode cX10_which 62 = .ok (.aload_n 0, 1) := by decide +kernel
theorem dX10_which_63 : decode cX10_which 63 = .ok (.getfield 23, 3) := by decide +kernel
theorem dX10_which_66 : decode cX10_which 66 = .ok (.iload_n 3, 1) := by decide +kernel
theorem dX10_which_67 : decode cX10_which 67 = .ok (.iconst (-1), 1) := by decide +kernel
theorem dX10_which_68 : decode cX10_which 68 = .ok (.iastore, 1) := by decide +kernel
theorem dX10_which_69 : decode cX10_which 69 = .ok (.iinc 3 1, 3) := by decide +kernel
theorem dX10_which_72 : decode cX10_which 72 = .ok (.goto (-41), 3) := by decide +kernel
theorem dX10_which_75 : decode cX10_which 75 = .ok (.aload_n 0, 1) := by decide +kernel
theorem dX10_which_76 : decode cX10_which 76 = .ok (.iconst 0, 1) := by decide +kernel
theorem dX10_which_77 : decode cX10_which 77 = .ok (.putfield 323, 3) := by decide +kernel
theorem dX10_which_80 : decode cX10_which 80 = .ok (.aload_n 0, 1) := by decide +kernel
theorem dX10_which_81 : decode cX10_which 81 = .ok (.iload_n 1, 1) := by decide +kernel
theorem dX10_which_82 : decode cX10_which 82 = .ok (.iconst 0, 1) := by decide +kernel
theorem dX10_which_83 : decode cX10_which 83 = .ok (.invokevirtual 326, 3) := by decide +kernel
theorem dX10_which_86 : decode cX10_which 86 = .ok (.iload_n 2, 1) := by decide +kernel
theorem dX10_which_87 : decode cX10_which 87 = .ok (.ifCond .ne 8, 3) := by decide +kernel
theorem dX10_which_90 : decode cX10_which 90 = .ok (.aload_n 0, 1) := by decide +kernel
theorem dX10_which_91 : decode cX10_which 91 = .ok (.getfield 323, 3) := by decide +kernel
theorem dX10_which_94 : decode cX10_which 94 = .ok (.ireturn, 1) := by decide +kernel
theorem dX10_which_95 : decode cX10_which 95 = .ok (.iload_n 2, 1) := by decide +kernel
theorem dX10_which_96 : decode cX10_which 96 = .ok (.bipush 10, 2) := by decide +kernel
theorem dX10_which_98 : decode cX10_which 98 = .ok (.bipush 29, 2) := by decide +kernel
theorem dX10_which_100 : decode cX10_which 100 = .ok (.invokestatic 76, 3) := by decide +kernel
theorem dX10_which_103 : decode cX10_which 103 = .ok (.istore_n 3, 1) := by decide +kernel
theorem dX10_which_104 : decode cX10_which 104 = .ok (.aload_n 0, 1) := by decide +kernel
theorem dX10_which_105 : decode cX10_which 105 = .ok (.getfield 323, 3) := by decide +kernel
theorem dX10_which_108 : decode cX10_which 108 = .ok (.ifCond .eq 18, 3) := by decide +kernel
theorem dX10_which_111 : decode cX10_which 111 = .ok (.iload_n 3, 1) := by decide +kernel
theorem dX10_which_112 : decode cX10_which 112 = .ok (.ifCond .ne 16, 3) := by decide +kernel
theorem dX10_which_115 : decode cX10_which 115 = .ok (.iload_n 2, 1) := by decide +kernel
theorem dX10_which_116 : decode cX10_which 116 = .ok (.bipush 30, 2) := by decide +kernel
theorem dX10_which_118 : decode cX10_which 118 = .ok (.bipush 49, 2) := by decide +kernel
theorem dX10_which_120 : decode cX10_which 120 = .ok (.invokestatic 76, 3) := by decide +kernel
theorem dX10_which_123 : decode cX10_which 123 = .ok (.ifCond .ne 5, 3) := by decide +kernel
theorem dX10_which_126 : decode cX10_which 126 = .ok (.iconst (-1), 1) := by decide +kernel
theorem dX10_which_127 : decode cX10_which 127 = .ok (.ireturn, 1) := by decide +kernel
theorem dX10_which_128 : decode cX10_which 128 = .ok (.iload_n 3, 1) := by decide +kernel
theorem dX10_which_129 : decode cX10_which 129 = .ok (.ifCond .eq 10, 3) := by decide +kernel
theorem dX10_which_132 : decode cX10_which 132 = .ok (.iload_n 2, 1) := by decide +kernel
theorem dX10_which_133 : decode cX10_which 133 = .ok (.bipush 10, 2) := by decide +kernel
theorem dX10_which_135 : decode cX10_which 135 = .ok (.isub, 1) := by decide +kernel
theorem dX10_which_136 : decode cX10_which 136 = .ok (.goto 7, 3) := by decide +kernel
theorem dX10_which_139 : decode cX10_which 139 = .ok (.iload_n 2, 1) := by decide +kernel
theorem dX10_which_140 : decode cX10_which 140 = .ok (.bipush 30, 2) := by decide +kernel
theorem dX10_which_142 : decode cX10_which 142 = .ok (.isub, 1) := by decide +kernel
theorem dX10_which_143 : decode cX10_which 143 = .ok (.istore 4, 2) := by decide +kernel
theorem dX10_which_145 : decode cX10_which 145 = .ok (.iload_n 1, 1) := by decide +kernel
theorem dX10_which_146 : decode cX10_which 146 = .ok (.iload 4, 2) := by decide +kernel
theorem dX10_which_148 : decode cX10_which 148 = .ok (.ishr, 1) := by decide +kernel
theorem dX10_which_149 : decode cX10_which 149 = .ok (.iconst 1, 1) := by decide +kernel
theorem dX10_which_150 : decode cX10_which 150 = .ok (.iand, 1) := by decide +kernel
theorem dX10_which_151 : decode cX10_which 151 = .ok (.ifCond .ne 7, 3) := by decide +kernel
theorem dX10_which_154 : decode cX10_which 154 = .ok (.iconst (-1), 1) := by decide +kernel
theorem dX10_which_155 : decode cX10_which 155 = .ok (.goto 24, 3) := by decide +kernel
theorem dX10_which_158 : decode cX10_which 158 = .ok (.iload_n 3, 1) := by decide +kernel
theorem dX10_which_159 : decode cX10_which 159 = .ok (.ifCond .eq 13, 3) := by decide +kernel
theorem dX10_which_162 : decode cX10_which 162 = .ok (.aload_n 0, 1) := by decide +kernel
theorem dX10_which_163 : decode cX10_which 163 = .ok (.getfield 70, 3) := by decide +kernel
theorem dX10_which_166 : decode cX10_which 166 = .ok (.iload 4, 2) := by decide +kernel
theorem dX10_which_168 : decode cX10_which 168 = .ok (.iaload, 1) := by decide +kernel
theorem dX10_which_169 : decode cX10_which 169 = .ok (.goto 10, 3) := by decide +kernel
theorem dX10_which_172 : decode cX10_which 172 = .ok (.aload_n 0, 1) := by decide +kernel
theorem dX10_which_173 : decode cX10_which 173 = .ok (.getfield 73, 3) := by decide +kernel
theorem dX10_which_176 : decode cX10_which 176 = .ok (.iload 4, 2) := by decide +kernel
theorem dX10_which_178 : decode cX10_which 178 = .ok (.iaload, 1) := by decide +kernel
theorem dX10_which_179 : decode cX10_which 179 = .ok (.ireturn, 1) := by decide +kernel
theorem dX10_wind_0 : decode cX10_wind 0 = .ok (.iload_n 1, 1) := by decide +kernel
theorem dX10_wind_1 : decode cX10_wind 1 = .ok (.iconst 0, 1) := by decide +kernel
theorem dX10_wind_2 : decode cX10_wind 2 = .ok (.bipush 7, 2) := by decide +kernel
theorem dX10_wind_4 : decode cX10_wind 4 = .ok (.invokestatic 76, 3) := by decide +kernel
theorem dX10_wind_7 : decode cX10_wind 7 = .ok (.ifCond .eq 23, 3) := by decide +kernel
theorem dX10_wind_10 : decode cX10_wind 10 = .ok (.iload_n 2, 1) := by decide +kernel
theorem dX10_wind_11 : decode cX10_wind 11 = .ok (.iconst 1, 1) := by decide +kernel
theorem dX10_wind_12 : decode cX10_wind 12 = .ok (.bipush 8, 2) := by decide +kernel
theorem dX10_wind_14 : decode cX10_wind 14 = .ok (.invokestatic 76, 3) := by decide +kernel
theorem dX10_wind_17 : decode cX10_wind 17 = .ok (.ifCond .eq 13, 3) := by decide +kernel
theorem dX10_wind_20 : decode cX10_wind 20 = .ok (.iload_n 3, 1) := by decide +kernel
theorem dX10_wind_21 : decode cX10_wind 21 = .ok (.iconst 0, 1) := by decide +kernel
theorem dX10_wind_22 : decode cX10_wind 22 = .ok (.bipush 10, 2) := by decide +kernel
theorem dX10_wind_24 : decode cX10_wind 24 = .ok (.invokestatic 76, 3) := by decide +kernel
theorem dX10_wind_27 : decode cX10_wind 27 = .ok (.ifCond .ne 5, 3) := by decide +kernel
theorem dX10_wind_30 : decode cX10_wind 30 = .ok (.iconst 0, 1) := by decide +kernel
theorem dX10_wind_31 : decode cX10_wind 31 = .ok (.ireturn, 1) := by decide +kernel
theorem dX10_wind_32 : decode cX10_wind 32 = .ok (.aload_n 0, 1) := by decide +kernel
theorem dX10_wind_33 : decode cX10_wind 33 = .ok (.getfield 7, 3) := by decide +kernel
theorem dX10_wind_36 : decode cX10_wind 36 = .ok (.sipush 260, 3) := by decide +kernel
theorem dX10_wind_39 : decode cX10_wind 39 = .ok (.bipush 8, 2) := by decide +kernel
theorem dX10_wind_41 : decode cX10_wind 41 = .ok (.iload_n 1, 1) := by decide +kernel
theorem dX10_wind_42 : decode cX10_wind 42 = .ok (.imul, 1) := by decide +kernel
theorem dX10_wind_43 : decode cX10_wind 43 = .ok (.iadd, 1) := by decide +kernel
theorem dX10_wind_44 : decode cX10_wind 44 = .ok (.iload_n 2, 1) := by decide +kernel
theorem dX10_wind_45 : decode cX10_wind 45 = .ok (.iadd, 1) := by decide +kernel
theorem dX10_wind_46 : decode cX10_wind 46 = .ok (.iconst 1, 1) := by decide +kernel
theorem dX10_wind_47 : decode cX10_wind 47 = .ok (.isub, 1) := by decide +kernel
theorem dX10_wind_48 : decode cX10_wind 48 = .ok (.iload_n 3, 1) := by decide +kernel
theorem dX10_wind_49 : decode cX10_wind 49 = .ok (.iastore, 1) := by decide +kernel
theorem dX10_wind_50 : decode cX10_wind 50 = .ok (.iconst 1, 1) := by decide +kernel
theorem dX10_wind_51 : decode cX10_wind 51 = .ok (.ireturn, 1) := by decide +kernel
theorem dX10_pay_0 : decode cX10_pay 0 = .ok (.iload_n 1, 1) := by decide +kernel
theorem dX10_pay_1 : decode cX10_pay 1 = .ok (.iconst 0, 1) := by decide +kernel
theorem dX10_pay_2 : decode cX10_pay 2 = .ok (.bipush 8, 2) := by decide +kernel
theorem dX10_pay_4 : decode cX10_pay 4 = .ok (.invokestatic 76, 3) := by decide +kernel
theorem dX10_pay_7 : decode cX10_pay 7 = .ok (.ifCond .eq 14, 3) := by decide +kernel
theorem dX10_pay_10 : decode cX10_pay 10 = .ok (.iload_n 2, 1) := by decide +kernel
theorem dX10_pay_11 : decode cX10_pay 11 = .ok (.iconst 0, 1) := by decide +kernel
theorem dX10_pay_12 : decode cX10_pay 12 = .ok (.sipush 999, 3) := by decide +kernel
theorem dX10_pay_15 : decode cX10_pay 15 = .ok (.invokestatic 76, 3) := by decide +kernel
theorem dX10_pay_18 : decode cX10_pay 18 = .ok (.ifCond .ne 5, 3) := by decide +kernel
theorem dX10_pay_21 : decode cX10_pay 21 = .ok (.iconst 0, 1) := by decide +kernel
theorem dX10_pay_22 : decode cX10_pay 22 = .ok (.ireturn, 1) := by decide +kernel
theorem dX10_pay_23 : decode cX10_pay 23 = .ok (.aload_n 0, 1) := by decide +kernel
theorem dX10_pay_24 : decode cX10_pay 24 = .ok (.getfield 7, 3) := by decide +kernel
theorem dX10_pay_27 : decode cX10_pay 27 = .ok (.sipush 330, 3) := by decide +kernel
theorem dX10_pay_30 : decode cX10_pay 30 = .ok (.iload_n 1, 1) := by decide +kernel
theorem dX10_pay_31 : decode cX10_pay 31 = .ok (.iadd, 1) := by decide +kernel
theorem dX10_pay_32 : decode cX10_pay 32 = .ok (.iload_n 2, 1) := by decide +kernel
theorem dX10_pay_33 : decode cX10_pay 33 = .ok (.iastore, 1) := by decide +kernel
theorem dX10_pay_34 : decode cX10_pay 34 = .ok (.iconst 1, 1) := by decide +kernel
theorem dX10_pay_35 : decode cX10_pay 35 = .ok (.ireturn, 1) := by decide +kernel
theorem dX10_tens_0 : decode cX10_tens 0 = .ok (.lconst 1, 1) := by decide +kernel
theorem dX10_tens_1 : decode cX10_tens 1 = .ok (.lstore_n 1, 1) := by decide +kernel
theorem dX10_tens_2 : decode cX10_tens 2 = .ok (.iconst 0, 1) := by decide +kernel
theorem dX10_tens_3 : decode cX10_tens 3 = .ok (.istore_n 3, 1) := by decide +kernel
theorem dX10_tens_4 : decode cX10_tens 4 = .ok (.iload_n 3, 1) := by decide +kernel
theorem dX10_tens_5 : decode cX10_tens 5 = .ok (.iload_n 0, 1) := by decide +kernel
theorem dX10_tens_6 : decode cX10_tens 6 = .ok (.if_icmp .ge 15, 3) := by decide +kernel
theorem dX10_tens_9 : decode cX10_tens 9 = .ok (.lload_n 1, 1) := by decide +kernel
theorem dX10_tens_10 : decode cX10_tens 10 = .ok (.ldc2_w 329, 3) := by decide +kernel
theorem dX10_tens_13 : decode cX10_tens 13 = .ok (.lmul, 1) := by decide +kernel
theorem dX10_tens_14 : decode cX10_tens 14 = .ok (.lstore_n 1, 1) := by decide +kernel
theorem dX10_tens_15 : decode cX10_tens 15 = .ok (.iinc 3 1, 3) := by decide +kernel
theorem dX10_tens_18 : decode cX10_tens 18 = .ok (.goto (-14), 3) := by decide +kernel
theorem dX10_tens_21 : decode cX10_tens 21 = .ok (.lload_n 1, 1) := by decide +kernel
theorem dX10_tens_22 : decode cX10_tens 22 = .ok (.lreturn, 1) := by decide +kernel
theorem dX10_falls_0 : decode cX10_falls 0 = .ok (.aload_n 0, 1) := by decide +kernel
theorem dX10_falls_1 : decode cX10_falls 1 = .ok (.getfield 7, 3) := by decide +kernel
theorem dX10_falls_4 : decode cX10_falls 4 = .ok (.sipush 260, 3) := by decide +kernel
theorem dX10_falls_7 : decode cX10_falls 7 = .ok (.bipush 8, 2) := by decide +kernel
theorem dX10_falls_9 : decode cX10_falls 9 = .ok (.iload_n 1, 1) := by decide +kernel
theorem dX10_falls_10 : decode cX10_falls 10 = .ok (.imul, 1) := by decide +kernel
theorem dX10_falls_11 : decode cX10_falls 11 = .ok (.iadd, 1) := by decide +kernel
theorem dX10_falls_12 : decode cX10_falls 12 = .ok (.iload_n 2, 1) := by decide +kernel
theorem dX10_falls_13 : decode cX10_falls 13 = .ok (.iadd, 1) := by decide +kernel
theorem dX10_falls_14 : decode cX10_falls 14 = .ok (.iconst 1, 1) := by decide +kernel
theorem dX10_falls_15 : decode cX10_falls 15 = .ok (.isub, 1) := by decide +kernel
theorem dX10_falls_16 : decode cX10_falls 16 = .ok (.iaload, 1) := by decide +kernel
theorem dX10_falls_17 : decode cX10_falls 17 = .ok (.ireturn, 1) := by decide +kernel
theorem dX10_goesOnFrom_0 : decode cX10_goesOnFrom 0 = .ok (.aload_n 0, 1) := by decide +kernel
theorem dX10_goesOnFrom_1 : decode cX10_goesOnFrom 1 = .ok (.iload_n 2, 1) := by decide +kernel
theorem dX10_goesOnFrom_2 : decode cX10_goesOnFrom 2 = .ok (.iload_n 3, 1) := by decide +kernel
theorem dX10_goesOnFrom_3 : decode cX10_goesOnFrom 3 = .ok (.iconst 1, 1) := by decide +kernel
theorem dX10_goesOnFrom_4 : decode cX10_goesOnFrom 4 = .ok (.iadd, 1) := by decide +kernel
theorem dX10_goesOnFrom_5 : decode cX10_goesOnFrom 5 = .ok (.invokevirtual 331, 3) := by decide +kernel
theorem dX10_goesOnFrom_8 : decode cX10_goesOnFrom 8 = .ok (.istore 4, 2) := by decide +kernel
theorem dX10_goesOnFrom_10 : decode cX10_goesOnFrom 10 = .ok (.ldc2_w 329, 3) := by decide +kernel
theorem dX10_goesOnFrom_13 : decode cX10_goesOnFrom 13 = .ok (.iload 4, 2) := by decide +kernel
theorem dX10_goesOnFrom_15 : decode cX10_goesOnFrom 15 = .ok (.i2l, 1) := by decide +kernel
theorem dX10_goesOnFrom_16 : decode cX10_goesOnFrom 16 = .ok (.lsub, 1) := by decide +kernel
theorem dX10_goesOnFrom_17 : decode cX10_goesOnFrom 17 = .ok (.aload_n 0, 1) := by decide +kernel
theorem dX10_goesOnFrom_18 : decode cX10_goesOnFrom 18 = .ok (.iload_n 1, 1) := by decide +kernel
theorem dX10_goesOnFrom_19 : decode cX10_goesOnFrom 19 = .ok (.iload_n 2, 1) := by decide +kernel
theorem dX10_goesOnFrom_20 : decode cX10_goesOnFrom 20 = .ok (.iconst 1, 1) := by decide +kernel
theorem dX10_goesOnFrom_21 : decode cX10_goesOnFrom 21 = .ok (.iadd, 1) := by decide +kernel
theorem dX10_goesOnFrom_22 : decode cX10_goesOnFrom 22 = .ok (.iload_n 3, 1) := by decide +kernel
theorem dX10_goesOnFrom_23 : decode cX10_goesOnFrom 23 = .ok (.iconst 1, 1) := by decide +kernel
theorem dX10_goesOnFrom_24 : decode cX10_goesOnFrom 24 = .ok (.iadd, 1) := by decide +kernel
theorem dX10_goesOnFrom_25 : decode cX10_goesOnFrom 25 = .ok (.invokevirtual 334, 3) := by decide +kernel
theorem dX10_goesOnFrom_28 : decode cX10_goesOnFrom 28 = .ok (.lmul, 1) := by decide +kernel
theorem dX10_goesOnFrom_29 : decode cX10_goesOnFrom 29 = .ok (.iload 4, 2) := by decide +kernel
theorem dX10_goesOnFrom_31 : decode cX10_goesOnFrom 31 = .ok (.aload_n 0, 1) := by decide +kernel
theorem dX10_goesOnFrom_32 : decode cX10_goesOnFrom 32 = .ok (.getfield 7, 3) := by decide +kernel
theorem dX10_goesOnFrom_35 : decode cX10_goesOnFrom 35 = .ok (.sipush 330, 3) := by decide +kernel
theorem dX10_goesOnFrom_38 : decode cX10_goesOnFrom 38 = .ok (.iaload, 1) := by decide +kernel
theorem dX10_goesOnFrom_39 : decode cX10_goesOnFrom 39 = .ok (.imul, 1) := by decide +kernel
theorem dX10_goesOnFrom_40 : decode cX10_goesOnFrom 40 = .ok (.i2l, 1) := by decide +kernel
theorem dX10_goesOnFrom_41 : decode cX10_goesOnFrom 41 = .ok (.iload_n 1, 1) := by decide +kernel
theorem dX10_goesOnFrom_42 : decode cX10_goesOnFrom 42 = .ok (.iload_n 2, 1) := by decide +kernel
theorem dX10_goesOnFrom_43 : decode cX10_goesOnFrom 43 = .ok (.isub, 1) := by decide +kernel
theorem dX10_goesOnFrom_44 : decode cX10_goesOnFrom 44 = .ok (.iconst 1, 1) := by decide +kernel
theorem dX10_goesOnFrom_45 : decode cX10_goesOnFrom 45 = .ok (.isub, 1) := by decide +kernel
theorem dX10_goesOnFrom_46 : decode cX10_goesOnFrom 46 = .ok (.invokestatic 338, 3) := by decide +kernel
theorem dX10_goesOnFrom_49 : decode cX10_goesOnFrom 49 = .ok (.lmul, 1) := by decide +kernel
theorem dX10_goesOnFrom_50 : decode cX10_goesOnFrom 50 = .ok (.ladd, 1) := by decide +kernel
theorem dX10_goesOnFrom_51 : decode cX10_goesOnFrom 51 = .ok (.lreturn, 1) := by decide +kernel
theorem dX10_worthFrom_0 : decode cX10_worthFrom 0 = .ok (.aload_n 0, 1) := by decide +kernel
theorem dX10_worthFrom_1 : decode cX10_worthFrom 1 = .ok (.getfield 7, 3) := by decide +kernel
theorem dX10_worthFrom_4 : decode cX10_worthFrom 4 = .ok (.sipush 330, 3) := by decide +kernel
theorem dX10_worthFrom_7 : decode cX10_worthFrom 7 = .ok (.iload_n 3, 1) := by decide +kernel
theorem dX10_worthFrom_8 : decode cX10_worthFrom 8 = .ok (.iadd, 1) := by decide +kernel
theorem dX10_worthFrom_9 : decode cX10_worthFrom 9 = .ok (.iaload, 1) := by decide +kernel
theorem dX10_worthFrom_10 : decode cX10_worthFrom 10 = .ok (.i2l, 1) := by decide +kernel
theorem dX10_worthFrom_11 : decode cX10_worthFrom 11 = .ok (.iload_n 1, 1) := by decide +kernel
theorem dX10_worthFrom_12 : decode cX10_worthFrom 12 = .ok (.iload_n 2, 1) := by decide +kernel
theorem dX10_worthFrom_13 : decode cX10_worthFrom 13 = .ok (.isub, 1) := by decide +kernel
theorem dX10_worthFrom_14 : decode cX10_worthFrom 14 = .ok (.invokestatic 338, 3) := by decide +kernel
theorem dX10_worthFrom_17 : decode cX10_worthFrom 17 = .ok (.lmul, 1) := by decide +kernel
theorem dX10_worthFrom_18 : decode cX10_worthFrom 18 = .ok (.lstore 4, 2) := by decide +kernel
theorem dX10_worthFrom_20 : decode cX10_worthFrom 20 = .ok (.iload_n 2, 1) := by decide +kernel
theorem dX10_worthFrom_21 : decode cX10_worthFrom 21 = .ok (.iload_n 1, 1) := by decide +kernel
theorem dX10_worthFrom_22 : decode cX10_worthFrom 22 = .ok (.if_icmp .eq 9, 3) := by decide +kernel
theorem dX10_worthFrom_25 : decode cX10_worthFrom 25 = .ok (.iload_n 3, 1) := by decide +kernel
theorem dX10_worthFrom_26 : decode cX10_worthFrom 26 = .ok (.bipush 8, 2) := by decide +kernel
theorem dX10_worthFrom_28 : decode cX10_worthFrom 28 = .ok (.if_icmp .ne 6, 3) := by decide +kernel
theorem dX10_worthFrom_31 : decode cX10_worthFrom 31 = .ok (.lload 4, 2) := by decide +kernel
theorem dX10_worthFrom_33 : decode cX10_worthFrom 33 = .ok (.lreturn, 1) := by decide +kernel
theorem dX10_worthFrom_34 : decode cX10_worthFrom 34 = .ok (.aload_n 0, 1) := by decide +kernel
theorem dX10_worthFrom_35 : decode cX10_worthFrom 35 = .ok (.iload_n 1, 1) := by decide +kernel
theorem dX10_worthFrom_36 : decode cX10_worthFrom 36 = .ok (.iload_n 2, 1) := by decide +kernel
theorem dX10_worthFrom_37 : decode cX10_worthFrom 37 = .ok (.iload_n 3, 1) := by decide +kernel
theorem dX10_worthFrom_38 : decode cX10_worthFrom 38 = .ok (.invokevirtual 342, 3) := by decide +kernel
theorem dX10_worthFrom_41 : decode cX10_worthFrom 41 = .ok (.lstore 6, 2) := by decide +kernel
theorem dX10_worthFrom_43 : decode cX10_worthFrom 43 = .ok (.lload 6, 2) := by decide +kernel
theorem dX10_worthFrom_45 : decode cX10_worthFrom 45 = .ok (.lload 4, 2) := by decide +kernel
theorem dX10_worthFrom_47 : decode cX10_worthFrom 47 = .ok (.lcmp, 1) := by decide +kernel
theorem dX10_worthFrom_48 : decode cX10_worthFrom 48 = .ok (.ifCond .le 8, 3) := by decide +kernel
theorem dX10_worthFrom_51 : decode cX10_worthFrom 51 = .ok (.lload 6, 2) := by decide +kernel
theorem dX10_worthFrom_53 : decode cX10_worthFrom 53 = .ok (.goto 5, 3) := by decide +kernel
theorem dX10_worthFrom_56 : decode cX10_worthFrom 56 = .ok (.lload 4, 2) := by decide +kernel
theorem dX10_worthFrom_58 : decode cX10_worthFrom 58 = .ok (.lreturn, 1) := by decide +kernel
theorem dX10_worth_0 : decode cX10_worth 0 = .ok (.iload_n 1, 1) := by decide +kernel
theorem dX10_worth_1 : decode cX10_worth 1 = .ok (.iconst 1, 1) := by decide +kernel
theorem dX10_worth_2 : decode cX10_worth 2 = .ok (.bipush 8, 2) := by decide +kernel
theorem dX10_worth_4 : decode cX10_worth 4 = .ok (.invokestatic 76, 3) := by decide +kernel
theorem dX10_worth_7 : decode cX10_worth 7 = .ok (.ifCond .eq 32, 3) := by decide +kernel
theorem dX10_worth_10 : decode cX10_worth 10 = .ok (.iload_n 2, 1) := by decide +kernel
theorem dX10_worth_11 : decode cX10_worth 11 = .ok (.iconst 0, 1) := by decide +kernel
theorem dX10_worth_12 : decode cX10_worth 12 = .ok (.iload_n 1, 1) := by decide +kernel
theorem dX10_worth_13 : decode cX10_worth 13 = .ok (.invokestatic 76, 3) := by decide +kernel
theorem dX10_worth_16 : decode cX10_worth 16 = .ok (.ifCond .eq 23, 3) := by decide +kernel
theorem dX10_worth_19 : decode cX10_worth 19 = .ok (.iload_n 3, 1) := by decide +kernel
theorem dX10_worth_20 : decode cX10_worth 20 = .ok (.iconst 0, 1) := by decide +kernel
theorem dX10_worth_21 : decode cX10_worth 21 = .ok (.bipush 8, 2) := by decide +kernel
theorem dX10_worth_23 : decode cX10_worth 23 = .ok (.invokestatic 76, 3) := by decide +kernel
theorem dX10_worth_26 : decode cX10_worth 26 = .ok (.ifCond .eq 13, 3) := by decide +kernel
theorem dX10_worth_29 : decode cX10_worth 29 = .ok (.iload 4, 2) := by decide +kernel
theorem dX10_worth_31 : decode cX10_worth 31 = .ok (.iconst 0, 1) := by decide +kernel
theorem dX10_worth_32 : decode cX10_worth 32 = .ok (.iconst 1, 1) := by decide +kernel
theorem dX10_worth_33 : decode cX10_worth 33 = .ok (.invokestatic 76, 3) := by decide +kernel
theorem dX10_worth_36 : decode cX10_worth 36 = .ok (.ifCond .ne 7, 3) := by decide +kernel
theorem dX10_worth_39 : decode cX10_worth 39 = .ok (.ldc2_w 345, 3) := by decide +kernel
theorem dX10_worth_42 : decode cX10_worth 42 = .ok (.lreturn, 1) := by decide +kernel
theorem dX10_worth_43 : decode cX10_worth 43 = .ok (.iload 4, 2) := by decide +kernel
theorem dX10_worth_45 : decode cX10_worth 45 = .ok (.ifCond .ne 11, 3) := by decide +kernel
theorem dX10_worth_48 : decode cX10_worth 48 = .ok (.aload_n 0, 1) := by decide +kernel
theorem dX10_worth_49 : decode cX10_worth 49 = .ok (.iload_n 1, 1) := by decide +kernel
theorem dX10_worth_50 : decode cX10_worth 50 = .ok (.iload_n 2, 1) := by decide +kernel
theorem dX10_worth_51 : decode cX10_worth 51 = .ok (.iload_n 3, 1) := by decide +kernel
theorem dX10_worth_52 : decode cX10_worth 52 = .ok (.invokevirtual 334, 3) := by decide +kernel
theorem dX10_worth_55 : decode cX10_worth 55 = .ok (.lreturn, 1) := by decide +kernel
theorem dX10_worth_56 : decode cX10_worth 56 = .ok (.iload_n 2, 1) := by decide +kernel
theorem dX10_worth_57 : decode cX10_worth 57 = .ok (.iload_n 1, 1) := by decide +kernel
theorem dX10_worth_58 : decode cX10_worth 58 = .ok (.if_icmp .ge 42, 3) := by decide +kernel
theorem dX10_worth_61 : decode cX10_worth 61 = .ok (.iload_n 3, 1) := by decide +kernel
theorem dX10_worth_62 : decode cX10_worth 62 = .ok (.bipush 8, 2) := by decide +kernel
theorem dX10_worth_64 : decode cX10_worth 64 = .ok (.if_icmp .ge 36, 3) := by decide +kernel
theorem dX10_worth_67 : decode cX10_worth 67 = .ok (.aload_n 0, 1) := by decide +kernel
theorem dX10_worth_68 : decode cX10_worth 68 = .ok (.iload_n 1, 1) := by decide +kernel
theorem dX10_worth_69 : decode cX10_worth 69 = .ok (.iload_n 2, 1) := by decide +kernel
theorem dX10_worth_70 : decode cX10_worth 70 = .ok (.iload_n 3, 1) := by decide +kernel
theorem dX10_worth_71 : decode cX10_worth 71 = .ok (.invokevirtual 342, 3) := by decide +kernel
theorem dX10_worth_74 : decode cX10_worth 74 = .ok (.aload_n 0, 1) := by decide +kernel
theorem dX10_worth_75 : decode cX10_worth 75 = .ok (.getfield 7, 3) := by decide +kernel
theorem dX10_worth_78 : decode cX10_worth 78 = .ok (.sipush 330, 3) := by decide +kernel
theorem dX10_worth_81 : decode cX10_worth 81 = .ok (.iload_n 3, 1) := by decide +kernel
theorem dX10_worth_82 : decode cX10_worth 82 = .ok (.iadd, 1) := by decide +kernel
theorem dX10_worth_83 : decode cX10_worth 83 = .ok (.iaload, 1) := by decide +kernel
theorem dX10_worth_84 : decode cX10_worth 84 = .ok (.i2l, 1) := by decide +kernel
theorem dX10_worth_85 : decode cX10_worth 85 = .ok (.iload_n 1, 1) := by decide +kernel
theorem dX10_worth_86 : decode cX10_worth 86 = .ok (.iload_n 2, 1) := by decide +kernel
theorem dX10_worth_87 : decode cX10_worth 87 = .ok (.isub, 1) := by decide +kernel
theorem dX10_worth_88 : decode cX10_worth 88 = .ok (.invokestatic 338, 3) := by decide +kernel
theorem dX10_worth_91 : decode cX10_worth 91 = .ok (.lmul, 1) := by decide +kernel
theorem dX10_worth_92 : decode cX10_worth 92 = .ok (.lcmp, 1) := by decide +kernel
theorem dX10_worth_93 : decode cX10_worth 93 = .ok (.ifCond .le 7, 3) := by decide +kernel
theorem dX10_worth_96 : decode cX10_worth 96 = .ok (.lconst 1, 1) := by decide +kernel
theorem dX10_worth_97 : decode cX10_worth 97 = .ok (.goto 4, 3) := by decide +kernel
theorem dX10_worth_100 : decode cX10_worth 100 = .ok (.lconst 0, 1) := by decide +kernel
theorem dX10_worth_101 : decode cX10_worth 101 = .ok (.lreturn, 1) := by decide +kernel
theorem dX10_bet_0 : decode cX10_bet 0 = .ok (.iload_n 1, 1) := by decide +kernel
theorem dX10_bet_1 : decode cX10_bet 1 = .ok (.iconst 1, 1) := by decide +kernel
theorem dX10_bet_2 : decode cX10_bet 2 = .ok (.bipush 8, 2) := by decide +kernel
theorem dX10_bet_4 : decode cX10_bet 4 = .ok (.invokestatic 76, 3) := by decide +kernel
theorem dX10_bet_7 : decode cX10_bet 7 = .ok (.ifCond .eq 13, 3) := by decide +kernel
theorem dX10_bet_10 : decode cX10_bet 10 = .ok (.iload_n 2, 1) := by decide +kernel
theorem dX10_bet_11 : decode cX10_bet 11 = .ok (.iconst 0, 1) := by decide +kernel
theorem dX10_bet_12 : decode cX10_bet 12 = .ok (.bipush 8, 2) := by decide +kernel
theorem dX10_bet_14 : decode cX10_bet 14 = .ok (.invokestatic 76, 3) := by decide +kernel
theorem dX10_bet_17 : decode cX10_bet 17 = .ok (.ifCond .ne 7, 3) := by decide +kernel
theorem dX10_bet_20 : decode cX10_bet 20 = .ok (.ldc2_w 345, 3) := by decide +kernel
theorem dX10_bet_23 : decode cX10_bet 23 = .ok (.lreturn, 1) := by decide +kernel
theorem dX10_bet_24 : decode cX10_bet 24 = .ok (.iload_n 2, 1) := by decide +kernel
theorem dX10_bet_25 : decode cX10_bet 25 = .ok (.ifCond .ne 8, 3) := by decide +kernel
theorem dX10_bet_28 : decode cX10_bet 28 = .ok (.iload_n 1, 1) := by decide +kernel
theorem dX10_bet_29 : decode cX10_bet 29 = .ok (.invokestatic 338, 3) := by decide +kernel
theorem dX10_bet_32 : decode cX10_bet 32 = .ok (.lreturn, 1) := by decide +kernel
theorem dX10_bet_33 : decode cX10_bet 33 = .ok (.iload_n 2, 1) := by decide +kernel
theorem dX10_bet_34 : decode cX10_bet 34 = .ok (.iload_n 1, 1) := by decide +kernel
theorem dX10_bet_35 : decode cX10_bet 35 = .ok (.if_icmp .le 5, 3) := by decide +kernel
theorem dX10_bet_38 : decode cX10_bet 38 = .ok (.lconst 0, 1) := by decide +kernel
theorem dX10_bet_39 : decode cX10_bet 39 = .ok (.lreturn, 1) := by decide +kernel
theorem dX10_bet_40 : decode cX10_bet 40 = .ok (.lconst 1, 1) := by decide +kernel
theorem dX10_bet_41 : decode cX10_bet 41 = .ok (.lstore_n 3, 1) := by decide +kernel
theorem dX10_bet_42 : decode cX10_bet 42 = .ok (.iconst 0, 1) := by decide +kernel
theorem dX10_bet_43 : decode cX10_bet 43 = .ok (.istore 5, 2) := by decide +kernel
theorem dX10_bet_45 : decode cX10_bet 45 = .ok (.iload 5, 2) := by decide +kernel
theorem dX10_bet_47 : decode cX10_bet 47 = .ok (.iload_n 1, 1) := by decide +kernel
theorem dX10_bet_48 : decode cX10_bet 48 = .ok (.if_icmp .ge 27, 3) := by decide +kernel
theorem dX10_bet_51 : decode cX10_bet 51 = .ok (.lload_n 3, 1) := by decide +kernel
theorem dX10_bet_52 : decode cX10_bet 52 = .ok (.ldc2_w 329, 3) := by decide +kernel
theorem dX10_bet_55 : decode cX10_bet 55 = .ok (.aload_n 0, 1) := by decide +kernel
theorem dX10_bet_56 : decode cX10_bet 56 = .ok (.iload 5, 2) := by decide +kernel
theorem dX10_bet_58 : decode cX10_bet 58 = .ok (.iload 5, 2) := by decide +kernel
theorem dX10_bet_60 : decode cX10_bet 60 = .ok (.iconst 1, 1) := by decide +kernel
theorem dX10_bet_61 : decode cX10_bet 61 = .ok (.iadd, 1) := by decide +kernel
theorem dX10_bet_62 : decode cX10_bet 62 = .ok (.invokevirtual 331, 3) := by decide +kernel
theorem dX10_bet_65 : decode cX10_bet 65 = .ok (.i2l, 1) := by decide +kernel
theorem dX10_bet_66 : decode cX10_bet 66 = .ok (.lsub, 1) := by decide +kernel
theorem dX10_bet_67 : decode cX10_bet 67 = .ok (.lmul, 1) := by decide +kernel
theorem dX10_bet_68 : decode cX10_bet 68 = .ok (.lstore_n 3, 1) := by decide +kernel
theorem dX10_bet_69 : decode cX10_bet 69 = .ok (.iinc 5 1, 3) := by decide +kernel
theorem dX10_bet_72 : decode cX10_bet 72 = .ok (.goto (-27), 3) := by decide +kernel
theorem dX10_bet_75 : decode cX10_bet 75 = .ok (.lload_n 3, 1) := by decide +kernel
theorem dX10_bet_76 : decode cX10_bet 76 = .ok (.lreturn, 1) := by decide +kernel
theorem dX10_image_0 : decode cX10_image 0 = .ok (.iload_n 1, 1) := by decide +kernel
theorem dX10_image_1 : decode cX10_image 1 = .ok (.ifCond .ne 12, 3) := by decide +kernel
theorem dX10_image_4 : decode cX10_image 4 = .ok (.aload_n 0, 1) := by decide +kernel
theorem dX10_image_5 : decode cX10_image 5 = .ok (.getfield 347, 3) := by decide +kernel
theorem dX10_image_8 : decode cX10_image 8 = .ok (.ifCond .ne 5, 3) := by decide +kernel
theorem dX10_image_11 : decode cX10_image 11 = .ok (.iconst 0, 1) := by decide +kernel
theorem dX10_image_12 : decode cX10_image 12 = .ok (.ireturn, 1) := by decide +kernel
theorem dX10_image_13 : decode cX10_image 13 = .ok (.iconst 0, 1) := by decide +kernel
theorem dX10_image_14 : decode cX10_image 14 = .ok (.istore_n 2, 1) := by decide +kernel
theorem dX10_image_15 : decode cX10_image 15 = .ok (.iload_n 2, 1) := by decide +kernel
theorem dX10_image_16 : decode cX10_image 16 = .ok (.sipush 1225, 3) := by decide +kernel
theorem dX10_image_19 : decode cX10_image 19 = .ok (.if_icmp .ge 40, 3) := by decide +kernel
theorem dX10_image_22 : decode cX10_image 22 = .ok (.iload_n 1, 1) := by decide +kernel
theorem dX10_image_23 : decode cX10_image 23 = .ok (.ifCond .eq 18, 3) := by decide +kernel
theorem dX10_image_26 : decode cX10_image 26 = .ok (.aload_n 0, 1) := by decide +kernel
theorem dX10_image_27 : decode cX10_image 27 = .ok (.getfield 13, 3) := by decide +kernel
theorem dX10_image_30 : decode cX10_image 30 = .ok (.iload_n 2, 1) := by decide +kernel
theorem dX10_image_31 : decode cX10_image 31 = .ok (.aload_n 0, 1) := by decide +kernel
theorem dX10_image_32 : decode cX10_image 32 = .ok (.getfield 7, 3) := by decide +kernel
theorem dX10_image_35 : decode cX10_image 35 = .ok (.iload_n 2, 1) := by decide +kernel
theorem dX10_image_36 : decode cX10_image 36 = .ok (.iaload, 1) := by decide +kernel
theorem dX10_image_37 : decode cX10_image 37 = .ok (.iastore, 1) := by decide +kernel
theorem dX10_image_38 : decode cX10_image 38 = .ok (.goto 15, 3) := by decide +kernel
theorem dX10_image_41 : decode cX10_image 41 = .ok (.aload_n 0, 1) := by decide +kernel
theorem dX10_image_42 : decode cX10_image 42 = .ok (.getfield 7, 3) := by decide +kernel
theorem dX10_image_45 : decode cX10_image 45 = .ok (.iload_n 2, 1) := by decide +kernel
theorem dX10_image_46 : decode cX10_image 46 = .ok (.aload_n 0, 1) := by decide +kernel
theorem dX10_image_47 : decode cX10_image 47 = .ok (.getfield 13, 3) := by decide +kernel
theorem dX10_image_50 : decode cX10_image 50 = .ok (.iload_n 2, 1) := by decide +kernel
theorem dX10_image_51 : decode cX10_image 51 = .ok (.iaload, 1) := by decide +kernel
theorem dX10_image_52 : decode cX10_image 52 = .ok (.iastore, 1) := by decide +kernel
theorem dX10_image_53 : decode cX10_image 53 = .ok (.iinc 2 1, 3) := by decide +kernel
theorem dX10_image_56 : decode cX10_image 56 = .ok (.goto (-41), 3) := by decide +kernel
theorem dX10_image_59 : decode cX10_image 59 = .ok (.iload_n 1, 1) := by decide +kernel
theorem dX10_image_60 : decode cX10_image 60 = .ok (.ifCond .ne 7, 3) := by decide +kernel
theorem dX10_image_63 : decode cX10_image 63 = .ok (.aload_n 0, 1) := by decide +kernel
theorem dX10_image_64 : decode cX10_image 64 = .ok (.invokevirtual 83, 3) := by decide +kernel
theorem dX10_image_67 : decode cX10_image 67 = .ok (.aload_n 0, 1) := by decide +kernel
theorem dX10_image_68 : decode cX10_image 68 = .ok (.iconst 1, 1) := by decide +kernel
theorem dX10_image_69 : decode cX10_image 69 = .ok (.putfield 347, 3) := by decide +kernel
theorem dX10_image_72 : decode cX10_image 72 = .ok (.iconst 1, 1) := by decide +kernel
theorem dX10_image_73 : decode cX10_image 73 = .ok (.ireturn, 1) := by decide +kernel
theorem dX10_look_0 : decode cX10_look 0 = .ok (.iload_n 1, 1) := by decide +kernel
theorem dX10_look_1 : decode cX10_look 1 = .ok (.tableswitch 136 0 10 #[59, 66, 73, 78, 85, 92, 99, 106, 114, 122, 127], 59) := by decide +kernel
theorem dX10_look_60 : decode cX10_look 60 = .ok (.aload_n 0, 1) := by decide +kernel
theorem dX10_look_61 : decode cX10_look 61 = .ok (.getfield 7, 3) := by decide +kernel
theorem dX10_look_64 : decode cX10_look 64 = .ok (.iconst 0, 1) := by decide +kernel
theorem dX10_look_65 : decode cX10_look 65 = .ok (.iaload, 1) := by decide +kernel
theorem dX10_look_66 : decode cX10_look 66 = .ok (.ireturn, 1) := by decide +kernel
theorem dX10_look_67 : decode cX10_look 67 = .ok (.aload_n 0, 1) := by decide +kernel
theorem dX10_look_68 : decode cX10_look 68 = .ok (.getfield 7, 3) := by decide +kernel
theorem dX10_look_71 : decode cX10_look 71 = .ok (.iconst 1, 1) := by decide +kernel
theorem dX10_look_72 : decode cX10_look 72 = .ok (.iaload, 1) := by decide +kernel
theorem dX10_look_73 : decode cX10_look 73 = .ok (.ireturn, 1) := by decide +kernel
theorem dX10_look_74 : decode cX10_look 74 = .ok (.aload_n 0, 1) := by decide +kernel
theorem dX10_look_75 : decode cX10_look 75 = .ok (.invokevirtual 298, 3) := by decide +kernel
theorem dX10_look_78 : decode cX10_look 78 = .ok (.ireturn, 1) := by decide +kernel
theorem dX10_look_79 : decode cX10_look 79 = .ok (.aload_n 0, 1) := by decide +kernel
theorem dX10_look_80 : decode cX10_look 80 = .ok (.getfield 7, 3) := by decide +kernel
theorem dX10_look_83 : decode cX10_look 83 = .ok (.iconst 2, 1) := by decide +kernel
theorem dX10_look_84 : decode cX10_look 84 = .ok (.iaload, 1) := by decide +kernel
theorem dX10_look_85 : decode cX10_look 85 = .ok (.ireturn, 1) := by decide +kernel
theorem dX10_look_86 : decode cX10_look 86 = .ok (.aload_n 0, 1) := by decide +kernel
theorem dX10_look_87 : decode cX10_look 87 = .ok (.getfield 7, 3) := by decide +kernel
theorem dX10_look_90 : decode cX10_look 90 = .ok (.iconst 3, 1) := by decide +kernel
theorem dX10_look_91 : decode cX10_look 91 = .ok (.iaload, 1) := by decide +kernel
theorem dX10_look_92 : decode cX10_look 92 = .ok (.ireturn, 1) := by decide +kernel
theorem dX10_look_93 : decode cX10_look 93 = .ok (.aload_n 0, 1) := by decide +kernel
theorem dX10_look_94 : decode cX10_look 94 = .ok (.getfield 7, 3) := by decide +kernel
theorem dX10_look_97 : decode cX10_look 97 = .ok (.iconst 4, 1) := by decide +kernel
theorem dX10_look_98 : decode cX10_look 98 = .ok (.iaload, 1) := by decide +kernel
theorem dX10_look_99 : decode cX10_look 99 = .ok (.ireturn, 1) := by decide +kernel
theorem dX10_look_100 : decode cX10_look 100 = .ok (.aload_n 0, 1) := by decide +kernel
theorem dX10_look_101 : decode cX10_look 101 = .ok (.getfield 7, 3) := by decide +kernel
theorem dX10_look_104 : decode cX10_look 104 = .ok (.iconst 5, 1) := by decide +kernel
theorem dX10_look_105 : decode cX10_look 105 = .ok (.iaload, 1) := by decide +kernel
theorem dX10_look_106 : decode cX10_look 106 = .ok (.ireturn, 1) := by decide +kernel
theorem dX10_look_107 : decode cX10_look 107 = .ok (.aload_n 0, 1) := by decide +kernel
theorem dX10_look_108 : decode cX10_look 108 = .ok (.getfield 7, 3) := by decide +kernel
theorem dX10_look_111 : decode cX10_look 111 = .ok (.bipush 7, 2) := by decide +kernel
theorem dX10_look_113 : decode cX10_look 113 = .ok (.iaload, 1) := by decide +kernel
theorem dX10_look_114 : decode cX10_look 114 = .ok (.ireturn, 1) := by decide +kernel
theorem dX10_look_115 : decode cX10_look 115 = .ok (.aload_n 0, 1) := by decide +kernel
theorem dX10_look_116 : decode cX10_look 116 = .ok (.getfield 7, 3) := by decide +kernel
theorem dX10_look_119 : decode cX10_look 119 = .ok (.bipush 8, 2) := by decide +kernel
theorem dX10_look_121 : decode cX10_look 121 = .ok (.iaload, 1) := by decide +kernel
theorem dX10_look_122 : decode cX10_look 122 = .ok (.ireturn, 1) := by decide +kernel
theorem dX10_look_123 : decode cX10_look 123 = .ok (.aload_n 0, 1) := by decide +kernel
theorem dX10_look_124 : decode cX10_look 124 = .ok (.getfield 80, 3) := by decide +kernel
theorem dX10_look_127 : decode cX10_look 127 = .ok (.ireturn, 1) := by decide +kernel
theorem dX10_look_128 : decode cX10_look 128 = .ok (.aload_n 0, 1) := by decide +kernel
theorem dX10_look_129 : decode cX10_look 129 = .ok (.getfield 7, 3) := by decide +kernel
theorem dX10_look_132 : decode cX10_look 132 = .ok (.sipush 340, 3) := by decide +kernel
theorem dX10_look_135 : decode cX10_look 135 = .ok (.iaload, 1) := by decide +kernel
theorem dX10_look_136 : decode cX10_look 136 = .ok (.ireturn, 1) := by decide +kernel
theorem dX10_look_137 : decode cX10_look 137 = .ok (.iconst (-1), 1) := by decide +kernel
theorem dX10_look_138 : decode cX10_look 138 = .ok (.ireturn, 1) := by decide +kernel
theorem dJ11_isValidCodePoint_9a6ad_0 : decode cJ11_isValidCodePoint_9a6ad 0 = .ok (.iload_n 0, 1) := by decide +kernel
theorem dJ11_isValidCodePoint_9a6ad_1 : decode cJ11_isValidCodePoint_9a6ad 1 = .ok (.bipush 16, 2) := by decide +kernel
theorem dJ11_isValidCodePoint_9a6ad_3 : decode cJ11_isValidCodePoint_9a6ad 3 = .ok (.iushr, 1) := by decide +kernel
theorem dJ11_isValidCodePoint_9a6ad_4 : decode cJ11_isValidCodePoint_9a6ad 4 = .ok (.istore_n 1, 1) := by decide +kernel
theorem dJ11_isValidCodePoint_9a6ad_5 : decode cJ11_isValidCodePoint_9a6ad 5 = .ok (.iload_n 1, 1) := by decide +kernel
theorem dJ11_isValidCodePoint_9a6ad_6 : decode cJ11_isValidCodePoint_9a6ad 6 = .ok (.bipush 17, 2) := by decide +kernel
theorem dJ11_isValidCodePoint_9a6ad_8 : decode cJ11_isValidCodePoint_9a6ad 8 = .ok (.if_icmp .ge 7, 3) := by decide +kernel
theorem dJ11_isValidCodePoint_9a6ad_11 : decode cJ11_isValidCodePoint_9a6ad 11 = .ok (.iconst 1, 1) := by decide +kernel
theorem dJ11_isValidCodePoint_9a6ad_12 : decode cJ11_isValidCodePoint_9a6ad 12 = .ok (.goto 4, 3) := by decide +kernel
theorem dJ11_isValidCodePoint_9a6ad_15 : decode cJ11_isValidCodePoint_9a6ad 15 = .ok (.iconst 0, 1) := by decide +kernel
theorem dJ11_isValidCodePoint_9a6ad_16 : decode cJ11_isValidCodePoint_9a6ad 16 = .ok (.ireturn, 1) := by decide +kernel
theorem dJ11_highSurrogate_5068e_0 : decode cJ11_highSurrogate_5068e 0 = .ok (.iload_n 0, 1) := by decide +kernel
theorem dJ11_highSurrogate_5068e_1 : decode cJ11_highSurrogate_5068e 1 = .ok (.bipush 10, 2) := by decide +kernel
theorem dJ11_highSurrogate_5068e_3 : decode cJ11_highSurrogate_5068e 3 = .ok (.iushr, 1) := by decide +kernel
theorem dJ11_highSurrogate_5068e_4 : decode cJ11_highSurrogate_5068e 4 = .ok (.ldc 110, 2) := by decide +kernel
theorem dJ11_highSurrogate_5068e_6 : decode cJ11_highSurrogate_5068e 6 = .ok (.iadd, 1) := by decide +kernel
theorem dJ11_highSurrogate_5068e_7 : decode cJ11_highSurrogate_5068e 7 = .ok (.i2c, 1) := by decide +kernel
theorem dJ11_highSurrogate_5068e_8 : decode cJ11_highSurrogate_5068e 8 = .ok (.ireturn, 1) := by decide +kernel
theorem dJ11_lowSurrogate_5068e_0 : decode cJ11_lowSurrogate_5068e 0 = .ok (.iload_n 0, 1) := by decide +kernel
theorem dJ11_lowSurrogate_5068e_1 : decode cJ11_lowSurrogate_5068e 1 = .ok (.sipush 1023, 3) := by decide +kernel
theorem dJ11_lowSurrogate_5068e_4 : decode cJ11_lowSurrogate_5068e 4 = .ok (.iand, 1) := by decide +kernel
theorem dJ11_lowSurrogate_5068e_5 : decode cJ11_lowSurrogate_5068e 5 = .ok (.ldc 76, 2) := by decide +kernel
theorem dJ11_lowSurrogate_5068e_7 : decode cJ11_lowSurrogate_5068e 7 = .ok (.iadd, 1) := by decide +kernel
theorem dJ11_lowSurrogate_5068e_8 : decode cJ11_lowSurrogate_5068e 8 = .ok (.i2c, 1) := by decide +kernel
theorem dJ11_lowSurrogate_5068e_9 : decode cJ11_lowSurrogate_5068e 9 = .ok (.ireturn, 1) := by decide +kernel
theorem dJ6_bitCount_0f7a4_0 : decode cJ6_bitCount_0f7a4 0 = .ok (.iload_n 0, 1) := by decide +kernel
theorem dJ6_bitCount_0f7a4_1 : decode cJ6_bitCount_0f7a4 1 = .ok (.iload_n 0, 1) := by decide +kernel
theorem dJ6_bitCount_0f7a4_2 : decode cJ6_bitCount_0f7a4 2 = .ok (.iconst 1, 1) := by decide +kernel
theorem dJ6_bitCount_0f7a4_3 : decode cJ6_bitCount_0f7a4 3 = .ok (.iushr, 1) := by decide +kernel
theorem dJ6_bitCount_0f7a4_4 : decode cJ6_bitCount_0f7a4 4 = .ok (.ldc_w 265, 3) := by decide +kernel
theorem dJ6_bitCount_0f7a4_7 : decode cJ6_bitCount_0f7a4 7 = .ok (.iand, 1) := by decide +kernel
theorem dJ6_bitCount_0f7a4_8 : decode cJ6_bitCount_0f7a4 8 = .ok (.isub, 1) := by decide +kernel
theorem dJ6_bitCount_0f7a4_9 : decode cJ6_bitCount_0f7a4 9 = .ok (.istore_n 0, 1) := by decide +kernel
theorem dJ6_bitCount_0f7a4_10 : decode cJ6_bitCount_0f7a4 10 = .ok (.iload_n 0, 1) := by decide +kernel
theorem dJ6_bitCount_0f7a4_11 : decode cJ6_bitCount_0f7a4 11 = .ok (.ldc_w 266, 3) := by decide +kernel
theorem dJ6_bitCount_0f7a4_14 : decode cJ6_bitCount_0f7a4 14 = .ok (.iand, 1) := by decide +kernel
theorem dJ6_bitCount_0f7a4_15 : decode cJ6_bitCount_0f7a4 15 = .ok (.iload_n 0, 1) := by decide +kernel
theorem dJ6_bitCount_0f7a4_16 : decode cJ6_bitCount_0f7a4 16 = .ok (.iconst 2, 1) := by decide +kernel
theorem dJ6_bitCount_0f7a4_17 : decode cJ6_bitCount_0f7a4 17 = .ok (.iushr, 1) := by decide +kernel
theorem dJ6_bitCount_0f7a4_18 : decode cJ6_bitCount_0f7a4 18 = .ok (.ldc_w 266, 3) := by decide +kernel
theorem dJ6_bitCount_0f7a4_21 : decode cJ6_bitCount_0f7a4 21 = .ok (.iand, 1) := by decide +kernel
theorem dJ6_bitCount_0f7a4_22 : decode cJ6_bitCount_0f7a4 22 = .ok (.iadd, 1) := by decide +kernel
theorem dJ6_bitCount_0f7a4_23 : decode cJ6_bitCount_0f7a4 23 = .ok (.istore_n 0, 1) := by decide +kernel
theorem dJ6_bitCount_0f7a4_24 : decode cJ6_bitCount_0f7a4 24 = .ok (.iload_n 0, 1) := by decide +kernel
theorem dJ6_bitCount_0f7a4_25 : decode cJ6_bitCount_0f7a4 25 = .ok (.iload_n 0, 1) := by decide +kernel
theorem dJ6_bitCount_0f7a4_26 : decode cJ6_bitCount_0f7a4 26 = .ok (.iconst 4, 1) := by decide +kernel
theorem dJ6_bitCount_0f7a4_27 : decode cJ6_bitCount_0f7a4 27 = .ok (.iushr, 1) := by decide +kernel
theorem dJ6_bitCount_0f7a4_28 : decode cJ6_bitCount_0f7a4 28 = .ok (.iadd, 1) := by decide +kernel
theorem dJ6_bitCount_0f7a4_29 : decode cJ6_bitCount_0f7a4 29 = .ok (.ldc_w 267, 3) := by decide +kernel
theorem dJ6_bitCount_0f7a4_32 : decode cJ6_bitCount_0f7a4 32 = .ok (.iand, 1) := by decide +kernel
theorem dJ6_bitCount_0f7a4_33 : decode cJ6_bitCount_0f7a4 33 = .ok (.istore_n 0, 1) := by decide +kernel
theorem dJ6_bitCount_0f7a4_34 : decode cJ6_bitCount_0f7a4 34 = .ok (.iload_n 0, 1) := by decide +kernel
theorem dJ6_bitCount_0f7a4_35 : decode cJ6_bitCount_0f7a4 35 = .ok (.iload_n 0, 1) := by decide +kernel
theorem dJ6_bitCount_0f7a4_36 : decode cJ6_bitCount_0f7a4 36 = .ok (.bipush 8, 2) := by decide +kernel
theorem dJ6_bitCount_0f7a4_38 : decode cJ6_bitCount_0f7a4 38 = .ok (.iushr, 1) := by decide +kernel
theorem dJ6_bitCount_0f7a4_39 : decode cJ6_bitCount_0f7a4 39 = .ok (.iadd, 1) := by decide +kernel
theorem dJ6_bitCount_0f7a4_40 : decode cJ6_bitCount_0f7a4 40 = .ok (.istore_n 0, 1) := by decide +kernel
theorem dJ6_bitCount_0f7a4_41 : decode cJ6_bitCount_0f7a4 41 = .ok (.iload_n 0, 1) := by decide +kernel
theorem dJ6_bitCount_0f7a4_42 : decode cJ6_bitCount_0f7a4 42 = .ok (.iload_n 0, 1) := by decide +kernel
theorem dJ6_bitCount_0f7a4_43 : decode cJ6_bitCount_0f7a4 43 = .ok (.bipush 16, 2) := by decide +kernel
theorem dJ6_bitCount_0f7a4_45 : decode cJ6_bitCount_0f7a4 45 = .ok (.iushr, 1) := by decide +kernel
theorem dJ6_bitCount_0f7a4_46 : decode cJ6_bitCount_0f7a4 46 = .ok (.iadd, 1) := by decide +kernel
theorem dJ6_bitCount_0f7a4_47 : decode cJ6_bitCount_0f7a4 47 = .ok (.istore_n 0, 1) := by decide +kernel
theorem dJ6_bitCount_0f7a4_48 : decode cJ6_bitCount_0f7a4 48 = .ok (.iload_n 0, 1) := by decide +kernel
theorem dJ6_bitCount_0f7a4_49 : decode cJ6_bitCount_0f7a4 49 = .ok (.bipush 63, 2) := by decide +kernel
theorem dJ6_bitCount_0f7a4_51 : decode cJ6_bitCount_0f7a4 51 = .ok (.iand, 1) := by decide +kernel
theorem dJ6_bitCount_0f7a4_52 : decode cJ6_bitCount_0f7a4 52 = .ok (.ireturn, 1) := by decide +kernel
theorem dJ9_abs_0f7a4_0 : decode cJ9_abs_0f7a4 0 = .ok (.iload_n 0, 1) := by decide +kernel
theorem dJ9_abs_0f7a4_1 : decode cJ9_abs_0f7a4 1 = .ok (.ifCond .ge 8, 3) := by decide +kernel
theorem dJ9_abs_0f7a4_4 : decode cJ9_abs_0f7a4 4 = .ok (.iload_n 0, 1) := by decide +kernel
theorem dJ9_abs_0f7a4_5 : decode cJ9_abs_0f7a4 5 = .ok (.ineg, 1) := by decide +kernel
theorem dJ9_abs_0f7a4_6 : decode cJ9_abs_0f7a4 6 = .ok (.goto 4, 3) := by decide +kernel
theorem dJ9_abs_0f7a4_9 : decode cJ9_abs_0f7a4 9 = .ok (.iload_n 0, 1) := by decide +kernel
theorem dJ9_abs_0f7a4_10 : decode cJ9_abs_0f7a4 10 = .ok (.ireturn, 1) := by decide +kernel
theorem dJ9_max_7cf53_0 : decode cJ9_max_7cf53 0 = .ok (.iload_n 0, 1) := by decide +kernel
theorem dJ9_max_7cf53_1 : decode cJ9_max_7cf53 1 = .ok (.iload_n 1, 1) := by decide +kernel
theorem dJ9_max_7cf53_2 : decode cJ9_max_7cf53 2 = .ok (.if_icmp .lt 7, 3) := by decide +kernel
theorem dJ9_max_7cf53_5 : decode cJ9_max_7cf53 5 = .ok (.iload_n 0, 1) := by decide +kernel
theorem dJ9_max_7cf53_6 : decode cJ9_max_7cf53 6 = .ok (.goto 4, 3) := by decide +kernel
theorem dJ9_max_7cf53_9 : decode cJ9_max_7cf53 9 = .ok (.iload_n 1, 1) := by decide +kernel
theorem dJ9_max_7cf53_10 : decode cJ9_max_7cf53 10 = .ok (.ireturn, 1) := by decide +kernel
theorem dJ9_max_f86c9_0 : decode cJ9_max_f86c9 0 = .ok (.lload_n 0, 1) := by decide +kernel
theorem dJ9_max_f86c9_1 : decode cJ9_max_f86c9 1 = .ok (.lload_n 2, 1) := by decide +kernel
theorem dJ9_max_f86c9_2 : decode cJ9_max_f86c9 2 = .ok (.lcmp, 1) := by decide +kernel
theorem dJ9_max_f86c9_3 : decode cJ9_max_f86c9 3 = .ok (.ifCond .lt 7, 3) := by decide +kernel
theorem dJ9_max_f86c9_6 : decode cJ9_max_f86c9 6 = .ok (.lload_n 0, 1) := by decide +kernel
theorem dJ9_max_f86c9_7 : decode cJ9_max_f86c9 7 = .ok (.goto 4, 3) := by decide +kernel
theorem dJ9_max_f86c9_10 : decode cJ9_max_f86c9 10 = .ok (.lload_n 2, 1) := by decide +kernel
theorem dJ9_max_f86c9_11 : decode cJ9_max_f86c9 11 = .ok (.lreturn, 1) := by decide +kernel
theorem dJ9_min_7cf53_0 : decode cJ9_min_7cf53 0 = .ok (.iload_n 0, 1) := by decide +kernel
theorem dJ9_min_7cf53_1 : decode cJ9_min_7cf53 1 = .ok (.iload_n 1, 1) := by decide +kernel
theorem dJ9_min_7cf53_2 : decode cJ9_min_7cf53 2 = .ok (.if_icmp .gt 7, 3) := by decide +kernel
theorem dJ9_min_7cf53_5 : decode cJ9_min_7cf53 5 = .ok (.iload_n 0, 1) := by decide +kernel
theorem dJ9_min_7cf53_6 : decode cJ9_min_7cf53 6 = .ok (.goto 4, 3) := by decide +kernel
theorem dJ9_min_7cf53_9 : decode cJ9_min_7cf53 9 = .ok (.iload_n 1, 1) := by decide +kernel
theorem dJ9_min_7cf53_10 : decode cJ9_min_7cf53 10 = .ok (.ireturn, 1) := by decide +kernel
theorem dJ0_length_8abf5_0 : decode cJ0_length_8abf5 0 = .ok (.aload_n 0, 1) := by decide +kernel
theorem dJ0_length_8abf5_1 : decode cJ0_length_8abf5 1 = .ok (.getfield 9, 3) := by decide +kernel
theorem dJ0_length_8abf5_4 : decode cJ0_length_8abf5 4 = .ok (.arraylength, 1) := by decide +kernel
theorem dJ0_length_8abf5_5 : decode cJ0_length_8abf5 5 = .ok (.aload_n 0, 1) := by decide +kernel
theorem dJ0_length_8abf5_6 : decode cJ0_length_8abf5 6 = .ok (.invokevirtual 335, 3) := by decide +kernel
theorem dJ0_length_8abf5_9 : decode cJ0_length_8abf5 9 = .ok (.ishr, 1) := by decide +kernel
theorem dJ0_length_8abf5_10 : decode cJ0_length_8abf5 10 = .ok (.ireturn, 1) := by decide +kernel
theorem dJ0_charAt_5068e_0 : decode cJ0_charAt_5068e 0 = .ok (.aload_n 0, 1) := by decide +kernel
theorem dJ0_charAt_5068e_1 : decode cJ0_charAt_5068e 1 = .ok (.invokevirtual 492, 3) := by decide +kernel
theorem dJ0_charAt_5068e_4 : decode cJ0_charAt_5068e 4 = .ok (.ifCond .eq 12, 3) := by decide +kernel
theorem dJ0_charAt_5068e_7 : decode cJ0_charAt_5068e 7 = .ok (.aload_n 0, 1) := by decide +kernel
theorem dJ0_charAt_5068e_8 : decode cJ0_charAt_5068e 8 = .ok (.getfield 9, 3) := by decide +kernel
theorem dJ0_charAt_5068e_11 : decode cJ0_charAt_5068e 11 = .ok (.iload_n 1, 1) := by decide +kernel
theorem dJ0_charAt_5068e_12 : decode cJ0_charAt_5068e 12 = .ok (.invokestatic 495, 3) := by decide +kernel
theorem dJ0_charAt_5068e_15 : decode cJ0_charAt_5068e 15 = .ok (.ireturn, 1) := by decide +kernel
theorem dJ0_charAt_5068e_16 : decode cJ0_charAt_5068e 16 = .ok (.aload_n 0, 1) := by decide +kernel
theorem dJ0_charAt_5068e_17 : decode cJ0_charAt_5068e 17 = .ok (.getfield 9, 3) := by decide +kernel
theorem dJ0_charAt_5068e_20 : decode cJ0_charAt_5068e 20 = .ok (.iload_n 1, 1) := by decide +kernel
theorem dJ0_charAt_5068e_21 : decode cJ0_charAt_5068e 21 = .ok (.invokestatic 498, 3) := by decide +kernel
theorem dJ0_charAt_5068e_24 : decode cJ0_charAt_5068e 24 = .ok (.ireturn, 1) := by decide +kernel
theorem dJ0_indexOf_0f7a4_0 : decode cJ0_indexOf_0f7a4 0 = .ok (.aload_n 0, 1) := by decide +kernel
theorem dJ0_indexOf_0f7a4_1 : decode cJ0_indexOf_0f7a4 1 = .ok (.iload_n 1, 1) := by decide +kernel
theorem dJ0_indexOf_0f7a4_2 : decode cJ0_indexOf_0f7a4 2 = .ok (.iconst 0, 1) := by decide +kernel
theorem dJ0_indexOf_0f7a4_3 : decode cJ0_indexOf_0f7a4 3 = .ok (.invokevirtual 633, 3) := by decide +kernel
theorem dJ0_indexOf_0f7a4_6 : decode cJ0_indexOf_0f7a4 6 = .ok (.ireturn, 1) := by decide +kernel
theorem dJ0_indexOf_7cf53_0 : decode cJ0_indexOf_7cf53 0 = .ok (.aload_n 0, 1) := by decide +kernel
theorem dJ0_indexOf_7cf53_1 : decode cJ0_indexOf_7cf53 1 = .ok (.invokevirtual 492, 3) := by decide +kernel
theorem dJ0_indexOf_7cf53_4 : decode cJ0_indexOf_7cf53 4 = .ok (.ifCond .eq 19, 3) := by decide +kernel
theorem dJ0_indexOf_7cf53_7 : decode cJ0_indexOf_7cf53 7 = .ok (.aload_n 0, 1) := by decide +kernel
theorem dJ0_indexOf_7cf53_8 : decode cJ0_indexOf_7cf53 8 = .ok (.getfield 9, 3) := by decide +kernel
theorem dJ0_indexOf_7cf53_11 : decode cJ0_indexOf_7cf53 11 = .ok (.iload_n 1, 1) := by decide +kernel
theorem dJ0_indexOf_7cf53_12 : decode cJ0_indexOf_7cf53 12 = .ok (.iload_n 2, 1) := by decide +kernel
theorem dJ0_indexOf_7cf53_13 : decode cJ0_indexOf_7cf53 13 = .ok (.aload_n 0, 1) := by decide +kernel
theorem dJ0_indexOf_7cf53_14 : decode cJ0_indexOf_7cf53 14 = .ok (.invokevirtual 505, 3) := by decide +kernel
theorem dJ0_indexOf_7cf53_17 : decode cJ0_indexOf_7cf53 17 = .ok (.invokestatic 637, 3) := by decide +kernel
theorem dJ0_indexOf_7cf53_20 : decode cJ0_indexOf_7cf53 20 = .ok (.goto 16, 3) := by decide +kernel
theorem dJ0_indexOf_7cf53_23 : decode cJ0_indexOf_7cf53 23 = .ok (.aload_n 0, 1) := by decide +kernel
theorem dJ0_indexOf_7cf53_24 : decode cJ0_indexOf_7cf53 24 = .ok (.getfield 9, 3) := by decide +kernel
theorem dJ0_indexOf_7cf53_27 : decode cJ0_indexOf_7cf53 27 = .ok (.iload_n 1, 1) := by decide +kernel
theorem dJ0_indexOf_7cf53_28 : decode cJ0_indexOf_7cf53 28 = .ok (.iload_n 2, 1) := by decide +kernel
theorem dJ0_indexOf_7cf53_29 : decode cJ0_indexOf_7cf53 29 = .ok (.aload_n 0, 1) := by decide +kernel
theorem dJ0_indexOf_7cf53_30 : decode cJ0_indexOf_7cf53 30 = .ok (.invokevirtual 505, 3) := by decide +kernel
theorem dJ0_indexOf_7cf53_33 : decode cJ0_indexOf_7cf53 33 = .ok (.invokestatic 640, 3) := by decide +kernel
theorem dJ0_indexOf_7cf53_36 : decode cJ0_indexOf_7cf53 36 = .ok (.ireturn, 1) := by decide +kernel
theorem dJ0_coder_7d493_0 : decode cJ0_coder_7d493 0 = .ok (.getstatic 38, 3) := by decide +kernel
theorem dJ0_coder_7d493_3 : decode cJ0_coder_7d493 3 = .ok (.ifCond .eq 10, 3) := by decide +kernel
theorem dJ0_coder_7d493_6 : decode cJ0_coder_7d493 6 = .ok (.aload_n 0, 1) := by decide +kernel
theorem dJ0_coder_7d493_7 : decode cJ0_coder_7d493 7 = .ok (.getfield 15, 3) := by decide +kernel
theorem dJ0_coder_7d493_10 : decode cJ0_coder_7d493 10 = .ok (.goto 4, 3) := by decide +kernel
theorem dJ0_coder_7d493_13 : decode cJ0_coder_7d493 13 = .ok (.iconst 1, 1) := by decide +kernel
theorem dJ0_coder_7d493_14 : decode cJ0_coder_7d493 14 = .ok (.ireturn, 1) := by decide +kernel
theorem dJ0_isLatin1_aae02_0 : decode cJ0_isLatin1_aae02 0 = .ok (.getstatic 38, 3) := by decide +kernel
theorem dJ0_isLatin1_aae02_3 : decode cJ0_isLatin1_aae02 3 = .ok (.ifCond .eq 14, 3) := by decide +kernel
theorem dJ0_isLatin1_aae02_6 : decode cJ0_isLatin1_aae02 6 = .ok (.aload_n 0, 1) := by decide +kernel
theorem dJ0_isLatin1_aae02_7 : decode cJ0_isLatin1_aae02 7 = .ok (.getfield 15, 3) := by decide +kernel
theorem dJ0_isLatin1_aae02_10 : decode cJ0_isLatin1_aae02 10 = .ok (.ifCond .ne 7, 3) := by decide +kernel
theorem dJ0_isLatin1_aae02_13 : decode cJ0_isLatin1_aae02 13 = .ok (.iconst 1, 1) := by decide +kernel
theorem dJ0_isLatin1_aae02_14 : decode cJ0_isLatin1_aae02 14 = .ok (.goto 4, 3) := by decide +kernel
theorem dJ0_isLatin1_aae02_17 : decode cJ0_isLatin1_aae02 17 = .ok (.iconst 0, 1) := by decide +kernel
theorem dJ0_isLatin1_aae02_18 : decode cJ0_isLatin1_aae02 18 = .ok (.ireturn, 1) := by decide +kernel
theorem dJ0_checkIndex_df160_0 : decode cJ0_checkIndex_df160 0 = .ok (.iload_n 0, 1) := by decide +kernel
theorem dJ0_checkIndex_df160_1 : decode cJ0_checkIndex_df160 1 = .ok (.iload_n 1, 1) := by decide +kernel
theorem dJ0_checkIndex_df160_2 : decode cJ0_checkIndex_df160 2 = .ok (.getstatic 1053, 3) := by decide +kernel
theorem dJ0_checkIndex_df160_5 : decode cJ0_checkIndex_df160 5 = .ok (.invokestatic 1059, 3) := by decide +kernel
theorem dJ0_checkIndex_df160_8 : decode cJ0_checkIndex_df160 8 = .ok (.pop, 1) := by decide +kernel
theorem dJ0_checkIndex_df160_9 : decode cJ0_checkIndex_df160 9 = .ok (.return_, 1) := by decide +kernel
theorem dJ0_checkBoundsBeginEnd_23922_0 : decode cJ0_checkBoundsBeginEnd_23922 0 = .ok (.iload_n 0, 1) := by decide +kernel
theorem dJ0_checkBoundsBeginEnd_23922_1 : decode cJ0_checkBoundsBeginEnd_23922 1 = .ok (.iload_n 1, 1) := by decide +kernel
theorem dJ0_checkBoundsBeginEnd_23922_2 : decode cJ0_checkBoundsBeginEnd_23922 2 = .ok (.iload_n 2, 1) := by decide +kernel
theorem dJ0_checkBoundsBeginEnd_23922_3 : decode cJ0_checkBoundsBeginEnd_23922 3 = .ok (.getstatic 1053, 3) := by decide +kernel
theorem dJ0_checkBoundsBeginEnd_23922_6 : decode cJ0_checkBoundsBeginEnd_23922 6 = .ok (.invokestatic 1062, 3) := by decide +kernel
theorem dJ0_checkBoundsBeginEnd_23922_9 : decode cJ0_checkBoundsBeginEnd_23922 9 = .ok (.pop, 1) := by decide +kernel
theorem dJ0_checkBoundsBeginEnd_23922_10 : decode cJ0_checkBoundsBeginEnd_23922 10 = .ok (.return_, 1) := by decide +kernel
theorem dJ1_charAt_3b067_0 : decode cJ1_charAt_3b067 0 = .ok (.iload_n 1, 1) := by decide +kernel
theorem dJ1_charAt_3b067_1 : decode cJ1_charAt_3b067 1 = .ok (.aload_n 0, 1) := by decide +kernel
theorem dJ1_charAt_3b067_2 : decode cJ1_charAt_3b067 2 = .ok (.arraylength, 1) := by decide +kernel
theorem dJ1_charAt_3b067_3 : decode cJ1_charAt_3b067 3 = .ok (.invokestatic 9, 3) := by decide +kernel
theorem dJ1_charAt_3b067_6 : decode cJ1_charAt_3b067 6 = .ok (.aload_n 0, 1) := by decide +kernel
theorem dJ1_charAt_3b067_7 : decode cJ1_charAt_3b067 7 = .ok (.iload_n 1, 1) := by decide +kernel
theorem dJ1_charAt_3b067_8 : decode cJ1_charAt_3b067 8 = .ok (.baload, 1) := by decide +kernel
theorem dJ1_charAt_3b067_9 : decode cJ1_charAt_3b067 9 = .ok (.sipush 255, 3) := by decide +kernel
theorem dJ1_charAt_3b067_12 : decode cJ1_charAt_3b067 12 = .ok (.iand, 1) := by decide +kernel
theorem dJ1_charAt_3b067_13 : decode cJ1_charAt_3b067 13 = .ok (.i2c, 1) := by decide +kernel
theorem dJ1_charAt_3b067_14 : decode cJ1_charAt_3b067 14 = .ok (.ireturn, 1) := by decide +kernel
theorem dJ1_canEncode_9a6ad_0 : decode cJ1_canEncode_9a6ad 0 = .ok (.iload_n 0, 1) := by decide +kernel
theorem dJ1_canEncode_9a6ad_1 : decode cJ1_canEncode_9a6ad 1 = .ok (.ifCond .lt 14, 3) := by decide +kernel
theorem dJ1_canEncode_9a6ad_4 : decode cJ1_canEncode_9a6ad 4 = .ok (.iload_n 0, 1) := by decide +kernel
theorem dJ1_canEncode_9a6ad_5 : decode cJ1_canEncode_9a6ad 5 = .ok (.sipush 255, 3) := by decide +kernel
theorem dJ1_canEncode_9a6ad_8 : decode cJ1_canEncode_9a6ad 8 = .ok (.if_icmp .gt 7, 3) := by decide +kernel
theorem dJ1_canEncode_9a6ad_11 : decode cJ1_canEncode_9a6ad 11 = .ok (.iconst 1, 1) := by decide +kernel
theorem dJ1_canEncode_9a6ad_12 : decode cJ1_canEncode_9a6ad 12 = .ok (.goto 4, 3) := by decide +kernel
theorem dJ1_canEncode_9a6ad_15 : decode cJ1_canEncode_9a6ad 15 = .ok (.iconst 0, 1) := by decide +kernel
theorem dJ1_canEncode_9a6ad_16 : decode cJ1_canEncode_9a6ad 16 = .ok (.ireturn, 1) := by decide +kernel
theorem dJ1_indexOf_4cfef_0 : decode cJ1_indexOf_4cfef 0 = .ok (.iload_n 1, 1) := by decide +kernel
theorem dJ1_indexOf_4cfef_1 : decode cJ1_indexOf_4cfef 1 = .ok (.invokestatic 88, 3) := by decide +kernel
theorem dJ1_indexOf_4cfef_4 : decode cJ1_indexOf_4cfef 4 = .ok (.ifCond .ne 5, 3) := by decide +kernel
theorem dJ1_indexOf_4cfef_7 : decode cJ1_indexOf_4cfef 7 = .ok (.iconst (-1), 1) := by decide +kernel
theorem dJ1_indexOf_4cfef_8 : decode cJ1_indexOf_4cfef 8 = .ok (.ireturn, 1) := by decide +kernel
theorem dJ1_indexOf_4cfef_9 : decode cJ1_indexOf_4cfef 9 = .ok (.iload_n 2, 1) := by decide +kernel
theorem dJ1_indexOf_4cfef_10 : decode cJ1_indexOf_4cfef 10 = .ok (.iconst 0, 1) := by decide +kernel
theorem dJ1_indexOf_4cfef_11 : decode cJ1_indexOf_4cfef 11 = .ok (.invokestatic 92, 3) := by decide +kernel
theorem dJ1_indexOf_4cfef_14 : decode cJ1_indexOf_4cfef 14 = .ok (.istore_n 2, 1) := by decide +kernel
theorem dJ1_indexOf_4cfef_15 : decode cJ1_indexOf_4cfef 15 = .ok (.iload_n 3, 1) := by decide +kernel
theorem dJ1_indexOf_4cfef_16 : decode cJ1_indexOf_4cfef 16 = .ok (.aload_n 0, 1) := by decide +kernel
theorem dJ1_indexOf_4cfef_17 : decode cJ1_indexOf_4cfef 17 = .ok (.arraylength, 1) := by decide +kernel
theorem dJ1_indexOf_4cfef_18 : decode cJ1_indexOf_4cfef 18 = .ok (.invokestatic 38, 3) := by decide +kernel
theorem dJ1_indexOf_4cfef_21 : decode cJ1_indexOf_4cfef 21 = .ok (.istore_n 3, 1) := by decide +kernel
theorem dJ1_indexOf_4cfef_22 : decode cJ1_indexOf_4cfef 22 = .ok (.iload_n 2, 1) := by decide +kernel
theorem dJ1_indexOf_4cfef_23 : decode cJ1_indexOf_4cfef 23 = .ok (.iload_n 3, 1) := by decide +kernel
theorem dJ1_indexOf_4cfef_24 : decode cJ1_indexOf_4cfef 24 = .ok (.if_icmp .lt 5, 3) := by decide +kernel
theorem dJ1_indexOf_4cfef_27 : decode cJ1_indexOf_4cfef 27 = .ok (.iconst (-1), 1) := by decide +kernel
theorem dJ1_indexOf_4cfef_28 : decode cJ1_indexOf_4cfef 28 = .ok (.ireturn, 1) := by decide +kernel
theorem dJ1_indexOf_4cfef_29 : decode cJ1_indexOf_4cfef 29 = .ok (.aload_n 0, 1) := by decide +kernel
theorem dJ1_indexOf_4cfef_30 : decode cJ1_indexOf_4cfef 30 = .ok (.iload_n 1, 1) := by decide +kernel
theorem dJ1_indexOf_4cfef_31 : decode cJ1_indexOf_4cfef 31 = .ok (.iload_n 2, 1) := by decide +kernel
theorem dJ1_indexOf_4cfef_32 : decode cJ1_indexOf_4cfef 32 = .ok (.iload_n 3, 1) := by decide +kernel
theorem dJ1_indexOf_4cfef_33 : decode cJ1_indexOf_4cfef 33 = .ok (.invokestatic 95, 3) := by decide +kernel
theorem dJ1_indexOf_4cfef_36 : decode cJ1_indexOf_4cfef 36 = .ok (.ireturn, 1) := by decide +kernel
theorem dJ1_indexOfChar_4cfef_0 : decode cJ1_indexOfChar_4cfef 0 = .ok (.iload_n 1, 1) := by decide +kernel
theorem dJ1_indexOfChar_4cfef_1 : decode cJ1_indexOfChar_4cfef 1 = .ok (.i2b, 1) := by decide +kernel
theorem dJ1_indexOfChar_4cfef_2 : decode cJ1_indexOfChar_4cfef 2 = .ok (.istore 4, 2) := by decide +kernel
theorem dJ1_indexOfChar_4cfef_4 : decode cJ1_indexOfChar_4cfef 4 = .ok (.iload_n 2, 1) := by decide +kernel
theorem dJ1_indexOfChar_4cfef_5 : decode cJ1_indexOfChar_4cfef 5 = .ok (.istore 5, 2) := by decide +kernel
theorem dJ1_indexOfChar_4cfef_7 : decode cJ1_indexOfChar_4cfef 7 = .ok (.iload 5, 2) := by decide +kernel
theorem dJ1_indexOfChar_4cfef_9 : decode cJ1_indexOfChar_4cfef 9 = .ok (.iload_n 3, 1) := by decide +kernel
theorem dJ1_indexOfChar_4cfef_10 : decode cJ1_indexOfChar_4cfef 10 = .ok (.if_icmp .ge 21, 3) := by decide +kernel
theorem dJ1_indexOfChar_4cfef_13 : decode cJ1_indexOfChar_4cfef 13 = .ok (.aload_n 0, 1) := by decide +kernel
theorem dJ1_indexOfChar_4cfef_14 : decode cJ1_indexOfChar_4cfef 14 = .ok (.iload 5, 2) := by decide +kernel
theorem dJ1_indexOfChar_4cfef_16 : decode cJ1_indexOfChar_4cfef 16 = .ok (.baload, 1) := by decide +kernel
theorem dJ1_indexOfChar_4cfef_17 : decode cJ1_indexOfChar_4cfef 17 = .ok (.iload 4, 2) := by decide +kernel
theorem dJ1_indexOfChar_4cfef_19 : decode cJ1_indexOfChar_4cfef 19 = .ok (.if_icmp .ne 6, 3) := by decide +kernel
theorem dJ1_indexOfChar_4cfef_22 : decode cJ1_indexOfChar_4cfef 22 = .ok (.iload 5, 2) := by decide +kernel
theorem dJ1_indexOfChar_4cfef_24 : decode cJ1_indexOfChar_4cfef 24 = .ok (.ireturn, 1) := by decide +kernel
theorem dJ1_indexOfChar_4cfef_25 : decode cJ1_indexOfChar_4cfef 25 = .ok (.iinc 5 1, 3) := by decide +kernel
theorem dJ1_indexOfChar_4cfef_28 : decode cJ1_indexOfChar_4cfef 28 = .ok (.goto (-21), 3) := by decide +kernel
theorem dJ1_indexOfChar_4cfef_31 : decode cJ1_indexOfChar_4cfef 31 = .ok (.iconst (-1), 1) := by decide +kernel
theorem dJ1_indexOfChar_4cfef_32 : decode cJ1_indexOfChar_4cfef 32 = .ok (.ireturn, 1) := by decide +kernel
theorem dJ2_getChar_3b067_0 : decode cJ2_getChar_3b067 0 = .ok (.getstatic 44, 3) := by decide +kernel
theorem dJ2_getChar_3b067_3 : decode cJ2_getChar_3b067 3 = .ok (.ifCond .ne 25, 3) := by decide +kernel
theorem dJ2_getChar_3b067_6 : decode cJ2_getChar_3b067 6 = .ok (.iload_n 1, 1) := by decide +kernel
theorem dJ2_getChar_3b067_7 : decode cJ2_getChar_3b067 7 = .ok (.ifCond .lt 11, 3) := by decide +kernel
theorem dJ2_getChar_3b067_10 : decode cJ2_getChar_3b067 10 = .ok (.iload_n 1, 1) := by decide +kernel
theorem dJ2_getChar_3b067_11 : decode cJ2_getChar_3b067 11 = .ok (.aload_n 0, 1) := by decide +kernel
theorem dJ2_getChar_3b067_12 : decode cJ2_getChar_3b067 12 = .ok (.invokestatic 48, 3) := by decide +kernel
theorem dJ2_getChar_3b067_15 : decode cJ2_getChar_3b067 15 = .ok (.if_icmp .lt 13, 3) := by decide +kernel
theorem dJ2_getChar_3b067_18 : decode cJ2_getChar_3b067 18 = .ok (.new 52, 3) := by decide +kernel
theorem dJ2_getChar_3b067_21 : decode cJ2_getChar_3b067 21 = .ok (.dup, 1) := by decide +kernel
theorem dJ2_getChar_3b067_22 : decode cJ2_getChar_3b067 22 = .ok (.ldc 54, 2) := by decide +kernel
theorem dJ2_getChar_3b067_24 : decode cJ2_getChar_3b067 24 = .ok (.invokespecial 56, 3) := by decide +kernel
theorem dJ2_getChar_3b067_27 : decode cJ2_getChar_3b067 27 = .ok (.athrow, 1) := by decide +kernel
theorem dJ2_getChar_3b067_28 : decode cJ2_getChar_3b067 28 = .ok (.iload_n 1, 1) := by decide +kernel
theorem dJ2_getChar_3b067_29 : decode cJ2_getChar_3b067 29 = .ok (.iconst 1, 1) := by decide +kernel
theorem dJ2_getChar_3b067_30 : decode cJ2_getChar_3b067 30 = .ok (.ishl, 1) := by decide +kernel
theorem dJ2_getChar_3b067_31 : decode cJ2_getChar_3b067 31 = .ok (.istore_n 1, 1) := by decide +kernel
theorem dJ2_getChar_3b067_32 : decode cJ2_getChar_3b067 32 = .ok (.aload_n 0, 1) := by decide +kernel
theorem dJ2_getChar_3b067_33 : decode cJ2_getChar_3b067 33 = .ok (.iload_n 1, 1) := by decide +kernel
theorem dJ2_getChar_3b067_34 : decode cJ2_getChar_3b067 34 = .ok (.iinc 1 1, 3) := by decide +kernel
theorem dJ2_getChar_3b067_37 : decode cJ2_getChar_3b067 37 = .ok (.baload, 1) := by decide +kernel
theorem dJ2_getChar_3b067_38 : decode cJ2_getChar_3b067 38 = .ok (.sipush 255, 3) := by decide +kernel
theorem dJ2_getChar_3b067_41 : decode cJ2_getChar_3b067 41 = .ok (.iand, 1) := by decide +kernel
theorem dJ2_getChar_3b067_42 : decode cJ2_getChar_3b067 42 = .ok (.getstatic 59, 3) := by decide +kernel
theorem dJ2_getChar_3b067_45 : decode cJ2_getChar_3b067 45 = .ok (.ishl, 1) := by decide +kernel
theorem dJ2_getChar_3b067_46 : decode cJ2_getChar_3b067 46 = .ok (.aload_n 0, 1) := by decide +kernel
theorem dJ2_getChar_3b067_47 : decode cJ2_getChar_3b067 47 = .ok (.iload_n 1, 1) := by decide +kernel
theorem dJ2_getChar_3b067_48 : decode cJ2_getChar_3b067 48 = .ok (.baload, 1) := by decide +kernel
theorem dJ2_getChar_3b067_49 : decode cJ2_getChar_3b067 49 = .ok (.sipush 255, 3) := by decide +kernel
theorem dJ2_getChar_3b067_52 : decode cJ2_getChar_3b067 52 = .ok (.iand, 1) := by decide +kernel
theorem dJ2_getChar_3b067_53 : decode cJ2_getChar_3b067 53 = .ok (.getstatic 63, 3) := by decide +kernel
theorem dJ2_getChar_3b067_56 : decode cJ2_getChar_3b067 56 = .ok (.ishl, 1) := by decide +kernel
theorem dJ2_getChar_3b067_57 : decode cJ2_getChar_3b067 57 = .ok (.ior, 1) := by decide +kernel
theorem dJ2_getChar_3b067_58 : decode cJ2_getChar_3b067 58 = .ok (.i2c, 1) := by decide +kernel
theorem dJ2_getChar_3b067_59 : decode cJ2_getChar_3b067 59 = .ok (.ireturn, 1) := by decide +kernel
theorem dJ2_length_9d52b_0 : decode cJ2_length_9d52b 0 = .ok (.aload_n 0, 1) := by decide +kernel
theorem dJ2_length_9d52b_1 : decode cJ2_length_9d52b 1 = .ok (.arraylength, 1) := by decide +kernel
theorem dJ2_length_9d52b_2 : decode cJ2_length_9d52b 2 = .ok (.iconst 1, 1) := by decide +kernel
theorem dJ2_length_9d52b_3 : decode cJ2_length_9d52b 3 = .ok (.ishr, 1) := by decide +kernel
theorem dJ2_length_9d52b_4 : decode cJ2_length_9d52b 4 = .ok (.ireturn, 1) := by decide +kernel
theorem dJ2_indexOf_4cfef_0 : decode cJ2_indexOf_4cfef 0 = .ok (.iload_n 2, 1) := by decide +kernel
theorem dJ2_indexOf_4cfef_1 : decode cJ2_indexOf_4cfef 1 = .ok (.iconst 0, 1) := by decide +kernel
theorem dJ2_indexOf_4cfef_2 : decode cJ2_indexOf_4cfef 2 = .ok (.invokestatic 224, 3) := by decide +kernel
theorem dJ2_indexOf_4cfef_5 : decode cJ2_indexOf_4cfef 5 = .ok (.istore_n 2, 1) := by decide +kernel
theorem dJ2_indexOf_4cfef_6 : decode cJ2_indexOf_4cfef 6 = .ok (.iload_n 3, 1) := by decide +kernel
theorem dJ2_indexOf_4cfef_7 : decode cJ2_indexOf_4cfef 7 = .ok (.aload_n 0, 1) := by decide +kernel
theorem dJ2_indexOf_4cfef_8 : decode cJ2_indexOf_4cfef 8 = .ok (.arraylength, 1) := by decide +kernel
theorem dJ2_indexOf_4cfef_9 : decode cJ2_indexOf_4cfef 9 = .ok (.iconst 1, 1) := by decide +kernel
theorem dJ2_indexOf_4cfef_10 : decode cJ2_indexOf_4cfef 10 = .ok (.ishr, 1) := by decide +kernel
theorem dJ2_indexOf_4cfef_11 : decode cJ2_indexOf_4cfef 11 = .ok (.invokestatic 183, 3) := by decide +kernel
theorem dJ2_indexOf_4cfef_14 : decode cJ2_indexOf_4cfef 14 = .ok (.istore_n 3, 1) := by decide +kernel
theorem dJ2_indexOf_4cfef_15 : decode cJ2_indexOf_4cfef 15 = .ok (.iload_n 2, 1) := by decide +kernel
theorem dJ2_indexOf_4cfef_16 : decode cJ2_indexOf_4cfef 16 = .ok (.iload_n 3, 1) := by decide +kernel
theorem dJ2_indexOf_4cfef_17 : decode cJ2_indexOf_4cfef 17 = .ok (.if_icmp .lt 5, 3) := by decide +kernel
theorem dJ2_indexOf_4cfef_20 : decode cJ2_indexOf_4cfef 20 = .ok (.iconst (-1), 1) := by decide +kernel
theorem dJ2_indexOf_4cfef_21 : decode cJ2_indexOf_4cfef 21 = .ok (.ireturn, 1) := by decide +kernel
theorem dJ2_indexOf_4cfef_22 : decode cJ2_indexOf_4cfef 22 = .ok (.iload_n 1, 1) := by decide +kernel
theorem dJ2_indexOf_4cfef_23 : decode cJ2_indexOf_4cfef 23 = .ok (.ldc 227, 2) := by decide +kernel
theorem dJ2_indexOf_4cfef_25 : decode cJ2_indexOf_4cfef 25 = .ok (.if_icmp .ge 11, 3) := by decide +kernel
theorem dJ2_indexOf_4cfef_28 : decode cJ2_indexOf_4cfef 28 = .ok (.aload_n 0, 1) := by decide +kernel
theorem dJ2_indexOf_4cfef_29 : decode cJ2_indexOf_4cfef 29 = .ok (.iload_n 1, 1) := by decide +kernel
theorem dJ2_indexOf_4cfef_30 : decode cJ2_indexOf_4cfef 30 = .ok (.iload_n 2, 1) := by decide +kernel
theorem dJ2_indexOf_4cfef_31 : decode cJ2_indexOf_4cfef 31 = .ok (.iload_n 3, 1) := by decide +kernel
theorem dJ2_indexOf_4cfef_32 : decode cJ2_indexOf_4cfef 32 = .ok (.invokestatic 228, 3) := by decide +kernel
theorem dJ2_indexOf_4cfef_35 : decode cJ2_indexOf_4cfef 35 = .ok (.ireturn, 1) := by decide +kernel
theorem dJ2_indexOf_4cfef_36 : decode cJ2_indexOf_4cfef 36 = .ok (.aload_n 0, 1) := by decide +kernel
theorem dJ2_indexOf_4cfef_37 : decode cJ2_indexOf_4cfef 37 = .ok (.iload_n 1, 1) := by decide +kernel
theorem dJ2_indexOf_4cfef_38 : decode cJ2_indexOf_4cfef 38 = .ok (.iload_n 2, 1) := by decide +kernel
theorem dJ2_indexOf_4cfef_39 : decode cJ2_indexOf_4cfef 39 = .ok (.iload_n 3, 1) := by decide +kernel
theorem dJ2_indexOf_4cfef_40 : decode cJ2_indexOf_4cfef 40 = .ok (.invokestatic 232, 3) := by decide +kernel
theorem dJ2_indexOf_4cfef_43 : decode cJ2_indexOf_4cfef 43 = .ok (.ireturn, 1) := by decide +kernel
theorem dJ2_indexOfChar_4cfef_0 : decode cJ2_indexOfChar_4cfef 0 = .ok (.iload_n 2, 1) := by decide +kernel
theorem dJ2_indexOfChar_4cfef_1 : decode cJ2_indexOfChar_4cfef 1 = .ok (.iload_n 3, 1) := by decide +kernel
theorem dJ2_indexOfChar_4cfef_2 : decode cJ2_indexOfChar_4cfef 2 = .ok (.aload_n 0, 1) := by decide +kernel
theorem dJ2_indexOfChar_4cfef_3 : decode cJ2_indexOfChar_4cfef 3 = .ok (.invokestatic 96, 3) := by decide +kernel
theorem dJ2_indexOfChar_4cfef_6 : decode cJ2_indexOfChar_4cfef 6 = .ok (.aload_n 0, 1) := by decide +kernel
theorem dJ2_indexOfChar_4cfef_7 : decode cJ2_indexOfChar_4cfef 7 = .ok (.iload_n 1, 1) := by decide +kernel
theorem dJ2_indexOfChar_4cfef_8 : decode cJ2_indexOfChar_4cfef 8 = .ok (.iload_n 2, 1) := by decide +kernel
theorem dJ2_indexOfChar_4cfef_9 : decode cJ2_indexOfChar_4cfef 9 = .ok (.iload_n 3, 1) := by decide +kernel
theorem dJ2_indexOfChar_4cfef_10 : decode cJ2_indexOfChar_4cfef 10 = .ok (.invokestatic 244, 3) := by decide +kernel
theorem dJ2_indexOfChar_4cfef_13 : decode cJ2_indexOfChar_4cfef 13 = .ok (.ireturn, 1) := by decide +kernel
theorem dJ2_indexOfCharUnsafe_4cfef_0 : decode cJ2_indexOfCharUnsafe_4cfef 0 = .ok (.iload_n 2, 1) := by decide +kernel
theorem dJ2_indexOfCharUnsafe_4cfef_1 : decode cJ2_indexOfCharUnsafe_4cfef 1 = .ok (.istore 4, 2) := by decide +kernel
theorem dJ2_indexOfCharUnsafe_4cfef_3 : decode cJ2_indexOfCharUnsafe_4cfef 3 = .ok (.iload 4, 2) := by decide +kernel
theorem dJ2_indexOfCharUnsafe_4cfef_5 : decode cJ2_indexOfCharUnsafe_4cfef 5 = .ok (.iload_n 3, 1) := by decide +kernel
theorem dJ2_indexOfCharUnsafe_4cfef_6 : decode cJ2_indexOfCharUnsafe_4cfef 6 = .ok (.if_icmp .ge 22, 3) := by decide +kernel
theorem dJ2_indexOfCharUnsafe_4cfef_9 : decode cJ2_indexOfCharUnsafe_4cfef 9 = .ok (.aload_n 0, 1) := by decide +kernel
theorem dJ2_indexOfCharUnsafe_4cfef_10 : decode cJ2_indexOfCharUnsafe_4cfef 10 = .ok (.iload 4, 2) := by decide +kernel
theorem dJ2_indexOfCharUnsafe_4cfef_12 : decode cJ2_indexOfCharUnsafe_4cfef 12 = .ok (.invokestatic 71, 3) := by decide +kernel
theorem dJ2_indexOfCharUnsafe_4cfef_15 : decode cJ2_indexOfCharUnsafe_4cfef 15 = .ok (.iload_n 1, 1) := by decide +kernel
theorem dJ2_indexOfCharUnsafe_4cfef_16 : decode cJ2_indexOfCharUnsafe_4cfef 16 = .ok (.if_icmp .ne 6, 3) := by decide +kernel
theorem dJ2_indexOfCharUnsafe_4cfef_19 : decode cJ2_indexOfCharUnsafe_4cfef 19 = .ok (.iload 4, 2) := by decide +kernel
theorem dJ2_indexOfCharUnsafe_4cfef_21 : decode cJ2_indexOfCharUnsafe_4cfef 21 = .ok (.ireturn, 1) := by decide +kernel
theorem dJ2_indexOfCharUnsafe_4cfef_22 : decode cJ2_indexOfCharUnsafe_4cfef 22 = .ok (.iinc 4 1, 3) := by decide +kernel
theorem dJ2_indexOfCharUnsafe_4cfef_25 : decode cJ2_indexOfCharUnsafe_4cfef 25 = .ok (.goto (-22), 3) := by decide +kernel
theorem dJ2_indexOfCharUnsafe_4cfef_28 : decode cJ2_indexOfCharUnsafe_4cfef 28 = .ok (.iconst (-1), 1) := by decide +kernel
theorem dJ2_indexOfCharUnsafe_4cfef_29 : decode cJ2_indexOfCharUnsafe_4cfef 29 = .ok (.ireturn, 1) := by decide +kernel
theorem dJ2_indexOfSupplementary_4cfef_0 : decode cJ2_indexOfSupplementary_4cfef 0 = .ok (.iload_n 1, 1) := by decide +kernel
theorem dJ2_indexOfSupplementary_4cfef_1 : decode cJ2_indexOfSupplementary_4cfef 1 = .ok (.invokestatic 164, 3) := by decide +kernel
theorem dJ2_indexOfSupplementary_4cfef_4 : decode cJ2_indexOfSupplementary_4cfef 4 = .ok (.ifCond .eq 65, 3) := by decide +kernel
theorem dJ2_indexOfSupplementary_4cfef_7 : decode cJ2_indexOfSupplementary_4cfef 7 = .ok (.iload_n 1, 1) := by decide +kernel
theorem dJ2_indexOfSupplementary_4cfef_8 : decode cJ2_indexOfSupplementary_4cfef 8 = .ok (.invokestatic 157, 3) := by decide +kernel
theorem dJ2_indexOfSupplementary_4cfef_11 : decode cJ2_indexOfSupplementary_4cfef 11 = .ok (.istore 4, 2) := by decide +kernel
theorem dJ2_indexOfSupplementary_4cfef_13 : decode cJ2_indexOfSupplementary_4cfef 13 = .ok (.iload_n 1, 1) := by decide +kernel
theorem dJ2_indexOfSupplementary_4cfef_14 : decode cJ2_indexOfSupplementary_4cfef 14 = .ok (.invokestatic 161, 3) := by decide +kernel
theorem dJ2_indexOfSupplementary_4cfef_17 : decode cJ2_indexOfSupplementary_4cfef 17 = .ok (.istore 5, 2) := by decide +kernel
theorem dJ2_indexOfSupplementary_4cfef_19 : decode cJ2_indexOfSupplementary_4cfef 19 = .ok (.iload_n 2, 1) := by decide +kernel
theorem dJ2_indexOfSupplementary_4cfef_20 : decode cJ2_indexOfSupplementary_4cfef 20 = .ok (.iload_n 3, 1) := by decide +kernel
theorem dJ2_indexOfSupplementary_4cfef_21 : decode cJ2_indexOfSupplementary_4cfef 21 = .ok (.aload_n 0, 1) := by decide +kernel
theorem dJ2_indexOfSupplementary_4cfef_22 : decode cJ2_indexOfSupplementary_4cfef 22 = .ok (.invokestatic 96, 3) := by decide +kernel
theorem dJ2_indexOfSupplementary_4cfef_25 : decode cJ2_indexOfSupplementary_4cfef 25 = .ok (.iload_n 2, 1) := by decide +kernel
theorem dJ2_indexOfSupplementary_4cfef_26 : decode cJ2_indexOfSupplementary_4cfef 26 = .ok (.istore 6, 2) := by decide +kernel
theorem dJ2_indexOfSupplementary_4cfef_28 : decode cJ2_indexOfSupplementary_4cfef 28 = .ok (.iload 6, 2) := by decide +kernel
theorem dJ2_indexOfSupplementary_4cfef_30 : decode cJ2_indexOfSupplementary_4cfef 30 = .ok (.iload_n 3, 1) := by decide +kernel
theorem dJ2_indexOfSupplementary_4cfef_31 : decode cJ2_indexOfSupplementary_4cfef 31 = .ok (.iconst 1, 1) := by decide +kernel
theorem dJ2_indexOfSupplementary_4cfef_32 : decode cJ2_indexOfSupplementary_4cfef 32 = .ok (.isub, 1) := by decide +kernel
theorem dJ2_indexOfSupplementary_4cfef_33 : decode cJ2_indexOfSupplementary_4cfef 33 = .ok (.if_icmp .ge 36, 3) := by decide +kernel
theorem dJ2_indexOfSupplementary_4cfef_36 : decode cJ2_indexOfSupplementary_4cfef 36 = .ok (.aload_n 0, 1) := by decide +kernel
theorem dJ2_indexOfSupplementary_4cfef_37 : decode cJ2_indexOfSupplementary_4cfef 37 = .ok (.iload 6, 2) := by decide +kernel
theorem dJ2_indexOfSupplementary_4cfef_39 : decode cJ2_indexOfSupplementary_4cfef 39 = .ok (.invokestatic 71, 3) := by decide +kernel
theorem dJ2_indexOfSupplementary_4cfef_42 : decode cJ2_indexOfSupplementary_4cfef 42 = .ok (.iload 4, 2) := by decide +kernel
theorem dJ2_indexOfSupplementary_4cfef_44 : decode cJ2_indexOfSupplementary_4cfef 44 = .ok (.if_icmp .ne 19, 3) := by decide +kernel
theorem dJ2_indexOfSupplementary_4cfef_47 : decode cJ2_indexOfSupplementary_4cfef 47 = .ok (.aload_n 0, 1) := by decide +kernel
theorem dJ2_indexOfSupplementary_4cfef_48 : decode cJ2_indexOfSupplementary_4cfef 48 = .ok (.iload 6, 2) := by decide +kernel
theorem dJ2_indexOfSupplementary_4cfef_50 : decode cJ2_indexOfSupplementary_4cfef 50 = .ok (.iconst 1, 1) := by decide +kernel
theorem dJ2_indexOfSupplementary_4cfef_51 : decode cJ2_indexOfSupplementary_4cfef 51 = .ok (.iadd, 1) := by decide +kernel
theorem dJ2_indexOfSupplementary_4cfef_52 : decode cJ2_indexOfSupplementary_4cfef 52 = .ok (.invokestatic 71, 3) := by decide +kernel
theorem dJ2_indexOfSupplementary_4cfef_55 : decode cJ2_indexOfSupplementary_4cfef 55 = .ok (.iload 5, 2) := by decide +kernel
theorem dJ2_indexOfSupplementary_4cfef_57 : decode cJ2_indexOfSupplementary_4cfef 57 = .ok (.if_icmp .ne 6, 3) := by decide +kernel
theorem dJ2_indexOfSupplementary_4cfef_60 : decode cJ2_indexOfSupplementary_4cfef 60 = .ok (.iload 6, 2) := by decide +kernel
theorem dJ2_indexOfSupplementary_4cfef_62 : decode cJ2_indexOfSupplementary_4cfef 62 = .ok (.ireturn, 1) := by decide +kernel
theorem dJ2_indexOfSupplementary_4cfef_63 : decode cJ2_indexOfSupplementary_4cfef 63 = .ok (.iinc 6 1, 3) := by decide +kernel
theorem dJ2_indexOfSupplementary_4cfef_66 : decode cJ2_indexOfSupplementary_4cfef 66 = .ok (.goto (-38), 3) := by decide +kernel
theorem dJ2_indexOfSupplementary_4cfef_69 : decode cJ2_indexOfSupplementary_4cfef 69 = .ok (.iconst (-1), 1) := by decide +kernel
theorem dJ2_indexOfSupplementary_4cfef_70 : decode cJ2_indexOfSupplementary_4cfef 70 = .ok (.ireturn, 1) := by decide +kernel
theorem dJ2_charAt_3b067_0 : decode cJ2_charAt_3b067 0 = .ok (.iload_n 1, 1) := by decide +kernel
theorem dJ2_charAt_3b067_1 : decode cJ2_charAt_3b067 1 = .ok (.aload_n 0, 1) := by decide +kernel
theorem dJ2_charAt_3b067_2 : decode cJ2_charAt_3b067 2 = .ok (.invokestatic 67, 3) := by decide +kernel
theorem dJ2_charAt_3b067_5 : decode cJ2_charAt_3b067 5 = .ok (.aload_n 0, 1) := by decide +kernel
theorem dJ2_charAt_3b067_6 : decode cJ2_charAt_3b067 6 = .ok (.iload_n 1, 1) := by decide +kernel
theorem dJ2_charAt_3b067_7 : decode cJ2_charAt_3b067 7 = .ok (.invokestatic 71, 3) := by decide +kernel
theorem dJ2_charAt_3b067_10 : decode cJ2_charAt_3b067 10 = .ok (.ireturn, 1) := by decide +kernel
theorem dJ2_checkIndex_2214a_0 : decode cJ2_checkIndex_2214a 0 = .ok (.iload_n 0, 1) := by decide +kernel
theorem dJ2_checkIndex_2214a_1 : decode cJ2_checkIndex_2214a 1 = .ok (.aload_n 1, 1) := by decide +kernel
theorem dJ2_checkIndex_2214a_2 : decode cJ2_checkIndex_2214a 2 = .ok (.invokestatic 48, 3) := by decide +kernel
theorem dJ2_checkIndex_2214a_5 : decode cJ2_checkIndex_2214a 5 = .ok (.invokestatic 414, 3) := by decide +kernel
theorem dJ2_checkIndex_2214a_8 : decode cJ2_checkIndex_2214a 8 = .ok (.return_, 1) := by decide +kernel
theorem dJ2_checkBoundsBeginEnd_d044e_0 : decode cJ2_checkBoundsBeginEnd_d044e 0 = .ok (.iload_n 0, 1) := by decide +kernel
theorem dJ2_checkBoundsBeginEnd_d044e_1 : decode cJ2_checkBoundsBeginEnd_d044e 1 = .ok (.iload_n 1, 1) := by decide +kernel
theorem dJ2_checkBoundsBeginEnd_d044e_2 : decode cJ2_checkBoundsBeginEnd_d044e 2 = .ok (.aload_n 2, 1) := by decide +kernel
theorem dJ2_checkBoundsBeginEnd_d044e_3 : decode cJ2_checkBoundsBeginEnd_d044e 3 = .ok (.invokestatic 48, 3) := by decide +kernel
theorem dJ2_checkBoundsBeginEnd_d044e_6 : decode cJ2_checkBoundsBeginEnd_d044e 6 = .ok (.invokestatic 241, 3) := by decide +kernel
theorem dJ2_checkBoundsBeginEnd_d044e_9 : decode cJ2_checkBoundsBeginEnd_d044e 9 = .ok (.return_, 1) := by decide +kernel
theorem dJ7_fill_53178_0 : decode cJ7_fill_53178 0 = .ok (.iconst 0, 1) := by decide +kernel
theorem dJ7_fill_53178_1 : decode cJ7_fill_53178 1 = .ok (.istore_n 2, 1) := by decide +kernel
theorem dJ7_fill_53178_2 : decode cJ7_fill_53178 2 = .ok (.aload_n 0, 1) := by decide +kernel
theorem dJ7_fill_53178_3 : decode cJ7_fill_53178 3 = .ok (.arraylength, 1) := by decide +kernel
theorem dJ7_fill_53178_4 : decode cJ7_fill_53178 4 = .ok (.istore_n 3, 1) := by decide +kernel
theorem dJ7_fill_53178_5 : decode cJ7_fill_53178 5 = .ok (.iload_n 2, 1) := by decide +kernel
theorem dJ7_fill_53178_6 : decode cJ7_fill_53178 6 = .ok (.iload_n 3, 1) := by decide +kernel
theorem dJ7_fill_53178_7 : decode cJ7_fill_53178 7 = .ok (.if_icmp .ge 13, 3) := by decide +kernel
theorem dJ7_fill_53178_10 : decode cJ7_fill_53178 10 = .ok (.aload_n 0, 1) := by decide +kernel
theorem dJ7_fill_53178_11 : decode cJ7_fill_53178 11 = .ok (.iload_n 2, 1) := by decide +kernel
theorem dJ7_fill_53178_12 : decode cJ7_fill_53178 12 = .ok (.iload_n 1, 1) := by decide +kernel
theorem dJ7_fill_53178_13 : decode cJ7_fill_53178 13 = .ok (.iastore, 1) := by decide +kernel
theorem dJ7_fill_53178_14 : decode cJ7_fill_53178 14 = .ok (.iinc 2 1, 3) := by decide +kernel
theorem dJ7_fill_53178_17 : decode cJ7_fill_53178 17 = .ok (.goto (-12), 3) := by decide +kernel
theorem dJ7_fill_53178_20 : decode cJ7_fill_53178 20 = .ok (.return_, 1) := by decide +kernel
theorem dJ3_checkIndex_8e157_0 : decode cJ3_checkIndex_8e157 0 = .ok (.iload_n 0, 1) := by decide +kernel
theorem dJ3_checkIndex_8e157_1 : decode cJ3_checkIndex_8e157 1 = .ok (.ifCond .lt 8, 3) := by decide +kernel
theorem dJ3_checkIndex_8e157_4 : decode cJ3_checkIndex_8e157 4 = .ok (.iload_n 0, 1) := by decide +kernel
theorem dJ3_checkIndex_8e157_5 : decode cJ3_checkIndex_8e157 5 = .ok (.iload_n 1, 1) := by decide +kernel
theorem dJ3_checkIndex_8e157_6 : decode cJ3_checkIndex_8e157 6 = .ok (.if_icmp .lt 10, 3) := by decide +kernel
theorem dJ3_checkIndex_8e157_9 : decode cJ3_checkIndex_8e157 9 = .ok (.aload_n 2, 1) := by decide +kernel
theorem dJ3_checkIndex_8e157_10 : decode cJ3_checkIndex_8e157 10 = .ok (.iload_n 0, 1) := by decide +kernel
theorem dJ3_checkIndex_8e157_11 : decode cJ3_checkIndex_8e157 11 = .ok (.iload_n 1, 1) := by decide +kernel
theorem dJ3_checkIndex_8e157_12 : decode cJ3_checkIndex_8e157 12 = .ok (.invokestatic 95, 3) := by decide +kernel
theorem dJ3_checkIndex_8e157_15 : decode cJ3_checkIndex_8e157 15 = .ok (.athrow, 1) := by decide +kernel
theorem dJ3_checkIndex_8e157_16 : decode cJ3_checkIndex_8e157 16 = .ok (.iload_n 0, 1) := by decide +kernel
theorem dJ3_checkIndex_8e157_17 : decode cJ3_checkIndex_8e157 17 = .ok (.ireturn, 1) := by decide +kernel
theorem dJ3_checkFromToIndex_8c36e_0 : decode cJ3_checkFromToIndex_8c36e 0 = .ok (.iload_n 0, 1) := by decide +kernel
theorem dJ3_checkFromToIndex_8c36e_1 : decode cJ3_checkFromToIndex_8c36e 1 = .ok (.ifCond .lt 13, 3) := by decide +kernel
theorem dJ3_checkFromToIndex_8c36e_4 : decode cJ3_checkFromToIndex_8c36e 4 = .ok (.iload_n 0, 1) := by decide +kernel
theorem dJ3_checkFromToIndex_8c36e_5 : decode cJ3_checkFromToIndex_8c36e 5 = .ok (.iload_n 1, 1) := by decide +kernel
theorem dJ3_checkFromToIndex_8c36e_6 : decode cJ3_checkFromToIndex_8c36e 6 = .ok (.if_icmp .gt 8, 3) := by decide +kernel
theorem dJ3_checkFromToIndex_8c36e_9 : decode cJ3_checkFromToIndex_8c36e 9 = .ok (.iload_n 1, 1) := by decide +kernel
theorem dJ3_checkFromToIndex_8c36e_10 : decode cJ3_checkFromToIndex_8c36e 10 = .ok (.iload_n 2, 1) := by decide +kernel
theorem dJ3_checkFromToIndex_8c36e_11 : decode cJ3_checkFromToIndex_8c36e 11 = .ok (.if_icmp .le 11, 3) := by decide +kernel
theorem dJ3_checkFromToIndex_8c36e_14 : decode cJ3_checkFromToIndex_8c36e 14 = .ok (.aload_n 3, 1) := by decide +kernel
theorem dJ3_checkFromToIndex_8c36e_15 : decode cJ3_checkFromToIndex_8c36e 15 = .ok (.iload_n 0, 1) := by decide +kernel
theorem dJ3_checkFromToIndex_8c36e_16 : decode cJ3_checkFromToIndex_8c36e 16 = .ok (.iload_n 1, 1) := by decide +kernel
theorem dJ3_checkFromToIndex_8c36e_17 : decode cJ3_checkFromToIndex_8c36e 17 = .ok (.iload_n 2, 1) := by decide +kernel
theorem dJ3_checkFromToIndex_8c36e_18 : decode cJ3_checkFromToIndex_8c36e 18 = .ok (.invokestatic 99, 3) := by decide +kernel
theorem dJ3_checkFromToIndex_8c36e_21 : decode cJ3_checkFromToIndex_8c36e 21 = .ok (.athrow, 1) := by decide +kernel
theorem dJ3_checkFromToIndex_8c36e_22 : decode cJ3_checkFromToIndex_8c36e 22 = .ok (.iload_n 0, 1) := by decide +kernel
theorem dJ3_checkFromToIndex_8c36e_23 : decode cJ3_checkFromToIndex_8c36e 23 = .ok (.ireturn, 1) := by decide +kernel
