theorem dX10_next0_0 : decode cX10_next0 0 = .ok (.aload_n 0, 1) := by decide +kernel
theorem dX10_next0_1 : decode cX10_next0 1 = .ok (.aload_n 0, 1) := by decide +kernel
theorem dX10_next0_2 : decode cX10_next0 2 = .ok (.getfield 173, 3) := by decide +kernel
theorem dX10_next0_5 : decode cX10_next0 5 = .ok (.invokevirtual 218, 3) := by decide +kernel
theorem dX10_next0_8 : decode cX10_next0 8 = .ok (.bipush 32, 2) := by decide +kernel
theorem dX10_next0_10 : decode cX10_next0 10 = .ok (.if_icmp .eq 16, 3) := by decide +kernel
theorem dX10_next0_13 : decode cX10_next0 13 = .ok (.aload_n 0, 1) := by decide +kernel
theorem dX10_next0_14 : decode cX10_next0 14 = .ok (.aload_n 0, 1) := by decide +kernel
theorem dX10_next0_15 : decode cX10_next0 15 = .ok (.getfield 173, 3) := by decide +kernel
theorem dX10_next0_18 : decode cX10_next0 18 = .ok (.invokevirtual 218, 3) := by decide +kernel
theorem dX10_next0_21 : decode cX10_next0 21 = .ok (.bipush 10, 2) := by decide +kernel
theorem dX10_next0_23 : decode cX10_next0 23 = .ok (.if_icmp .ne 16, 3) := by decide +kernel
theorem dX10_next0_26 : decode cX10_next0 26 = .ok (.aload_n 0, 1) := by decide +kernel
theorem dX10_next0_27 : decode cX10_next0 27 = .ok (.dup, 1) := by decide +kernel
theorem dX10_next0_28 : decode cX10_next0 28 = .ok (.getfield 173, 3) := by decide +kernel
theorem dX10_next0_31 : decode cX10_next0 31 = .ok (.iconst 1, 1) := by decide +kernel
theorem dX10_next0_32 : decode cX10_next0 32 = .ok (.iadd, 1) := by decide +kernel
theorem dX10_next0_33 : decode cX10_next0 33 = .ok (.putfield 173, 3) := by decide +kernel
theorem dX10_next0_36 : decode cX10_next0 36 = .ok (.goto (-36), 3) := by decide +kernel
theorem dX10_next0_39 : decode cX10_next0 39 = .ok (.aload_n 0, 1) := by decide +kernel
theorem dX10_next0_40 : decode cX10_next0 40 = .ok (.aload_n 0, 1) := by decide +kernel
theorem dX10_next0_41 : decode cX10_next0 41 = .ok (.getfield 173, 3) := by decide +kernel
theorem dX10_next0_44 : decode cX10_next0 44 = .ok (.putfield 176, 3) := by decide +kernel
theorem dX10_next0_47 : decode cX10_next0 47 = .ok (.aload_n 0, 1) := by decide +kernel
theorem dX10_next0_48 : decode cX10_next0 48 = .ok (.aload_n 0, 1) := by decide +kernel
theorem dX10_next0_49 : decode cX10_next0 49 = .ok (.getfield 173, 3) := by decide +kernel
theorem dX10_next0_52 : decode cX10_next0 52 = .ok (.invokevirtual 218, 3) := by decide +kernel
theorem dX10_next0_55 : decode cX10_next0 55 = .ok (.istore_n 1, 1) := by decide +kernel
theorem dX10_next0_56 : decode cX10_next0 56 = .ok (.iload_n 1, 1) := by decide +kernel
theorem dX10_next0_57 : decode cX10_next0 57 = .ok (.iconst (-1), 1) := by decide +kernel
theorem dX10_next0_58 : decode cX10_next0 58 = .ok (.if_icmp .ne 11, 3) := by decide +kernel
theorem dX10_next0_61 : decode cX10_next0 61 = .ok (.aload_n 0, 1) := by decide +kernel
theorem dX10_next0_62 : decode cX10_next0 62 = .ok (.iconst 0, 1) := by decide +kernel
theorem dX10_next0_63 : decode cX10_next0 63 = .ok (.putfield 221, 3) := by decide +kernel
theorem dX10_next0_66 : decode cX10_next0 66 = .ok (.goto 240, 3) := by decide +kernel
theorem dX10_next0_69 : decode cX10_next0 69 = .ok (.iload_n 1, 1) := by decide +kernel
theorem dX10_next0_70 : decode cX10_next0 70 = .ok (.invokestatic 224, 3) := by decide +kernel
theorem dX10_next0_73 : decode cX10_next0 73 = .ok (.ifCond .eq 41, 3) := by decide +kernel
theorem dX10_next0_76 : decode cX10_next0 76 = .ok (.aload_n 0, 1) := by decide +kernel
theorem dX10_next0_77 : decode cX10_next0 77 = .ok (.aload_n 0, 1) := by decide +kernel
theorem dX10_next0_78 : decode cX10_next0 78 = .ok (.getfield 173, 3) := by decide +kernel
theorem dX10_next0_81 : decode cX10_next0 81 = .ok (.invokevirtual 218, 3) := by decide +kernel
theorem dX10_next0_84 : decode cX10_next0 84 = .ok (.invokestatic 224, 3) := by decide +kernel
theorem dX10_next0_87 : decode cX10_next0 87 = .ok (.ifCond .eq 16, 3) := by decide +kernel
theorem dX10_next0_90 : decode cX10_next0 90 = .ok (.aload_n 0, 1) := by decide +kernel
theorem dX10_next0_91 : decode cX10_next0 91 = .ok (.dup, 1) := by decide +kernel
theorem dX10_next0_92 : decode cX10_next0 92 = .ok (.getfield 173, 3) := by decide +kernel
theorem dX10_next0_95 : decode cX10_next0 95 = .ok (.iconst 1, 1) := by decide +kernel
theorem dX10_next0_96 : decode cX10_next0 96 = .ok (.iadd, 1) := by decide +kernel
theorem dX10_next0_97 : decode cX10_next0 97 = .ok (.putfield 173, 3) := by decide +kernel
theorem dX10_next0_100 : decode cX10_next0 100 = .ok (.goto (-24), 3) := by decide +kernel
theorem dX10_next0_103 : decode cX10_next0 103 = .ok (.aload_n 0, 1) := by decide +kernel
theorem dX10_next0_104 : decode cX10_next0 104 = .ok (.aload_n 0, 1) := by decide +kernel
theorem dX10_next0_105 : decode cX10_next0 105 = .ok (.invokevirtual 227, 3) := by decide +kernel
theorem dX10_next0_108 : decode cX10_next0 108 = .ok (.putfield 221, 3) := by decide +kernel
theorem dX10_next0_111 : decode cX10_next0 111 = .ok (.goto 195, 3) := by decide +kernel
theorem dX10_next0_114 : decode cX10_next0 114 = .ok (.iload_n 1, 1) := by decide +kernel
theorem dX10_next0_115 : decode cX10_next0 115 = .ok (.invokestatic 230, 3) := by decide +kernel
theorem dX10_next0_118 : decode cX10_next0 118 = .ok (.ifCond .eq 96, 3) := by decide +kernel
theorem dX10_next0_121 : decode cX10_next0 121 = .ok (.aload_n 0, 1) := by decide +kernel
theorem dX10_next0_122 : decode cX10_next0 122 = .ok (.iconst 0, 1) := by decide +kernel
theorem dX10_next0_123 : decode cX10_next0 123 = .ok (.putfield 233, 3) := by decide +kernel
theorem dX10_next0_126 : decode cX10_next0 126 = .ok (.aload_n 0, 1) := by decide +kernel
theorem dX10_next0_127 : decode cX10_next0 127 = .ok (.aload_n 0, 1) := by decide +kernel
theorem dX10_next0_128 : decode cX10_next0 128 = .ok (.getfield 173, 3) := by decide +kernel
theorem dX10_next0_131 : decode cX10_next0 131 = .ok (.invokevirtual 218, 3) := by decide +kernel
theorem dX10_next0_134 : decode cX10_next0 134 = .ok (.invokestatic 230, 3) := by decide +kernel
theorem dX10_next0_137 : decode cX10_next0 137 = .ok (.ifCond .eq 52, 3) := by decide +kernel
theorem dX10_next0_140 : decode cX10_next0 140 = .ok (.aload_n 0, 1) := by decide +kernel
theorem dX10_next0_141 : decode cX10_next0 141 = .ok (.getfield 173, 3) := by decide +kernel
theorem dX10_next0_144 : decode cX10_next0 144 = .ok (.aload_n 0, 1) := by decide +kernel
theorem dX10_next0_145 : decode cX10_next0 145 = .ok (.getfield 176, 3) := by decide +kernel
theorem dX10_next0_148 : decode cX10_next0 148 = .ok (.iconst 4, 1) := by decide +kernel
theorem dX10_next0_149 : decode cX10_next0 149 = .ok (.iadd, 1) := by decide +kernel
theorem dX10_next0_150 : decode cX10_next0 150 = .ok (.if_icmp .ge 26, 3) := by decide +kernel
theorem dX10_next0_153 : decode cX10_next0 153 = .ok (.aload_n 0, 1) := by decide +kernel
theorem dX10_next0_154 : decode cX10_next0 154 = .ok (.bipush 10, 2) := by decide +kernel
theorem dX10_next0_156 : decode cX10_next0 156 = .ok (.aload_n 0, 1) := by decide +kernel
theorem dX10_next0_157 : decode cX10_next0 157 = .ok (.getfield 233, 3) := by decide +kernel
theorem dX10_next0_160 : decode cX10_next0 160 = .ok (.imul, 1) := by decide +kernel
theorem dX10_next0_161 : decode cX10_next0 161 = .ok (.aload_n 0, 1) := by decide +kernel
theorem dX10_next0_162 : decode cX10_next0 162 = .ok (.aload_n 0, 1) := by decide +kernel
theorem dX10_next0_163 : decode cX10_next0 163 = .ok (.getfield 173, 3) := by decide +kernel
theorem dX10_next0_166 : decode cX10_next0 166 = .ok (.invokevirtual 218, 3) := by decide +kernel
theorem dX10_next0_169 : decode cX10_next0 169 = .ok (.iadd, 1) := by decide +kernel
theorem dX10_next0_170 : decode cX10_next0 170 = .ok (.bipush 48, 2) := by decide +kernel
theorem dX10_next0_172 : decode cX10_next0 172 = .ok (.isub, 1) := by decide +kernel
theorem dX10_next0_173 : decode cX10_next0 173 = .ok (.putfield 233, 3) := by decide +kernel
theorem dX10_next0_176 : decode cX10_next0 176 = .ok (.aload_n 0, 1) := by decide +kernel
theorem dX10_next0_177 : decode cX10_next0 177 = .ok (.dup, 1) := by decide +kernel
theorem dX10_next0_178 : decode cX10_next0 178 = .ok (.getfield 173, 3) := by decide +kernel
theorem dX10_next0_181 : decode cX10_next0 181 = .ok (.iconst 1, 1) := by decide +kernel
theorem dX10_next0_182 : decode cX10_next0 182 = .ok (.iadd, 1) := by decide +kernel
theorem dX10_next0_183 : decode cX10_next0 183 = .ok (.putfield 173, 3) := by decide +kernel
theorem dX10_next0_186 : decode cX10_next0 186 = .ok (.goto (-60), 3) := by decide +kernel
theorem dX10_next0_189 : decode cX10_next0 189 = .ok (.aload_n 0, 1) := by decide +kernel
theorem dX10_next0_190 : decode cX10_next0 190 = .ok (.aload_n 0, 1) := by decide +kernel
theorem dX10_next0_191 : decode cX10_next0 191 = .ok (.getfield 173, 3) := by decide +kernel
theorem dX10_next0_194 : decode cX10_next0 194 = .ok (.aload_n 0, 1) := by decide +kernel
theorem dX10_next0_195 : decode cX10_next0 195 = .ok (.getfield 176, 3) := by decide +kernel
theorem dX10_next0_198 : decode cX10_next0 198 = .ok (.isub, 1) := by decide +kernel
theorem dX10_next0_199 : decode cX10_next0 199 = .ok (.iconst 5, 1) := by decide +kernel
theorem dX10_next0_200 : decode cX10_next0 200 = .ok (.if_icmp .ge 7, 3) := by decide +kernel
theorem dX10_next0_203 : decode cX10_next0 203 = .ok (.iconst 2, 1) := by decide +kernel
theorem dX10_next0_204 : decode cX10_next0 204 = .ok (.goto 4, 3) := by decide +kernel
theorem dX10_next0_207 : decode cX10_next0 207 = .ok (.iconst 1, 1) := by decide +kernel
theorem dX10_next0_208 : decode cX10_next0 208 = .ok (.putfield 221, 3) := by decide +kernel
theorem dX10_next0_211 : decode cX10_next0 211 = .ok (.goto 95, 3) := by decide +kernel
theorem dX10_next0_214 : decode cX10_next0 214 = .ok (.aload_n 0, 1) := by decide +kernel
theorem dX10_next0_215 : decode cX10_next0 215 = .ok (.dup, 1) := by decide +kernel
theorem dX10_next0_216 : decode cX10_next0 216 = .ok (.getfield 173, 3) := by decide +kernel
theorem dX10_next0_219 : decode cX10_next0 219 = .ok (.iconst 1, 1) := by decide +kernel
theorem dX10_next0_220 : decode cX10_next0 220 = .ok (.iadd, 1) := by decide +kernel
theorem dX10_next0_221 : decode cX10_next0 221 = .ok (.putfield 173, 3) := by decide +kernel
theorem dX10_next0_224 : decode cX10_next0 224 = .ok (.iload_n 1, 1) := by decide +kernel
theorem dX10_next0_225 : decode cX10_next0 225 = .ok (.bipush 59, 2) := by decide +kernel
theorem dX10_next0_227 : decode cX10_next0 227 = .ok (.if_icmp .eq 57, 3) := by decide +kernel
theorem dX10_next0_230 : decode cX10_next0 230 = .ok (.iload_n 1, 1) := by decide +kernel
theorem dX10_next0_231 : decode cX10_next0 231 = .ok (.bipush 43, 2) := by decide +kernel
theorem dX10_next0_233 : decode cX10_next0 233 = .ok (.if_icmp .eq 51, 3) := by decide +kernel
theorem dX10_next0_236 : decode cX10_next0 236 = .ok (.iload_n 1, 1) := by decide +kernel
theorem dX10_next0_237 : decode cX10_next0 237 = .ok (.bipush 45, 2) := by decide +kernel
theorem dX10_next0_239 : decode cX10_next0 239 = .ok (.if_icmp .eq 45, 3) := by decide +kernel
theorem dX10_next0_242 : decode cX10_next0 242 = .ok (.iload_n 1, 1) := by decide +kernel
theorem dX10_next0_243 : decode cX10_next0 243 = .ok (.bipush 42, 2) := by decide +kernel
theorem dX10_next0_245 : decode cX10_next0 245 = .ok (.if_icmp .eq 39, 3) := by decide +kernel
theorem dX10_next0_248 : decode cX10_next0 248 = .ok (.iload_n 1, 1) := by decide +kernel
theorem dX10_next0_249 : decode cX10_next0 249 = .ok (.bipush 47, 2) := by decide +kernel
theorem dX10_next0_251 : decode cX10_next0 251 = .ok (.if_icmp .eq 33, 3) := by decide +kernel
theorem dX10_next0_254 : decode cX10_next0 254 = .ok (.iload_n 1, 1) := by decide +kernel
theorem dX10_next0_255 : decode cX10_next0 255 = .ok (.bipush 40, 2) := by decide +kernel
theorem dX10_next0_257 : decode cX10_next0 257 = .ok (.if_icmp .eq 27, 3) := by decide +kernel
theorem dX10_next0_260 : decode cX10_next0 260 = .ok (.iload_n 1, 1) := by decide +kernel
theorem dX10_next0_261 : decode cX10_next0 261 = .ok (.bipush 41, 2) := by decide +kernel
theorem dX10_next0_263 : decode cX10_next0 263 = .ok (.if_icmp .eq 21, 3) := by decide +kernel
theorem dX10_next0_266 : decode cX10_next0 266 = .ok (.iload_n 1, 1) := by decide +kernel
theorem dX10_next0_267 : decode cX10_next0 267 = .ok (.bipush 60, 2) := by decide +kernel
theorem dX10_next0_269 : decode cX10_next0 269 = .ok (.if_icmp .eq 15, 3) := by decide +kernel
theorem dX10_next0_272 : decode cX10_next0 272 = .ok (.iload_n 1, 1) := by decide +kernel
theorem dX10_next0_273 : decode cX10_next0 273 = .ok (.bipush 61, 2) := by decide +kernel
theorem dX10_next0_275 : decode cX10_next0 275 = .ok (.if_icmp .eq 9, 3) := by decide +kernel
theorem dX10_next0_278 : decode cX10_next0 278 = .ok (.iload_n 1, 1) := by decide +kernel
theorem dX10_next0_279 : decode cX10_next0 279 = .ok (.bipush 62, 2) := by decide +kernel
theorem dX10_next0_281 : decode cX10_next0 281 = .ok (.if_icmp .ne 7, 3) := by decide +kernel
theorem dX10_next0_284 : decode cX10_next0 284 = .ok (.iconst 1, 1) := by decide +kernel
theorem dX10_next0_285 : decode cX10_next0 285 = .ok (.goto 4, 3) := by decide +kernel
theorem dX10_next0_288 : decode cX10_next0 288 = .ok (.iconst 0, 1) := by decide +kernel
theorem dX10_next0_289 : decode cX10_next0 289 = .ok (.istore_n 2, 1) := by decide +kernel
theorem dX10_next0_290 : decode cX10_next0 290 = .ok (.aload_n 0, 1) := by decide +kernel
theorem dX10_next0_291 : decode cX10_next0 291 = .ok (.iload_n 2, 1) := by decide +kernel
theorem dX10_next0_292 : decode cX10_next0 292 = .ok (.ifCond .eq 10, 3) := by decide +kernel
theorem dX10_next0_295 : decode cX10_next0 295 = .ok (.bipush 100, 2) := by decide +kernel
theorem dX10_next0_297 : decode cX10_next0 297 = .ok (.iload_n 1, 1) := by decide +kernel
theorem dX10_next0_298 : decode cX10_next0 298 = .ok (.iadd, 1) := by decide +kernel
theorem dX10_next0_299 : decode cX10_next0 299 = .ok (.goto 4, 3) := by decide +kernel
theorem dX10_next0_302 : decode cX10_next0 302 = .ok (.iconst 1, 1) := by decide +kernel
theorem dX10_next0_303 : decode cX10_next0 303 = .ok (.putfield 221, 3) := by decide +kernel
theorem dX10_next0_306 : decode cX10_next0 306 = .ok (.return_, 1) := by decide +kernel
theorem dX10_bad_0 : decode cX10_bad 0 = .ok (.aload_n 0, 1) := by decide +kernel
theorem dX10_bad_1 : decode cX10_bad 1 = .ok (.iload_n 1, 1) := by decide +kernel
theorem dX10_bad_2 : decode cX10_bad 2 = .ok (.putfield 236, 3) := by decide +kernel
theorem dX10_bad_5 : decode cX10_bad 5 = .ok (.aload_n 0, 1) := by decide +kernel
theorem dX10_bad_6 : decode cX10_bad 6 = .ok (.aload_n 0, 1) := by decide +kernel
theorem dX10_bad_7 : decode cX10_bad 7 = .ok (.getfield 176, 3) := by decide +kernel
theorem dX10_bad_10 : decode cX10_bad 10 = .ok (.putfield 239, 3) := by decide +kernel
theorem dX10_bad_13 : decode cX10_bad 13 = .ok (.iconst 0, 1) := by decide +kernel
theorem dX10_bad_14 : decode cX10_bad 14 = .ok (.ireturn, 1) := by decide +kernel
theorem dX10_need_0 : decode cX10_need 0 = .ok (.aload_n 0, 1) := by decide +kernel
theorem dX10_need_1 : decode cX10_need 1 = .ok (.getfield 221, 3) := by decide +kernel
theorem dX10_need_4 : decode cX10_need 4 = .ok (.iload_n 1, 1) := by decide +kernel
theorem dX10_need_5 : decode cX10_need 5 = .ok (.if_icmp .eq 9, 3) := by decide +kernel
theorem dX10_need_8 : decode cX10_need 8 = .ok (.aload_n 0, 1) := by decide +kernel
theorem dX10_need_9 : decode cX10_need 9 = .ok (.iconst 1, 1) := by decide +kernel
theorem dX10_need_10 : decode cX10_need 10 = .ok (.invokevirtual 242, 3) := by decide +kernel
theorem dX10_need_13 : decode cX10_need 13 = .ok (.ireturn, 1) := by decide +kernel
theorem dX10_need_14 : decode cX10_need 14 = .ok (.aload_n 0, 1) := by decide +kernel
theorem dX10_need_15 : decode cX10_need 15 = .ok (.invokevirtual 245, 3) := by decide +kernel
theorem dX10_need_18 : decode cX10_need 18 = .ok (.iconst 1, 1) := by decide +kernel
theorem dX10_need_19 : decode cX10_need 19 = .ok (.ireturn, 1) := by decide +kernel
theorem dX10_lay_0 : decode cX10_lay 0 = .ok (.aload_n 0, 1) := by decide +kernel
theorem dX10_lay_1 : decode cX10_lay 1 = .ok (.getfield 40, 3) := by decide +kernel
theorem dX10_lay_4 : decode cX10_lay 4 = .ok (.iconst 2, 1) := by decide +kernel
theorem dX10_lay_5 : decode cX10_lay 5 = .ok (.aload_n 0, 1) := by decide +kernel
theorem dX10_lay_6 : decode cX10_lay 6 = .ok (.getfield 248, 3) := by decide +kernel
theorem dX10_lay_9 : decode cX10_lay 9 = .ok (.imul, 1) := by decide +kernel
theorem dX10_lay_10 : decode cX10_lay 10 = .ok (.iload_n 1, 1) := by decide +kernel
theorem dX10_lay_11 : decode cX10_lay 11 = .ok (.iastore, 1) := by decide +kernel
theorem dX10_lay_12 : decode cX10_lay 12 = .ok (.aload_n 0, 1) := by decide +kernel
theorem dX10_lay_13 : decode cX10_lay 13 = .ok (.getfield 40, 3) := by decide +kernel
theorem dX10_lay_16 : decode cX10_lay 16 = .ok (.iconst 2, 1) := by decide +kernel
theorem dX10_lay_17 : decode cX10_lay 17 = .ok (.aload_n 0, 1) := by decide +kernel
theorem dX10_lay_18 : decode cX10_lay 18 = .ok (.getfield 248, 3) := by decide +kernel
theorem dX10_lay_21 : decode cX10_lay 21 = .ok (.imul, 1) := by decide +kernel
theorem dX10_lay_22 : decode cX10_lay 22 = .ok (.iconst 1, 1) := by decide +kernel
theorem dX10_lay_23 : decode cX10_lay 23 = .ok (.iadd, 1) := by decide +kernel
theorem dX10_lay_24 : decode cX10_lay 24 = .ok (.iload_n 2, 1) := by decide +kernel
theorem dX10_lay_25 : decode cX10_lay 25 = .ok (.iastore, 1) := by decide +kernel
theorem dX10_lay_26 : decode cX10_lay 26 = .ok (.aload_n 0, 1) := by decide +kernel
theorem dX10_lay_27 : decode cX10_lay 27 = .ok (.dup, 1) := by decide +kernel
theorem dX10_lay_28 : decode cX10_lay 28 = .ok (.getfield 248, 3) := by decide +kernel
theorem dX10_lay_31 : decode cX10_lay 31 = .ok (.iconst 1, 1) := by decide +kernel
theorem dX10_lay_32 : decode cX10_lay 32 = .ok (.iadd, 1) := by decide +kernel
theorem dX10_lay_33 : decode cX10_lay 33 = .ok (.putfield 248, 3) := by decide +kernel
theorem dX10_lay_36 : decode cX10_lay 36 = .ok (.return_, 1) := by decide +kernel
theorem dX10_opens_0 : decode cX10_opens 0 = .ok (.aload_n 0, 1) := by decide +kernel
theorem dX10_opens_1 : decode cX10_opens 1 = .ok (.getfield 251, 3) := by decide +kernel
theorem dX10_opens_4 : decode cX10_opens 4 = .ok (.bipush 8, 2) := by decide +kernel
theorem dX10_opens_6 : decode cX10_opens 6 = .ok (.if_icmp .ne 9, 3) := by decide +kernel
theorem dX10_opens_9 : decode cX10_opens 9 = .ok (.aload_n 0, 1) := by decide +kernel
theorem dX10_opens_10 : decode cX10_opens 10 = .ok (.iconst 3, 1) := by decide +kernel
theorem dX10_opens_11 : decode cX10_opens 11 = .ok (.invokevirtual 242, 3) := by decide +kernel
theorem dX10_opens_14 : decode cX10_opens 14 = .ok (.ireturn, 1) := by decide +kernel
theorem dX10_opens_15 : decode cX10_opens 15 = .ok (.aload_n 0, 1) := by decide +kernel
theorem dX10_opens_16 : decode cX10_opens 16 = .ok (.dup, 1) := by decide +kernel
theorem dX10_opens_17 : decode cX10_opens 17 = .ok (.getfield 251, 3) := by decide +kernel
theorem dX10_opens_20 : decode cX10_opens 20 = .ok (.iconst 1, 1) := by decide +kernel
theorem dX10_opens_21 : decode cX10_opens 21 = .ok (.iadd, 1) := by decide +kernel
theorem dX10_opens_22 : decode cX10_opens 22 = .ok (.putfield 251, 3) := by decide +kernel
theorem dX10_opens_25 : decode cX10_opens 25 = .ok (.aload_n 0, 1) := by decide +kernel
theorem dX10_opens_26 : decode cX10_opens 26 = .ok (.invokevirtual 245, 3) := by decide +kernel
theorem dX10_opens_29 : decode cX10_opens 29 = .ok (.iconst 1, 1) := by decide +kernel
theorem dX10_opens_30 : decode cX10_opens 30 = .ok (.ireturn, 1) := by decide +kernel
theorem dX10_sumUp_0 : decode cX10_sumUp 0 = .ok (.aload_n 0, 1) := by decide +kernel
theorem dX10_sumUp_1 : decode cX10_sumUp 1 = .ok (.invokevirtual 254, 3) := by decide +kernel
theorem dX10_sumUp_4 : decode cX10_sumUp 4 = .ok (.ifCond .ne 5, 3) := by decide +kernel
theorem dX10_sumUp_7 : decode cX10_sumUp 7 = .ok (.iconst 0, 1) := by decide +kernel
theorem dX10_sumUp_8 : decode cX10_sumUp 8 = .ok (.ireturn, 1) := by decide +kernel
theorem dX10_sumUp_9 : decode cX10_sumUp 9 = .ok (.aload_n 0, 1) := by decide +kernel
theorem dX10_sumUp_10 : decode cX10_sumUp 10 = .ok (.getfield 221, 3) := by decide +kernel
theorem dX10_sumUp_13 : decode cX10_sumUp 13 = .ok (.sipush 143, 3) := by decide +kernel
theorem dX10_sumUp_16 : decode cX10_sumUp 16 = .ok (.if_icmp .eq 13, 3) := by decide +kernel
theorem dX10_sumUp_19 : decode cX10_sumUp 19 = .ok (.aload_n 0, 1) := by decide +kernel
theorem dX10_sumUp_20 : decode cX10_sumUp 20 = .ok (.getfield 221, 3) := by decide +kernel
theorem dX10_sumUp_23 : decode cX10_sumUp 23 = .ok (.sipush 145, 3) := by decide +kernel
theorem dX10_sumUp_26 : decode cX10_sumUp 26 = .ok (.if_icmp .ne 43, 3) := by decide +kernel
theorem dX10_sumUp_29 : decode cX10_sumUp 29 = .ok (.aload_n 0, 1) := by decide +kernel
theorem dX10_sumUp_30 : decode cX10_sumUp 30 = .ok (.getfield 221, 3) := by decide +kernel
theorem dX10_sumUp_33 : decode cX10_sumUp 33 = .ok (.sipush 143, 3) := by decide +kernel
theorem dX10_sumUp_36 : decode cX10_sumUp 36 = .ok (.if_icmp .ne 8, 3) := by decide +kernel
theorem dX10_sumUp_39 : decode cX10_sumUp 39 = .ok (.bipush 13, 2) := by decide +kernel
theorem dX10_sumUp_41 : decode cX10_sumUp 41 = .ok (.goto 5, 3) := by decide +kernel
theorem dX10_sumUp_44 : decode cX10_sumUp 44 = .ok (.bipush 14, 2) := by decide +kernel
theorem dX10_sumUp_46 : decode cX10_sumUp 46 = .ok (.istore_n 1, 1) := by decide +kernel
theorem dX10_sumUp_47 : decode cX10_sumUp 47 = .ok (.aload_n 0, 1) := by decide +kernel
theorem dX10_sumUp_48 : decode cX10_sumUp 48 = .ok (.invokevirtual 245, 3) := by decide +kernel
theorem dX10_sumUp_51 : decode cX10_sumUp 51 = .ok (.aload_n 0, 1) := by decide +kernel
theorem dX10_sumUp_52 : decode cX10_sumUp 52 = .ok (.invokevirtual 254, 3) := by decide +kernel
theorem dX10_sumUp_55 : decode cX10_sumUp 55 = .ok (.ifCond .ne 5, 3) := by decide +kernel
theorem dX10_sumUp_58 : decode cX10_sumUp 58 = .ok (.iconst 0, 1) := by decide +kernel
theorem dX10_sumUp_59 : decode cX10_sumUp 59 = .ok (.ireturn, 1) := by decide +kernel
theorem dX10_sumUp_60 : decode cX10_sumUp 60 = .ok (.aload_n 0, 1) := by decide +kernel
theorem dX10_sumUp_61 : decode cX10_sumUp 61 = .ok (.iload_n 1, 1) := by decide +kernel
theorem dX10_sumUp_62 : decode cX10_sumUp 62 = .ok (.iconst 0, 1) := by decide +kernel
theorem dX10_sumUp_63 : decode cX10_sumUp 63 = .ok (.invokevirtual 258, 3) := by decide +kernel
theorem dX10_sumUp_66 : decode cX10_sumUp 66 = .ok (.goto (-57), 3) := by decide +kernel
theorem dX10_sumUp_69 : decode cX10_sumUp 69 = .ok (.iconst 1, 1) := by decide +kernel
theorem dX10_sumUp_70 : decode cX10_sumUp 70 = .ok (.ireturn, 1) := by decide +kernel
theorem dX10_product_0 : decode cX10_product 0 = .ok (.aload_n 0, 1) := by decide +kernel
theorem dX10_product_1 : decode cX10_product 1 = .ok (.invokevirtual 262, 3) := by decide +kernel
theorem dX10_product_4 : decode cX10_product 4 = .ok (.ifCond .ne 5, 3) := by decide +kernel
theorem dX10_product_7 : decode cX10_product 7 = .ok (.iconst 0, 1) := by decide +kernel
theorem dX10_product_8 : decode cX10_product 8 = .ok (.ireturn, 1) := by decide +kernel
theorem dX10_product_9 : decode cX10_product 9 = .ok (.aload_n 0, 1) := by decide +kernel
theorem dX10_product_10 : decode cX10_product 10 = .ok (.getfield 221, 3) := by decide +kernel
theorem dX10_product_13 : decode cX10_product 13 = .ok (.sipush 142, 3) := by decide +kernel
theorem dX10_product_16 : decode cX10_product 16 = .ok (.if_icmp .eq 13, 3) := by decide +kernel
theorem dX10_product_19 : decode cX10_product 19 = .ok (.aload_n 0, 1) := by decide +kernel
theorem dX10_product_20 : decode cX10_product 20 = .ok (.getfield 221, 3) := by decide +kernel
theorem dX10_product_23 : decode cX10_product 23 = .ok (.sipush 147, 3) := by decide +kernel
theorem dX10_product_26 : decode cX10_product 26 = .ok (.if_icmp .ne 89, 3) := by decide +kernel
theorem dX10_product_29 : decode cX10_product 29 = .ok (.aload_n 0, 1) := by decide +kernel
theorem dX10_product_30 : decode cX10_product 30 = .ok (.getfield 221, 3) := by decide +kernel
theorem dX10_product_33 : decode cX10_product 33 = .ok (.sipush 147, 3) := by decide +kernel
theorem dX10_product_36 : decode cX10_product 36 = .ok (.if_icmp .ne 7, 3) := by decide +kernel
theorem dX10_product_39 : decode cX10_product 39 = .ok (.iconst 1, 1) := by decide +kernel
theorem dX10_product_40 : decode cX10_product 40 = .ok (.goto 4, 3) := by decide +kernel
theorem dX10_product_43 : decode cX10_product 43 = .ok (.iconst 0, 1) := by decide +kernel
theorem dX10_product_44 : decode cX10_product 44 = .ok (.istore_n 1, 1) := by decide +kernel
theorem dX10_product_45 : decode cX10_product 45 = .ok (.aload_n 0, 1) := by decide +kernel
theorem dX10_product_46 : decode cX10_product 46 = .ok (.invokevirtual 245, 3) := by decide +kernel
theorem dX10_product_49 : decode cX10_product 49 = .ok (.iload_n 1, 1) := by decide +kernel
theorem dX10_product_50 : decode cX10_product 50 = .ok (.ifCond .eq 46, 3) := by decide +kernel
theorem dX10_product_53 : decode cX10_product 53 = .ok (.aload_n 0, 1) := by decide +kernel
theorem dX10_product_54 : decode cX10_product 54 = .ok (.getfield 233, 3) := by decide +kernel
theorem dX10_product_57 : decode cX10_product 57 = .ok (.istore_n 2, 1) := by decide +kernel
theorem dX10_product_58 : decode cX10_product 58 = .ok (.aload_n 0, 1) := by decide +kernel
theorem dX10_product_59 : decode cX10_product 59 = .ok (.getfield 221, 3) := by decide +kernel
theorem dX10_product_62 : decode cX10_product 62 = .ok (.iconst 2, 1) := by decide +kernel
theorem dX10_product_63 : decode cX10_product 63 = .ok (.if_icmp .eq 9, 3) := by decide +kernel
theorem dX10_product_66 : decode cX10_product 66 = .ok (.aload_n 0, 1) := by decide +kernel
theorem dX10_product_67 : decode cX10_product 67 = .ok (.iconst 1, 1) := by decide +kernel
theorem dX10_product_68 : decode cX10_product 68 = .ok (.invokevirtual 242, 3) := by decide +kernel
theorem dX10_product_71 : decode cX10_product 71 = .ok (.ireturn, 1) := by decide +kernel
theorem dX10_product_72 : decode cX10_product 72 = .ok (.iload_n 2, 1) := by decide +kernel
theorem dX10_product_73 : decode cX10_product 73 = .ok (.ifCond .ne 9, 3) := by decide +kernel
theorem dX10_product_76 : decode cX10_product 76 = .ok (.aload_n 0, 1) := by decide +kernel
theorem dX10_product_77 : decode cX10_product 77 = .ok (.iconst 2, 1) := by decide +kernel
theorem dX10_product_78 : decode cX10_product 78 = .ok (.invokevirtual 242, 3) := by decide +kernel
theorem dX10_product_81 : decode cX10_product 81 = .ok (.ireturn, 1) := by decide +kernel
theorem dX10_product_82 : decode cX10_product 82 = .ok (.aload_n 0, 1) := by decide +kernel
theorem dX10_product_83 : decode cX10_product 83 = .ok (.invokevirtual 245, 3) := by decide +kernel
theorem dX10_product_86 : decode cX10_product 86 = .ok (.aload_n 0, 1) := by decide +kernel
theorem dX10_product_87 : decode cX10_product 87 = .ok (.bipush 16, 2) := by decide +kernel
theorem dX10_product_89 : decode cX10_product 89 = .ok (.iload_n 2, 1) := by decide +kernel
theorem dX10_product_90 : decode cX10_product 90 = .ok (.invokevirtual 258, 3) := by decide +kernel
theorem dX10_product_93 : decode cX10_product 93 = .ok (.goto 19, 3) := by decide +kernel
theorem dX10_product_96 : decode cX10_product 96 = .ok (.aload_n 0, 1) := by decide +kernel
theorem dX10_product_97 : decode cX10_product 97 = .ok (.invokevirtual 262, 3) := by decide +kernel
theorem dX10_product_100 : decode cX10_product 100 = .ok (.ifCond .ne 5, 3) := by decide +kernel
theorem dX10_product_103 : decode cX10_product 103 = .ok (.iconst 0, 1) := by decide +kernel
theorem dX10_product_104 : decode cX10_product 104 = .ok (.ireturn, 1) := by decide +kernel
theorem dX10_product_105 : decode cX10_product 105 = .ok (.aload_n 0, 1) := by decide +kernel
theorem dX10_product_106 : decode cX10_product 106 = .ok (.bipush 15, 2) := by decide +kernel
theorem dX10_product_108 : decode cX10_product 108 = .ok (.iconst 0, 1) := by decide +kernel
theorem dX10_product_109 : decode cX10_product 109 = .ok (.invokevirtual 258, 3) := by decide +kernel
theorem dX10_product_112 : decode cX10_product 112 = .ok (.goto (-103), 3) := by decide +kernel
theorem dX10_product_115 : decode cX10_product 115 = .ok (.iconst 1, 1) := by decide +kernel
theorem dX10_product_116 : decode cX10_product 116 = .ok (.ireturn, 1) := by decide +kernel
theorem dX10_unit_0 : decode cX10_unit 0 = .ok (.aload_n 0, 1) := by decide +kernel
theorem dX10_unit_1 : decode cX10_unit 1 = .ok (.getfield 221, 3) := by decide +kernel
theorem dX10_unit_4 : decode cX10_unit 4 = .ok (.bipush 41, 2) := by decide +kernel
theorem dX10_unit_6 : decode cX10_unit 6 = .ok (.bipush 47, 2) := by decide +kernel
theorem dX10_unit_8 : decode cX10_unit 8 = .ok (.invokestatic 76, 3) := by decide +kernel
theorem dX10_unit_11 : decode cX10_unit 11 = .ok (.istore_n 1, 1) := by decide +kernel
theorem dX10_unit_12 : decode cX10_unit 12 = .ok (.aload_n 0, 1) := by decide +kernel
theorem dX10_unit_13 : decode cX10_unit 13 = .ok (.getfield 221, 3) := by decide +kernel
theorem dX10_unit_16 : decode cX10_unit 16 = .ok (.iconst 2, 1) := by decide +kernel
theorem dX10_unit_17 : decode cX10_unit 17 = .ok (.if_icmp .eq 13, 3) := by decide +kernel
theorem dX10_unit_20 : decode cX10_unit 20 = .ok (.iload_n 1, 1) := by decide +kernel
theorem dX10_unit_21 : decode cX10_unit 21 = .ok (.ifCond .ne 9, 3) := by decide +kernel
theorem dX10_unit_24 : decode cX10_unit 24 = .ok (.aload_n 0, 1) := by decide +kernel
theorem dX10_unit_25 : decode cX10_unit 25 = .ok (.iconst 1, 1) := by decide +kernel
theorem dX10_unit_26 : decode cX10_unit 26 = .ok (.invokevirtual 242, 3) := by decide +kernel
theorem dX10_unit_29 : decode cX10_unit 29 = .ok (.ireturn, 1) := by decide +kernel
theorem dX10_unit_30 : decode cX10_unit 30 = .ok (.aload_n 0, 1) := by decide +kernel
theorem dX10_unit_31 : decode cX10_unit 31 = .ok (.iload_n 1, 1) := by decide +kernel
theorem dX10_unit_32 : decode cX10_unit 32 = .ok (.ifCond .eq 13, 3) := by decide +kernel
theorem dX10_unit_35 : decode cX10_unit 35 = .ok (.aload_n 0, 1) := by decide +kernel
theorem dX10_unit_36 : decode cX10_unit 36 = .ok (.getfield 221, 3) := by decide +kernel
theorem dX10_unit_39 : decode cX10_unit 39 = .ok (.bipush 40, 2) := by decide +kernel
theorem dX10_unit_41 : decode cX10_unit 41 = .ok (.isub, 1) := by decide +kernel
theorem dX10_unit_42 : decode cX10_unit 42 = .ok (.goto 4, 3) := by decide +kernel
theorem dX10_unit_45 : decode cX10_unit 45 = .ok (.iconst 0, 1) := by decide +kernel
theorem dX10_unit_46 : decode cX10_unit 46 = .ok (.aload_n 0, 1) := by decide +kernel
theorem dX10_unit_47 : decode cX10_unit 47 = .ok (.getfield 233, 3) := by decide +kernel
theorem dX10_unit_50 : decode cX10_unit 50 = .ok (.invokevirtual 258, 3) := by decide +kernel
theorem dX10_unit_53 : decode cX10_unit 53 = .ok (.aload_n 0, 1) := by decide +kernel
theorem dX10_unit_54 : decode cX10_unit 54 = .ok (.invokevirtual 245, 3) := by decide +kernel
theorem dX10_unit_57 : decode cX10_unit 57 = .ok (.iconst 1, 1) := by decide +kernel
theorem dX10_unit_58 : decode cX10_unit 58 = .ok (.ireturn, 1) := by decide +kernel
theorem dX10_any_0 : decode cX10_any 0 = .ok (.aload_n 0, 1) := by decide +kernel
theorem dX10_any_1 : decode cX10_any 1 = .ok (.invokevirtual 265, 3) := by decide +kernel
theorem dX10_any_4 : decode cX10_any 4 = .ok (.ifCond .ne 5, 3) := by decide +kernel
theorem dX10_any_7 : decode cX10_any 7 = .ok (.iconst 0, 1) := by decide +kernel
theorem dX10_any_8 : decode cX10_any 8 = .ok (.ireturn, 1) := by decide +kernel
theorem dX10_any_9 : decode cX10_any 9 = .ok (.aload_n 0, 1) := by decide +kernel
theorem dX10_any_10 : decode cX10_any 10 = .ok (.getfield 221, 3) := by decide +kernel
theorem dX10_any_13 : decode cX10_any 13 = .ok (.iconst 4, 1) := by decide +kernel
theorem dX10_any_14 : decode cX10_any 14 = .ok (.if_icmp .ne 26, 3) := by decide +kernel
theorem dX10_any_17 : decode cX10_any 17 = .ok (.aload_n 0, 1) := by decide +kernel
theorem dX10_any_18 : decode cX10_any 18 = .ok (.invokevirtual 245, 3) := by decide +kernel
theorem dX10_any_21 : decode cX10_any 21 = .ok (.aload_n 0, 1) := by decide +kernel
theorem dX10_any_22 : decode cX10_any 22 = .ok (.invokevirtual 265, 3) := by decide +kernel
theorem dX10_any_25 : decode cX10_any 25 = .ok (.ifCond .ne 5, 3) := by decide +kernel
theorem dX10_any_28 : decode cX10_any 28 = .ok (.iconst 0, 1) := by decide +kernel
theorem dX10_any_29 : decode cX10_any 29 = .ok (.ireturn, 1) := by decide +kernel
theorem dX10_any_30 : decode cX10_any 30 = .ok (.aload_n 0, 1) := by decide +kernel
theorem dX10_any_31 : decode cX10_any 31 = .ok (.bipush 22, 2) := by decide +kernel
theorem dX10_any_33 : decode cX10_any 33 = .ok (.iconst 0, 1) := by decide +kernel
theorem dX10_any_34 : decode cX10_any 34 = .ok (.invokevirtual 258, 3) := by decide +kernel
theorem dX10_any_37 : decode cX10_any 37 = .ok (.goto (-28), 3) := by decide +kernel
theorem dX10_any_40 : decode cX10_any 40 = .ok (.iconst 1, 1) := by decide +kernel
theorem dX10_any_41 : decode cX10_any 41 = .ok (.ireturn, 1) := by decide +kernel
theorem dX10_every_0 : decode cX10_every 0 = .ok (.aload_n 0, 1) := by decide +kernel
theorem dX10_every_1 : decode cX10_every 1 = .ok (.invokevirtual 268, 3) := by decide +kernel
theorem dX10_every_4 : decode cX10_every 4 = .ok (.ifCond .ne 5, 3) := by decide +kernel
theorem dX10_every_7 : decode cX10_every 7 = .ok (.iconst 0, 1) := by decide +kernel
theorem dX10_every_8 : decode cX10_every 8 = .ok (.ireturn, 1) := by decide +kernel
theorem dX10_every_9 : decode cX10_every 9 = .ok (.aload_n 0, 1) := by decide +kernel
theorem dX10_every_10 : decode cX10_every 10 = .ok (.getfield 221, 3) := by decide +kernel
theorem dX10_every_13 : decode cX10_every 13 = .ok (.iconst 5, 1) := by decide +kernel
theorem dX10_every_14 : decode cX10_every 14 = .ok (.if_icmp .ne 26, 3) := by decide +kernel
theorem dX10_every_17 : decode cX10_every 17 = .ok (.aload_n 0, 1) := by decide +kernel
theorem dX10_every_18 : decode cX10_every 18 = .ok (.invokevirtual 245, 3) := by decide +kernel
theorem dX10_every_21 : decode cX10_every 21 = .ok (.aload_n 0, 1) := by decide +kernel
theorem dX10_every_22 : decode cX10_every 22 = .ok (.invokevirtual 268, 3) := by decide +kernel
theorem dX10_every_25 : decode cX10_every 25 = .ok (.ifCond .ne 5, 3) := by decide +kernel
theorem dX10_every_28 : decode cX10_every 28 = .ok (.iconst 0, 1) := by decide +kernel
theorem dX10_every_29 : decode cX10_every 29 = .ok (.ireturn, 1) := by decide +kernel
theorem dX10_every_30 : decode cX10_every 30 = .ok (.aload_n 0, 1) := by decide +kernel
theorem dX10_every_31 : decode cX10_every 31 = .ok (.bipush 21, 2) := by decide +kernel
theorem dX10_every_33 : decode cX10_every 33 = .ok (.iconst 0, 1) := by decide +kernel
theorem dX10_every_34 : decode cX10_every 34 = .ok (.invokevirtual 258, 3) := by decide +kernel
theorem dX10_every_37 : decode cX10_every 37 = .ok (.goto (-28), 3) := by decide +kernel
theorem dX10_every_40 : decode cX10_every 40 = .ok (.iconst 1, 1) := by decide +kernel
theorem dX10_every_41 : decode cX10_every 41 = .ok (.ireturn, 1) := by decide +kernel
theorem dX10_oneTest_0 : decode cX10_oneTest 0 = .ok (.aload_n 0, 1) := by decide +kernel
theorem dX10_oneTest_1 : decode cX10_oneTest 1 = .ok (.getfield 221, 3) := by decide +kernel
theorem dX10_oneTest_4 : decode cX10_oneTest 4 = .ok (.bipush 6, 2) := by decide +kernel
theorem dX10_oneTest_6 : decode cX10_oneTest 6 = .ok (.if_icmp .ne 38, 3) := by decide +kernel
theorem dX10_oneTest_9 : decode cX10_oneTest 9 = .ok (.aload_n 0, 1) := by decide +kernel
theorem dX10_oneTest_10 : decode cX10_oneTest 10 = .ok (.invokevirtual 271, 3) := by decide +kernel
theorem dX10_oneTest_13 : decode cX10_oneTest 13 = .ok (.ifCond .eq 10, 3) := by decide +kernel
theorem dX10_oneTest_16 : decode cX10_oneTest 16 = .ok (.aload_n 0, 1) := by decide +kernel
theorem dX10_oneTest_17 : decode cX10_oneTest 17 = .ok (.invokevirtual 268, 3) := by decide +kernel
theorem dX10_oneTest_20 : decode cX10_oneTest 20 = .ok (.ifCond .ne 5, 3) := by decide +kernel
theorem dX10_oneTest_23 : decode cX10_oneTest 23 = .ok (.iconst 0, 1) := by decide +kernel
theorem dX10_oneTest_24 : decode cX10_oneTest 24 = .ok (.ireturn, 1) := by decide +kernel
theorem dX10_oneTest_25 : decode cX10_oneTest 25 = .ok (.aload_n 0, 1) := by decide +kernel
theorem dX10_oneTest_26 : decode cX10_oneTest 26 = .ok (.dup, 1) := by decide +kernel
theorem dX10_oneTest_27 : decode cX10_oneTest 27 = .ok (.getfield 251, 3) := by decide +kernel
theorem dX10_oneTest_30 : decode cX10_oneTest 30 = .ok (.iconst 1, 1) := by decide +kernel
theorem dX10_oneTest_31 : decode cX10_oneTest 31 = .ok (.isub, 1) := by decide +kernel
theorem dX10_oneTest_32 : decode cX10_oneTest 32 = .ok (.putfield 251, 3) := by decide +kernel
theorem dX10_oneTest_35 : decode cX10_oneTest 35 = .ok (.aload_n 0, 1) := by decide +kernel
theorem dX10_oneTest_36 : decode cX10_oneTest 36 = .ok (.bipush 20, 2) := by decide +kernel
theorem dX10_oneTest_38 : decode cX10_oneTest 38 = .ok (.iconst 0, 1) := by decide +kernel
theorem dX10_oneTest_39 : decode cX10_oneTest 39 = .ok (.invokevirtual 258, 3) := by decide +kernel
theorem dX10_oneTest_42 : decode cX10_oneTest 42 = .ok (.iconst 1, 1) := by decide +kernel
theorem dX10_oneTest_43 : decode cX10_oneTest 43 = .ok (.ireturn, 1) := by decide +kernel
theorem dX10_oneTest_44 : decode cX10_oneTest 44 = .ok (.aload_n 0, 1) := by decide +kernel
theorem dX10_oneTest_45 : decode cX10_oneTest 45 = .ok (.getfield 221, 3) := by decide +kernel
theorem dX10_oneTest_48 : decode cX10_oneTest 48 = .ok (.sipush 140, 3) := by decide +kernel
theorem dX10_oneTest_51 : decode cX10_oneTest 51 = .ok (.if_icmp .ne 41, 3) := by decide +kernel
theorem dX10_oneTest_54 : decode cX10_oneTest 54 = .ok (.aload_n 0, 1) := by decide +kernel
theorem dX10_oneTest_55 : decode cX10_oneTest 55 = .ok (.invokevirtual 271, 3) := by decide +kernel
theorem dX10_oneTest_58 : decode cX10_oneTest 58 = .ok (.ifCond .eq 20, 3) := by decide +kernel
theorem dX10_oneTest_61 : decode cX10_oneTest 61 = .ok (.aload_n 0, 1) := by decide +kernel
theorem dX10_oneTest_62 : decode cX10_oneTest 62 = .ok (.invokevirtual 274, 3) := by decide +kernel
theorem dX10_oneTest_65 : decode cX10_oneTest 65 = .ok (.ifCond .eq 13, 3) := by decide +kernel
theorem dX10_oneTest_68 : decode cX10_oneTest 68 = .ok (.aload_n 0, 1) := by decide +kernel
theorem dX10_oneTest_69 : decode cX10_oneTest 69 = .ok (.sipush 141, 3) := by decide +kernel
theorem dX10_oneTest_72 : decode cX10_oneTest 72 = .ok (.invokevirtual 277, 3) := by decide +kernel
theorem dX10_oneTest_75 : decode cX10_oneTest 75 = .ok (.ifCond .ne 5, 3) := by decide +kernel
theorem dX10_oneTest_78 : decode cX10_oneTest 78 = .ok (.iconst 0, 1) := by decide +kernel
theorem dX10_oneTest_79 : decode cX10_oneTest 79 = .ok (.ireturn, 1) := by decide +kernel
theorem dX10_oneTest_80 : decode cX10_oneTest 80 = .ok (.aload_n 0, 1) := by decide +kernel
theorem dX10_oneTest_81 : decode cX10_oneTest 81 = .ok (.dup, 1) := by decide +kernel
theorem dX10_oneTest_82 : decode cX10_oneTest 82 = .ok (.getfield 251, 3) := by decide +kernel
theorem dX10_oneTest_85 : decode cX10_oneTest 85 = .ok (.iconst 1, 1) := by decide +kernel
theorem dX10_oneTest_86 : decode cX10_oneTest 86 = .ok (.isub, 1) := by decide +kernel
theorem dX10_oneTest_87 : decode cX10_oneTest 87 = .ok (.putfield 251, 3) := by decide +kernel
theorem dX10_oneTest_90 : decode cX10_oneTest 90 = .ok (.iconst 1, 1) := by decide +kernel
theorem dX10_oneTest_91 : decode cX10_oneTest 91 = .ok (.ireturn, 1) := by decide +kernel
theorem dX10_oneTest_92 : decode cX10_oneTest 92 = .ok (.aload_n 0, 1) := by decide +kernel
theorem dX10_oneTest_93 : decode cX10_oneTest 93 = .ok (.invokevirtual 280, 3) := by decide +kernel
theorem dX10_oneTest_96 : decode cX10_oneTest 96 = .ok (.ifCond .ne 5, 3) := by decide +kernel
theorem dX10_oneTest_99 : decode cX10_oneTest 99 = .ok (.iconst 0, 1) := by decide +kernel
theorem dX10_oneTest_100 : decode cX10_oneTest 100 = .ok (.ireturn, 1) := by decide +kernel
theorem dX10_oneTest_101 : decode cX10_oneTest 101 = .ok (.aload_n 0, 1) := by decide +kernel
theorem dX10_oneTest_102 : decode cX10_oneTest 102 = .ok (.getfield 221, 3) := by decide +kernel
theorem dX10_oneTest_105 : decode cX10_oneTest 105 = .ok (.sipush 160, 3) := by decide +kernel
theorem dX10_oneTest_108 : decode cX10_oneTest 108 = .ok (.if_icmp .ne 8, 3) := by decide +kernel
theorem dX10_oneTest_111 : decode cX10_oneTest 111 = .ok (.bipush 17, 2) := by decide +kernel
theorem dX10_oneTest_113 : decode cX10_oneTest 113 = .ok (.goto 34, 3) := by decide +kernel
theorem dX10_oneTest_116 : decode cX10_oneTest 116 = .ok (.aload_n 0, 1) := by decide +kernel
theorem dX10_oneTest_117 : decode cX10_oneTest 117 = .ok (.getfield 221, 3) := by decide +kernel
theorem dX10_oneTest_120 : decode cX10_oneTest 120 = .ok (.sipush 161, 3) := by decide +kernel
theorem dX10_oneTest_123 : decode cX10_oneTest 123 = .ok (.if_icmp .ne 8, 3) := by decide +kernel
theorem dX10_oneTest_126 : decode cX10_oneTest 126 = .ok (.bipush 18, 2) := by decide +kernel
theorem dX10_oneTest_128 : decode cX10_oneTest 128 = .ok (.goto 19, 3) := by decide +kernel
theorem dX10_oneTest_131 : decode cX10_oneTest 131 = .ok (.aload_n 0, 1) := by decide +kernel
theorem dX10_oneTest_132 : decode cX10_oneTest 132 = .ok (.getfield 221, 3) := by decide +kernel
theorem dX10_oneTest_135 : decode cX10_oneTest 135 = .ok (.sipush 162, 3) := by decide +kernel
theorem dX10_oneTest_138 : decode cX10_oneTest 138 = .ok (.if_icmp .ne 8, 3) := by decide +kernel
theorem dX10_oneTest_141 : decode cX10_oneTest 141 = .ok (.bipush 19, 2) := by decide +kernel
theorem dX10_oneTest_143 : decode cX10_oneTest 143 = .ok (.goto 4, 3) := by decide +kernel
theorem dX10_oneTest_146 : decode cX10_oneTest 146 = .ok (.iconst (-1), 1) := by decide +kernel
theorem dX10_oneTest_147 : decode cX10_oneTest 147 = .ok (.istore_n 1, 1) := by decide +kernel
theorem dX10_oneTest_148 : decode cX10_oneTest 148 = .ok (.iload_n 1, 1) := by decide +kernel
theorem dX10_oneTest_149 : decode cX10_oneTest 149 = .ok (.iconst (-1), 1) := by decide +kernel
theorem dX10_oneTest_150 : decode cX10_oneTest 150 = .ok (.if_icmp .ne 9, 3) := by decide +kernel
theorem dX10_oneTest_153 : decode cX10_oneTest 153 = .ok (.aload_n 0, 1) := by decide +kernel
theorem dX10_oneTest_154 : decode cX10_oneTest 154 = .ok (.iconst 1, 1) := by decide +kernel
theorem dX10_oneTest_155 : decode cX10_oneTest 155 = .ok (.invokevirtual 242, 3) := by decide +kernel
theorem dX10_oneTest_158 : decode cX10_oneTest 158 = .ok (.ireturn, 1) := by decide +kernel
theorem dX10_oneTest_159 : decode cX10_oneTest 159 = .ok (.aload_n 0, 1) := by decide +kernel
theorem dX10_oneTest_160 : decode cX10_oneTest 160 = .ok (.invokevirtual 245, 3) := by decide +kernel
theorem dX10_oneTest_163 : decode cX10_oneTest 163 = .ok (.aload_n 0, 1) := by decide +kernel
theorem dX10_oneTest_164 : decode cX10_oneTest 164 = .ok (.invokevirtual 280, 3) := by decide +kernel
theorem dX10_oneTest_167 : decode cX10_oneTest 167 = .ok (.ifCond .ne 5, 3) := by decide +kernel
theorem dX10_oneTest_170 : decode cX10_oneTest 170 = .ok (.iconst 0, 1) := by decide +kernel
theorem dX10_oneTest_171 : decode cX10_oneTest 171 = .ok (.ireturn, 1) := by decide +kernel
theorem dX10_oneTest_172 : decode cX10_oneTest 172 = .ok (.aload_n 0, 1) := by decide +kernel
theorem dX10_oneTest_173 : decode cX10_oneTest 173 = .ok (.iload_n 1, 1) := by decide +kernel
theorem dX10_oneTest_174 : decode cX10_oneTest 174 = .ok (.iconst 0, 1) := by decide +kernel
theorem dX10_oneTest_175 : decode cX10_oneTest 175 = .ok (.invokevirtual 258, 3) := by decide +kernel
theorem dX10_oneTest_178 : decode cX10_oneTest 178 = .ok (.iconst 1, 1) := by decide +kernel
theorem dX10_oneTest_179 : decode cX10_oneTest 179 = .ok (.ireturn, 1) := by decide +kernel
theorem dX10_aLine_0 : decode cX10_aLine 0 = .ok (.aload_n 0, 1) := by decide +kernel
theorem dX10_aLine_1 : decode cX10_aLine 1 = .ok (.getfield 221, 3) := by decide +kernel
theorem dX10_aLine_4 : decode cX10_aLine 4 = .ok (.bipush 20, 2) := by decide +kernel
theorem dX10_aLine_6 : decode cX10_aLine 6 = .ok (.bipush 21, 2) := by decide +kernel
theorem dX10_aLine_8 : decode cX10_aLine 8 = .ok (.invokestatic 76, 3) := by decide +kernel
theorem dX10_aLine_11 : decode cX10_aLine 11 = .ok (.ifCond .ne 9, 3) := by decide +kernel
theorem dX10_aLine_14 : decode cX10_aLine 14 = .ok (.aload_n 0, 1) := by decide +kernel
theorem dX10_aLine_15 : decode cX10_aLine 15 = .ok (.iconst 1, 1) := by decide +kernel
theorem dX10_aLine_16 : decode cX10_aLine 16 = .ok (.invokevirtual 242, 3) := by decide +kernel
theorem dX10_aLine_19 : decode cX10_aLine 19 = .ok (.ireturn, 1) := by decide +kernel
theorem dX10_aLine_20 : decode cX10_aLine 20 = .ok (.aload_n 0, 1) := by decide +kernel
theorem dX10_aLine_21 : decode cX10_aLine 21 = .ok (.getfield 283, 3) := by decide +kernel
theorem dX10_aLine_24 : decode cX10_aLine 24 = .ok (.bipush 16, 2) := by decide +kernel
theorem dX10_aLine_26 : decode cX10_aLine 26 = .ok (.if_icmp .ne 9, 3) := by decide +kernel
theorem dX10_aLine_29 : decode cX10_aLine 29 = .ok (.aload_n 0, 1) := by decide +kernel
theorem dX10_aLine_30 : decode cX10_aLine 30 = .ok (.iconst 3, 1) := by decide +kernel
theorem dX10_aLine_31 : decode cX10_aLine 31 = .ok (.invokevirtual 242, 3) := by decide +kernel
theorem dX10_aLine_34 : decode cX10_aLine 34 = .ok (.ireturn, 1) := by decide +kernel
theorem dX10_aLine_35 : decode cX10_aLine 35 = .ok (.aload_n 0, 1) := by decide +kernel
theorem dX10_aLine_36 : decode cX10_aLine 36 = .ok (.getfield 37, 3) := by decide +kernel
theorem dX10_aLine_39 : decode cX10_aLine 39 = .ok (.iconst 3, 1) := by decide +kernel
theorem dX10_aLine_40 : decode cX10_aLine 40 = .ok (.aload_n 0, 1) := by decide +kernel
theorem dX10_aLine_41 : decode cX10_aLine 41 = .ok (.getfield 283, 3) := by decide +kernel
theorem dX10_aLine_44 : decode cX10_aLine 44 = .ok (.imul, 1) := by decide +kernel
theorem dX10_aLine_45 : decode cX10_aLine 45 = .ok (.aload_n 0, 1) := by decide +kernel
theorem dX10_aLine_46 : decode cX10_aLine 46 = .ok (.getfield 221, 3) := by decide +kernel
theorem dX10_aLine_49 : decode cX10_aLine 49 = .ok (.bipush 20, 2) := by decide +kernel
theorem dX10_aLine_51 : decode cX10_aLine 51 = .ok (.isub, 1) := by decide +kernel
theorem dX10_aLine_52 : decode cX10_aLine 52 = .ok (.iastore, 1) := by decide +kernel
theorem dX10_aLine_53 : decode cX10_aLine 53 = .ok (.aload_n 0, 1) := by decide +kernel
theorem dX10_aLine_54 : decode cX10_aLine 54 = .ok (.iconst 0, 1) := by decide +kernel
theorem dX10_aLine_55 : decode cX10_aLine 55 = .ok (.putfield 251, 3) := by decide +kernel
theorem dX10_aLine_58 : decode cX10_aLine 58 = .ok (.aload_n 0, 1) := by decide +kernel
theorem dX10_aLine_59 : decode cX10_aLine 59 = .ok (.invokevirtual 245, 3) := by decide +kernel
theorem dX10_aLine_62 : decode cX10_aLine 62 = .ok (.aload_n 0, 1) := by decide +kernel
theorem dX10_aLine_63 : decode cX10_aLine 63 = .ok (.getfield 37, 3) := by decide +kernel
theorem dX10_aLine_66 : decode cX10_aLine 66 = .ok (.iconst 3, 1) := by decide +kernel
theorem dX10_aLine_67 : decode cX10_aLine 67 = .ok (.aload_n 0, 1) := by decide +kernel
theorem dX10_aLine_68 : decode cX10_aLine 68 = .ok (.getfield 283, 3) := by decide +kernel
theorem dX10_aLine_71 : decode cX10_aLine 71 = .ok (.imul, 1) := by decide +kernel
theorem dX10_aLine_72 : decode cX10_aLine 72 = .ok (.iconst 1, 1) := by decide +kernel
theorem dX10_aLine_73 : decode cX10_aLine 73 = .ok (.iadd, 1) := by decide +kernel
theorem dX10_aLine_74 : decode cX10_aLine 74 = .ok (.aload_n 0, 1) := by decide +kernel
theorem dX10_aLine_75 : decode cX10_aLine 75 = .ok (.getfield 248, 3) := by decide +kernel
theorem dX10_aLine_78 : decode cX10_aLine 78 = .ok (.iastore, 1) := by decide +kernel
theorem dX10_aLine_79 : decode cX10_aLine 79 = .ok (.aload_n 0, 1) := by decide +kernel
theorem dX10_aLine_80 : decode cX10_aLine 80 = .ok (.invokevirtual 274, 3) := by decide +kernel
theorem dX10_aLine_83 : decode cX10_aLine 83 = .ok (.ifCond .ne 5, 3) := by decide +kernel
theorem dX10_aLine_86 : decode cX10_aLine 86 = .ok (.iconst 0, 1) := by decide +kernel
theorem dX10_aLine_87 : decode cX10_aLine 87 = .ok (.ireturn, 1) := by decide +kernel
theorem dX10_aLine_88 : decode cX10_aLine 88 = .ok (.aload_n 0, 1) := by decide +kernel
theorem dX10_aLine_89 : decode cX10_aLine 89 = .ok (.getfield 37, 3) := by decide +kernel
theorem dX10_aLine_92 : decode cX10_aLine 92 = .ok (.iconst 3, 1) := by decide +kernel
theorem dX10_aLine_93 : decode cX10_aLine 93 = .ok (.aload_n 0, 1) := by decide +kernel
theorem dX10_aLine_94 : decode cX10_aLine 94 = .ok (.getfield 283, 3) := by decide +kernel
theorem dX10_aLine_97 : decode cX10_aLine 97 = .ok (.imul, 1) := by decide +kernel
theorem dX10_aLine_98 : decode cX10_aLine 98 = .ok (.iconst 2, 1) := by decide +kernel
theorem dX10_aLine_99 : decode cX10_aLine 99 = .ok (.iadd, 1) := by decide +kernel
theorem dX10_aLine_100 : decode cX10_aLine 100 = .ok (.aload_n 0, 1) := by decide +kernel
theorem dX10_aLine_101 : decode cX10_aLine 101 = .ok (.getfield 248, 3) := by decide +kernel
theorem dX10_aLine_104 : decode cX10_aLine 104 = .ok (.iastore, 1) := by decide +kernel
theorem dX10_aLine_105 : decode cX10_aLine 105 = .ok (.aload_n 0, 1) := by decide +kernel
theorem dX10_aLine_106 : decode cX10_aLine 106 = .ok (.sipush 159, 3) := by decide +kernel
theorem dX10_aLine_109 : decode cX10_aLine 109 = .ok (.invokevirtual 277, 3) := by decide +kernel
theorem dX10_aLine_112 : decode cX10_aLine 112 = .ok (.ireturn, 1) := by decide +kernel
theorem dX10_text_0 : decode cX10_text 0 = .ok (.aload_n 0, 1) := by decide +kernel
theorem dX10_text_1 : decode cX10_text 1 = .ok (.iconst 0, 1) := by decide +kernel
theorem dX10_text_2 : decode cX10_text 2 = .ok (.putfield 236, 3) := by decide +kernel
theorem dX10_text_5 : decode cX10_text 5 = .ok (.aload_n 0, 1) := by decide +kernel
theorem dX10_text_6 : decode cX10_text 6 = .ok (.iconst 0, 1) := by decide +kernel
theorem dX10_text_7 : decode cX10_text 7 = .ok (.putfield 173, 3) := by decide +kernel
theorem dX10_text_10 : decode cX10_text 10 = .ok (.aload_n 0, 1) := by decide +kernel
theorem dX10_text_11 : decode cX10_text 11 = .ok (.iconst 0, 1) := by decide +kernel
theorem dX10_text_12 : decode cX10_text 12 = .ok (.putfield 283, 3) := by decide +kernel
theorem dX10_text_15 : decode cX10_text 15 = .ok (.aload_n 0, 1) := by decide +kernel
theorem dX10_text_16 : decode cX10_text 16 = .ok (.iconst 0, 1) := by decide +kernel
theorem dX10_text_17 : decode cX10_text 17 = .ok (.putfield 248, 3) := by decide +kernel
theorem dX10_text_20 : decode cX10_text 20 = .ok (.aload_n 0, 1) := by decide +kernel
theorem dX10_text_21 : decode cX10_text 21 = .ok (.invokevirtual 245, 3) := by decide +kernel
theorem dX10_text_24 : decode cX10_text 24 = .ok (.iconst 1, 1) := by decide +kernel
theorem dX10_text_25 : decode cX10_text 25 = .ok (.istore_n 1, 1) := by decide +kernel
theorem dX10_text_26 : decode cX10_text 26 = .ok (.iload_n 1, 1) := by decide +kernel
theorem dX10_text_27 : decode cX10_text 27 = .ok (.ifCond .eq 36, 3) := by decide +kernel
theorem dX10_text_30 : decode cX10_text 30 = .ok (.aload_n 0, 1) := by decide +kernel
theorem dX10_text_31 : decode cX10_text 31 = .ok (.getfield 221, 3) := by decide +kernel
theorem dX10_text_34 : decode cX10_text 34 = .ok (.ifCond .eq 29, 3) := by decide +kernel
theorem dX10_text_37 : decode cX10_text 37 = .ok (.aload_n 0, 1) := by decide +kernel
theorem dX10_text_38 : decode cX10_text 38 = .ok (.invokevirtual 286, 3) := by decide +kernel
theorem dX10_text_41 : decode cX10_text 41 = .ok (.istore_n 1, 1) := by decide +kernel
theorem dX10_text_42 : decode cX10_text 42 = .ok (.aload_n 0, 1) := by decide +kernel
theorem dX10_text_43 : decode cX10_text 43 = .ok (.dup, 1) := by decide +kernel
theorem dX10_text_44 : decode cX10_text 44 = .ok (.getfield 283, 3) := by decide +kernel
theorem dX10_text_47 : decode cX10_text 47 = .ok (.iload_n 1, 1) := by decide +kernel
theorem dX10_text_48 : decode cX10_text 48 = .ok (.ifCond .eq 7, 3) := by decide +kernel
theorem dX10_text_51 : decode cX10_text 51 = .ok (.iconst 1, 1) := by decide +kernel
theorem dX10_text_52 : decode cX10_text 52 = .ok (.goto 4, 3) := by decide +kernel
theorem dX10_text_55 : decode cX10_text 55 = .ok (.iconst 0, 1) := by decide +kernel
theorem dX10_text_56 : decode cX10_text 56 = .ok (.iadd, 1) := by decide +kernel
theorem dX10_text_57 : decode cX10_text 57 = .ok (.putfield 283, 3) := by decide +kernel
theorem dX10_text_60 : decode cX10_text 60 = .ok (.goto (-34), 3) := by decide +kernel
theorem dX10_text_63 : decode cX10_text 63 = .ok (.aload_n 0, 1) := by decide +kernel
theorem dX10_text_64 : decode cX10_text 64 = .ok (.iconst 0, 1) := by decide +kernel
theorem dX10_text_65 : decode cX10_text 65 = .ok (.putfield 170, 3) := by decide +kernel
theorem dX10_text_68 : decode cX10_text 68 = .ok (.aload_n 0, 1) := by decide +kernel
theorem dX10_text_69 : decode cX10_text 69 = .ok (.aload_n 0, 1) := by decide +kernel
theorem dX10_text_70 : decode cX10_text 70 = .ok (.getfield 236, 3) := by decide +kernel
theorem dX10_text_73 : decode cX10_text 73 = .ok (.putfield 289, 3) := by decide +kernel
theorem dX10_text_76 : decode cX10_text 76 = .ok (.aload_n 0, 1) := by decide +kernel
theorem dX10_text_77 : decode cX10_text 77 = .ok (.iload_n 1, 1) := by decide +kernel
theorem dX10_text_78 : decode cX10_text 78 = .ok (.ifCond .eq 7, 3) := by decide +kernel
theorem dX10_text_81 : decode cX10_text 81 = .ok (.iconst (-1), 1) := by decide +kernel
theorem dX10_text_82 : decode cX10_text 82 = .ok (.goto 7, 3) := by decide +kernel
theorem dX10_text_85 : decode cX10_text 85 = .ok (.aload_n 0, 1) := by decide +kernel
theorem dX10_text_86 : decode cX10_text 86 = .ok (.getfield 239, 3) := by decide +kernel
theorem dX10_text_89 : decode cX10_text 89 = .ok (.putfield 52, 3) := by decide +kernel
theorem dX10_text_92 : decode cX10_text 92 = .ok (.iload_n 1, 1) := by decide +kernel
theorem dX10_text_93 : decode cX10_text 93 = .ok (.ifCond .ne 5, 3) := by decide +kernel
theorem dX10_text_96 : decode cX10_text 96 = .ok (.iconst (-1), 1) := by decide +kernel
theorem dX10_text_97 : decode cX10_text 97 = .ok (.ireturn, 1) := by decide +kernel
theorem dX10_text_98 : decode cX10_text 98 = .ok (.aload_n 0, 1) := by decide +kernel
theorem dX10_text_99 : decode cX10_text 99 = .ok (.getfield 7, 3) := by decide +kernel
theorem dX10_text_102 : decode cX10_text 102 = .ok (.sipush 340, 3) := by decide +kernel
theorem dX10_text_105 : decode cX10_text 105 = .ok (.aload_n 0, 1) := by decide +kernel
theorem dX10_text_106 : decode cX10_text 106 = .ok (.getfield 283, 3) := by decide +kernel
theorem dX10_text_109 : decode cX10_text 109 = .ok (.iastore, 1) := by decide +kernel
theorem dX10_text_110 : decode cX10_text 110 = .ok (.iconst 0, 1) := by decide +kernel
theorem dX10_text_111 : decode cX10_text 111 = .ok (.istore_n 2, 1) := by decide +kernel
theorem dX10_text_112 : decode cX10_text 112 = .ok (.iload_n 2, 1) := by decide +kernel
theorem dX10_text_113 : decode cX10_text 113 = .ok (.aload_n 0, 1) := by decide +kernel
theorem dX10_text_114 : decode cX10_text 114 = .ok (.getfield 283, 3) := by decide +kernel
theorem dX10_text_117 : decode cX10_text 117 = .ok (.if_icmp .ge 67, 3) := by decide +kernel
theorem dX10_text_120 : decode cX10_text 120 = .ok (.aload_n 0, 1) := by decide +kernel
theorem dX10_text_121 : decode cX10_text 121 = .ok (.getfield 7, 3) := by decide +kernel
theorem dX10_text_124 : decode cX10_text 124 = .ok (.sipush 345, 3) := by decide +kernel
theorem dX10_text_127 : decode cX10_text 127 = .ok (.iload_n 2, 1) := by decide +kernel
theorem dX10_text_128 : decode cX10_text 128 = .ok (.iadd, 1) := by decide +kernel
theorem dX10_text_129 : decode cX10_text 129 = .ok (.aload_n 0, 1) := by decide +kernel
theorem dX10_text_130 : decode cX10_text 130 = .ok (.getfield 37, 3) := by decide +kernel
theorem dX10_text_133 : decode cX10_text 133 = .ok (.iconst 3, 1) := by decide +kernel
theorem dX10_text_134 : decode cX10_text 134 = .ok (.iload_n 2, 1) := by decide +kernel
theorem dX10_text_135 : decode cX10_text 135 = .ok (.imul, 1) := by decide +kernel
theorem dX10_text_136 : decode cX10_text 136 = .ok (.iaload, 1) := by decide +kernel
theorem dX10_text_137 : decode cX10_text 137 = .ok (.iastore, 1) := by decide +kernel
theorem dX10_text_138 : decode cX10_text 138 = .ok (.aload_n 0, 1) := by decide +kernel
theorem dX10_text_139 : decode cX10_text 139 = .ok (.getfield 7, 3) := by decide +kernel
theorem dX10_text_142 : decode cX10_text 142 = .ok (.sipush 365, 3) := by decide +kernel
theorem dX10_text_145 : decode cX10_text 145 = .ok (.iload_n 2, 1) := by decide +kernel
theorem dX10_text_146 : decode cX10_text 146 = .ok (.iadd, 1) := by decide +kernel
theorem dX10_text_147 : decode cX10_text 147 = .ok (.aload_n 0, 1) := by decide +kernel
theorem dX10_text_148 : decode cX10_text 148 = .ok (.getfield 37, 3) := by decide +kernel
theorem dX10_text_151 : decode cX10_text 151 = .ok (.iconst 3, 1) := by decide +kernel
theorem dX10_text_152 : decode cX10_text 152 = .ok (.iload_n 2, 1) := by decide +kernel
theorem dX10_text_153 : decode cX10_text 153 = .ok (.imul, 1) := by decide +kernel
theorem dX10_text_154 : decode cX10_text 154 = .ok (.iconst 1, 1) := by decide +kernel
theorem dX10_text_155 : decode cX10_text 155 = .ok (.iadd, 1) := by decide +kernel
theorem dX10_text_156 : decode cX10_text 156 = .ok (.iaload, 1) := by decide +kernel
theorem dX10_text_157 : decode cX10_text 157 = .ok (.iastore, 1) := by decide +kernel
theorem dX10_text_158 : decode cX10_text 158 = .ok (.aload_n 0, 1) := by decide +kernel
theorem dX10_text_159 : decode cX10_text 159 = .ok (.getfield 7, 3) := by decide +kernel
theorem dX10_text_162 : decode cX10_text 162 = .ok (.sipush 385, 3) := by decide +kernel
theorem dX10_text_165 : decode cX10_text 165 = .ok (.iload_n 2, 1) := by decide +kernel
theorem dX10_text_166 : decode cX10_text 166 = .ok (.iadd, 1) := by decide +kernel
theorem dX10_text_167 : decode cX10_text 167 = .ok (.aload_n 0, 1) := by decide +kernel
theorem dX10_text_168 : decode cX10_text 168 = .ok (.getfield 37, 3) := by decide +kernel
theorem dX10_text_171 : decode cX10_text 171 = .ok (.iconst 3, 1) := by decide +kernel
theorem dX10_text_172 : decode cX10_text 172 = .ok (.iload_n 2, 1) := by decide +kernel
theorem dX10_text_173 : decode cX10_text 173 = .ok (.imul, 1) := by decide +kernel
theorem dX10_text_174 : decode cX10_text 174 = .ok (.iconst 2, 1) := by decide +kernel
theorem dX10_text_175 : decode cX10_text 175 = .ok (.iadd, 1) := by decide +kernel
theorem dX10_text_176 : decode cX10_text 176 = .ok (.iaload, 1) := by decide +kernel
theorem dX10_text_177 : decode cX10_text 177 = .ok (.iastore, 1) := by decide +kernel
theorem dX10_text_178 : decode cX10_text 178 = .ok (.iinc 2 1, 3) := by decide +kernel
theorem dX10_text_181 : decode cX10_text 181 = .ok (.goto (-69), 3) := by decide +kernel
theorem dX10_text_184 : decode cX10_text 184 = .ok (.iconst 0, 1) := by decide +kernel
theorem dX10_text_185 : decode cX10_text 185 = .ok (.istore_n 2, 1) := by decide +kernel
theorem dX10_text_186 : decode cX10_text 186 = .ok (.iload_n 2, 1) := by decide +kernel
theorem dX10_text_187 : decode cX10_text 187 = .ok (.iconst 2, 1) := by decide +kernel
theorem dX10_text_188 : decode cX10_text 188 = .ok (.aload_n 0, 1) := by decide +kernel
theorem dX10_text_189 : decode cX10_text 189 = .ok (.getfield 248, 3) := by decide +kernel
theorem dX10_text_192 : decode cX10_text 192 = .ok (.imul, 1) := by decide +kernel
theorem dX10_text_193 : decode cX10_text 193 = .ok (.if_icmp .ge 25, 3) := by decide +kernel
theorem dX10_text_196 : decode cX10_text 196 = .ok (.aload_n 0, 1) := by decide +kernel
theorem dX10_text_197 : decode cX10_text 197 = .ok (.getfield 7, 3) := by decide +kernel
theorem dX10_text_200 : decode cX10_text 200 = .ok (.sipush 405, 3) := by decide +kernel
theorem dX10_text_203 : decode cX10_text 203 = .ok (.iload_n 2, 1) := by decide +kernel
theorem dX10_text_204 : decode cX10_text 204 = .ok (.iadd, 1) := by decide +kernel
theorem dX10_text_205 : decode cX10_text 205 = .ok (.aload_n 0, 1) := by decide +kernel
theorem dX10_text_206 : decode cX10_text 206 = .ok (.getfield 40, 3) := by decide +kernel
theorem dX10_text_209 : decode cX10_text 209 = .ok (.iload_n 2, 1) := by decide +kernel
theorem dX10_text_210 : decode cX10_text 210 = .ok (.iaload, 1) := by decide +kernel
theorem dX10_text_211 : decode cX10_text 211 = .ok (.iastore, 1) := by decide +kernel
theorem dX10_text_212 : decode cX10_text 212 = .ok (.iinc 2 1, 3) := by decide +kernel
theorem dX10_text_215 : decode cX10_text 215 = .ok (.goto (-29), 3) := by decide +kernel
theorem dX10_text_218 : decode cX10_text 218 = .ok (.aload_n 0, 1) := by decide +kernel
theorem dX10_text_219 : decode cX10_text 219 = .ok (.getfield 283, 3) := by decide +kernel
theorem dX10_text_222 : decode cX10_text 222 = .ok (.ireturn, 1) := by decide +kernel
theorem dX10_fault_0 : decode cX10_fault 0 = .ok (.iload_n 1, 1) := by decide +kernel
theorem dX10_fault_1 : decode cX10_fault 1 = .ok (.ifCond .ne 10, 3) := by decide +kernel
theorem dX10_fault_4 : decode cX10_fault 4 = .ok (.aload_n 0, 1) := by decide +kernel
theorem dX10_fault_5 : decode cX10_fault 5 = .ok (.getfield 289, 3) := by decide +kernel
theorem dX10_fault_8 : decode cX10_fault 8 = .ok (.goto 16, 3) := by decide +kernel
theorem dX10_fault_11 : decode cX10_fault 11 = .ok (.iload_n 1, 1) := by decide +kernel
theorem dX10_fault_12 : decode cX10_fault 12 = .ok (.iconst 1, 1) := by decide +kernel
theorem dX10_fault_13 : decode cX10_fault 13 = .ok (.if_icmp .ne 10, 3) := by decide +kernel
theorem dX10_fault_16 : decode cX10_fault 16 = .ok (.aload_n 0, 1) := by decide +kernel
theorem dX10_fault_17 : decode cX10_fault 17 = .ok (.getfield 52, 3) := by decide +kernel
theorem dX10_fault_20 : decode cX10_fault 20 = .ok (.goto 4, 3) := by decide +kernel
theorem dX10_fault_23 : decode cX10_fault 23 = .ok (.iconst (-1), 1) := by decide +kernel
theorem dX10_fault_24 : decode cX10_fault 24 = .ok (.ireturn, 1) := by decide +kernel
theorem dX10_both_0 : decode cX10_both 0 = .ok (.iload_n 0, 1) := by decide +kernel
theorem dX10_both_1 : decode cX10_both 1 = .ok (.tableswitch 100 13 21 #[51, 55, 59, 100, 63, 74, 85, 100, 96], 51) := by decide +kernel
theorem dX10_both_52 : decode cX10_both 52 = .ok (.iload_n 1, 1) := by decide +kernel
theorem dX10_both_53 : decode cX10_both 53 = .ok (.iload_n 2, 1) := by decide +kernel
theorem dX10_both_54 : decode cX10_both 54 = .ok (.iadd, 1) := by decide +kernel
theorem dX10_both_55 : decode cX10_both 55 = .ok (.ireturn, 1) := by decide +kernel
theorem dX10_both_56 : decode cX10_both 56 = .ok (.iload_n 1, 1) := by decide +kernel
theorem dX10_both_57 : decode cX10_both 57 = .ok (.iload_n 2, 1) := by decide +kernel
theorem dX10_both_58 : decode cX10_both 58 = .ok (.isub, 1) := by decide +kernel
theorem dX10_both_59 : decode cX10_both 59 = .ok (.ireturn, 1) := by decide +kernel
theorem dX10_both_60 : decode cX10_both 60 = .ok (.iload_n 1, 1) := by decide +kernel
theorem dX10_both_61 : decode cX10_both 61 = .ok (.iload_n 2, 1) := by decide +kernel
theorem dX10_both_62 : decode cX10_both 62 = .ok (.imul, 1) := by decide +kernel
theorem dX10_both_63 : decode cX10_both 63 = .ok (.ireturn, 1) := by decide +kernel
theorem dX10_both_64 : decode cX10_both 64 = .ok (.iload_n 1, 1) := by decide +kernel
theorem dX10_both_65 : decode cX10_both 65 = .ok (.iload_n 2, 1) := by decide +kernel
theorem dX10_both_66 : decode cX10_both 66 = .ok (.if_icmp .ge 7, 3) := by decide +kernel
theorem dX10_both_69 : decode cX10_both 69 = .ok (.iconst 1, 1) := by decide +kernel
theorem dX10_both_70 : decode cX10_both 70 = .ok (.goto 4, 3) := by decide +kernel
theorem dX10_both_73 : decode cX10_both 73 = .ok (.iconst 0, 1) := by decide +kernel
theorem dX10_both_74 : decode cX10_both 74 = .ok (.ireturn, 1) := by decide +kernel
theorem dX10_both_75 : decode cX10_both 75 = .ok (.iload_n 1, 1) := by decide +kernel
theorem dX10_both_76 : decode cX10_both 76 = .ok (.iload_n 2, 1) := by decide +kernel
theorem dX10_both_77 : decode cX10_both 77 = .ok (.if_icmp .ne 7, 3) := by decide +kernel
theorem dX10_both_80 : decode cX10_both 80 = .ok (.iconst 1, 1) := by decide +kernel
theorem dX10_both_81 : decode cX10_both 81 = .ok (.goto 4, 3) := by decide +kernel
theorem dX10_both_84 : decode cX10_both 84 = .ok (.iconst 0, 1) := by decide +kernel
theorem dX10_both_85 : decode cX10_both 85 = .ok (.ireturn, 1) := by decide +kernel
theorem dX10_both_86 : decode cX10_both 86 = .ok (.iload_n 1, 1) := by decide +kernel
theorem dX10_both_87 : decode cX10_both 87 = .ok (.iload_n 2, 1) := by decide +kernel
theorem dX10_both_88 : decode cX10_both 88 = .ok (.if_icmp .le 7, 3) := by decide +kernel
theorem dX10_both_91 : decode cX10_both 91 = .ok (.iconst 1, 1) := by decide +kernel
theorem dX10_both_92 : decode cX10_both 92 = .ok (.goto 4, 3) := by decide +kernel
theorem dX10_both_95 : decode cX10_both 95 = .ok (.iconst 0, 1) := by decide +kernel
theorem dX10_both_96 : decode cX10_both 96 = .ok (.ireturn, 1) := by decide +kernel
theorem dX10_both_97 : decode cX10_both 97 = .ok (.iload_n 1, 1) := by decide +kernel
theorem dX10_both_98 : decode cX10_both 98 = .ok (.iload_n 2, 1) := by decide +kernel
theorem dX10_both_99 : decode cX10_both 99 = .ok (.iand, 1) := by decide +kernel
theorem dX10_both_100 : decode cX10_both 100 = .ok (.ireturn, 1) := by decide +kernel
theorem dX10_both_101 : decode cX10_both 101 = .ok (.iload_n 1, 1) := by decide +kernel
theorem dX10_both_102 : decode cX10_both 102 = .ok (.iload_n 2, 1) := by decide +kernel
theorem dX10_both_103 : decode cX10_both 103 = .ok (.ior, 1) := by decide +kernel
theorem dX10_both_104 : decode cX10_both 104 = .ok (.ireturn, 1) := by decide +kernel
theorem dX10_comesTo_0 : decode cX10_comesTo 0 = .ok (.iconst 0, 1) := by decide +kernel
theorem dX10_comesTo_1 : decode cX10_comesTo 1 = .ok (.istore_n 3, 1) := by decide +kernel
theorem dX10_comesTo_2 : decode cX10_comesTo 2 = .ok (.iload_n 1, 1) := by decide +kernel
theorem dX10_comesTo_3 : decode cX10_comesTo 3 = .ok (.istore 4, 2) := by decide +kernel
theorem dX10_comesTo_5 : decode cX10_comesTo 5 = .ok (.iload 4, 2) := by decide +kernel
theorem dX10_comesTo_7 : decode cX10_comesTo 7 = .ok (.iload_n 2, 1) := by decide +kernel
theorem dX10_comesTo_8 : decode cX10_comesTo 8 = .ok (.if_icmp .ge 158, 3) := by decide +kernel
theorem dX10_comesTo_11 : decode cX10_comesTo 11 = .ok (.aload_n 0, 1) := by decide +kernel
theorem dX10_comesTo_12 : decode cX10_comesTo 12 = .ok (.getfield 7, 3) := by decide +kernel
theorem dX10_comesTo_15 : decode cX10_comesTo 15 = .ok (.sipush 405, 3) := by decide +kernel
theorem dX10_comesTo_18 : decode cX10_comesTo 18 = .ok (.iconst 2, 1) := by decide +kernel
theorem dX10_comesTo_19 : decode cX10_comesTo 19 = .ok (.iload 4, 2) := by decide +kernel
theorem dX10_comesTo_21 : decode cX10_comesTo 21 = .ok (.imul, 1) := by decide +kernel
theorem dX10_comesTo_22 : decode cX10_comesTo 22 = .ok (.iadd, 1) := by decide +kernel
theorem dX10_comesTo_23 : decode cX10_comesTo 23 = .ok (.iaload, 1) := by decide +kernel
theorem dX10_comesTo_24 : decode cX10_comesTo 24 = .ok (.istore 5, 2) := by decide +kernel
theorem dX10_comesTo_26 : decode cX10_comesTo 26 = .ok (.aload_n 0, 1) := by decide +kernel
theorem dX10_comesTo_27 : decode cX10_comesTo 27 = .ok (.getfield 7, 3) := by decide +kernel
theorem dX10_comesTo_30 : decode cX10_comesTo 30 = .ok (.sipush 405, 3) := by decide +kernel
theorem dX10_comesTo_33 : decode cX10_comesTo 33 = .ok (.iconst 2, 1) := by decide +kernel
theorem dX10_comesTo_34 : decode cX10_comesTo 34 = .ok (.iload 4, 2) := by decide +kernel
theorem dX10_comesTo_36 : decode cX10_comesTo 36 = .ok (.imul, 1) := by decide +kernel
theorem dX10_comesTo_37 : decode cX10_comesTo 37 = .ok (.iadd, 1) := by decide +kernel
theorem dX10_comesTo_38 : decode cX10_comesTo 38 = .ok (.iconst 1, 1) := by decide +kernel
theorem dX10_comesTo_39 : decode cX10_comesTo 39 = .ok (.iadd, 1) := by decide +kernel
theorem dX10_comesTo_40 : decode cX10_comesTo 40 = .ok (.iaload, 1) := by decide +kernel
theorem dX10_comesTo_41 : decode cX10_comesTo 41 = .ok (.istore 6, 2) := by decide +kernel
theorem dX10_comesTo_43 : decode cX10_comesTo 43 = .ok (.iload 5, 2) := by decide +kernel
theorem dX10_comesTo_45 : decode cX10_comesTo 45 = .ok (.bipush 13, 2) := by decide +kernel
theorem dX10_comesTo_47 : decode cX10_comesTo 47 = .ok (.if_icmp .ge 32, 3) := by decide +kernel
theorem dX10_comesTo_50 : decode cX10_comesTo 50 = .ok (.aload_n 0, 1) := by decide +kernel
theorem dX10_comesTo_51 : decode cX10_comesTo 51 = .ok (.getfield 46, 3) := by decide +kernel
theorem dX10_comesTo_54 : decode cX10_comesTo 54 = .ok (.iload_n 3, 1) := by decide +kernel
theorem dX10_comesTo_55 : decode cX10_comesTo 55 = .ok (.iload 5, 2) := by decide +kernel
theorem dX10_comesTo_57 : decode cX10_comesTo 57 = .ok (.ifCond .ne 8, 3) := by decide +kernel
theorem dX10_comesTo_60 : decode cX10_comesTo 60 = .ok (.iload 6, 2) := by decide +kernel
theorem dX10_comesTo_62 : decode cX10_comesTo 62 = .ok (.goto 10, 3) := by decide +kernel
theorem dX10_comesTo_65 : decode cX10_comesTo 65 = .ok (.aload_n 0, 1) := by decide +kernel
theorem dX10_comesTo_66 : decode cX10_comesTo 66 = .ok (.getfield 49, 3) := by decide +kernel
theorem dX10_comesTo_69 : decode cX10_comesTo 69 = .ok (.iload 5, 2) := by decide +kernel
theorem dX10_comesTo_71 : decode cX10_comesTo 71 = .ok (.iaload, 1) := by decide +kernel
theorem dX10_comesTo_72 : decode cX10_comesTo 72 = .ok (.iastore, 1) := by decide +kernel
theorem dX10_comesTo_73 : decode cX10_comesTo 73 = .ok (.iinc 3 1, 3) := by decide +kernel
theorem dX10_comesTo_76 : decode cX10_comesTo 76 = .ok (.goto 84, 3) := by decide +kernel
theorem dX10_comesTo_79 : decode cX10_comesTo 79 = .ok (.iload 5, 2) := by decide +kernel
theorem dX10_comesTo_81 : decode cX10_comesTo 81 = .ok (.bipush 16, 2) := by decide +kernel
theorem dX10_comesTo_83 : decode cX10_comesTo 83 = .ok (.if_icmp .ne 19, 3) := by decide +kernel
theorem dX10_comesTo_86 : decode cX10_comesTo 86 = .ok (.aload_n 0, 1) := by decide +kernel
theorem dX10_comesTo_87 : decode cX10_comesTo 87 = .ok (.getfield 46, 3) := by decide +kernel
theorem dX10_comesTo_90 : decode cX10_comesTo 90 = .ok (.iload_n 3, 1) := by decide +kernel
theorem dX10_comesTo_91 : decode cX10_comesTo 91 = .ok (.iconst 1, 1) := by decide +kernel
theorem dX10_comesTo_92 : decode cX10_comesTo 92 = .ok (.isub, 1) := by decide +kernel
theorem dX10_comesTo_93 : decode cX10_comesTo 93 = .ok (.dup2, 1) := by decide +kernel
theorem dX10_comesTo_94 : decode cX10_comesTo 94 = .ok (.iaload, 1) := by decide +kernel
theorem dX10_comesTo_95 : decode cX10_comesTo 95 = .ok (.iload 6, 2) := by decide +kernel
theorem dX10_comesTo_97 : decode cX10_comesTo 97 = .ok (.idiv, 1) := by decide +kernel
theorem dX10_comesTo_98 : decode cX10_comesTo 98 = .ok (.iastore, 1) := by decide +kernel
theorem dX10_comesTo_99 : decode cX10_comesTo 99 = .ok (.goto 61, 3) := by decide +kernel
theorem dX10_comesTo_102 : decode cX10_comesTo 102 = .ok (.iload 5, 2) := by decide +kernel
theorem dX10_comesTo_104 : decode cX10_comesTo 104 = .ok (.bipush 20, 2) := by decide +kernel
theorem dX10_comesTo_106 : decode cX10_comesTo 106 = .ok (.if_icmp .ne 24, 3) := by decide +kernel
theorem dX10_comesTo_109 : decode cX10_comesTo 109 = .ok (.aload_n 0, 1) := by decide +kernel
theorem dX10_comesTo_110 : decode cX10_comesTo 110 = .ok (.getfield 46, 3) := by decide +kernel
theorem dX10_comesTo_113 : decode cX10_comesTo 113 = .ok (.iload_n 3, 1) := by decide +kernel
theorem dX10_comesTo_114 : decode cX10_comesTo 114 = .ok (.iconst 1, 1) := by decide +kernel
theorem dX10_comesTo_115 : decode cX10_comesTo 115 = .ok (.isub, 1) := by decide +kernel
theorem dX10_comesTo_116 : decode cX10_comesTo 116 = .ok (.iconst 1, 1) := by decide +kernel
theorem dX10_comesTo_117 : decode cX10_comesTo 117 = .ok (.aload_n 0, 1) := by decide +kernel
theorem dX10_comesTo_118 : decode cX10_comesTo 118 = .ok (.getfield 46, 3) := by decide +kernel
theorem dX10_comesTo_121 : decode cX10_comesTo 121 = .ok (.iload_n 3, 1) := by decide +kernel
theorem dX10_comesTo_122 : decode cX10_comesTo 122 = .ok (.iconst 1, 1) := by decide +kernel
theorem dX10_comesTo_123 : decode cX10_comesTo 123 = .ok (.isub, 1) := by decide +kernel
theorem dX10_comesTo_124 : decode cX10_comesTo 124 = .ok (.iaload, 1) := by decide +kernel
theorem dX10_comesTo_125 : decode cX10_comesTo 125 = .ok (.isub, 1) := by decide +kernel
theorem dX10_comesTo_126 : decode cX10_comesTo 126 = .ok (.iastore, 1) := by decide +kernel
theorem dX10_comesTo_127 : decode cX10_comesTo 127 = .ok (.goto 33, 3) := by decide +kernel
theorem dX10_comesTo_130 : decode cX10_comesTo 130 = .ok (.iinc 3 (-1), 3) := by decide +kernel
theorem dX10_comesTo_133 : decode cX10_comesTo 133 = .ok (.aload_n 0, 1) := by decide +kernel
theorem dX10_comesTo_134 : decode cX10_comesTo 134 = .ok (.getfield 46, 3) := by decide +kernel
theorem dX10_comesTo_137 : decode cX10_comesTo 137 = .ok (.iload_n 3, 1) := by decide +kernel
theorem dX10_comesTo_138 : decode cX10_comesTo 138 = .ok (.iconst 1, 1) := by decide +kernel
theorem dX10_comesTo_139 : decode cX10_comesTo 139 = .ok (.isub, 1) := by decide +kernel
theorem dX10_comesTo_140 : decode cX10_comesTo 140 = .ok (.iload 5, 2) := by decide +kernel
theorem dX10_comesTo_142 : decode cX10_comesTo 142 = .ok (.aload_n 0, 1) := by decide +kernel
theorem dX10_comesTo_143 : decode cX10_comesTo 143 = .ok (.getfield 46, 3) := by decide +kernel
theorem dX10_comesTo_146 : decode cX10_comesTo 146 = .ok (.iload_n 3, 1) := by decide +kernel
theorem dX10_comesTo_147 : decode cX10_comesTo 147 = .ok (.iconst 1, 1) := by decide +kernel
theorem dX10_comesTo_148 : decode cX10_comesTo 148 = .ok (.isub, 1) := by decide +kernel
theorem dX10_comesTo_149 : decode cX10_comesTo 149 = .ok (.iaload, 1) := by decide +kernel
theorem dX10_comesTo_150 : decode cX10_comesTo 150 = .ok (.aload_n 0, 1) := by decide +kernel
theorem dX10_comesTo_151 : decode cX10_comesTo 151 = .ok (.getfield 46, 3) := by decide +kernel
theorem dX10_comesTo_154 : decode cX10_comesTo 154 = .ok (.iload_n 3, 1) := by decide +kernel
theorem dX10_comesTo_155 : decode cX10_comesTo 155 = .ok (.iaload, 1) := by decide +kernel
theorem dX10_comesTo_156 : decode cX10_comesTo 156 = .ok (.invokestatic 292, 3) := by decide +kernel
theorem dX10_comesTo_159 : decode cX10_comesTo 159 = .ok (.iastore, 1) := by decide +kernel
theorem dX10_comesTo_160 : decode cX10_comesTo 160 = .ok (.iinc 4 1, 3) := by decide +kernel
theorem dX10_comesTo_163 : decode cX10_comesTo 163 = .ok (.goto (-158), 3) := by decide +kernel
theorem dX10_comesTo_166 : decode cX10_comesTo 166 = .ok (.aload_n 0, 1) := by decide +kernel
theorem dX10_comesTo_167 : decode cX10_comesTo 167 = .ok (.getfield 46, 3) := by decide +kernel
theorem dX10_comesTo_170 : decode cX10_comesTo 170 = .ok (.iconst 0, 1) := by decide +kernel
theorem dX10_comesTo_171 : decode cX10_comesTo 171 = .ok (.iaload, 1) := by decide +kernel
theorem dX10_comesTo_172 : decode cX10_comesTo 172 = .ok (.ireturn, 1) := by decide +kernel
theorem dX10_inTower_0 : decode cX10_inTower 0 = .ok (.iconst 0, 1) := by decide +kernel
theorem dX10_inTower_1 : decode cX10_inTower 1 = .ok (.istore_n 1, 1) := by decide +kernel
theorem dX10_inTower_2 : decode cX10_inTower 2 = .ok (.iconst 0, 1) := by decide +kernel
theorem dX10_inTower_3 : decode cX10_inTower 3 = .ok (.istore_n 2, 1) := by decide +kernel
theorem dX10_inTower_4 : decode cX10_inTower 4 = .ok (.iload_n 2, 1) := by decide +kernel
theorem dX10_inTower_5 : decode cX10_inTower 5 = .ok (.aload_n 0, 1) := by decide +kernel
theorem dX10_inTower_6 : decode cX10_inTower 6 = .ok (.getfield 7, 3) := by decide +kernel
theorem dX10_inTower_9 : decode cX10_inTower 9 = .ok (.iconst 1, 1) := by decide +kernel
theorem dX10_inTower_10 : decode cX10_inTower 10 = .ok (.iaload, 1) := by decide +kernel
theorem dX10_inTower_11 : decode cX10_inTower 11 = .ok (.if_icmp .ge 27, 3) := by decide +kernel
theorem dX10_inTower_14 : decode cX10_inTower 14 = .ok (.iload_n 1, 1) := by decide +kernel
theorem dX10_inTower_15 : decode cX10_inTower 15 = .ok (.aload_n 0, 1) := by decide +kernel
theorem dX10_inTower_16 : decode cX10_inTower 16 = .ok (.iload_n 2, 1) := by decide +kernel
theorem dX10_inTower_17 : decode cX10_inTower 17 = .ok (.iconst 5, 1) := by decide +kernel
theorem dX10_inTower_18 : decode cX10_inTower 18 = .ok (.invokevirtual 94, 3) := by decide +kernel
theorem dX10_inTower_21 : decode cX10_inTower 21 = .ok (.iconst (-1), 1) := by decide +kernel
theorem dX10_inTower_22 : decode cX10_inTower 22 = .ok (.if_icmp .eq 7, 3) := by decide +kernel
theorem dX10_inTower_25 : decode cX10_inTower 25 = .ok (.iconst 1, 1) := by decide +kernel
theorem dX10_inTower_26 : decode cX10_inTower 26 = .ok (.goto 4, 3) := by decide +kernel
theorem dX10_inTower_29 : decode cX10_inTower 29 = .ok (.iconst 0, 1) := by decide +kernel
theorem dX10_inTower_30 : decode cX10_inTower 30 = .ok (.iadd, 1) := by decide +kernel
theorem dX10_inTower_31 : decode cX10_inTower 31 = .ok (.istore_n 1, 1) := by decide +kernel
theorem dX10_inTower_32 : decode cX10_inTower 32 = .ok (.iinc 2 1, 3) := by decide +kernel
theorem dX10_inTower_35 : decode cX10_inTower 35 = .ok (.goto (-31), 3) := by decide +kernel
theorem dX10_inTower_38 : decode cX10_inTower 38 = .ok (.iload_n 1, 1) := by decide +kernel
theorem dX10_inTower_39 : decode cX10_inTower 39 = .ok (.ireturn, 1) := by decide +kernel
