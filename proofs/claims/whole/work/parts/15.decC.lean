theorem dX12_init_0 : decode cX12_init 0 = .ok (.aload_n 0, 1) := by decide +kernel
theorem dX12_init_1 : decode cX12_init 1 = .ok (.invokespecial 1, 3) := by decide +kernel
theorem dX12_init_4 : decode cX12_init 4 = .ok (.aload_n 0, 1) := by decide +kernel
theorem dX12_init_5 : decode cX12_init 5 = .ok (.iconst 3, 1) := by decide +kernel
theorem dX12_init_6 : decode cX12_init 6 = .ok (.putfield 7, 3) := by decide +kernel
theorem dX12_init_9 : decode cX12_init 9 = .ok (.aload_n 0, 1) := by decide +kernel
theorem dX12_init_10 : decode cX12_init 10 = .ok (.bipush 7, 2) := by decide +kernel
theorem dX12_init_12 : decode cX12_init 12 = .ok (.putfield 13, 3) := by decide +kernel
theorem dX12_init_15 : decode cX12_init 15 = .ok (.aload_n 0, 1) := by decide +kernel
theorem dX12_init_16 : decode cX12_init 16 = .ok (.iconst (-1), 1) := by decide +kernel
theorem dX12_init_17 : decode cX12_init 17 = .ok (.putfield 16, 3) := by decide +kernel
theorem dX12_init_20 : decode cX12_init 20 = .ok (.aload_n 0, 1) := by decide +kernel
theorem dX12_init_21 : decode cX12_init 21 = .ok (.iconst (-1), 1) := by decide +kernel
theorem dX12_init_22 : decode cX12_init 22 = .ok (.putfield 19, 3) := by decide +kernel
theorem dX12_init_25 : decode cX12_init 25 = .ok (.aload_n 0, 1) := by decide +kernel
theorem dX12_init_26 : decode cX12_init 26 = .ok (.bipush 6, 2) := by decide +kernel
theorem dX12_init_28 : decode cX12_init 28 = .ok (.newarray .int, 2) := by decide +kernel
theorem dX12_init_30 : decode cX12_init 30 = .ok (.putfield 22, 3) := by decide +kernel
theorem dX12_init_33 : decode cX12_init 33 = .ok (.aload_n 0, 1) := by decide +kernel
theorem dX12_init_34 : decode cX12_init 34 = .ok (.bipush 8, 2) := by decide +kernel
theorem dX12_init_36 : decode cX12_init 36 = .ok (.newarray .int, 2) := by decide +kernel
theorem dX12_init_38 : decode cX12_init 38 = .ok (.putfield 26, 3) := by decide +kernel
theorem dX12_init_41 : decode cX12_init 41 = .ok (.aload_n 0, 1) := by decide +kernel
theorem dX12_init_42 : decode cX12_init 42 = .ok (.bipush 8, 2) := by decide +kernel
theorem dX12_init_44 : decode cX12_init 44 = .ok (.newarray .int, 2) := by decide +kernel
theorem dX12_init_46 : decode cX12_init 46 = .ok (.putfield 29, 3) := by decide +kernel
theorem dX12_init_49 : decode cX12_init 49 = .ok (.aload_n 0, 1) := by decide +kernel
theorem dX12_init_50 : decode cX12_init 50 = .ok (.sipush 1400, 3) := by decide +kernel
theorem dX12_init_53 : decode cX12_init 53 = .ok (.newarray .int, 2) := by decide +kernel
theorem dX12_init_55 : decode cX12_init 55 = .ok (.putfield 32, 3) := by decide +kernel
theorem dX12_init_58 : decode cX12_init 58 = .ok (.aload_n 0, 1) := by decide +kernel
theorem dX12_init_59 : decode cX12_init 59 = .ok (.sipush 700, 3) := by decide +kernel
theorem dX12_init_62 : decode cX12_init 62 = .ok (.newarray .int, 2) := by decide +kernel
theorem dX12_init_64 : decode cX12_init 64 = .ok (.putfield 35, 3) := by decide +kernel
theorem dX12_init_67 : decode cX12_init 67 = .ok (.aload_n 0, 1) := by decide +kernel
theorem dX12_init_68 : decode cX12_init 68 = .ok (.iconst (-1), 1) := by decide +kernel
theorem dX12_init_69 : decode cX12_init 69 = .ok (.putfield 38, 3) := by decide +kernel
theorem dX12_init_72 : decode cX12_init 72 = .ok (.aload_n 0, 1) := by decide +kernel
theorem dX12_init_73 : decode cX12_init 73 = .ok (.iconst 3, 1) := by decide +kernel
theorem dX12_init_74 : decode cX12_init 74 = .ok (.newarray .int, 2) := by decide +kernel
theorem dX12_init_76 : decode cX12_init 76 = .ok (.putfield 41, 3) := by decide +kernel
theorem dX12_init_79 : decode cX12_init 79 = .ok (.aload_n 0, 1) := by decide +kernel
theorem dX12_init_80 : decode cX12_init 80 = .ok (.bipush 6, 2) := by decide +kernel
theorem dX12_init_82 : decode cX12_init 82 = .ok (.newarray .int, 2) := by decide +kernel
theorem dX12_init_84 : decode cX12_init 84 = .ok (.putfield 44, 3) := by decide +kernel
theorem dX12_init_87 : decode cX12_init 87 = .ok (.aload_n 0, 1) := by decide +kernel
theorem dX12_init_88 : decode cX12_init 88 = .ok (.bipush 8, 2) := by decide +kernel
theorem dX12_init_90 : decode cX12_init 90 = .ok (.newarray .int, 2) := by decide +kernel
theorem dX12_init_92 : decode cX12_init 92 = .ok (.putfield 47, 3) := by decide +kernel
theorem dX12_init_95 : decode cX12_init 95 = .ok (.aload_n 0, 1) := by decide +kernel
theorem dX12_init_96 : decode cX12_init 96 = .ok (.bipush 8, 2) := by decide +kernel
theorem dX12_init_98 : decode cX12_init 98 = .ok (.newarray .int, 2) := by decide +kernel
theorem dX12_init_100 : decode cX12_init 100 = .ok (.putfield 50, 3) := by decide +kernel
theorem dX12_init_103 : decode cX12_init 103 = .ok (.aload_n 0, 1) := by decide +kernel
theorem dX12_init_104 : decode cX12_init 104 = .ok (.bipush 49, 2) := by decide +kernel
theorem dX12_init_106 : decode cX12_init 106 = .ok (.newarray .int, 2) := by decide +kernel
theorem dX12_init_108 : decode cX12_init 108 = .ok (.putfield 53, 3) := by decide +kernel
theorem dX12_init_111 : decode cX12_init 111 = .ok (.aload_n 0, 1) := by decide +kernel
theorem dX12_init_112 : decode cX12_init 112 = .ok (.sipush 1400, 3) := by decide +kernel
theorem dX12_init_115 : decode cX12_init 115 = .ok (.newarray .int, 2) := by decide +kernel
theorem dX12_init_117 : decode cX12_init 117 = .ok (.putfield 56, 3) := by decide +kernel
theorem dX12_init_120 : decode cX12_init 120 = .ok (.aload_n 0, 1) := by decide +kernel
theorem dX12_init_121 : decode cX12_init 121 = .ok (.sipush 950, 3) := by decide +kernel
theorem dX12_init_124 : decode cX12_init 124 = .ok (.newarray .int, 2) := by decide +kernel
theorem dX12_init_126 : decode cX12_init 126 = .ok (.putfield 59, 3) := by decide +kernel
theorem dX12_init_129 : decode cX12_init 129 = .ok (.aload_n 0, 1) := by decide +kernel
theorem dX12_init_130 : decode cX12_init 130 = .ok (.bipush 9, 2) := by decide +kernel
theorem dX12_init_132 : decode cX12_init 132 = .ok (.newarray .boolean, 2) := by decide +kernel
theorem dX12_init_134 : decode cX12_init 134 = .ok (.putfield 62, 3) := by decide +kernel
theorem dX12_init_137 : decode cX12_init 137 = .ok (.aload_n 0, 1) := by decide +kernel
theorem dX12_init_138 : decode cX12_init 138 = .ok (.bipush 98, 2) := by decide +kernel
theorem dX12_init_140 : decode cX12_init 140 = .ok (.newarray .int, 2) := by decide +kernel
theorem dX12_init_142 : decode cX12_init 142 = .ok (.putfield 66, 3) := by decide +kernel
theorem dX12_init_145 : decode cX12_init 145 = .ok (.aload_n 0, 1) := by decide +kernel
theorem dX12_init_146 : decode cX12_init 146 = .ok (.sipush 1960, 3) := by decide +kernel
theorem dX12_init_149 : decode cX12_init 149 = .ok (.newarray .int, 2) := by decide +kernel
theorem dX12_init_151 : decode cX12_init 151 = .ok (.putfield 69, 3) := by decide +kernel
theorem dX12_init_154 : decode cX12_init 154 = .ok (.aload_n 0, 1) := by decide +kernel
theorem dX12_init_155 : decode cX12_init 155 = .ok (.bipush 6, 2) := by decide +kernel
theorem dX12_init_157 : decode cX12_init 157 = .ok (.newarray .int, 2) := by decide +kernel
theorem dX12_init_159 : decode cX12_init 159 = .ok (.putfield 72, 3) := by decide +kernel
theorem dX12_init_162 : decode cX12_init 162 = .ok (.aload_n 0, 1) := by decide +kernel
theorem dX12_init_163 : decode cX12_init 163 = .ok (.sipush 950, 3) := by decide +kernel
theorem dX12_init_166 : decode cX12_init 166 = .ok (.newarray .int, 2) := by decide +kernel
theorem dX12_init_168 : decode cX12_init 168 = .ok (.putfield 75, 3) := by decide +kernel
theorem dX12_init_171 : decode cX12_init 171 = .ok (.aload_n 0, 1) := by decide +kernel
theorem dX12_init_172 : decode cX12_init 172 = .ok (.bipush 12, 2) := by decide +kernel
theorem dX12_init_174 : decode cX12_init 174 = .ok (.newarray .int, 2) := by decide +kernel
theorem dX12_init_176 : decode cX12_init 176 = .ok (.putfield 78, 3) := by decide +kernel
theorem dX12_init_179 : decode cX12_init 179 = .ok (.aload_n 0, 1) := by decide +kernel
theorem dX12_init_180 : decode cX12_init 180 = .ok (.sipush 448, 3) := by decide +kernel
theorem dX12_init_183 : decode cX12_init 183 = .ok (.newarray .int, 2) := by decide +kernel
theorem dX12_init_185 : decode cX12_init 185 = .ok (.putfield 81, 3) := by decide +kernel
theorem dX12_init_188 : decode cX12_init 188 = .ok (.aload_n 0, 1) := by decide +kernel
theorem dX12_init_189 : decode cX12_init 189 = .ok (.bipush 6, 2) := by decide +kernel
theorem dX12_init_191 : decode cX12_init 191 = .ok (.newarray .int, 2) := by decide +kernel
theorem dX12_init_193 : decode cX12_init 193 = .ok (.putfield 84, 3) := by decide +kernel
theorem dX12_init_196 : decode cX12_init 196 = .ok (.aload_n 0, 1) := by decide +kernel
theorem dX12_init_197 : decode cX12_init 197 = .ok (.bipush 9, 2) := by decide +kernel
theorem dX12_init_199 : decode cX12_init 199 = .ok (.newarray .int, 2) := by decide +kernel
theorem dX12_init_201 : decode cX12_init 201 = .ok (.putfield 87, 3) := by decide +kernel
theorem dX12_init_204 : decode cX12_init 204 = .ok (.aload_n 0, 1) := by decide +kernel
theorem dX12_init_205 : decode cX12_init 205 = .ok (.bipush 10, 2) := by decide +kernel
theorem dX12_init_207 : decode cX12_init 207 = .ok (.newarray .int, 2) := by decide +kernel
theorem dX12_init_209 : decode cX12_init 209 = .ok (.putfield 90, 3) := by decide +kernel
theorem dX12_init_212 : decode cX12_init 212 = .ok (.aload_n 0, 1) := by decide +kernel
theorem dX12_init_213 : decode cX12_init 213 = .ok (.bipush 10, 2) := by decide +kernel
theorem dX12_init_215 : decode cX12_init 215 = .ok (.newarray .int, 2) := by decide +kernel
theorem dX12_init_217 : decode cX12_init 217 = .ok (.putfield 93, 3) := by decide +kernel
theorem dX12_init_220 : decode cX12_init 220 = .ok (.aload_n 0, 1) := by decide +kernel
theorem dX12_init_221 : decode cX12_init 221 = .ok (.bipush 24, 2) := by decide +kernel
theorem dX12_init_223 : decode cX12_init 223 = .ok (.newarray .int, 2) := by decide +kernel
theorem dX12_init_225 : decode cX12_init 225 = .ok (.putfield 96, 3) := by decide +kernel
theorem dX12_init_228 : decode cX12_init 228 = .ok (.aload_n 0, 1) := by decide +kernel
theorem dX12_init_229 : decode cX12_init 229 = .ok (.bipush 12, 2) := by decide +kernel
theorem dX12_init_231 : decode cX12_init 231 = .ok (.newarray .int, 2) := by decide +kernel
theorem dX12_init_233 : decode cX12_init 233 = .ok (.putfield 99, 3) := by decide +kernel
theorem dX12_init_236 : decode cX12_init 236 = .ok (.aload_n 0, 1) := by decide +kernel
theorem dX12_init_237 : decode cX12_init 237 = .ok (.sipush 7200, 3) := by decide +kernel
theorem dX12_init_240 : decode cX12_init 240 = .ok (.newarray .int, 2) := by decide +kernel
theorem dX12_init_242 : decode cX12_init 242 = .ok (.putfield 102, 3) := by decide +kernel
theorem dX12_init_245 : decode cX12_init 245 = .ok (.aload_n 0, 1) := by decide +kernel
theorem dX12_init_246 : decode cX12_init 246 = .ok (.bipush 24, 2) := by decide +kernel
theorem dX12_init_248 : decode cX12_init 248 = .ok (.newarray .int, 2) := by decide +kernel
theorem dX12_init_250 : decode cX12_init 250 = .ok (.putfield 105, 3) := by decide +kernel
theorem dX12_init_253 : decode cX12_init 253 = .ok (.aload_n 0, 1) := by decide +kernel
theorem dX12_init_254 : decode cX12_init 254 = .ok (.bipush 49, 2) := by decide +kernel
theorem dX12_init_256 : decode cX12_init 256 = .ok (.newarray .int, 2) := by decide +kernel
theorem dX12_init_258 : decode cX12_init 258 = .ok (.putfield 108, 3) := by decide +kernel
theorem dX12_init_261 : decode cX12_init 261 = .ok (.aload_n 0, 1) := by decide +kernel
theorem dX12_init_262 : decode cX12_init 262 = .ok (.sipush 1960, 3) := by decide +kernel
theorem dX12_init_265 : decode cX12_init 265 = .ok (.newarray .int, 2) := by decide +kernel
theorem dX12_init_267 : decode cX12_init 267 = .ok (.putfield 111, 3) := by decide +kernel
theorem dX12_init_270 : decode cX12_init 270 = .ok (.aload_n 0, 1) := by decide +kernel
theorem dX12_init_271 : decode cX12_init 271 = .ok (.bipush 24, 2) := by decide +kernel
theorem dX12_init_273 : decode cX12_init 273 = .ok (.newarray .int, 2) := by decide +kernel
theorem dX12_init_275 : decode cX12_init 275 = .ok (.putfield 114, 3) := by decide +kernel
theorem dX12_init_278 : decode cX12_init 278 = .ok (.iconst 0, 1) := by decide +kernel
theorem dX12_init_279 : decode cX12_init 279 = .ok (.istore_n 1, 1) := by decide +kernel
theorem dX12_init_280 : decode cX12_init 280 = .ok (.iload_n 1, 1) := by decide +kernel
theorem dX12_init_281 : decode cX12_init 281 = .ok (.iconst 3, 1) := by decide +kernel
theorem dX12_init_282 : decode cX12_init 282 = .ok (.if_icmp .ge 20, 3) := by decide +kernel
theorem dX12_init_285 : decode cX12_init 285 = .ok (.aload_n 0, 1) := by decide +kernel
theorem dX12_init_286 : decode cX12_init 286 = .ok (.getfield 66, 3) := by decide +kernel
theorem dX12_init_289 : decode cX12_init 289 = .ok (.bipush 13, 2) := by decide +kernel
theorem dX12_init_291 : decode cX12_init 291 = .ok (.iload_n 1, 1) := by decide +kernel
theorem dX12_init_292 : decode cX12_init 292 = .ok (.iadd, 1) := by decide +kernel
theorem dX12_init_293 : decode cX12_init 293 = .ok (.bipush 50, 2) := by decide +kernel
theorem dX12_init_295 : decode cX12_init 295 = .ok (.iastore, 1) := by decide +kernel
theorem dX12_init_296 : decode cX12_init 296 = .ok (.iinc 1 1, 3) := by decide +kernel
theorem dX12_init_299 : decode cX12_init 299 = .ok (.goto (-19), 3) := by decide +kernel
theorem dX12_init_302 : decode cX12_init 302 = .ok (.return_, 1) := by decide +kernel
theorem dX12_thrown_0 : decode cX12_thrown 0 = .ok (.aload_n 0, 1) := by decide +kernel
theorem dX12_thrown_1 : decode cX12_thrown 1 = .ok (.getfield 117, 3) := by decide +kernel
theorem dX12_thrown_4 : decode cX12_thrown 4 = .ok (.ireturn, 1) := by decide +kernel
theorem dX12_right_0 : decode cX12_right 0 = .ok (.aload_n 0, 1) := by decide +kernel
theorem dX12_right_1 : decode cX12_right 1 = .ok (.getfield 117, 3) := by decide +kernel
theorem dX12_right_4 : decode cX12_right 4 = .ok (.ifCond .ne 12, 3) := by decide +kernel
theorem dX12_right_7 : decode cX12_right 7 = .ok (.iload_n 1, 1) := by decide +kernel
theorem dX12_right_8 : decode cX12_right 8 = .ok (.ifCond .ne 8, 3) := by decide +kernel
theorem dX12_right_11 : decode cX12_right 11 = .ok (.aload_n 0, 1) := by decide +kernel
theorem dX12_right_12 : decode cX12_right 12 = .ok (.iload_n 2, 1) := by decide +kernel
theorem dX12_right_13 : decode cX12_right 13 = .ok (.putfield 117, 3) := by decide +kernel
theorem dX12_right_16 : decode cX12_right 16 = .ok (.aload_n 0, 1) := by decide +kernel
theorem dX12_right_17 : decode cX12_right 17 = .ok (.getfield 117, 3) := by decide +kernel
theorem dX12_right_20 : decode cX12_right 20 = .ok (.ifCond .ne 7, 3) := by decide +kernel
theorem dX12_right_23 : decode cX12_right 23 = .ok (.iconst 1, 1) := by decide +kernel
theorem dX12_right_24 : decode cX12_right 24 = .ok (.goto 4, 3) := by decide +kernel
theorem dX12_right_27 : decode cX12_right 27 = .ok (.iconst 0, 1) := by decide +kernel
theorem dX12_right_28 : decode cX12_right 28 = .ok (.ireturn, 1) := by decide +kernel
theorem dX12_within_0 : decode cX12_within 0 = .ok (.iload_n 0, 1) := by decide +kernel
theorem dX12_within_1 : decode cX12_within 1 = .ok (.iload_n 1, 1) := by decide +kernel
theorem dX12_within_2 : decode cX12_within 2 = .ok (.if_icmp .lt 12, 3) := by decide +kernel
theorem dX12_within_5 : decode cX12_within 5 = .ok (.iload_n 0, 1) := by decide +kernel
theorem dX12_within_6 : decode cX12_within 6 = .ok (.iload_n 2, 1) := by decide +kernel
theorem dX12_within_7 : decode cX12_within 7 = .ok (.if_icmp .gt 7, 3) := by decide +kernel
theorem dX12_within_10 : decode cX12_within 10 = .ok (.iconst 1, 1) := by decide +kernel
theorem dX12_within_11 : decode cX12_within 11 = .ok (.goto 4, 3) := by decide +kernel
theorem dX12_within_14 : decode cX12_within 14 = .ok (.iconst 0, 1) := by decide +kernel
theorem dX12_within_15 : decode cX12_within 15 = .ok (.ireturn, 1) := by decide +kernel
theorem dX12_bounded_0 : decode cX12_bounded 0 = .ok (.iload_n 0, 1) := by decide +kernel
theorem dX12_bounded_1 : decode cX12_bounded 1 = .ok (.iload_n 1, 1) := by decide +kernel
theorem dX12_bounded_2 : decode cX12_bounded 2 = .ok (.if_icmp .ge 7, 3) := by decide +kernel
theorem dX12_bounded_5 : decode cX12_bounded 5 = .ok (.iload_n 1, 1) := by decide +kernel
theorem dX12_bounded_6 : decode cX12_bounded 6 = .ok (.goto 13, 3) := by decide +kernel
theorem dX12_bounded_9 : decode cX12_bounded 9 = .ok (.iload_n 0, 1) := by decide +kernel
theorem dX12_bounded_10 : decode cX12_bounded 10 = .ok (.iload_n 2, 1) := by decide +kernel
theorem dX12_bounded_11 : decode cX12_bounded 11 = .ok (.if_icmp .le 7, 3) := by decide +kernel
theorem dX12_bounded_14 : decode cX12_bounded 14 = .ok (.iload_n 2, 1) := by decide +kernel
theorem dX12_bounded_15 : decode cX12_bounded 15 = .ok (.goto 4, 3) := by decide +kernel
theorem dX12_bounded_18 : decode cX12_bounded 18 = .ok (.iload_n 0, 1) := by decide +kernel
theorem dX12_bounded_19 : decode cX12_bounded 19 = .ok (.ireturn, 1) := by decide +kernel
theorem dX12_lesser_0 : decode cX12_lesser 0 = .ok (.iload_n 0, 1) := by decide +kernel
theorem dX12_lesser_1 : decode cX12_lesser 1 = .ok (.iload_n 1, 1) := by decide +kernel
theorem dX12_lesser_2 : decode cX12_lesser 2 = .ok (.if_icmp .ge 7, 3) := by decide +kernel
theorem dX12_lesser_5 : decode cX12_lesser 5 = .ok (.iload_n 0, 1) := by decide +kernel
theorem dX12_lesser_6 : decode cX12_lesser 6 = .ok (.goto 4, 3) := by decide +kernel
theorem dX12_lesser_9 : decode cX12_lesser 9 = .ok (.iload_n 1, 1) := by decide +kernel
theorem dX12_lesser_10 : decode cX12_lesser 10 = .ok (.ireturn, 1) := by decide +kernel
theorem dX12_copies_0 : decode cX12_copies 0 = .ok (.iconst 0, 1) := by decide +kernel
theorem dX12_copies_1 : decode cX12_copies 1 = .ok (.istore_n 3, 1) := by decide +kernel
theorem dX12_copies_2 : decode cX12_copies 2 = .ok (.iload_n 3, 1) := by decide +kernel
theorem dX12_copies_3 : decode cX12_copies 3 = .ok (.aload_n 1, 1) := by decide +kernel
theorem dX12_copies_4 : decode cX12_copies 4 = .ok (.arraylength, 1) := by decide +kernel
theorem dX12_copies_5 : decode cX12_copies 5 = .ok (.if_icmp .ge 15, 3) := by decide +kernel
theorem dX12_copies_8 : decode cX12_copies 8 = .ok (.aload_n 2, 1) := by decide +kernel
theorem dX12_copies_9 : decode cX12_copies 9 = .ok (.iload_n 3, 1) := by decide +kernel
theorem dX12_copies_10 : decode cX12_copies 10 = .ok (.aload_n 1, 1) := by decide +kernel
theorem dX12_copies_11 : decode cX12_copies 11 = .ok (.iload_n 3, 1) := by decide +kernel
theorem dX12_copies_12 : decode cX12_copies 12 = .ok (.iaload, 1) := by decide +kernel
theorem dX12_copies_13 : decode cX12_copies 13 = .ok (.iastore, 1) := by decide +kernel
theorem dX12_copies_14 : decode cX12_copies 14 = .ok (.iinc 3 1, 3) := by decide +kernel
theorem dX12_copies_17 : decode cX12_copies 17 = .ok (.goto (-15), 3) := by decide +kernel
theorem dX12_copies_20 : decode cX12_copies 20 = .ok (.return_, 1) := by decide +kernel
theorem dX12_bits_0 : decode cX12_bits 0 = .ok (.iconst 0, 1) := by decide +kernel
theorem dX12_bits_1 : decode cX12_bits 1 = .ok (.istore_n 1, 1) := by decide +kernel
theorem dX12_bits_2 : decode cX12_bits 2 = .ok (.iconst 0, 1) := by decide +kernel
theorem dX12_bits_3 : decode cX12_bits 3 = .ok (.istore_n 2, 1) := by decide +kernel
theorem dX12_bits_4 : decode cX12_bits 4 = .ok (.iload_n 2, 1) := by decide +kernel
theorem dX12_bits_5 : decode cX12_bits 5 = .ok (.bipush 12, 2) := by decide +kernel
theorem dX12_bits_7 : decode cX12_bits 7 = .ok (.if_icmp .ge 17, 3) := by decide +kernel
theorem dX12_bits_10 : decode cX12_bits 10 = .ok (.iload_n 1, 1) := by decide +kernel
theorem dX12_bits_11 : decode cX12_bits 11 = .ok (.iload_n 0, 1) := by decide +kernel
theorem dX12_bits_12 : decode cX12_bits 12 = .ok (.iload_n 2, 1) := by decide +kernel
theorem dX12_bits_13 : decode cX12_bits 13 = .ok (.ishr, 1) := by decide +kernel
theorem dX12_bits_14 : decode cX12_bits 14 = .ok (.iconst 1, 1) := by decide +kernel
theorem dX12_bits_15 : decode cX12_bits 15 = .ok (.iand, 1) := by decide +kernel
theorem dX12_bits_16 : decode cX12_bits 16 = .ok (.iadd, 1) := by decide +kernel
theorem dX12_bits_17 : decode cX12_bits 17 = .ok (.istore_n 1, 1) := by decide +kernel
theorem dX12_bits_18 : decode cX12_bits 18 = .ok (.iinc 2 1, 3) := by decide +kernel
theorem dX12_bits_21 : decode cX12_bits 21 = .ok (.goto (-17), 3) := by decide +kernel
theorem dX12_bits_24 : decode cX12_bits 24 = .ok (.iload_n 1, 1) := by decide +kernel
theorem dX12_bits_25 : decode cX12_bits 25 = .ok (.ireturn, 1) := by decide +kernel
theorem dX12_feed_0 : decode cX12_feed 0 = .ok (.aload_n 0, 1) := by decide +kernel
theorem dX12_feed_1 : decode cX12_feed 1 = .ok (.iconst 0, 1) := by decide +kernel
theorem dX12_feed_2 : decode cX12_feed 2 = .ok (.putfield 117, 3) := by decide +kernel
theorem dX12_feed_5 : decode cX12_feed 5 = .ok (.aload_n 0, 1) := by decide +kernel
theorem dX12_feed_6 : decode cX12_feed 6 = .ok (.getfield 120, 3) := by decide +kernel
theorem dX12_feed_9 : decode cX12_feed 9 = .ok (.bipush 20, 2) := by decide +kernel
theorem dX12_feed_11 : decode cX12_feed 11 = .ok (.iadd, 1) := by decide +kernel
theorem dX12_feed_12 : decode cX12_feed 12 = .ok (.sipush 700, 3) := by decide +kernel
theorem dX12_feed_15 : decode cX12_feed 15 = .ok (.if_icmp .le 5, 3) := by decide +kernel
theorem dX12_feed_18 : decode cX12_feed 18 = .ok (.iconst (-1), 1) := by decide +kernel
theorem dX12_feed_19 : decode cX12_feed 19 = .ok (.ireturn, 1) := by decide +kernel
theorem dX12_feed_20 : decode cX12_feed 20 = .ok (.aload_n 0, 1) := by decide +kernel
theorem dX12_feed_21 : decode cX12_feed 21 = .ok (.iload_n 1, 1) := by decide +kernel
theorem dX12_feed_22 : decode cX12_feed 22 = .ok (.invokevirtual 123, 3) := by decide +kernel
theorem dX12_feed_25 : decode cX12_feed 25 = .ok (.aload_n 0, 1) := by decide +kernel
theorem dX12_feed_26 : decode cX12_feed 26 = .ok (.iload_n 2, 1) := by decide +kernel
theorem dX12_feed_27 : decode cX12_feed 27 = .ok (.invokevirtual 123, 3) := by decide +kernel
theorem dX12_feed_30 : decode cX12_feed 30 = .ok (.aload_n 0, 1) := by decide +kernel
theorem dX12_feed_31 : decode cX12_feed 31 = .ok (.iload_n 3, 1) := by decide +kernel
theorem dX12_feed_32 : decode cX12_feed 32 = .ok (.invokevirtual 123, 3) := by decide +kernel
theorem dX12_feed_35 : decode cX12_feed 35 = .ok (.aload_n 0, 1) := by decide +kernel
theorem dX12_feed_36 : decode cX12_feed 36 = .ok (.iload 4, 2) := by decide +kernel
theorem dX12_feed_38 : decode cX12_feed 38 = .ok (.invokevirtual 123, 3) := by decide +kernel
theorem dX12_feed_41 : decode cX12_feed 41 = .ok (.aload_n 0, 1) := by decide +kernel
theorem dX12_feed_42 : decode cX12_feed 42 = .ok (.iload 5, 2) := by decide +kernel
theorem dX12_feed_44 : decode cX12_feed 44 = .ok (.invokevirtual 123, 3) := by decide +kernel
theorem dX12_feed_47 : decode cX12_feed 47 = .ok (.aload_n 0, 1) := by decide +kernel
theorem dX12_feed_48 : decode cX12_feed 48 = .ok (.getfield 120, 3) := by decide +kernel
theorem dX12_feed_51 : decode cX12_feed 51 = .ok (.ireturn, 1) := by decide +kernel
theorem dX12_lays_0 : decode cX12_lays 0 = .ok (.bipush 24, 2) := by decide +kernel
theorem dX12_lays_2 : decode cX12_lays 2 = .ok (.istore_n 2, 1) := by decide +kernel
theorem dX12_lays_3 : decode cX12_lays 3 = .ok (.iload_n 2, 1) := by decide +kernel
theorem dX12_lays_4 : decode cX12_lays 4 = .ok (.ifCond .lt 35, 3) := by decide +kernel
theorem dX12_lays_7 : decode cX12_lays 7 = .ok (.aload_n 0, 1) := by decide +kernel
theorem dX12_lays_8 : decode cX12_lays 8 = .ok (.getfield 35, 3) := by decide +kernel
theorem dX12_lays_11 : decode cX12_lays 11 = .ok (.aload_n 0, 1) := by decide +kernel
theorem dX12_lays_12 : decode cX12_lays 12 = .ok (.getfield 120, 3) := by decide +kernel
theorem dX12_lays_15 : decode cX12_lays 15 = .ok (.iload_n 1, 1) := by decide +kernel
theorem dX12_lays_16 : decode cX12_lays 16 = .ok (.iload_n 2, 1) := by decide +kernel
theorem dX12_lays_17 : decode cX12_lays 17 = .ok (.ishr, 1) := by decide +kernel
theorem dX12_lays_18 : decode cX12_lays 18 = .ok (.sipush 255, 3) := by decide +kernel
theorem dX12_lays_21 : decode cX12_lays 21 = .ok (.iand, 1) := by decide +kernel
theorem dX12_lays_22 : decode cX12_lays 22 = .ok (.iastore, 1) := by decide +kernel
theorem dX12_lays_23 : decode cX12_lays 23 = .ok (.aload_n 0, 1) := by decide +kernel
theorem dX12_lays_24 : decode cX12_lays 24 = .ok (.dup, 1) := by decide +kernel
theorem dX12_lays_25 : decode cX12_lays 25 = .ok (.getfield 120, 3) := by decide +kernel
theorem dX12_lays_28 : decode cX12_lays 28 = .ok (.iconst 1, 1) := by decide +kernel
theorem dX12_lays_29 : decode cX12_lays 29 = .ok (.iadd, 1) := by decide +kernel
theorem dX12_lays_30 : decode cX12_lays 30 = .ok (.putfield 120, 3) := by decide +kernel
theorem dX12_lays_33 : decode cX12_lays 33 = .ok (.iinc 2 (-8), 3) := by decide +kernel
theorem dX12_lays_36 : decode cX12_lays 36 = .ok (.goto (-33), 3) := by decide +kernel
theorem dX12_lays_39 : decode cX12_lays 39 = .ok (.return_, 1) := by decide +kernel
theorem dX12_byteAt_0 : decode cX12_byteAt 0 = .ok (.iload_n 1, 1) := by decide +kernel
theorem dX12_byteAt_1 : decode cX12_byteAt 1 = .ok (.aload_n 0, 1) := by decide +kernel
theorem dX12_byteAt_2 : decode cX12_byteAt 2 = .ok (.getfield 127, 3) := by decide +kernel
theorem dX12_byteAt_5 : decode cX12_byteAt 5 = .ok (.if_icmp .ge 12, 3) := by decide +kernel
theorem dX12_byteAt_8 : decode cX12_byteAt 8 = .ok (.aload_n 0, 1) := by decide +kernel
theorem dX12_byteAt_9 : decode cX12_byteAt 9 = .ok (.getfield 35, 3) := by decide +kernel
theorem dX12_byteAt_12 : decode cX12_byteAt 12 = .ok (.iload_n 1, 1) := by decide +kernel
theorem dX12_byteAt_13 : decode cX12_byteAt 13 = .ok (.iaload, 1) := by decide +kernel
theorem dX12_byteAt_14 : decode cX12_byteAt 14 = .ok (.goto 4, 3) := by decide +kernel
theorem dX12_byteAt_17 : decode cX12_byteAt 17 = .ok (.iconst 0, 1) := by decide +kernel
theorem dX12_byteAt_18 : decode cX12_byteAt 18 = .ok (.ireturn, 1) := by decide +kernel
theorem dX12_isLetter_0 : decode cX12_isLetter 0 = .ok (.iload_n 0, 1) := by decide +kernel
theorem dX12_isLetter_1 : decode cX12_isLetter 1 = .ok (.bipush 97, 2) := by decide +kernel
theorem dX12_isLetter_3 : decode cX12_isLetter 3 = .ok (.if_icmp .lt 13, 3) := by decide +kernel
theorem dX12_isLetter_6 : decode cX12_isLetter 6 = .ok (.iload_n 0, 1) := by decide +kernel
theorem dX12_isLetter_7 : decode cX12_isLetter 7 = .ok (.bipush 122, 2) := by decide +kernel
theorem dX12_isLetter_9 : decode cX12_isLetter 9 = .ok (.if_icmp .gt 7, 3) := by decide +kernel
theorem dX12_isLetter_12 : decode cX12_isLetter 12 = .ok (.iconst 1, 1) := by decide +kernel
theorem dX12_isLetter_13 : decode cX12_isLetter 13 = .ok (.goto 4, 3) := by decide +kernel
theorem dX12_isLetter_16 : decode cX12_isLetter 16 = .ok (.iconst 0, 1) := by decide +kernel
theorem dX12_isLetter_17 : decode cX12_isLetter 17 = .ok (.ireturn, 1) := by decide +kernel
theorem dX12_isDigit_0 : decode cX12_isDigit 0 = .ok (.iload_n 0, 1) := by decide +kernel
theorem dX12_isDigit_1 : decode cX12_isDigit 1 = .ok (.bipush 48, 2) := by decide +kernel
theorem dX12_isDigit_3 : decode cX12_isDigit 3 = .ok (.if_icmp .lt 13, 3) := by decide +kernel
theorem dX12_isDigit_6 : decode cX12_isDigit 6 = .ok (.iload_n 0, 1) := by decide +kernel
theorem dX12_isDigit_7 : decode cX12_isDigit 7 = .ok (.bipush 57, 2) := by decide +kernel
theorem dX12_isDigit_9 : decode cX12_isDigit 9 = .ok (.if_icmp .gt 7, 3) := by decide +kernel
theorem dX12_isDigit_12 : decode cX12_isDigit 12 = .ok (.iconst 1, 1) := by decide +kernel
theorem dX12_isDigit_13 : decode cX12_isDigit 13 = .ok (.goto 4, 3) := by decide +kernel
theorem dX12_isDigit_16 : decode cX12_isDigit 16 = .ok (.iconst 0, 1) := by decide +kernel
theorem dX12_isDigit_17 : decode cX12_isDigit 17 = .ok (.ireturn, 1) := by decide +kernel
theorem dX12_goes_0 : decode cX12_goes 0 = .ok (.aload_n 0, 1) := by decide +kernel
theorem dX12_goes_1 : decode cX12_goes 1 = .ok (.getfield 130, 3) := by decide +kernel
theorem dX12_goes_4 : decode cX12_goes 4 = .ok (.aload_n 0, 1) := by decide +kernel
theorem dX12_goes_5 : decode cX12_goes 5 = .ok (.getfield 127, 3) := by decide +kernel
theorem dX12_goes_8 : decode cX12_goes 8 = .ok (.if_icmp .ge 42, 3) := by decide +kernel
theorem dX12_goes_11 : decode cX12_goes 11 = .ok (.aload_n 0, 1) := by decide +kernel
theorem dX12_goes_12 : decode cX12_goes 12 = .ok (.aload_n 0, 1) := by decide +kernel
theorem dX12_goes_13 : decode cX12_goes 13 = .ok (.getfield 130, 3) := by decide +kernel
theorem dX12_goes_16 : decode cX12_goes 16 = .ok (.invokevirtual 133, 3) := by decide +kernel
theorem dX12_goes_19 : decode cX12_goes 19 = .ok (.bipush 32, 2) := by decide +kernel
theorem dX12_goes_21 : decode cX12_goes 21 = .ok (.if_icmp .eq 16, 3) := by decide +kernel
theorem dX12_goes_24 : decode cX12_goes 24 = .ok (.aload_n 0, 1) := by decide +kernel
theorem dX12_goes_25 : decode cX12_goes 25 = .ok (.aload_n 0, 1) := by decide +kernel
theorem dX12_goes_26 : decode cX12_goes 26 = .ok (.getfield 130, 3) := by decide +kernel
theorem dX12_goes_29 : decode cX12_goes 29 = .ok (.invokevirtual 133, 3) := by decide +kernel
theorem dX12_goes_32 : decode cX12_goes 32 = .ok (.bipush 10, 2) := by decide +kernel
theorem dX12_goes_34 : decode cX12_goes 34 = .ok (.if_icmp .ne 16, 3) := by decide +kernel
theorem dX12_goes_37 : decode cX12_goes 37 = .ok (.aload_n 0, 1) := by decide +kernel
theorem dX12_goes_38 : decode cX12_goes 38 = .ok (.dup, 1) := by decide +kernel
theorem dX12_goes_39 : decode cX12_goes 39 = .ok (.getfield 130, 3) := by decide +kernel
theorem dX12_goes_42 : decode cX12_goes 42 = .ok (.iconst 1, 1) := by decide +kernel
theorem dX12_goes_43 : decode cX12_goes 43 = .ok (.iadd, 1) := by decide +kernel
theorem dX12_goes_44 : decode cX12_goes 44 = .ok (.putfield 130, 3) := by decide +kernel
theorem dX12_goes_47 : decode cX12_goes 47 = .ok (.goto (-47), 3) := by decide +kernel
theorem dX12_goes_50 : decode cX12_goes 50 = .ok (.aload_n 0, 1) := by decide +kernel
theorem dX12_goes_51 : decode cX12_goes 51 = .ok (.aload_n 0, 1) := by decide +kernel
theorem dX12_goes_52 : decode cX12_goes 52 = .ok (.getfield 130, 3) := by decide +kernel
theorem dX12_goes_55 : decode cX12_goes 55 = .ok (.putfield 137, 3) := by decide +kernel
theorem dX12_goes_58 : decode cX12_goes 58 = .ok (.aload_n 0, 1) := by decide +kernel
theorem dX12_goes_59 : decode cX12_goes 59 = .ok (.lconst 0, 1) := by decide +kernel
theorem dX12_goes_60 : decode cX12_goes 60 = .ok (.putfield 140, 3) := by decide +kernel
theorem dX12_goes_63 : decode cX12_goes 63 = .ok (.aload_n 0, 1) := by decide +kernel
theorem dX12_goes_64 : decode cX12_goes 64 = .ok (.iconst 0, 1) := by decide +kernel
theorem dX12_goes_65 : decode cX12_goes 65 = .ok (.putfield 144, 3) := by decide +kernel
theorem dX12_goes_68 : decode cX12_goes 68 = .ok (.aload_n 0, 1) := by decide +kernel
theorem dX12_goes_69 : decode cX12_goes 69 = .ok (.aload_n 0, 1) := by decide +kernel
theorem dX12_goes_70 : decode cX12_goes 70 = .ok (.getfield 130, 3) := by decide +kernel
theorem dX12_goes_73 : decode cX12_goes 73 = .ok (.invokevirtual 133, 3) := by decide +kernel
theorem dX12_goes_76 : decode cX12_goes 76 = .ok (.istore_n 1, 1) := by decide +kernel
theorem dX12_goes_77 : decode cX12_goes 77 = .ok (.aload_n 0, 1) := by decide +kernel
theorem dX12_goes_78 : decode cX12_goes 78 = .ok (.iload_n 1, 1) := by decide +kernel
theorem dX12_goes_79 : decode cX12_goes 79 = .ok (.putfield 147, 3) := by decide +kernel
theorem dX12_goes_82 : decode cX12_goes 82 = .ok (.aload_n 0, 1) := by decide +kernel
theorem dX12_goes_83 : decode cX12_goes 83 = .ok (.getfield 130, 3) := by decide +kernel
theorem dX12_goes_86 : decode cX12_goes 86 = .ok (.aload_n 0, 1) := by decide +kernel
theorem dX12_goes_87 : decode cX12_goes 87 = .ok (.getfield 127, 3) := by decide +kernel
theorem dX12_goes_90 : decode cX12_goes 90 = .ok (.if_icmp .lt 11, 3) := by decide +kernel
theorem dX12_goes_93 : decode cX12_goes 93 = .ok (.aload_n 0, 1) := by decide +kernel
theorem dX12_goes_94 : decode cX12_goes 94 = .ok (.iconst 0, 1) := by decide +kernel
theorem dX12_goes_95 : decode cX12_goes 95 = .ok (.putfield 150, 3) := by decide +kernel
theorem dX12_goes_98 : decode cX12_goes 98 = .ok (.goto 233, 3) := by decide +kernel
theorem dX12_goes_101 : decode cX12_goes 101 = .ok (.iload_n 1, 1) := by decide +kernel
theorem dX12_goes_102 : decode cX12_goes 102 = .ok (.invokestatic 153, 3) := by decide +kernel
theorem dX12_goes_105 : decode cX12_goes 105 = .ok (.ifCond .eq 75, 3) := by decide +kernel
theorem dX12_goes_108 : decode cX12_goes 108 = .ok (.aload_n 0, 1) := by decide +kernel
theorem dX12_goes_109 : decode cX12_goes 109 = .ok (.aload_n 0, 1) := by decide +kernel
theorem dX12_goes_110 : decode cX12_goes 110 = .ok (.getfield 130, 3) := by decide +kernel
theorem dX12_goes_113 : decode cX12_goes 113 = .ok (.invokevirtual 133, 3) := by decide +kernel
theorem dX12_goes_116 : decode cX12_goes 116 = .ok (.invokestatic 153, 3) := by decide +kernel
theorem dX12_goes_119 : decode cX12_goes 119 = .ok (.ifCond .eq 53, 3) := by decide +kernel
theorem dX12_goes_122 : decode cX12_goes 122 = .ok (.aload_n 0, 1) := by decide +kernel
theorem dX12_goes_123 : decode cX12_goes 123 = .ok (.getfield 130, 3) := by decide +kernel
theorem dX12_goes_126 : decode cX12_goes 126 = .ok (.aload_n 0, 1) := by decide +kernel
theorem dX12_goes_127 : decode cX12_goes 127 = .ok (.getfield 137, 3) := by decide +kernel
theorem dX12_goes_130 : decode cX12_goes 130 = .ok (.isub, 1) := by decide +kernel
theorem dX12_goes_131 : decode cX12_goes 131 = .ok (.bipush 7, 2) := by decide +kernel
theorem dX12_goes_133 : decode cX12_goes 133 = .ok (.if_icmp .ge 26, 3) := by decide +kernel
theorem dX12_goes_136 : decode cX12_goes 136 = .ok (.aload_n 0, 1) := by decide +kernel
theorem dX12_goes_137 : decode cX12_goes 137 = .ok (.aload_n 0, 1) := by decide +kernel
theorem dX12_goes_138 : decode cX12_goes 138 = .ok (.getfield 140, 3) := by decide +kernel
theorem dX12_goes_141 : decode cX12_goes 141 = .ok (.iconst 5, 1) := by decide +kernel
theorem dX12_goes_142 : decode cX12_goes 142 = .ok (.lshl, 1) := by decide +kernel
theorem dX12_goes_143 : decode cX12_goes 143 = .ok (.aload_n 0, 1) := by decide +kernel
theorem dX12_goes_144 : decode cX12_goes 144 = .ok (.aload_n 0, 1) := by decide +kernel
theorem dX12_goes_145 : decode cX12_goes 145 = .ok (.getfield 130, 3) := by decide +kernel
theorem dX12_goes_148 : decode cX12_goes 148 = .ok (.invokevirtual 133, 3) := by decide +kernel
theorem dX12_goes_151 : decode cX12_goes 151 = .ok (.bipush 96, 2) := by decide +kernel
theorem dX12_goes_153 : decode cX12_goes 153 = .ok (.isub, 1) := by decide +kernel
theorem dX12_goes_154 : decode cX12_goes 154 = .ok (.i2l, 1) := by decide +kernel
theorem dX12_goes_155 : decode cX12_goes 155 = .ok (.lor, 1) := by decide +kernel
theorem dX12_goes_156 : decode cX12_goes 156 = .ok (.putfield 140, 3) := by decide +kernel
theorem dX12_goes_159 : decode cX12_goes 159 = .ok (.aload_n 0, 1) := by decide +kernel
theorem dX12_goes_160 : decode cX12_goes 160 = .ok (.dup, 1) := by decide +kernel
theorem dX12_goes_161 : decode cX12_goes 161 = .ok (.getfield 130, 3) := by decide +kernel
theorem dX12_goes_164 : decode cX12_goes 164 = .ok (.iconst 1, 1) := by decide +kernel
theorem dX12_goes_165 : decode cX12_goes 165 = .ok (.iadd, 1) := by decide +kernel
theorem dX12_goes_166 : decode cX12_goes 166 = .ok (.putfield 130, 3) := by decide +kernel
theorem dX12_goes_169 : decode cX12_goes 169 = .ok (.goto (-61), 3) := by decide +kernel
theorem dX12_goes_172 : decode cX12_goes 172 = .ok (.aload_n 0, 1) := by decide +kernel
theorem dX12_goes_173 : decode cX12_goes 173 = .ok (.iconst 1, 1) := by decide +kernel
theorem dX12_goes_174 : decode cX12_goes 174 = .ok (.putfield 150, 3) := by decide +kernel
theorem dX12_goes_177 : decode cX12_goes 177 = .ok (.goto 154, 3) := by decide +kernel
theorem dX12_goes_180 : decode cX12_goes 180 = .ok (.iload_n 1, 1) := by decide +kernel
theorem dX12_goes_181 : decode cX12_goes 181 = .ok (.invokestatic 157, 3) := by decide +kernel
theorem dX12_goes_184 : decode cX12_goes 184 = .ok (.ifCond .eq 74, 3) := by decide +kernel
theorem dX12_goes_187 : decode cX12_goes 187 = .ok (.aload_n 0, 1) := by decide +kernel
theorem dX12_goes_188 : decode cX12_goes 188 = .ok (.aload_n 0, 1) := by decide +kernel
theorem dX12_goes_189 : decode cX12_goes 189 = .ok (.getfield 130, 3) := by decide +kernel
theorem dX12_goes_192 : decode cX12_goes 192 = .ok (.invokevirtual 133, 3) := by decide +kernel
theorem dX12_goes_195 : decode cX12_goes 195 = .ok (.invokestatic 157, 3) := by decide +kernel
theorem dX12_goes_198 : decode cX12_goes 198 = .ok (.ifCond .eq 52, 3) := by decide +kernel
theorem dX12_goes_201 : decode cX12_goes 201 = .ok (.aload_n 0, 1) := by decide +kernel
theorem dX12_goes_202 : decode cX12_goes 202 = .ok (.getfield 130, 3) := by decide +kernel
theorem dX12_goes_205 : decode cX12_goes 205 = .ok (.aload_n 0, 1) := by decide +kernel
theorem dX12_goes_206 : decode cX12_goes 206 = .ok (.getfield 137, 3) := by decide +kernel
theorem dX12_goes_209 : decode cX12_goes 209 = .ok (.isub, 1) := by decide +kernel
theorem dX12_goes_210 : decode cX12_goes 210 = .ok (.iconst 4, 1) := by decide +kernel
theorem dX12_goes_211 : decode cX12_goes 211 = .ok (.if_icmp .ge 26, 3) := by decide +kernel
theorem dX12_goes_214 : decode cX12_goes 214 = .ok (.aload_n 0, 1) := by decide +kernel
theorem dX12_goes_215 : decode cX12_goes 215 = .ok (.bipush 10, 2) := by decide +kernel
theorem dX12_goes_217 : decode cX12_goes 217 = .ok (.aload_n 0, 1) := by decide +kernel
theorem dX12_goes_218 : decode cX12_goes 218 = .ok (.getfield 144, 3) := by decide +kernel
theorem dX12_goes_221 : decode cX12_goes 221 = .ok (.imul, 1) := by decide +kernel
theorem dX12_goes_222 : decode cX12_goes 222 = .ok (.aload_n 0, 1) := by decide +kernel
theorem dX12_goes_223 : decode cX12_goes 223 = .ok (.aload_n 0, 1) := by decide +kernel
theorem dX12_goes_224 : decode cX12_goes 224 = .ok (.getfield 130, 3) := by decide +kernel
theorem dX12_goes_227 : decode cX12_goes 227 = .ok (.invokevirtual 133, 3) := by decide +kernel
theorem dX12_goes_230 : decode cX12_goes 230 = .ok (.iadd, 1) := by decide +kernel
theorem dX12_goes_231 : decode cX12_goes 231 = .ok (.bipush 48, 2) := by decide +kernel
theorem dX12_goes_233 : decode cX12_goes 233 = .ok (.isub, 1) := by decide +kernel
theorem dX12_goes_234 : decode cX12_goes 234 = .ok (.putfield 144, 3) := by decide +kernel
theorem dX12_goes_237 : decode cX12_goes 237 = .ok (.aload_n 0, 1) := by decide +kernel
theorem dX12_goes_238 : decode cX12_goes 238 = .ok (.dup, 1) := by decide +kernel
theorem dX12_goes_239 : decode cX12_goes 239 = .ok (.getfield 130, 3) := by decide +kernel
theorem dX12_goes_242 : decode cX12_goes 242 = .ok (.iconst 1, 1) := by decide +kernel
theorem dX12_goes_243 : decode cX12_goes 243 = .ok (.iadd, 1) := by decide +kernel
theorem dX12_goes_244 : decode cX12_goes 244 = .ok (.putfield 130, 3) := by decide +kernel
theorem dX12_goes_247 : decode cX12_goes 247 = .ok (.goto (-60), 3) := by decide +kernel
theorem dX12_goes_250 : decode cX12_goes 250 = .ok (.aload_n 0, 1) := by decide +kernel
theorem dX12_goes_251 : decode cX12_goes 251 = .ok (.iconst 2, 1) := by decide +kernel
theorem dX12_goes_252 : decode cX12_goes 252 = .ok (.putfield 150, 3) := by decide +kernel
theorem dX12_goes_255 : decode cX12_goes 255 = .ok (.goto 76, 3) := by decide +kernel
theorem dX12_goes_258 : decode cX12_goes 258 = .ok (.aload_n 0, 1) := by decide +kernel
theorem dX12_goes_259 : decode cX12_goes 259 = .ok (.dup, 1) := by decide +kernel
theorem dX12_goes_260 : decode cX12_goes 260 = .ok (.getfield 130, 3) := by decide +kernel
theorem dX12_goes_263 : decode cX12_goes 263 = .ok (.iconst 1, 1) := by decide +kernel
theorem dX12_goes_264 : decode cX12_goes 264 = .ok (.iadd, 1) := by decide +kernel
theorem dX12_goes_265 : decode cX12_goes 265 = .ok (.putfield 130, 3) := by decide +kernel
theorem dX12_goes_268 : decode cX12_goes 268 = .ok (.aload_n 0, 1) := by decide +kernel
theorem dX12_goes_269 : decode cX12_goes 269 = .ok (.iload_n 1, 1) := by decide +kernel
theorem dX12_goes_270 : decode cX12_goes 270 = .ok (.bipush 59, 2) := by decide +kernel
theorem dX12_goes_272 : decode cX12_goes 272 = .ok (.if_icmp .eq 51, 3) := by decide +kernel
theorem dX12_goes_275 : decode cX12_goes 275 = .ok (.iload_n 1, 1) := by decide +kernel
theorem dX12_goes_276 : decode cX12_goes 276 = .ok (.bipush 40, 2) := by decide +kernel
theorem dX12_goes_278 : decode cX12_goes 278 = .ok (.if_icmp .eq 45, 3) := by decide +kernel
theorem dX12_goes_281 : decode cX12_goes 281 = .ok (.iload_n 1, 1) := by decide +kernel
theorem dX12_goes_282 : decode cX12_goes 282 = .ok (.bipush 41, 2) := by decide +kernel
theorem dX12_goes_284 : decode cX12_goes 284 = .ok (.if_icmp .eq 39, 3) := by decide +kernel
theorem dX12_goes_287 : decode cX12_goes 287 = .ok (.iload_n 1, 1) := by decide +kernel
theorem dX12_goes_288 : decode cX12_goes 288 = .ok (.bipush 43, 2) := by decide +kernel
theorem dX12_goes_290 : decode cX12_goes 290 = .ok (.if_icmp .eq 33, 3) := by decide +kernel
theorem dX12_goes_293 : decode cX12_goes 293 = .ok (.iload_n 1, 1) := by decide +kernel
theorem dX12_goes_294 : decode cX12_goes 294 = .ok (.bipush 45, 2) := by decide +kernel
theorem dX12_goes_296 : decode cX12_goes 296 = .ok (.if_icmp .eq 27, 3) := by decide +kernel
theorem dX12_goes_299 : decode cX12_goes 299 = .ok (.iload_n 1, 1) := by decide +kernel
theorem dX12_goes_300 : decode cX12_goes 300 = .ok (.bipush 42, 2) := by decide +kernel
theorem dX12_goes_302 : decode cX12_goes 302 = .ok (.if_icmp .eq 21, 3) := by decide +kernel
theorem dX12_goes_305 : decode cX12_goes 305 = .ok (.iload_n 1, 1) := by decide +kernel
theorem dX12_goes_306 : decode cX12_goes 306 = .ok (.bipush 47, 2) := by decide +kernel
theorem dX12_goes_308 : decode cX12_goes 308 = .ok (.if_icmp .eq 15, 3) := by decide +kernel
theorem dX12_goes_311 : decode cX12_goes 311 = .ok (.iload_n 1, 1) := by decide +kernel
theorem dX12_goes_312 : decode cX12_goes 312 = .ok (.bipush 60, 2) := by decide +kernel
theorem dX12_goes_314 : decode cX12_goes 314 = .ok (.if_icmp .eq 9, 3) := by decide +kernel
theorem dX12_goes_317 : decode cX12_goes 317 = .ok (.iload_n 1, 1) := by decide +kernel
theorem dX12_goes_318 : decode cX12_goes 318 = .ok (.bipush 61, 2) := by decide +kernel
theorem dX12_goes_320 : decode cX12_goes 320 = .ok (.if_icmp .ne 7, 3) := by decide +kernel
theorem dX12_goes_323 : decode cX12_goes 323 = .ok (.iconst 3, 1) := by decide +kernel
theorem dX12_goes_324 : decode cX12_goes 324 = .ok (.goto 4, 3) := by decide +kernel
theorem dX12_goes_327 : decode cX12_goes 327 = .ok (.iconst 4, 1) := by decide +kernel
theorem dX12_goes_328 : decode cX12_goes 328 = .ok (.putfield 150, 3) := by decide +kernel
theorem dX12_goes_331 : decode cX12_goes 331 = .ok (.aload_n 0, 1) := by decide +kernel
theorem dX12_goes_332 : decode cX12_goes 332 = .ok (.aload_n 0, 1) := by decide +kernel
theorem dX12_goes_333 : decode cX12_goes 333 = .ok (.getfield 130, 3) := by decide +kernel
theorem dX12_goes_336 : decode cX12_goes 336 = .ok (.aload_n 0, 1) := by decide +kernel
theorem dX12_goes_337 : decode cX12_goes 337 = .ok (.getfield 137, 3) := by decide +kernel
theorem dX12_goes_340 : decode cX12_goes 340 = .ok (.isub, 1) := by decide +kernel
theorem dX12_goes_341 : decode cX12_goes 341 = .ok (.putfield 160, 3) := by decide +kernel
theorem dX12_goes_344 : decode cX12_goes 344 = .ok (.return_, 1) := by decide +kernel
theorem dX12_spelled_0 : decode cX12_spelled 0 = .ok (.iload_n 0, 1) := by decide +kernel
theorem dX12_spelled_1 : decode cX12_spelled 1 = .ok (.i2l, 1) := by decide +kernel
theorem dX12_spelled_2 : decode cX12_spelled 2 = .ok (.ldc2_w 163, 3) := by decide +kernel
theorem dX12_spelled_5 : decode cX12_spelled 5 = .ok (.lsub, 1) := by decide +kernel
theorem dX12_spelled_6 : decode cX12_spelled 6 = .ok (.iconst 5, 1) := by decide +kernel
theorem dX12_spelled_7 : decode cX12_spelled 7 = .ok (.lshl, 1) := by decide +kernel
theorem dX12_spelled_8 : decode cX12_spelled 8 = .ok (.iload_n 1, 1) := by decide +kernel
theorem dX12_spelled_9 : decode cX12_spelled 9 = .ok (.bipush 96, 2) := by decide +kernel
theorem dX12_spelled_11 : decode cX12_spelled 11 = .ok (.isub, 1) := by decide +kernel
theorem dX12_spelled_12 : decode cX12_spelled 12 = .ok (.i2l, 1) := by decide +kernel
theorem dX12_spelled_13 : decode cX12_spelled 13 = .ok (.lor, 1) := by decide +kernel
theorem dX12_spelled_14 : decode cX12_spelled 14 = .ok (.lstore 7, 2) := by decide +kernel
theorem dX12_spelled_16 : decode cX12_spelled 16 = .ok (.iload_n 2, 1) := by decide +kernel
theorem dX12_spelled_17 : decode cX12_spelled 17 = .ok (.ifCond .eq 15, 3) := by decide +kernel
theorem dX12_spelled_20 : decode cX12_spelled 20 = .ok (.lload 7, 2) := by decide +kernel
theorem dX12_spelled_22 : decode cX12_spelled 22 = .ok (.iconst 5, 1) := by decide +kernel
theorem dX12_spelled_23 : decode cX12_spelled 23 = .ok (.lshl, 1) := by decide +kernel
theorem dX12_spelled_24 : decode cX12_spelled 24 = .ok (.iload_n 2, 1) := by decide +kernel
theorem dX12_spelled_25 : decode cX12_spelled 25 = .ok (.bipush 96, 2) := by decide +kernel
theorem dX12_spelled_27 : decode cX12_spelled 27 = .ok (.isub, 1) := by decide +kernel
theorem dX12_spelled_28 : decode cX12_spelled 28 = .ok (.i2l, 1) := by decide +kernel
theorem dX12_spelled_29 : decode cX12_spelled 29 = .ok (.lor, 1) := by decide +kernel
theorem dX12_spelled_30 : decode cX12_spelled 30 = .ok (.lstore 7, 2) := by decide +kernel
theorem dX12_spelled_32 : decode cX12_spelled 32 = .ok (.iload_n 3, 1) := by decide +kernel
theorem dX12_spelled_33 : decode cX12_spelled 33 = .ok (.ifCond .eq 15, 3) := by decide +kernel
theorem dX12_spelled_36 : decode cX12_spelled 36 = .ok (.lload 7, 2) := by decide +kernel
theorem dX12_spelled_38 : decode cX12_spelled 38 = .ok (.iconst 5, 1) := by decide +kernel
theorem dX12_spelled_39 : decode cX12_spelled 39 = .ok (.lshl, 1) := by decide +kernel
theorem dX12_spelled_40 : decode cX12_spelled 40 = .ok (.iload_n 3, 1) := by decide +kernel
theorem dX12_spelled_41 : decode cX12_spelled 41 = .ok (.bipush 96, 2) := by decide +kernel
theorem dX12_spelled_43 : decode cX12_spelled 43 = .ok (.isub, 1) := by decide +kernel
theorem dX12_spelled_44 : decode cX12_spelled 44 = .ok (.i2l, 1) := by decide +kernel
theorem dX12_spelled_45 : decode cX12_spelled 45 = .ok (.lor, 1) := by decide +kernel
theorem dX12_spelled_46 : decode cX12_spelled 46 = .ok (.lstore 7, 2) := by decide +kernel
theorem dX12_spelled_48 : decode cX12_spelled 48 = .ok (.iload 4, 2) := by decide +kernel
theorem dX12_spelled_50 : decode cX12_spelled 50 = .ok (.ifCond .eq 16, 3) := by decide +kernel
theorem dX12_spelled_53 : decode cX12_spelled 53 = .ok (.lload 7, 2) := by decide +kernel
theorem dX12_spelled_55 : decode cX12_spelled 55 = .ok (.iconst 5, 1) := by decide +kernel
theorem dX12_spelled_56 : decode cX12_spelled 56 = .ok (.lshl, 1) := by decide +kernel
theorem dX12_spelled_57 : decode cX12_spelled 57 = .ok (.iload 4, 2) := by decide +kernel
theorem dX12_spelled_59 : decode cX12_spelled 59 = .ok (.bipush 96, 2) := by decide +kernel
theorem dX12_spelled_61 : decode cX12_spelled 61 = .ok (.isub, 1) := by decide +kernel
theorem dX12_spelled_62 : decode cX12_spelled 62 = .ok (.i2l, 1) := by decide +kernel
theorem dX12_spelled_63 : decode cX12_spelled 63 = .ok (.lor, 1) := by decide +kernel
theorem dX12_spelled_64 : decode cX12_spelled 64 = .ok (.lstore 7, 2) := by decide +kernel
theorem dX12_spelled_66 : decode cX12_spelled 66 = .ok (.iload 5, 2) := by decide +kernel
theorem dX12_spelled_68 : decode cX12_spelled 68 = .ok (.ifCond .eq 16, 3) := by decide +kernel
theorem dX12_spelled_71 : decode cX12_spelled 71 = .ok (.lload 7, 2) := by decide +kernel
theorem dX12_spelled_73 : decode cX12_spelled 73 = .ok (.iconst 5, 1) := by decide +kernel
theorem dX12_spelled_74 : decode cX12_spelled 74 = .ok (.lshl, 1) := by decide +kernel
theorem dX12_spelled_75 : decode cX12_spelled 75 = .ok (.iload 5, 2) := by decide +kernel
theorem dX12_spelled_77 : decode cX12_spelled 77 = .ok (.bipush 96, 2) := by decide +kernel
theorem dX12_spelled_79 : decode cX12_spelled 79 = .ok (.isub, 1) := by decide +kernel
theorem dX12_spelled_80 : decode cX12_spelled 80 = .ok (.i2l, 1) := by decide +kernel
theorem dX12_spelled_81 : decode cX12_spelled 81 = .ok (.lor, 1) := by decide +kernel
theorem dX12_spelled_82 : decode cX12_spelled 82 = .ok (.lstore 7, 2) := by decide +kernel
theorem dX12_spelled_84 : decode cX12_spelled 84 = .ok (.iload 6, 2) := by decide +kernel
theorem dX12_spelled_86 : decode cX12_spelled 86 = .ok (.ifCond .eq 16, 3) := by decide +kernel
theorem dX12_spelled_89 : decode cX12_spelled 89 = .ok (.lload 7, 2) := by decide +kernel
theorem dX12_spelled_91 : decode cX12_spelled 91 = .ok (.iconst 5, 1) := by decide +kernel
theorem dX12_spelled_92 : decode cX12_spelled 92 = .ok (.lshl, 1) := by decide +kernel
theorem dX12_spelled_93 : decode cX12_spelled 93 = .ok (.iload 6, 2) := by decide +kernel
theorem dX12_spelled_95 : decode cX12_spelled 95 = .ok (.bipush 96, 2) := by decide +kernel
theorem dX12_spelled_97 : decode cX12_spelled 97 = .ok (.isub, 1) := by decide +kernel
theorem dX12_spelled_98 : decode cX12_spelled 98 = .ok (.i2l, 1) := by decide +kernel
theorem dX12_spelled_99 : decode cX12_spelled 99 = .ok (.lor, 1) := by decide +kernel
theorem dX12_spelled_100 : decode cX12_spelled 100 = .ok (.lstore 7, 2) := by decide +kernel
theorem dX12_spelled_102 : decode cX12_spelled 102 = .ok (.lload 7, 2) := by decide +kernel
theorem dX12_spelled_104 : decode cX12_spelled 104 = .ok (.lreturn, 1) := by decide +kernel
theorem dX12_letters_0 : decode cX12_letters 0 = .ok (.iload_n 0, 1) := by decide +kernel
theorem dX12_letters_1 : decode cX12_letters 1 = .ok (.tableswitch 291 0 13 #[71, 88, 103, 120, 137, 153, 167, 185, 201, 217, 232, 248, 264, 278], 71) := by decide +kernel
theorem dX12_letters_72 : decode cX12_letters 72 = .ok (.bipush 115, 2) := by decide +kernel
theorem dX12_letters_74 : decode cX12_letters 74 = .ok (.bipush 116, 2) := by decide +kernel
theorem dX12_letters_76 : decode cX12_letters 76 = .ok (.bipush 114, 2) := by decide +kernel
theorem dX12_letters_78 : decode cX12_letters 78 = .ok (.bipush 97, 2) := by decide +kernel
theorem dX12_letters_80 : decode cX12_letters 80 = .ok (.bipush 105, 2) := by decide +kernel
theorem dX12_letters_82 : decode cX12_letters 82 = .ok (.bipush 110, 2) := by decide +kernel
theorem dX12_letters_84 : decode cX12_letters 84 = .ok (.iconst 0, 1) := by decide +kernel
theorem dX12_letters_85 : decode cX12_letters 85 = .ok (.invokestatic 165, 3) := by decide +kernel
theorem dX12_letters_88 : decode cX12_letters 88 = .ok (.lreturn, 1) := by decide +kernel
theorem dX12_letters_89 : decode cX12_letters 89 = .ok (.bipush 115, 2) := by decide +kernel
theorem dX12_letters_91 : decode cX12_letters 91 = .ok (.bipush 101, 2) := by decide +kernel
theorem dX12_letters_93 : decode cX12_letters 93 = .ok (.bipush 97, 2) := by decide +kernel
theorem dX12_letters_95 : decode cX12_letters 95 = .ok (.bipush 109, 2) := by decide +kernel
theorem dX12_letters_97 : decode cX12_letters 97 = .ok (.iconst 0, 1) := by decide +kernel
theorem dX12_letters_98 : decode cX12_letters 98 = .ok (.iconst 0, 1) := by decide +kernel
theorem dX12_letters_99 : decode cX12_letters 99 = .ok (.iconst 0, 1) := by decide +kernel
theorem dX12_letters_100 : decode cX12_letters 100 = .ok (.invokestatic 165, 3) := by decide +kernel
theorem dX12_letters_103 : decode cX12_letters 103 = .ok (.lreturn, 1) := by decide +kernel
theorem dX12_letters_104 : decode cX12_letters 104 = .ok (.bipush 115, 2) := by decide +kernel
theorem dX12_letters_106 : decode cX12_letters 106 = .ok (.bipush 116, 2) := by decide +kernel
theorem dX12_letters_108 : decode cX12_letters 108 = .ok (.bipush 105, 2) := by decide +kernel
theorem dX12_letters_110 : decode cX12_letters 110 = .ok (.bipush 116, 2) := by decide +kernel
theorem dX12_letters_112 : decode cX12_letters 112 = .ok (.bipush 99, 2) := by decide +kernel
theorem dX12_letters_114 : decode cX12_letters 114 = .ok (.bipush 104, 2) := by decide +kernel
theorem dX12_letters_116 : decode cX12_letters 116 = .ok (.iconst 0, 1) := by decide +kernel
theorem dX12_letters_117 : decode cX12_letters 117 = .ok (.invokestatic 165, 3) := by decide +kernel
theorem dX12_letters_120 : decode cX12_letters 120 = .ok (.lreturn, 1) := by decide +kernel
theorem dX12_letters_121 : decode cX12_letters 121 = .ok (.bipush 98, 2) := by decide +kernel
theorem dX12_letters_123 : decode cX12_letters 123 = .ok (.bipush 101, 2) := by decide +kernel
theorem dX12_letters_125 : decode cX12_letters 125 = .ok (.bipush 115, 2) := by decide +kernel
theorem dX12_letters_127 : decode cX12_letters 127 = .ok (.bipush 105, 2) := by decide +kernel
theorem dX12_letters_129 : decode cX12_letters 129 = .ok (.bipush 100, 2) := by decide +kernel
theorem dX12_letters_131 : decode cX12_letters 131 = .ok (.bipush 101, 2) := by decide +kernel
theorem dX12_letters_133 : decode cX12_letters 133 = .ok (.iconst 0, 1) := by decide +kernel
theorem dX12_letters_134 : decode cX12_letters 134 = .ok (.invokestatic 165, 3) := by decide +kernel
theorem dX12_letters_137 : decode cX12_letters 137 = .ok (.lreturn, 1) := by decide +kernel
theorem dX12_letters_138 : decode cX12_letters 138 = .ok (.bipush 119, 2) := by decide +kernel
theorem dX12_letters_140 : decode cX12_letters 140 = .ok (.bipush 111, 2) := by decide +kernel
theorem dX12_letters_142 : decode cX12_letters 142 = .ok (.bipush 109, 2) := by decide +kernel
theorem dX12_letters_144 : decode cX12_letters 144 = .ok (.bipush 101, 2) := by decide +kernel
theorem dX12_letters_146 : decode cX12_letters 146 = .ok (.bipush 110, 2) := by decide +kernel
theorem dX12_letters_148 : decode cX12_letters 148 = .ok (.iconst 0, 1) := by decide +kernel
theorem dX12_letters_149 : decode cX12_letters 149 = .ok (.iconst 0, 1) := by decide +kernel
theorem dX12_letters_150 : decode cX12_letters 150 = .ok (.invokestatic 165, 3) := by decide +kernel
theorem dX12_letters_153 : decode cX12_letters 153 = .ok (.lreturn, 1) := by decide +kernel
theorem dX12_letters_154 : decode cX12_letters 154 = .ok (.bipush 100, 2) := by decide +kernel
theorem dX12_letters_156 : decode cX12_letters 156 = .ok (.bipush 97, 2) := by decide +kernel
theorem dX12_letters_158 : decode cX12_letters 158 = .ok (.bipush 121, 2) := by decide +kernel
theorem dX12_letters_160 : decode cX12_letters 160 = .ok (.iconst 0, 1) := by decide +kernel
theorem dX12_letters_161 : decode cX12_letters 161 = .ok (.iconst 0, 1) := by decide +kernel
theorem dX12_letters_162 : decode cX12_letters 162 = .ok (.iconst 0, 1) := by decide +kernel
theorem dX12_letters_163 : decode cX12_letters 163 = .ok (.iconst 0, 1) := by decide +kernel
theorem dX12_letters_164 : decode cX12_letters 164 = .ok (.invokestatic 165, 3) := by decide +kernel
theorem dX12_letters_167 : decode cX12_letters 167 = .ok (.lreturn, 1) := by decide +kernel
theorem dX12_letters_168 : decode cX12_letters 168 = .ok (.bipush 115, 2) := by decide +kernel
theorem dX12_letters_170 : decode cX12_letters 170 = .ok (.bipush 116, 2) := by decide +kernel
theorem dX12_letters_172 : decode cX12_letters 172 = .ok (.bipush 114, 2) := by decide +kernel
theorem dX12_letters_174 : decode cX12_letters 174 = .ok (.bipush 101, 2) := by decide +kernel
theorem dX12_letters_176 : decode cX12_letters 176 = .ok (.bipush 116, 2) := by decide +kernel
theorem dX12_letters_178 : decode cX12_letters 178 = .ok (.bipush 99, 2) := by decide +kernel
theorem dX12_letters_180 : decode cX12_letters 180 = .ok (.bipush 104, 2) := by decide +kernel
theorem dX12_letters_182 : decode cX12_letters 182 = .ok (.invokestatic 165, 3) := by decide +kernel
theorem dX12_letters_185 : decode cX12_letters 185 = .ok (.lreturn, 1) := by decide +kernel
theorem dX12_letters_186 : decode cX12_letters 186 = .ok (.bipush 119, 2) := by decide +kernel
theorem dX12_letters_188 : decode cX12_letters 188 = .ok (.bipush 111, 2) := by decide +kernel
theorem dX12_letters_190 : decode cX12_letters 190 = .ok (.bipush 109, 2) := by decide +kernel
theorem dX12_letters_192 : decode cX12_letters 192 = .ok (.bipush 97, 2) := by decide +kernel
theorem dX12_letters_194 : decode cX12_letters 194 = .ok (.bipush 110, 2) := by decide +kernel
theorem dX12_letters_196 : decode cX12_letters 196 = .ok (.iconst 0, 1) := by decide +kernel
theorem dX12_letters_197 : decode cX12_letters 197 = .ok (.iconst 0, 1) := by decide +kernel
theorem dX12_letters_198 : decode cX12_letters 198 = .ok (.invokestatic 165, 3) := by decide +kernel
theorem dX12_letters_201 : decode cX12_letters 201 = .ok (.lreturn, 1) := by decide +kernel
theorem dX12_letters_202 : decode cX12_letters 202 = .ok (.bipush 107, 2) := by decide +kernel
theorem dX12_letters_204 : decode cX12_letters 204 = .ok (.bipush 110, 2) := by decide +kernel
theorem dX12_letters_206 : decode cX12_letters 206 = .ok (.bipush 111, 2) := by decide +kernel
theorem dX12_letters_208 : decode cX12_letters 208 = .ok (.bipush 116, 2) := by decide +kernel
theorem dX12_letters_210 : decode cX12_letters 210 = .ok (.bipush 115, 2) := by decide +kernel
theorem dX12_letters_212 : decode cX12_letters 212 = .ok (.iconst 0, 1) := by decide +kernel
theorem dX12_letters_213 : decode cX12_letters 213 = .ok (.iconst 0, 1) := by decide +kernel
theorem dX12_letters_214 : decode cX12_letters 214 = .ok (.invokestatic 165, 3) := by decide +kernel
theorem dX12_letters_217 : decode cX12_letters 217 = .ok (.lreturn, 1) := by decide +kernel
theorem dX12_letters_218 : decode cX12_letters 218 = .ok (.bipush 119, 2) := by decide +kernel
theorem dX12_letters_220 : decode cX12_letters 220 = .ok (.bipush 101, 2) := by decide +kernel
theorem dX12_letters_222 : decode cX12_letters 222 = .ok (.bipush 101, 2) := by decide +kernel
theorem dX12_letters_224 : decode cX12_letters 224 = .ok (.bipush 107, 2) := by decide +kernel
theorem dX12_letters_226 : decode cX12_letters 226 = .ok (.iconst 0, 1) := by decide +kernel
theorem dX12_letters_227 : decode cX12_letters 227 = .ok (.iconst 0, 1) := by decide +kernel
theorem dX12_letters_228 : decode cX12_letters 228 = .ok (.iconst 0, 1) := by decide +kernel
theorem dX12_letters_229 : decode cX12_letters 229 = .ok (.invokestatic 165, 3) := by decide +kernel
theorem dX12_letters_232 : decode cX12_letters 232 = .ok (.lreturn, 1) := by decide +kernel
theorem dX12_letters_233 : decode cX12_letters 233 = .ok (.bipush 102, 2) := by decide +kernel
theorem dX12_letters_235 : decode cX12_letters 235 = .ok (.bipush 114, 2) := by decide +kernel
theorem dX12_letters_237 : decode cX12_letters 237 = .ok (.bipush 97, 2) := by decide +kernel
theorem dX12_letters_239 : decode cX12_letters 239 = .ok (.bipush 121, 2) := by decide +kernel
theorem dX12_letters_241 : decode cX12_letters 241 = .ok (.bipush 115, 2) := by decide +kernel
theorem dX12_letters_243 : decode cX12_letters 243 = .ok (.iconst 0, 1) := by decide +kernel
theorem dX12_letters_244 : decode cX12_letters 244 = .ok (.iconst 0, 1) := by decide +kernel
theorem dX12_letters_245 : decode cX12_letters 245 = .ok (.invokestatic 165, 3) := by decide +kernel
theorem dX12_letters_248 : decode cX12_letters 248 = .ok (.lreturn, 1) := by decide +kernel
theorem dX12_letters_249 : decode cX12_letters 249 = .ok (.bipush 112, 2) := by decide +kernel
theorem dX12_letters_251 : decode cX12_letters 251 = .ok (.bipush 117, 2) := by decide +kernel
theorem dX12_letters_253 : decode cX12_letters 253 = .ok (.bipush 108, 2) := by decide +kernel
theorem dX12_letters_255 : decode cX12_letters 255 = .ok (.bipush 108, 2) := by decide +kernel
theorem dX12_letters_257 : decode cX12_letters 257 = .ok (.bipush 115, 2) := by decide +kernel
theorem dX12_letters_259 : decode cX12_letters 259 = .ok (.iconst 0, 1) := by decide +kernel
theorem dX12_letters_260 : decode cX12_letters 260 = .ok (.iconst 0, 1) := by decide +kernel
theorem dX12_letters_261 : decode cX12_letters 261 = .ok (.invokestatic 165, 3) := by decide +kernel
theorem dX12_letters_264 : decode cX12_letters 264 = .ok (.lreturn, 1) := by decide +kernel
theorem dX12_letters_265 : decode cX12_letters 265 = .ok (.bipush 97, 2) := by decide +kernel
theorem dX12_letters_267 : decode cX12_letters 267 = .ok (.bipush 110, 2) := by decide +kernel
theorem dX12_letters_269 : decode cX12_letters 269 = .ok (.bipush 100, 2) := by decide +kernel
theorem dX12_letters_271 : decode cX12_letters 271 = .ok (.iconst 0, 1) := by decide +kernel
theorem dX12_letters_272 : decode cX12_letters 272 = .ok (.iconst 0, 1) := by decide +kernel
theorem dX12_letters_273 : decode cX12_letters 273 = .ok (.iconst 0, 1) := by decide +kernel
theorem dX12_letters_274 : decode cX12_letters 274 = .ok (.iconst 0, 1) := by decide +kernel
theorem dX12_letters_275 : decode cX12_letters 275 = .ok (.invokestatic 165, 3) := by decide +kernel
theorem dX12_letters_278 : decode cX12_letters 278 = .ok (.lreturn, 1) := by decide +kernel
theorem dX12_letters_279 : decode cX12_letters 279 = .ok (.bipush 111, 2) := by decide +kernel
theorem dX12_letters_281 : decode cX12_letters 281 = .ok (.bipush 114, 2) := by decide +kernel
theorem dX12_letters_283 : decode cX12_letters 283 = .ok (.iconst 0, 1) := by decide +kernel
theorem dX12_letters_284 : decode cX12_letters 284 = .ok (.iconst 0, 1) := by decide +kernel
theorem dX12_letters_285 : decode cX12_letters 285 = .ok (.iconst 0, 1) := by decide +kernel
theorem dX12_letters_286 : decode cX12_letters 286 = .ok (.iconst 0, 1) := by decide +kernel
theorem dX12_letters_287 : decode cX12_letters 287 = .ok (.iconst 0, 1) := by decide +kernel
theorem dX12_letters_288 : decode cX12_letters 288 = .ok (.invokestatic 165, 3) := by decide +kernel
theorem dX12_letters_291 : decode cX12_letters 291 = .ok (.lreturn, 1) := by decide +kernel
theorem dX12_letters_292 : decode cX12_letters 292 = .ok (.bipush 110, 2) := by decide +kernel
theorem dX12_letters_294 : decode cX12_letters 294 = .ok (.bipush 111, 2) := by decide +kernel
theorem dX12_letters_296 : decode cX12_letters 296 = .ok (.bipush 116, 2) := by decide +kernel
theorem dX12_letters_298 : decode cX12_letters 298 = .ok (.iconst 0, 1) := by decide +kernel
theorem dX12_letters_299 : decode cX12_letters 299 = .ok (.iconst 0, 1) := by decide +kernel
theorem dX12_letters_300 : decode cX12_letters 300 = .ok (.iconst 0, 1) := by decide +kernel
theorem dX12_letters_301 : decode cX12_letters 301 = .ok (.iconst 0, 1) := by decide +kernel
theorem dX12_letters_302 : decode cX12_letters 302 = .ok (.invokestatic 165, 3) := by decide +kernel
theorem dX12_letters_305 : decode cX12_letters 305 = .ok (.lreturn, 1) := by decide +kernel
theorem dX12_knownWord_0 : decode cX12_knownWord 0 = .ok (.aload_n 0, 1) := by decide +kernel
theorem dX12_knownWord_1 : decode cX12_knownWord 1 = .ok (.getfield 150, 3) := by decide +kernel
theorem dX12_knownWord_4 : decode cX12_knownWord 4 = .ok (.iconst 1, 1) := by decide +kernel
theorem dX12_knownWord_5 : decode cX12_knownWord 5 = .ok (.if_icmp .ne 12, 3) := by decide +kernel
theorem dX12_knownWord_8 : decode cX12_knownWord 8 = .ok (.aload_n 0, 1) := by decide +kernel
theorem dX12_knownWord_9 : decode cX12_knownWord 9 = .ok (.getfield 160, 3) := by decide +kernel
theorem dX12_knownWord_12 : decode cX12_knownWord 12 = .ok (.bipush 7, 2) := by decide +kernel
theorem dX12_knownWord_14 : decode cX12_knownWord 14 = .ok (.if_icmp .le 5, 3) := by decide +kernel
theorem dX12_knownWord_17 : decode cX12_knownWord 17 = .ok (.iconst (-1), 1) := by decide +kernel
theorem dX12_knownWord_18 : decode cX12_knownWord 18 = .ok (.ireturn, 1) := by decide +kernel
theorem dX12_knownWord_19 : decode cX12_knownWord 19 = .ok (.iconst 0, 1) := by decide +kernel
theorem dX12_knownWord_20 : decode cX12_knownWord 20 = .ok (.istore_n 1, 1) := by decide +kernel
theorem dX12_knownWord_21 : decode cX12_knownWord 21 = .ok (.iload_n 1, 1) := by decide +kernel
theorem dX12_knownWord_22 : decode cX12_knownWord 22 = .ok (.bipush 15, 2) := by decide +kernel
theorem dX12_knownWord_24 : decode cX12_knownWord 24 = .ok (.if_icmp .ge 23, 3) := by decide +kernel
theorem dX12_knownWord_27 : decode cX12_knownWord 27 = .ok (.iload_n 1, 1) := by decide +kernel
theorem dX12_knownWord_28 : decode cX12_knownWord 28 = .ok (.invokestatic 169, 3) := by decide +kernel
theorem dX12_knownWord_31 : decode cX12_knownWord 31 = .ok (.aload_n 0, 1) := by decide +kernel
theorem dX12_knownWord_32 : decode cX12_knownWord 32 = .ok (.getfield 140, 3) := by decide +kernel
theorem dX12_knownWord_35 : decode cX12_knownWord 35 = .ok (.lcmp, 1) := by decide +kernel
theorem dX12_knownWord_36 : decode cX12_knownWord 36 = .ok (.ifCond .ne 5, 3) := by decide +kernel
theorem dX12_knownWord_39 : decode cX12_knownWord 39 = .ok (.iload_n 1, 1) := by decide +kernel
theorem dX12_knownWord_40 : decode cX12_knownWord 40 = .ok (.ireturn, 1) := by decide +kernel
theorem dX12_knownWord_41 : decode cX12_knownWord 41 = .ok (.iinc 1 1, 3) := by decide +kernel
theorem dX12_knownWord_44 : decode cX12_knownWord 44 = .ok (.goto (-23), 3) := by decide +kernel
theorem dX12_knownWord_47 : decode cX12_knownWord 47 = .ok (.iconst (-1), 1) := by decide +kernel
theorem dX12_knownWord_48 : decode cX12_knownWord 48 = .ok (.ireturn, 1) := by decide +kernel
theorem dX12_wrong_0 : decode cX12_wrong 0 = .ok (.aload_n 0, 1) := by decide +kernel
theorem dX12_wrong_1 : decode cX12_wrong 1 = .ok (.getfield 173, 3) := by decide +kernel
theorem dX12_wrong_4 : decode cX12_wrong 4 = .ok (.ifCond .eq 4, 3) := by decide +kernel
theorem dX12_wrong_7 : decode cX12_wrong 7 = .ok (.return_, 1) := by decide +kernel
theorem dX12_wrong_8 : decode cX12_wrong 8 = .ok (.aload_n 0, 1) := by decide +kernel
theorem dX12_wrong_9 : decode cX12_wrong 9 = .ok (.iload_n 1, 1) := by decide +kernel
theorem dX12_wrong_10 : decode cX12_wrong 10 = .ok (.putfield 173, 3) := by decide +kernel
theorem dX12_wrong_13 : decode cX12_wrong 13 = .ok (.aload_n 0, 1) := by decide +kernel
theorem dX12_wrong_14 : decode cX12_wrong 14 = .ok (.aload_n 0, 1) := by decide +kernel
theorem dX12_wrong_15 : decode cX12_wrong 15 = .ok (.getfield 137, 3) := by decide +kernel
theorem dX12_wrong_18 : decode cX12_wrong 18 = .ok (.putfield 38, 3) := by decide +kernel
theorem dX12_wrong_21 : decode cX12_wrong 21 = .ok (.return_, 1) := by decide +kernel
theorem dX12_isGood_0 : decode cX12_isGood 0 = .ok (.aload_n 0, 1) := by decide +kernel
theorem dX12_isGood_1 : decode cX12_isGood 1 = .ok (.getfield 173, 3) := by decide +kernel
theorem dX12_isGood_4 : decode cX12_isGood 4 = .ok (.ifCond .ne 7, 3) := by decide +kernel
theorem dX12_isGood_7 : decode cX12_isGood 7 = .ok (.iconst 1, 1) := by decide +kernel
theorem dX12_isGood_8 : decode cX12_isGood 8 = .ok (.goto 4, 3) := by decide +kernel
theorem dX12_isGood_11 : decode cX12_isGood 11 = .ok (.iconst 0, 1) := by decide +kernel
theorem dX12_isGood_12 : decode cX12_isGood 12 = .ok (.ireturn, 1) := by decide +kernel
theorem dX12_isSign_0 : decode cX12_isSign 0 = .ok (.aload_n 0, 1) := by decide +kernel
theorem dX12_isSign_1 : decode cX12_isSign 1 = .ok (.getfield 150, 3) := by decide +kernel
theorem dX12_isSign_4 : decode cX12_isSign 4 = .ok (.iconst 3, 1) := by decide +kernel
theorem dX12_isSign_5 : decode cX12_isSign 5 = .ok (.if_icmp .ne 15, 3) := by decide +kernel
theorem dX12_isSign_8 : decode cX12_isSign 8 = .ok (.aload_n 0, 1) := by decide +kernel
theorem dX12_isSign_9 : decode cX12_isSign 9 = .ok (.getfield 147, 3) := by decide +kernel
theorem dX12_isSign_12 : decode cX12_isSign 12 = .ok (.iload_n 1, 1) := by decide +kernel
theorem dX12_isSign_13 : decode cX12_isSign 13 = .ok (.if_icmp .ne 7, 3) := by decide +kernel
theorem dX12_isSign_16 : decode cX12_isSign 16 = .ok (.iconst 1, 1) := by decide +kernel
theorem dX12_isSign_17 : decode cX12_isSign 17 = .ok (.goto 4, 3) := by decide +kernel
theorem dX12_isSign_20 : decode cX12_isSign 20 = .ok (.iconst 0, 1) := by decide +kernel
theorem dX12_isSign_21 : decode cX12_isSign 21 = .ok (.ireturn, 1) := by decide +kernel
theorem dX12_need_0 : decode cX12_need 0 = .ok (.aload_n 0, 1) := by decide +kernel
theorem dX12_need_1 : decode cX12_need 1 = .ok (.invokevirtual 176, 3) := by decide +kernel
theorem dX12_need_4 : decode cX12_need 4 = .ok (.ifCond .ne 4, 3) := by decide +kernel
theorem dX12_need_7 : decode cX12_need 7 = .ok (.return_, 1) := by decide +kernel
theorem dX12_need_8 : decode cX12_need 8 = .ok (.iload_n 1, 1) := by decide +kernel
theorem dX12_need_9 : decode cX12_need 9 = .ok (.ifCond .eq 10, 3) := by decide +kernel
theorem dX12_need_12 : decode cX12_need 12 = .ok (.aload_n 0, 1) := by decide +kernel
theorem dX12_need_13 : decode cX12_need 13 = .ok (.invokevirtual 180, 3) := by decide +kernel
theorem dX12_need_16 : decode cX12_need 16 = .ok (.goto 8, 3) := by decide +kernel
theorem dX12_need_19 : decode cX12_need 19 = .ok (.aload_n 0, 1) := by decide +kernel
theorem dX12_need_20 : decode cX12_need 20 = .ok (.iconst 1, 1) := by decide +kernel
theorem dX12_need_21 : decode cX12_need 21 = .ok (.invokevirtual 183, 3) := by decide +kernel
theorem dX12_need_24 : decode cX12_need 24 = .ok (.return_, 1) := by decide +kernel
theorem dX12_number_0 : decode cX12_number 0 = .ok (.aload_n 0, 1) := by decide +kernel
theorem dX12_number_1 : decode cX12_number 1 = .ok (.invokevirtual 176, 3) := by decide +kernel
theorem dX12_number_4 : decode cX12_number 4 = .ok (.ifCond .ne 5, 3) := by decide +kernel
theorem dX12_number_7 : decode cX12_number 7 = .ok (.iconst 0, 1) := by decide +kernel
theorem dX12_number_8 : decode cX12_number 8 = .ok (.ireturn, 1) := by decide +kernel
theorem dX12_number_9 : decode cX12_number 9 = .ok (.aload_n 0, 1) := by decide +kernel
theorem dX12_number_10 : decode cX12_number 10 = .ok (.getfield 150, 3) := by decide +kernel
theorem dX12_number_13 : decode cX12_number 13 = .ok (.iconst 2, 1) := by decide +kernel
theorem dX12_number_14 : decode cX12_number 14 = .ok (.if_icmp .eq 11, 3) := by decide +kernel
theorem dX12_number_17 : decode cX12_number 17 = .ok (.aload_n 0, 1) := by decide +kernel
theorem dX12_number_18 : decode cX12_number 18 = .ok (.iconst 1, 1) := by decide +kernel
theorem dX12_number_19 : decode cX12_number 19 = .ok (.invokevirtual 183, 3) := by decide +kernel
theorem dX12_number_22 : decode cX12_number 22 = .ok (.goto 32, 3) := by decide +kernel
theorem dX12_number_25 : decode cX12_number 25 = .ok (.aload_n 0, 1) := by decide +kernel
theorem dX12_number_26 : decode cX12_number 26 = .ok (.getfield 160, 3) := by decide +kernel
theorem dX12_number_29 : decode cX12_number 29 = .ok (.iconst 4, 1) := by decide +kernel
theorem dX12_number_30 : decode cX12_number 30 = .ok (.if_icmp .gt 19, 3) := by decide +kernel
theorem dX12_number_33 : decode cX12_number 33 = .ok (.aload_n 0, 1) := by decide +kernel
theorem dX12_number_34 : decode cX12_number 34 = .ok (.getfield 144, 3) := by decide +kernel
theorem dX12_number_37 : decode cX12_number 37 = .ok (.iload_n 1, 1) := by decide +kernel
theorem dX12_number_38 : decode cX12_number 38 = .ok (.if_icmp .lt 11, 3) := by decide +kernel
theorem dX12_number_41 : decode cX12_number 41 = .ok (.aload_n 0, 1) := by decide +kernel
theorem dX12_number_42 : decode cX12_number 42 = .ok (.getfield 144, 3) := by decide +kernel
theorem dX12_number_45 : decode cX12_number 45 = .ok (.iload_n 2, 1) := by decide +kernel
theorem dX12_number_46 : decode cX12_number 46 = .ok (.if_icmp .le 8, 3) := by decide +kernel
theorem dX12_number_49 : decode cX12_number 49 = .ok (.aload_n 0, 1) := by decide +kernel
theorem dX12_number_50 : decode cX12_number 50 = .ok (.iconst 2, 1) := by decide +kernel
theorem dX12_number_51 : decode cX12_number 51 = .ok (.invokevirtual 183, 3) := by decide +kernel
theorem dX12_number_54 : decode cX12_number 54 = .ok (.aload_n 0, 1) := by decide +kernel
theorem dX12_number_55 : decode cX12_number 55 = .ok (.getfield 144, 3) := by decide +kernel
theorem dX12_number_58 : decode cX12_number 58 = .ok (.istore_n 3, 1) := by decide +kernel
theorem dX12_number_59 : decode cX12_number 59 = .ok (.aload_n 0, 1) := by decide +kernel
theorem dX12_number_60 : decode cX12_number 60 = .ok (.invokevirtual 176, 3) := by decide +kernel
theorem dX12_number_63 : decode cX12_number 63 = .ok (.ifCond .eq 7, 3) := by decide +kernel
theorem dX12_number_66 : decode cX12_number 66 = .ok (.aload_n 0, 1) := by decide +kernel
theorem dX12_number_67 : decode cX12_number 67 = .ok (.invokevirtual 180, 3) := by decide +kernel
theorem dX12_number_70 : decode cX12_number 70 = .ok (.iload_n 3, 1) := by decide +kernel
theorem dX12_number_71 : decode cX12_number 71 = .ok (.ireturn, 1) := by decide +kernel
theorem dX12_puts_0 : decode cX12_puts 0 = .ok (.aload_n 0, 1) := by decide +kernel
theorem dX12_puts_1 : decode cX12_puts 1 = .ok (.getfield 56, 3) := by decide +kernel
theorem dX12_puts_4 : decode cX12_puts 4 = .ok (.aload_n 0, 1) := by decide +kernel
theorem dX12_puts_5 : decode cX12_puts 5 = .ok (.getfield 186, 3) := by decide +kernel
theorem dX12_puts_8 : decode cX12_puts 8 = .ok (.iload_n 1, 1) := by decide +kernel
theorem dX12_puts_9 : decode cX12_puts 9 = .ok (.iastore, 1) := by decide +kernel
theorem dX12_puts_10 : decode cX12_puts 10 = .ok (.aload_n 0, 1) := by decide +kernel
theorem dX12_puts_11 : decode cX12_puts 11 = .ok (.dup, 1) := by decide +kernel
theorem dX12_puts_12 : decode cX12_puts 12 = .ok (.getfield 186, 3) := by decide +kernel
theorem dX12_puts_15 : decode cX12_puts 15 = .ok (.iconst 1, 1) := by decide +kernel
theorem dX12_puts_16 : decode cX12_puts 16 = .ok (.iadd, 1) := by decide +kernel
theorem dX12_puts_17 : decode cX12_puts 17 = .ok (.putfield 186, 3) := by decide +kernel
theorem dX12_puts_20 : decode cX12_puts 20 = .ok (.return_, 1) := by decide +kernel
theorem dX12_isOpen_0 : decode cX12_isOpen 0 = .ok (.iload_n 0, 1) := by decide +kernel
theorem dX12_isOpen_1 : decode cX12_isOpen 1 = .ok (.bipush 14, 2) := by decide +kernel
theorem dX12_isOpen_3 : decode cX12_isOpen 3 = .ok (.if_icmp .lt 7, 3) := by decide +kernel
theorem dX12_isOpen_6 : decode cX12_isOpen 6 = .ok (.iconst 1, 1) := by decide +kernel
theorem dX12_isOpen_7 : decode cX12_isOpen 7 = .ok (.goto 4, 3) := by decide +kernel
theorem dX12_isOpen_10 : decode cX12_isOpen 10 = .ok (.iconst 0, 1) := by decide +kernel
theorem dX12_isOpen_11 : decode cX12_isOpen 11 = .ok (.ireturn, 1) := by decide +kernel
theorem dX12_strength_0 : decode cX12_strength 0 = .ok (.iload_n 0, 1) := by decide +kernel
theorem dX12_strength_1 : decode cX12_strength 1 = .ok (.iconst 5, 1) := by decide +kernel
theorem dX12_strength_2 : decode cX12_strength 2 = .ok (.if_icmp .ne 7, 3) := by decide +kernel
theorem dX12_strength_5 : decode cX12_strength 5 = .ok (.iconst 1, 1) := by decide +kernel
theorem dX12_strength_6 : decode cX12_strength 6 = .ok (.goto 55, 3) := by decide +kernel
theorem dX12_strength_9 : decode cX12_strength 9 = .ok (.iload_n 0, 1) := by decide +kernel
theorem dX12_strength_10 : decode cX12_strength 10 = .ok (.iconst 4, 1) := by decide +kernel
theorem dX12_strength_11 : decode cX12_strength 11 = .ok (.if_icmp .ne 7, 3) := by decide +kernel
theorem dX12_strength_14 : decode cX12_strength 14 = .ok (.iconst 2, 1) := by decide +kernel
theorem dX12_strength_15 : decode cX12_strength 15 = .ok (.goto 46, 3) := by decide +kernel
theorem dX12_strength_18 : decode cX12_strength 18 = .ok (.iload_n 0, 1) := by decide +kernel
theorem dX12_strength_19 : decode cX12_strength 19 = .ok (.iconst 3, 1) := by decide +kernel
theorem dX12_strength_20 : decode cX12_strength 20 = .ok (.if_icmp .ne 7, 3) := by decide +kernel
theorem dX12_strength_23 : decode cX12_strength 23 = .ok (.iconst 3, 1) := by decide +kernel
theorem dX12_strength_24 : decode cX12_strength 24 = .ok (.goto 37, 3) := by decide +kernel
theorem dX12_strength_27 : decode cX12_strength 27 = .ok (.iload_n 0, 1) := by decide +kernel
theorem dX12_strength_28 : decode cX12_strength 28 = .ok (.bipush 6, 2) := by decide +kernel
theorem dX12_strength_30 : decode cX12_strength 30 = .ok (.if_icmp .eq 9, 3) := by decide +kernel
theorem dX12_strength_33 : decode cX12_strength 33 = .ok (.iload_n 0, 1) := by decide +kernel
theorem dX12_strength_34 : decode cX12_strength 34 = .ok (.bipush 7, 2) := by decide +kernel
theorem dX12_strength_36 : decode cX12_strength 36 = .ok (.if_icmp .ne 7, 3) := by decide +kernel
theorem dX12_strength_39 : decode cX12_strength 39 = .ok (.iconst 4, 1) := by decide +kernel
theorem dX12_strength_40 : decode cX12_strength 40 = .ok (.goto 21, 3) := by decide +kernel
theorem dX12_strength_43 : decode cX12_strength 43 = .ok (.iload_n 0, 1) := by decide +kernel
theorem dX12_strength_44 : decode cX12_strength 44 = .ok (.bipush 8, 2) := by decide +kernel
theorem dX12_strength_46 : decode cX12_strength 46 = .ok (.if_icmp .eq 9, 3) := by decide +kernel
theorem dX12_strength_49 : decode cX12_strength 49 = .ok (.iload_n 0, 1) := by decide +kernel
theorem dX12_strength_50 : decode cX12_strength 50 = .ok (.bipush 9, 2) := by decide +kernel
theorem dX12_strength_52 : decode cX12_strength 52 = .ok (.if_icmp .ne 7, 3) := by decide +kernel
theorem dX12_strength_55 : decode cX12_strength 55 = .ok (.iconst 5, 1) := by decide +kernel
theorem dX12_strength_56 : decode cX12_strength 56 = .ok (.goto 5, 3) := by decide +kernel
theorem dX12_strength_59 : decode cX12_strength 59 = .ok (.bipush 6, 2) := by decide +kernel
theorem dX12_strength_61 : decode cX12_strength 61 = .ok (.ireturn, 1) := by decide +kernel
theorem dX12_drops_0 : decode cX12_drops 0 = .ok (.aload_n 0, 1) := by decide +kernel
theorem dX12_drops_1 : decode cX12_drops 1 = .ok (.getfield 189, 3) := by decide +kernel
theorem dX12_drops_4 : decode cX12_drops 4 = .ok (.ifCond .le 64, 3) := by decide +kernel
theorem dX12_drops_7 : decode cX12_drops 7 = .ok (.aload_n 0, 1) := by decide +kernel
theorem dX12_drops_8 : decode cX12_drops 8 = .ok (.getfield 59, 3) := by decide +kernel
theorem dX12_drops_11 : decode cX12_drops 11 = .ok (.aload_n 0, 1) := by decide +kernel
theorem dX12_drops_12 : decode cX12_drops 12 = .ok (.getfield 189, 3) := by decide +kernel
theorem dX12_drops_15 : decode cX12_drops 15 = .ok (.iconst 1, 1) := by decide +kernel
theorem dX12_drops_16 : decode cX12_drops 16 = .ok (.isub, 1) := by decide +kernel
theorem dX12_drops_17 : decode cX12_drops 17 = .ok (.iaload, 1) := by decide +kernel
theorem dX12_drops_18 : decode cX12_drops 18 = .ok (.invokestatic 192, 3) := by decide +kernel
theorem dX12_drops_21 : decode cX12_drops 21 = .ok (.ifCond .ne 47, 3) := by decide +kernel
theorem dX12_drops_24 : decode cX12_drops 24 = .ok (.aload_n 0, 1) := by decide +kernel
theorem dX12_drops_25 : decode cX12_drops 25 = .ok (.getfield 59, 3) := by decide +kernel
theorem dX12_drops_28 : decode cX12_drops 28 = .ok (.aload_n 0, 1) := by decide +kernel
theorem dX12_drops_29 : decode cX12_drops 29 = .ok (.getfield 189, 3) := by decide +kernel
theorem dX12_drops_32 : decode cX12_drops 32 = .ok (.iconst 1, 1) := by decide +kernel
theorem dX12_drops_33 : decode cX12_drops 33 = .ok (.isub, 1) := by decide +kernel
theorem dX12_drops_34 : decode cX12_drops 34 = .ok (.iaload, 1) := by decide +kernel
theorem dX12_drops_35 : decode cX12_drops 35 = .ok (.invokestatic 195, 3) := by decide +kernel
theorem dX12_drops_38 : decode cX12_drops 38 = .ok (.iload_n 1, 1) := by decide +kernel
theorem dX12_drops_39 : decode cX12_drops 39 = .ok (.if_icmp .lt 29, 3) := by decide +kernel
theorem dX12_drops_42 : decode cX12_drops 42 = .ok (.aload_n 0, 1) := by decide +kernel
theorem dX12_drops_43 : decode cX12_drops 43 = .ok (.dup, 1) := by decide +kernel
theorem dX12_drops_44 : decode cX12_drops 44 = .ok (.getfield 189, 3) := by decide +kernel
theorem dX12_drops_47 : decode cX12_drops 47 = .ok (.iconst 1, 1) := by decide +kernel
theorem dX12_drops_48 : decode cX12_drops 48 = .ok (.isub, 1) := by decide +kernel
theorem dX12_drops_49 : decode cX12_drops 49 = .ok (.putfield 189, 3) := by decide +kernel
theorem dX12_drops_52 : decode cX12_drops 52 = .ok (.aload_n 0, 1) := by decide +kernel
theorem dX12_drops_53 : decode cX12_drops 53 = .ok (.aload_n 0, 1) := by decide +kernel
theorem dX12_drops_54 : decode cX12_drops 54 = .ok (.getfield 59, 3) := by decide +kernel
theorem dX12_drops_57 : decode cX12_drops 57 = .ok (.aload_n 0, 1) := by decide +kernel
theorem dX12_drops_58 : decode cX12_drops 58 = .ok (.getfield 189, 3) := by decide +kernel
theorem dX12_drops_61 : decode cX12_drops 61 = .ok (.iaload, 1) := by decide +kernel
theorem dX12_drops_62 : decode cX12_drops 62 = .ok (.invokevirtual 198, 3) := by decide +kernel
theorem dX12_drops_65 : decode cX12_drops 65 = .ok (.goto (-65), 3) := by decide +kernel
theorem dX12_drops_68 : decode cX12_drops 68 = .ok (.return_, 1) := by decide +kernel
theorem dX12_waitsFor_0 : decode cX12_waitsFor 0 = .ok (.aload_n 0, 1) := by decide +kernel
theorem dX12_waitsFor_1 : decode cX12_waitsFor 1 = .ok (.getfield 59, 3) := by decide +kernel
theorem dX12_waitsFor_4 : decode cX12_waitsFor 4 = .ok (.aload_n 0, 1) := by decide +kernel
theorem dX12_waitsFor_5 : decode cX12_waitsFor 5 = .ok (.getfield 189, 3) := by decide +kernel
theorem dX12_waitsFor_8 : decode cX12_waitsFor 8 = .ok (.iload_n 1, 1) := by decide +kernel
theorem dX12_waitsFor_9 : decode cX12_waitsFor 9 = .ok (.iastore, 1) := by decide +kernel
theorem dX12_waitsFor_10 : decode cX12_waitsFor 10 = .ok (.aload_n 0, 1) := by decide +kernel
theorem dX12_waitsFor_11 : decode cX12_waitsFor 11 = .ok (.dup, 1) := by decide +kernel
theorem dX12_waitsFor_12 : decode cX12_waitsFor 12 = .ok (.getfield 189, 3) := by decide +kernel
theorem dX12_waitsFor_15 : decode cX12_waitsFor 15 = .ok (.iconst 1, 1) := by decide +kernel
theorem dX12_waitsFor_16 : decode cX12_waitsFor 16 = .ok (.iadd, 1) := by decide +kernel
theorem dX12_waitsFor_17 : decode cX12_waitsFor 17 = .ok (.putfield 189, 3) := by decide +kernel
theorem dX12_waitsFor_20 : decode cX12_waitsFor 20 = .ok (.return_, 1) := by decide +kernel
theorem dX12_part_0 : decode cX12_part 0 = .ok (.aload_n 0, 1) := by decide +kernel
theorem dX12_part_1 : decode cX12_part 1 = .ok (.invokevirtual 176, 3) := by decide +kernel
theorem dX12_part_4 : decode cX12_part 4 = .ok (.ifCond .ne 4, 3) := by decide +kernel
theorem dX12_part_7 : decode cX12_part 7 = .ok (.return_, 1) := by decide +kernel
theorem dX12_part_8 : decode cX12_part 8 = .ok (.aload_n 0, 1) := by decide +kernel
theorem dX12_part_9 : decode cX12_part 9 = .ok (.getfield 150, 3) := by decide +kernel
theorem dX12_part_12 : decode cX12_part 12 = .ok (.iconst 2, 1) := by decide +kernel
theorem dX12_part_13 : decode cX12_part 13 = .ok (.if_icmp .ne 32, 3) := by decide +kernel
theorem dX12_part_16 : decode cX12_part 16 = .ok (.aload_n 0, 1) := by decide +kernel
theorem dX12_part_17 : decode cX12_part 17 = .ok (.getfield 160, 3) := by decide +kernel
theorem dX12_part_20 : decode cX12_part 20 = .ok (.iconst 4, 1) := by decide +kernel
theorem dX12_part_21 : decode cX12_part 21 = .ok (.if_icmp .le 8, 3) := by decide +kernel
theorem dX12_part_24 : decode cX12_part 24 = .ok (.aload_n 0, 1) := by decide +kernel
theorem dX12_part_25 : decode cX12_part 25 = .ok (.iconst 2, 1) := by decide +kernel
theorem dX12_part_26 : decode cX12_part 26 = .ok (.invokevirtual 183, 3) := by decide +kernel
theorem dX12_part_29 : decode cX12_part 29 = .ok (.aload_n 0, 1) := by decide +kernel
theorem dX12_part_30 : decode cX12_part 30 = .ok (.iconst 1, 1) := by decide +kernel
theorem dX12_part_31 : decode cX12_part 31 = .ok (.invokevirtual 198, 3) := by decide +kernel
theorem dX12_part_34 : decode cX12_part 34 = .ok (.aload_n 0, 1) := by decide +kernel
theorem dX12_part_35 : decode cX12_part 35 = .ok (.aload_n 0, 1) := by decide +kernel
theorem dX12_part_36 : decode cX12_part 36 = .ok (.getfield 144, 3) := by decide +kernel
theorem dX12_part_39 : decode cX12_part 39 = .ok (.invokevirtual 198, 3) := by decide +kernel
theorem dX12_part_42 : decode cX12_part 42 = .ok (.goto 48, 3) := by decide +kernel
theorem dX12_part_45 : decode cX12_part 45 = .ok (.aload_n 0, 1) := by decide +kernel
theorem dX12_part_46 : decode cX12_part 46 = .ok (.getfield 150, 3) := by decide +kernel
theorem dX12_part_49 : decode cX12_part 49 = .ok (.iconst 1, 1) := by decide +kernel
theorem dX12_part_50 : decode cX12_part 50 = .ok (.if_icmp .ne 35, 3) := by decide +kernel
theorem dX12_part_53 : decode cX12_part 53 = .ok (.aload_n 0, 1) := by decide +kernel
theorem dX12_part_54 : decode cX12_part 54 = .ok (.invokevirtual 201, 3) := by decide +kernel
theorem dX12_part_57 : decode cX12_part 57 = .ok (.istore_n 1, 1) := by decide +kernel
theorem dX12_part_58 : decode cX12_part 58 = .ok (.iload_n 1, 1) := by decide +kernel
theorem dX12_part_59 : decode cX12_part 59 = .ok (.ifCond .lt 8, 3) := by decide +kernel
theorem dX12_part_62 : decode cX12_part 62 = .ok (.iload_n 1, 1) := by decide +kernel
theorem dX12_part_63 : decode cX12_part 63 = .ok (.iconst 5, 1) := by decide +kernel
theorem dX12_part_64 : decode cX12_part 64 = .ok (.if_icmp .le 8, 3) := by decide +kernel
theorem dX12_part_67 : decode cX12_part 67 = .ok (.aload_n 0, 1) := by decide +kernel
theorem dX12_part_68 : decode cX12_part 68 = .ok (.iconst 3, 1) := by decide +kernel
theorem dX12_part_69 : decode cX12_part 69 = .ok (.invokevirtual 183, 3) := by decide +kernel
theorem dX12_part_72 : decode cX12_part 72 = .ok (.aload_n 0, 1) := by decide +kernel
theorem dX12_part_73 : decode cX12_part 73 = .ok (.iconst 2, 1) := by decide +kernel
theorem dX12_part_74 : decode cX12_part 74 = .ok (.invokevirtual 198, 3) := by decide +kernel
theorem dX12_part_77 : decode cX12_part 77 = .ok (.aload_n 0, 1) := by decide +kernel
theorem dX12_part_78 : decode cX12_part 78 = .ok (.iload_n 1, 1) := by decide +kernel
theorem dX12_part_79 : decode cX12_part 79 = .ok (.invokevirtual 198, 3) := by decide +kernel
theorem dX12_part_82 : decode cX12_part 82 = .ok (.goto 8, 3) := by decide +kernel
theorem dX12_part_85 : decode cX12_part 85 = .ok (.aload_n 0, 1) := by decide +kernel
theorem dX12_part_86 : decode cX12_part 86 = .ok (.iconst 1, 1) := by decide +kernel
theorem dX12_part_87 : decode cX12_part 87 = .ok (.invokevirtual 183, 3) := by decide +kernel
theorem dX12_part_90 : decode cX12_part 90 = .ok (.aload_n 0, 1) := by decide +kernel
theorem dX12_part_91 : decode cX12_part 91 = .ok (.invokevirtual 176, 3) := by decide +kernel
theorem dX12_part_94 : decode cX12_part 94 = .ok (.ifCond .eq 7, 3) := by decide +kernel
theorem dX12_part_97 : decode cX12_part 97 = .ok (.aload_n 0, 1) := by decide +kernel
theorem dX12_part_98 : decode cX12_part 98 = .ok (.invokevirtual 180, 3) := by decide +kernel
theorem dX12_part_101 : decode cX12_part 101 = .ok (.return_, 1) := by decide +kernel
theorem dX12_deeper_0 : decode cX12_deeper 0 = .ok (.aload_n 0, 1) := by decide +kernel
theorem dX12_deeper_1 : decode cX12_deeper 1 = .ok (.getfield 205, 3) := by decide +kernel
theorem dX12_deeper_4 : decode cX12_deeper 4 = .ok (.bipush 6, 2) := by decide +kernel
theorem dX12_deeper_6 : decode cX12_deeper 6 = .ok (.if_icmp .ge 24, 3) := by decide +kernel
theorem dX12_deeper_9 : decode cX12_deeper 9 = .ok (.aload_n 0, 1) := by decide +kernel
theorem dX12_deeper_10 : decode cX12_deeper 10 = .ok (.dup, 1) := by decide +kernel
theorem dX12_deeper_11 : decode cX12_deeper 11 = .ok (.getfield 205, 3) := by decide +kernel
theorem dX12_deeper_14 : decode cX12_deeper 14 = .ok (.iconst 1, 1) := by decide +kernel
theorem dX12_deeper_15 : decode cX12_deeper 15 = .ok (.iadd, 1) := by decide +kernel
theorem dX12_deeper_16 : decode cX12_deeper 16 = .ok (.putfield 205, 3) := by decide +kernel
theorem dX12_deeper_19 : decode cX12_deeper 19 = .ok (.aload_n 0, 1) := by decide +kernel
theorem dX12_deeper_20 : decode cX12_deeper 20 = .ok (.getfield 62, 3) := by decide +kernel
theorem dX12_deeper_23 : decode cX12_deeper 23 = .ok (.aload_n 0, 1) := by decide +kernel
theorem dX12_deeper_24 : decode cX12_deeper 24 = .ok (.getfield 205, 3) := by decide +kernel
theorem dX12_deeper_27 : decode cX12_deeper 27 = .ok (.iconst 0, 1) := by decide +kernel
theorem dX12_deeper_28 : decode cX12_deeper 28 = .ok (.bastore, 1) := by decide +kernel
theorem dX12_deeper_29 : decode cX12_deeper 29 = .ok (.return_, 1) := by decide +kernel
theorem dX12_deeper_30 : decode cX12_deeper 30 = .ok (.aload_n 0, 1) := by decide +kernel
theorem dX12_deeper_31 : decode cX12_deeper 31 = .ok (.aload_n 0, 1) := by decide +kernel
theorem dX12_deeper_32 : decode cX12_deeper 32 = .ok (.getfield 150, 3) := by decide +kernel
theorem dX12_deeper_35 : decode cX12_deeper 35 = .ok (.iconst 2, 1) := by decide +kernel
theorem dX12_deeper_36 : decode cX12_deeper 36 = .ok (.if_icmp .eq 20, 3) := by decide +kernel
theorem dX12_deeper_39 : decode cX12_deeper 39 = .ok (.aload_n 0, 1) := by decide +kernel
theorem dX12_deeper_40 : decode cX12_deeper 40 = .ok (.getfield 150, 3) := by decide +kernel
theorem dX12_deeper_43 : decode cX12_deeper 43 = .ok (.iconst 1, 1) := by decide +kernel
theorem dX12_deeper_44 : decode cX12_deeper 44 = .ok (.if_icmp .eq 12, 3) := by decide +kernel
theorem dX12_deeper_47 : decode cX12_deeper 47 = .ok (.aload_n 0, 1) := by decide +kernel
theorem dX12_deeper_48 : decode cX12_deeper 48 = .ok (.bipush 40, 2) := by decide +kernel
theorem dX12_deeper_50 : decode cX12_deeper 50 = .ok (.invokevirtual 208, 3) := by decide +kernel
theorem dX12_deeper_53 : decode cX12_deeper 53 = .ok (.ifCond .eq 7, 3) := by decide +kernel
theorem dX12_deeper_56 : decode cX12_deeper 56 = .ok (.iconst 2, 1) := by decide +kernel
theorem dX12_deeper_57 : decode cX12_deeper 57 = .ok (.goto 4, 3) := by decide +kernel
theorem dX12_deeper_60 : decode cX12_deeper 60 = .ok (.iconst 1, 1) := by decide +kernel
theorem dX12_deeper_61 : decode cX12_deeper 61 = .ok (.invokevirtual 183, 3) := by decide +kernel
theorem dX12_deeper_64 : decode cX12_deeper 64 = .ok (.return_, 1) := by decide +kernel
theorem dX12_operand_0 : decode cX12_operand 0 = .ok (.iload_n 1, 1) := by decide +kernel
theorem dX12_operand_1 : decode cX12_operand 1 = .ok (.istore_n 2, 1) := by decide +kernel
theorem dX12_operand_2 : decode cX12_operand 2 = .ok (.iconst 1, 1) := by decide +kernel
theorem dX12_operand_3 : decode cX12_operand 3 = .ok (.istore_n 3, 1) := by decide +kernel
theorem dX12_operand_4 : decode cX12_operand 4 = .ok (.iload_n 3, 1) := by decide +kernel
theorem dX12_operand_5 : decode cX12_operand 5 = .ok (.ifCond .eq 115, 3) := by decide +kernel
theorem dX12_operand_8 : decode cX12_operand 8 = .ok (.aload_n 0, 1) := by decide +kernel
theorem dX12_operand_9 : decode cX12_operand 9 = .ok (.invokevirtual 176, 3) := by decide +kernel
theorem dX12_operand_12 : decode cX12_operand 12 = .ok (.ifCond .eq 108, 3) := by decide +kernel
theorem dX12_operand_15 : decode cX12_operand 15 = .ok (.iconst 0, 1) := by decide +kernel
theorem dX12_operand_16 : decode cX12_operand 16 = .ok (.istore 4, 2) := by decide +kernel
theorem dX12_operand_18 : decode cX12_operand 18 = .ok (.aload_n 0, 1) := by decide +kernel
theorem dX12_operand_19 : decode cX12_operand 19 = .ok (.invokevirtual 176, 3) := by decide +kernel
theorem dX12_operand_22 : decode cX12_operand 22 = .ok (.ifCond .eq 53, 3) := by decide +kernel
theorem dX12_operand_25 : decode cX12_operand 25 = .ok (.iload_n 2, 1) := by decide +kernel
theorem dX12_operand_26 : decode cX12_operand 26 = .ok (.ifCond .eq 49, 3) := by decide +kernel
theorem dX12_operand_29 : decode cX12_operand 29 = .ok (.aload_n 0, 1) := by decide +kernel
theorem dX12_operand_30 : decode cX12_operand 30 = .ok (.invokevirtual 201, 3) := by decide +kernel
theorem dX12_operand_33 : decode cX12_operand 33 = .ok (.bipush 14, 2) := by decide +kernel
theorem dX12_operand_35 : decode cX12_operand 35 = .ok (.if_icmp .ne 40, 3) := by decide +kernel
theorem dX12_operand_38 : decode cX12_operand 38 = .ok (.iload 4, 2) := by decide +kernel
theorem dX12_operand_40 : decode cX12_operand 40 = .ok (.bipush 6, 2) := by decide +kernel
theorem dX12_operand_42 : decode cX12_operand 42 = .ok (.if_icmp .ne 8, 3) := by decide +kernel
theorem dX12_operand_45 : decode cX12_operand 45 = .ok (.aload_n 0, 1) := by decide +kernel
theorem dX12_operand_46 : decode cX12_operand 46 = .ok (.iconst 2, 1) := by decide +kernel
theorem dX12_operand_47 : decode cX12_operand 47 = .ok (.invokevirtual 183, 3) := by decide +kernel
theorem dX12_operand_50 : decode cX12_operand 50 = .ok (.iinc 4 1, 3) := by decide +kernel
theorem dX12_operand_53 : decode cX12_operand 53 = .ok (.aload_n 0, 1) := by decide +kernel
theorem dX12_operand_54 : decode cX12_operand 54 = .ok (.invokevirtual 176, 3) := by decide +kernel
theorem dX12_operand_57 : decode cX12_operand 57 = .ok (.ifCond .ne 6, 3) := by decide +kernel
theorem dX12_operand_60 : decode cX12_operand 60 = .ok (.goto (-42), 3) := by decide +kernel
theorem dX12_operand_63 : decode cX12_operand 63 = .ok (.aload_n 0, 1) := by decide +kernel
theorem dX12_operand_64 : decode cX12_operand 64 = .ok (.iconst 3, 1) := by decide +kernel
theorem dX12_operand_65 : decode cX12_operand 65 = .ok (.invokevirtual 211, 3) := by decide +kernel
theorem dX12_operand_68 : decode cX12_operand 68 = .ok (.aload_n 0, 1) := by decide +kernel
theorem dX12_operand_69 : decode cX12_operand 69 = .ok (.invokevirtual 180, 3) := by decide +kernel
theorem dX12_operand_72 : decode cX12_operand 72 = .ok (.goto (-54), 3) := by decide +kernel
theorem dX12_operand_75 : decode cX12_operand 75 = .ok (.aload_n 0, 1) := by decide +kernel
theorem dX12_operand_76 : decode cX12_operand 76 = .ok (.invokevirtual 176, 3) := by decide +kernel
theorem dX12_operand_79 : decode cX12_operand 79 = .ok (.ifCond .eq 16, 3) := by decide +kernel
theorem dX12_operand_82 : decode cX12_operand 82 = .ok (.aload_n 0, 1) := by decide +kernel
theorem dX12_operand_83 : decode cX12_operand 83 = .ok (.bipush 40, 2) := by decide +kernel
theorem dX12_operand_85 : decode cX12_operand 85 = .ok (.invokevirtual 208, 3) := by decide +kernel
theorem dX12_operand_88 : decode cX12_operand 88 = .ok (.ifCond .eq 7, 3) := by decide +kernel
theorem dX12_operand_91 : decode cX12_operand 91 = .ok (.iconst 1, 1) := by decide +kernel
theorem dX12_operand_92 : decode cX12_operand 92 = .ok (.goto 4, 3) := by decide +kernel
theorem dX12_operand_95 : decode cX12_operand 95 = .ok (.iconst 0, 1) := by decide +kernel
theorem dX12_operand_96 : decode cX12_operand 96 = .ok (.istore_n 3, 1) := by decide +kernel
theorem dX12_operand_97 : decode cX12_operand 97 = .ok (.iload_n 3, 1) := by decide +kernel
theorem dX12_operand_98 : decode cX12_operand 98 = .ok (.ifCond .eq 19, 3) := by decide +kernel
theorem dX12_operand_101 : decode cX12_operand 101 = .ok (.aload_n 0, 1) := by decide +kernel
theorem dX12_operand_102 : decode cX12_operand 102 = .ok (.bipush 14, 2) := by decide +kernel
theorem dX12_operand_104 : decode cX12_operand 104 = .ok (.invokevirtual 211, 3) := by decide +kernel
theorem dX12_operand_107 : decode cX12_operand 107 = .ok (.aload_n 0, 1) := by decide +kernel
theorem dX12_operand_108 : decode cX12_operand 108 = .ok (.invokevirtual 180, 3) := by decide +kernel
theorem dX12_operand_111 : decode cX12_operand 111 = .ok (.aload_n 0, 1) := by decide +kernel
theorem dX12_operand_112 : decode cX12_operand 112 = .ok (.invokevirtual 214, 3) := by decide +kernel
theorem dX12_operand_115 : decode cX12_operand 115 = .ok (.iconst 1, 1) := by decide +kernel
theorem dX12_operand_116 : decode cX12_operand 116 = .ok (.istore_n 2, 1) := by decide +kernel
theorem dX12_operand_117 : decode cX12_operand 117 = .ok (.goto (-113), 3) := by decide +kernel
theorem dX12_operand_120 : decode cX12_operand 120 = .ok (.aload_n 0, 1) := by decide +kernel
theorem dX12_operand_121 : decode cX12_operand 121 = .ok (.invokevirtual 217, 3) := by decide +kernel
theorem dX12_operand_124 : decode cX12_operand 124 = .ok (.return_, 1) := by decide +kernel
theorem dX12_isOpened_0 : decode cX12_isOpened 0 = .ok (.aload_n 0, 1) := by decide +kernel
theorem dX12_isOpened_1 : decode cX12_isOpened 1 = .ok (.getfield 189, 3) := by decide +kernel
theorem dX12_isOpened_4 : decode cX12_isOpened 4 = .ok (.iconst 1, 1) := by decide +kernel
theorem dX12_isOpened_5 : decode cX12_isOpened 5 = .ok (.isub, 1) := by decide +kernel
theorem dX12_isOpened_6 : decode cX12_isOpened 6 = .ok (.istore_n 1, 1) := by decide +kernel
theorem dX12_isOpened_7 : decode cX12_isOpened 7 = .ok (.iload_n 1, 1) := by decide +kernel
theorem dX12_isOpened_8 : decode cX12_isOpened 8 = .ok (.ifCond .lt 21, 3) := by decide +kernel
theorem dX12_isOpened_11 : decode cX12_isOpened 11 = .ok (.aload_n 0, 1) := by decide +kernel
theorem dX12_isOpened_12 : decode cX12_isOpened 12 = .ok (.getfield 59, 3) := by decide +kernel
theorem dX12_isOpened_15 : decode cX12_isOpened 15 = .ok (.iload_n 1, 1) := by decide +kernel
theorem dX12_isOpened_16 : decode cX12_isOpened 16 = .ok (.iaload, 1) := by decide +kernel
theorem dX12_isOpened_17 : decode cX12_isOpened 17 = .ok (.invokestatic 192, 3) := by decide +kernel
theorem dX12_isOpened_20 : decode cX12_isOpened 20 = .ok (.ifCond .ne 9, 3) := by decide +kernel
theorem dX12_isOpened_23 : decode cX12_isOpened 23 = .ok (.iinc 1 (-1), 3) := by decide +kernel
theorem dX12_isOpened_26 : decode cX12_isOpened 26 = .ok (.goto (-19), 3) := by decide +kernel
theorem dX12_isOpened_29 : decode cX12_isOpened 29 = .ok (.iload_n 1, 1) := by decide +kernel
theorem dX12_isOpened_30 : decode cX12_isOpened 30 = .ok (.ifCond .lt 7, 3) := by decide +kernel
theorem dX12_isOpened_33 : decode cX12_isOpened 33 = .ok (.iconst 1, 1) := by decide +kernel
theorem dX12_isOpened_34 : decode cX12_isOpened 34 = .ok (.goto 4, 3) := by decide +kernel
theorem dX12_isOpened_37 : decode cX12_isOpened 37 = .ok (.iconst 0, 1) := by decide +kernel
theorem dX12_isOpened_38 : decode cX12_isOpened 38 = .ok (.ireturn, 1) := by decide +kernel
theorem dX12_closes_0 : decode cX12_closes 0 = .ok (.aload_n 0, 1) := by decide +kernel
theorem dX12_closes_1 : decode cX12_closes 1 = .ok (.iconst 0, 1) := by decide +kernel
theorem dX12_closes_2 : decode cX12_closes 2 = .ok (.invokevirtual 220, 3) := by decide +kernel
theorem dX12_closes_5 : decode cX12_closes 5 = .ok (.aload_n 0, 1) := by decide +kernel
theorem dX12_closes_6 : decode cX12_closes 6 = .ok (.dup, 1) := by decide +kernel
theorem dX12_closes_7 : decode cX12_closes 7 = .ok (.getfield 189, 3) := by decide +kernel
theorem dX12_closes_10 : decode cX12_closes 10 = .ok (.iconst 1, 1) := by decide +kernel
theorem dX12_closes_11 : decode cX12_closes 11 = .ok (.isub, 1) := by decide +kernel
theorem dX12_closes_12 : decode cX12_closes 12 = .ok (.putfield 189, 3) := by decide +kernel
theorem dX12_closes_15 : decode cX12_closes 15 = .ok (.aload_n 0, 1) := by decide +kernel
theorem dX12_closes_16 : decode cX12_closes 16 = .ok (.dup, 1) := by decide +kernel
theorem dX12_closes_17 : decode cX12_closes 17 = .ok (.getfield 205, 3) := by decide +kernel
theorem dX12_closes_20 : decode cX12_closes 20 = .ok (.iconst 1, 1) := by decide +kernel
theorem dX12_closes_21 : decode cX12_closes 21 = .ok (.isub, 1) := by decide +kernel
theorem dX12_closes_22 : decode cX12_closes 22 = .ok (.putfield 205, 3) := by decide +kernel
theorem dX12_closes_25 : decode cX12_closes 25 = .ok (.aload_n 0, 1) := by decide +kernel
theorem dX12_closes_26 : decode cX12_closes 26 = .ok (.invokevirtual 180, 3) := by decide +kernel
theorem dX12_closes_29 : decode cX12_closes 29 = .ok (.return_, 1) := by decide +kernel
theorem dX12_expression_0 : decode cX12_expression 0 = .ok (.aload_n 0, 1) := by decide +kernel
theorem dX12_expression_1 : decode cX12_expression 1 = .ok (.invokevirtual 176, 3) := by decide +kernel
theorem dX12_expression_4 : decode cX12_expression 4 = .ok (.ifCond .ne 4, 3) := by decide +kernel
theorem dX12_expression_7 : decode cX12_expression 7 = .ok (.return_, 1) := by decide +kernel
theorem dX12_expression_8 : decode cX12_expression 8 = .ok (.aload_n 0, 1) := by decide +kernel
theorem dX12_expression_9 : decode cX12_expression 9 = .ok (.iconst 0, 1) := by decide +kernel
theorem dX12_expression_10 : decode cX12_expression 10 = .ok (.putfield 189, 3) := by decide +kernel
theorem dX12_expression_13 : decode cX12_expression 13 = .ok (.aload_n 0, 1) := by decide +kernel
theorem dX12_expression_14 : decode cX12_expression 14 = .ok (.iconst 0, 1) := by decide +kernel
theorem dX12_expression_15 : decode cX12_expression 15 = .ok (.putfield 205, 3) := by decide +kernel
theorem dX12_expression_18 : decode cX12_expression 18 = .ok (.aload_n 0, 1) := by decide +kernel
theorem dX12_expression_19 : decode cX12_expression 19 = .ok (.invokevirtual 214, 3) := by decide +kernel
theorem dX12_expression_22 : decode cX12_expression 22 = .ok (.aload_n 0, 1) := by decide +kernel
theorem dX12_expression_23 : decode cX12_expression 23 = .ok (.iconst 1, 1) := by decide +kernel
theorem dX12_expression_24 : decode cX12_expression 24 = .ok (.invokevirtual 223, 3) := by decide +kernel
theorem dX12_expression_27 : decode cX12_expression 27 = .ok (.iconst 1, 1) := by decide +kernel
theorem dX12_expression_28 : decode cX12_expression 28 = .ok (.istore_n 1, 1) := by decide +kernel
theorem dX12_expression_29 : decode cX12_expression 29 = .ok (.iload_n 1, 1) := by decide +kernel
theorem dX12_expression_30 : decode cX12_expression 30 = .ok (.ifCond .eq 295, 3) := by decide +kernel
theorem dX12_expression_33 : decode cX12_expression 33 = .ok (.aload_n 0, 1) := by decide +kernel
theorem dX12_expression_34 : decode cX12_expression 34 = .ok (.invokevirtual 176, 3) := by decide +kernel
theorem dX12_expression_37 : decode cX12_expression 37 = .ok (.ifCond .eq 288, 3) := by decide +kernel
theorem dX12_expression_40 : decode cX12_expression 40 = .ok (.aload_n 0, 1) := by decide +kernel
theorem dX12_expression_41 : decode cX12_expression 41 = .ok (.invokevirtual 201, 3) := by decide +kernel
theorem dX12_expression_44 : decode cX12_expression 44 = .ok (.istore_n 2, 1) := by decide +kernel
theorem dX12_expression_45 : decode cX12_expression 45 = .ok (.iload_n 2, 1) := by decide +kernel
theorem dX12_expression_46 : decode cX12_expression 46 = .ok (.bipush 12, 2) := by decide +kernel
theorem dX12_expression_48 : decode cX12_expression 48 = .ok (.if_icmp .eq 9, 3) := by decide +kernel
theorem dX12_expression_51 : decode cX12_expression 51 = .ok (.iload_n 2, 1) := by decide +kernel
theorem dX12_expression_52 : decode cX12_expression 52 = .ok (.bipush 13, 2) := by decide +kernel
theorem dX12_expression_54 : decode cX12_expression 54 = .ok (.if_icmp .ne 55, 3) := by decide +kernel
theorem dX12_expression_57 : decode cX12_expression 57 = .ok (.aload_n 0, 1) := by decide +kernel
theorem dX12_expression_58 : decode cX12_expression 58 = .ok (.iload_n 2, 1) := by decide +kernel
theorem dX12_expression_59 : decode cX12_expression 59 = .ok (.bipush 12, 2) := by decide +kernel
theorem dX12_expression_61 : decode cX12_expression 61 = .ok (.if_icmp .ne 7, 3) := by decide +kernel
theorem dX12_expression_64 : decode cX12_expression 64 = .ok (.iconst 2, 1) := by decide +kernel
theorem dX12_expression_65 : decode cX12_expression 65 = .ok (.goto 4, 3) := by decide +kernel
theorem dX12_expression_68 : decode cX12_expression 68 = .ok (.iconst 1, 1) := by decide +kernel
theorem dX12_expression_69 : decode cX12_expression 69 = .ok (.invokevirtual 220, 3) := by decide +kernel
theorem dX12_expression_72 : decode cX12_expression 72 = .ok (.aload_n 0, 1) := by decide +kernel
theorem dX12_expression_73 : decode cX12_expression 73 = .ok (.iload_n 2, 1) := by decide +kernel
theorem dX12_expression_74 : decode cX12_expression 74 = .ok (.bipush 12, 2) := by decide +kernel
theorem dX12_expression_76 : decode cX12_expression 76 = .ok (.if_icmp .ne 7, 3) := by decide +kernel
theorem dX12_expression_79 : decode cX12_expression 79 = .ok (.iconst 4, 1) := by decide +kernel
theorem dX12_expression_80 : decode cX12_expression 80 = .ok (.goto 4, 3) := by decide +kernel
theorem dX12_expression_83 : decode cX12_expression 83 = .ok (.iconst 5, 1) := by decide +kernel
theorem dX12_expression_84 : decode cX12_expression 84 = .ok (.invokevirtual 211, 3) := by decide +kernel
theorem dX12_expression_87 : decode cX12_expression 87 = .ok (.aload_n 0, 1) := by decide +kernel
theorem dX12_expression_88 : decode cX12_expression 88 = .ok (.getfield 62, 3) := by decide +kernel
theorem dX12_expression_91 : decode cX12_expression 91 = .ok (.aload_n 0, 1) := by decide +kernel
theorem dX12_expression_92 : decode cX12_expression 92 = .ok (.getfield 205, 3) := by decide +kernel
theorem dX12_expression_95 : decode cX12_expression 95 = .ok (.iconst 0, 1) := by decide +kernel
theorem dX12_expression_96 : decode cX12_expression 96 = .ok (.bastore, 1) := by decide +kernel
theorem dX12_expression_97 : decode cX12_expression 97 = .ok (.aload_n 0, 1) := by decide +kernel
theorem dX12_expression_98 : decode cX12_expression 98 = .ok (.invokevirtual 180, 3) := by decide +kernel
theorem dX12_expression_101 : decode cX12_expression 101 = .ok (.aload_n 0, 1) := by decide +kernel
theorem dX12_expression_102 : decode cX12_expression 102 = .ok (.iconst 1, 1) := by decide +kernel
theorem dX12_expression_103 : decode cX12_expression 103 = .ok (.invokevirtual 223, 3) := by decide +kernel
theorem dX12_expression_106 : decode cX12_expression 106 = .ok (.goto 216, 3) := by decide +kernel
theorem dX12_expression_109 : decode cX12_expression 109 = .ok (.aload_n 0, 1) := by decide +kernel
theorem dX12_expression_110 : decode cX12_expression 110 = .ok (.bipush 60, 2) := by decide +kernel
theorem dX12_expression_112 : decode cX12_expression 112 = .ok (.invokevirtual 208, 3) := by decide +kernel
theorem dX12_expression_115 : decode cX12_expression 115 = .ok (.ifCond .ne 12, 3) := by decide +kernel
theorem dX12_expression_118 : decode cX12_expression 118 = .ok (.aload_n 0, 1) := by decide +kernel
theorem dX12_expression_119 : decode cX12_expression 119 = .ok (.bipush 61, 2) := by decide +kernel
theorem dX12_expression_121 : decode cX12_expression 121 = .ok (.invokevirtual 208, 3) := by decide +kernel
theorem dX12_expression_124 : decode cX12_expression 124 = .ok (.ifCond .eq 62, 3) := by decide +kernel
theorem dX12_expression_127 : decode cX12_expression 127 = .ok (.aload_n 0, 1) := by decide +kernel
theorem dX12_expression_128 : decode cX12_expression 128 = .ok (.getfield 62, 3) := by decide +kernel
theorem dX12_expression_131 : decode cX12_expression 131 = .ok (.aload_n 0, 1) := by decide +kernel
theorem dX12_expression_132 : decode cX12_expression 132 = .ok (.getfield 205, 3) := by decide +kernel
theorem dX12_expression_135 : decode cX12_expression 135 = .ok (.baload, 1) := by decide +kernel
theorem dX12_expression_136 : decode cX12_expression 136 = .ok (.ifCond .ne 50, 3) := by decide +kernel
theorem dX12_expression_139 : decode cX12_expression 139 = .ok (.aload_n 0, 1) := by decide +kernel
theorem dX12_expression_140 : decode cX12_expression 140 = .ok (.iconst 4, 1) := by decide +kernel
theorem dX12_expression_141 : decode cX12_expression 141 = .ok (.invokevirtual 220, 3) := by decide +kernel
theorem dX12_expression_144 : decode cX12_expression 144 = .ok (.aload_n 0, 1) := by decide +kernel
theorem dX12_expression_145 : decode cX12_expression 145 = .ok (.aload_n 0, 1) := by decide +kernel
theorem dX12_expression_146 : decode cX12_expression 146 = .ok (.bipush 60, 2) := by decide +kernel
theorem dX12_expression_148 : decode cX12_expression 148 = .ok (.invokevirtual 208, 3) := by decide +kernel
theorem dX12_expression_151 : decode cX12_expression 151 = .ok (.ifCond .eq 8, 3) := by decide +kernel
theorem dX12_expression_154 : decode cX12_expression 154 = .ok (.bipush 6, 2) := by decide +kernel
theorem dX12_expression_156 : decode cX12_expression 156 = .ok (.goto 5, 3) := by decide +kernel
theorem dX12_expression_159 : decode cX12_expression 159 = .ok (.bipush 7, 2) := by decide +kernel
theorem dX12_expression_161 : decode cX12_expression 161 = .ok (.invokevirtual 211, 3) := by decide +kernel
theorem dX12_expression_164 : decode cX12_expression 164 = .ok (.aload_n 0, 1) := by decide +kernel
theorem dX12_expression_165 : decode cX12_expression 165 = .ok (.getfield 62, 3) := by decide +kernel
theorem dX12_expression_168 : decode cX12_expression 168 = .ok (.aload_n 0, 1) := by decide +kernel
theorem dX12_expression_169 : decode cX12_expression 169 = .ok (.getfield 205, 3) := by decide +kernel
theorem dX12_expression_172 : decode cX12_expression 172 = .ok (.iconst 1, 1) := by decide +kernel
theorem dX12_expression_173 : decode cX12_expression 173 = .ok (.bastore, 1) := by decide +kernel
theorem dX12_expression_174 : decode cX12_expression 174 = .ok (.aload_n 0, 1) := by decide +kernel
theorem dX12_expression_175 : decode cX12_expression 175 = .ok (.invokevirtual 180, 3) := by decide +kernel
theorem dX12_expression_178 : decode cX12_expression 178 = .ok (.aload_n 0, 1) := by decide +kernel
theorem dX12_expression_179 : decode cX12_expression 179 = .ok (.iconst 0, 1) := by decide +kernel
theorem dX12_expression_180 : decode cX12_expression 180 = .ok (.invokevirtual 223, 3) := by decide +kernel
theorem dX12_expression_183 : decode cX12_expression 183 = .ok (.goto 139, 3) := by decide +kernel
theorem dX12_expression_186 : decode cX12_expression 186 = .ok (.aload_n 0, 1) := by decide +kernel
theorem dX12_expression_187 : decode cX12_expression 187 = .ok (.bipush 43, 2) := by decide +kernel
theorem dX12_expression_189 : decode cX12_expression 189 = .ok (.invokevirtual 208, 3) := by decide +kernel
theorem dX12_expression_192 : decode cX12_expression 192 = .ok (.ifCond .ne 12, 3) := by decide +kernel
theorem dX12_expression_195 : decode cX12_expression 195 = .ok (.aload_n 0, 1) := by decide +kernel
theorem dX12_expression_196 : decode cX12_expression 196 = .ok (.bipush 45, 2) := by decide +kernel
theorem dX12_expression_198 : decode cX12_expression 198 = .ok (.invokevirtual 208, 3) := by decide +kernel
theorem dX12_expression_201 : decode cX12_expression 201 = .ok (.ifCond .eq 40, 3) := by decide +kernel
theorem dX12_expression_204 : decode cX12_expression 204 = .ok (.aload_n 0, 1) := by decide +kernel
theorem dX12_expression_205 : decode cX12_expression 205 = .ok (.iconst 5, 1) := by decide +kernel
theorem dX12_expression_206 : decode cX12_expression 206 = .ok (.invokevirtual 220, 3) := by decide +kernel
theorem dX12_expression_209 : decode cX12_expression 209 = .ok (.aload_n 0, 1) := by decide +kernel
theorem dX12_expression_210 : decode cX12_expression 210 = .ok (.aload_n 0, 1) := by decide +kernel
theorem dX12_expression_211 : decode cX12_expression 211 = .ok (.bipush 43, 2) := by decide +kernel
theorem dX12_expression_213 : decode cX12_expression 213 = .ok (.invokevirtual 208, 3) := by decide +kernel
theorem dX12_expression_216 : decode cX12_expression 216 = .ok (.ifCond .eq 8, 3) := by decide +kernel
theorem dX12_expression_219 : decode cX12_expression 219 = .ok (.bipush 8, 2) := by decide +kernel
theorem dX12_expression_221 : decode cX12_expression 221 = .ok (.goto 5, 3) := by decide +kernel
theorem dX12_expression_224 : decode cX12_expression 224 = .ok (.bipush 9, 2) := by decide +kernel
theorem dX12_expression_226 : decode cX12_expression 226 = .ok (.invokevirtual 211, 3) := by decide +kernel
theorem dX12_expression_229 : decode cX12_expression 229 = .ok (.aload_n 0, 1) := by decide +kernel
theorem dX12_expression_230 : decode cX12_expression 230 = .ok (.invokevirtual 180, 3) := by decide +kernel
theorem dX12_expression_233 : decode cX12_expression 233 = .ok (.aload_n 0, 1) := by decide +kernel
theorem dX12_expression_234 : decode cX12_expression 234 = .ok (.iconst 0, 1) := by decide +kernel
theorem dX12_expression_235 : decode cX12_expression 235 = .ok (.invokevirtual 223, 3) := by decide +kernel
theorem dX12_expression_238 : decode cX12_expression 238 = .ok (.goto 84, 3) := by decide +kernel
theorem dX12_expression_241 : decode cX12_expression 241 = .ok (.aload_n 0, 1) := by decide +kernel
theorem dX12_expression_242 : decode cX12_expression 242 = .ok (.bipush 42, 2) := by decide +kernel
theorem dX12_expression_244 : decode cX12_expression 244 = .ok (.invokevirtual 208, 3) := by decide +kernel
theorem dX12_expression_247 : decode cX12_expression 247 = .ok (.ifCond .ne 12, 3) := by decide +kernel
theorem dX12_expression_250 : decode cX12_expression 250 = .ok (.aload_n 0, 1) := by decide +kernel
theorem dX12_expression_251 : decode cX12_expression 251 = .ok (.bipush 47, 2) := by decide +kernel
theorem dX12_expression_253 : decode cX12_expression 253 = .ok (.invokevirtual 208, 3) := by decide +kernel
theorem dX12_expression_256 : decode cX12_expression 256 = .ok (.ifCond .eq 41, 3) := by decide +kernel
theorem dX12_expression_259 : decode cX12_expression 259 = .ok (.aload_n 0, 1) := by decide +kernel
theorem dX12_expression_260 : decode cX12_expression 260 = .ok (.bipush 6, 2) := by decide +kernel
theorem dX12_expression_262 : decode cX12_expression 262 = .ok (.invokevirtual 220, 3) := by decide +kernel
theorem dX12_expression_265 : decode cX12_expression 265 = .ok (.aload_n 0, 1) := by decide +kernel
theorem dX12_expression_266 : decode cX12_expression 266 = .ok (.aload_n 0, 1) := by decide +kernel
theorem dX12_expression_267 : decode cX12_expression 267 = .ok (.bipush 42, 2) := by decide +kernel
theorem dX12_expression_269 : decode cX12_expression 269 = .ok (.invokevirtual 208, 3) := by decide +kernel
theorem dX12_expression_272 : decode cX12_expression 272 = .ok (.ifCond .eq 8, 3) := by decide +kernel
theorem dX12_expression_275 : decode cX12_expression 275 = .ok (.bipush 10, 2) := by decide +kernel
theorem dX12_expression_277 : decode cX12_expression 277 = .ok (.goto 5, 3) := by decide +kernel
theorem dX12_expression_280 : decode cX12_expression 280 = .ok (.bipush 11, 2) := by decide +kernel
theorem dX12_expression_282 : decode cX12_expression 282 = .ok (.invokevirtual 211, 3) := by decide +kernel
theorem dX12_expression_285 : decode cX12_expression 285 = .ok (.aload_n 0, 1) := by decide +kernel
theorem dX12_expression_286 : decode cX12_expression 286 = .ok (.invokevirtual 180, 3) := by decide +kernel
theorem dX12_expression_289 : decode cX12_expression 289 = .ok (.aload_n 0, 1) := by decide +kernel
theorem dX12_expression_290 : decode cX12_expression 290 = .ok (.iconst 0, 1) := by decide +kernel
theorem dX12_expression_291 : decode cX12_expression 291 = .ok (.invokevirtual 223, 3) := by decide +kernel
theorem dX12_expression_294 : decode cX12_expression 294 = .ok (.goto 28, 3) := by decide +kernel
theorem dX12_expression_297 : decode cX12_expression 297 = .ok (.aload_n 0, 1) := by decide +kernel
theorem dX12_expression_298 : decode cX12_expression 298 = .ok (.bipush 41, 2) := by decide +kernel
theorem dX12_expression_300 : decode cX12_expression 300 = .ok (.invokevirtual 208, 3) := by decide +kernel
theorem dX12_expression_303 : decode cX12_expression 303 = .ok (.ifCond .eq 17, 3) := by decide +kernel
theorem dX12_expression_306 : decode cX12_expression 306 = .ok (.aload_n 0, 1) := by decide +kernel
theorem dX12_expression_307 : decode cX12_expression 307 = .ok (.invokevirtual 227, 3) := by decide +kernel
theorem dX12_expression_310 : decode cX12_expression 310 = .ok (.ifCond .eq 10, 3) := by decide +kernel
theorem dX12_expression_313 : decode cX12_expression 313 = .ok (.aload_n 0, 1) := by decide +kernel
theorem dX12_expression_314 : decode cX12_expression 314 = .ok (.invokevirtual 230, 3) := by decide +kernel
theorem dX12_expression_317 : decode cX12_expression 317 = .ok (.goto 5, 3) := by decide +kernel
theorem dX12_expression_320 : decode cX12_expression 320 = .ok (.iconst 0, 1) := by decide +kernel
theorem dX12_expression_321 : decode cX12_expression 321 = .ok (.istore_n 1, 1) := by decide +kernel
theorem dX12_expression_322 : decode cX12_expression 322 = .ok (.goto (-293), 3) := by decide +kernel
theorem dX12_expression_325 : decode cX12_expression 325 = .ok (.aload_n 0, 1) := by decide +kernel
theorem dX12_expression_326 : decode cX12_expression 326 = .ok (.invokevirtual 176, 3) := by decide +kernel
theorem dX12_expression_329 : decode cX12_expression 329 = .ok (.ifCond .eq 16, 3) := by decide +kernel
theorem dX12_expression_332 : decode cX12_expression 332 = .ok (.aload_n 0, 1) := by decide +kernel
theorem dX12_expression_333 : decode cX12_expression 333 = .ok (.getfield 205, 3) := by decide +kernel
theorem dX12_expression_336 : decode cX12_expression 336 = .ok (.iconst 1, 1) := by decide +kernel
theorem dX12_expression_337 : decode cX12_expression 337 = .ok (.if_icmp .le 8, 3) := by decide +kernel
theorem dX12_expression_340 : decode cX12_expression 340 = .ok (.aload_n 0, 1) := by decide +kernel
theorem dX12_expression_341 : decode cX12_expression 341 = .ok (.iconst 1, 1) := by decide +kernel
theorem dX12_expression_342 : decode cX12_expression 342 = .ok (.invokevirtual 183, 3) := by decide +kernel
theorem dX12_expression_345 : decode cX12_expression 345 = .ok (.aload_n 0, 1) := by decide +kernel
theorem dX12_expression_346 : decode cX12_expression 346 = .ok (.iconst 0, 1) := by decide +kernel
theorem dX12_expression_347 : decode cX12_expression 347 = .ok (.invokevirtual 220, 3) := by decide +kernel
theorem dX12_expression_350 : decode cX12_expression 350 = .ok (.aload_n 0, 1) := by decide +kernel
theorem dX12_expression_351 : decode cX12_expression 351 = .ok (.iconst 0, 1) := by decide +kernel
theorem dX12_expression_352 : decode cX12_expression 352 = .ok (.invokevirtual 198, 3) := by decide +kernel
theorem dX12_expression_355 : decode cX12_expression 355 = .ok (.return_, 1) := by decide +kernel
theorem dX12_begins_0 : decode cX12_begins 0 = .ok (.iload_n 1, 1) := by decide +kernel
theorem dX12_begins_1 : decode cX12_begins 1 = .ok (.ifCond .eq 8, 3) := by decide +kernel
theorem dX12_begins_4 : decode cX12_begins 4 = .ok (.aload_n 0, 1) := by decide +kernel
theorem dX12_begins_5 : decode cX12_begins 5 = .ok (.iconst 2, 1) := by decide +kernel
theorem dX12_begins_6 : decode cX12_begins 6 = .ok (.invokevirtual 183, 3) := by decide +kernel
theorem dX12_begins_9 : decode cX12_begins 9 = .ok (.iload_n 2, 1) := by decide +kernel
theorem dX12_begins_10 : decode cX12_begins 10 = .ok (.ifCond .eq 8, 3) := by decide +kernel
theorem dX12_begins_13 : decode cX12_begins 13 = .ok (.aload_n 0, 1) := by decide +kernel
theorem dX12_begins_14 : decode cX12_begins 14 = .ok (.iconst 5, 1) := by decide +kernel
theorem dX12_begins_15 : decode cX12_begins 15 = .ok (.invokevirtual 183, 3) := by decide +kernel
theorem dX12_begins_18 : decode cX12_begins 18 = .ok (.aload_n 0, 1) := by decide +kernel
theorem dX12_begins_19 : decode cX12_begins 19 = .ok (.invokevirtual 176, 3) := by decide +kernel
theorem dX12_begins_22 : decode cX12_begins 22 = .ok (.ifCond .ne 5, 3) := by decide +kernel
theorem dX12_begins_25 : decode cX12_begins 25 = .ok (.iconst 0, 1) := by decide +kernel
theorem dX12_begins_26 : decode cX12_begins 26 = .ok (.ireturn, 1) := by decide +kernel
theorem dX12_begins_27 : decode cX12_begins 27 = .ok (.aload_n 0, 1) := by decide +kernel
theorem dX12_begins_28 : decode cX12_begins 28 = .ok (.invokevirtual 180, 3) := by decide +kernel
theorem dX12_begins_31 : decode cX12_begins 31 = .ok (.iconst 1, 1) := by decide +kernel
theorem dX12_begins_32 : decode cX12_begins 32 = .ok (.ireturn, 1) := by decide +kernel
theorem dX12_readsStretch_0 : decode cX12_readsStretch 0 = .ok (.aload_n 0, 1) := by decide +kernel
theorem dX12_readsStretch_1 : decode cX12_readsStretch 1 = .ok (.getfield 233, 3) := by decide +kernel
theorem dX12_readsStretch_4 : decode cX12_readsStretch 4 = .ok (.istore_n 1, 1) := by decide +kernel
theorem dX12_readsStretch_5 : decode cX12_readsStretch 5 = .ok (.aload_n 0, 1) := by decide +kernel
theorem dX12_readsStretch_6 : decode cX12_readsStretch 6 = .ok (.getfield 53, 3) := by decide +kernel
theorem dX12_readsStretch_9 : decode cX12_readsStretch 9 = .ok (.iconst 1, 1) := by decide +kernel
theorem dX12_readsStretch_10 : decode cX12_readsStretch 10 = .ok (.iload_n 1, 1) := by decide +kernel
theorem dX12_readsStretch_11 : decode cX12_readsStretch 11 = .ok (.iadd, 1) := by decide +kernel
theorem dX12_readsStretch_12 : decode cX12_readsStretch 12 = .ok (.aload_n 0, 1) := by decide +kernel
theorem dX12_readsStretch_13 : decode cX12_readsStretch 13 = .ok (.iconst 0, 1) := by decide +kernel
theorem dX12_readsStretch_14 : decode cX12_readsStretch 14 = .ok (.bipush 99, 2) := by decide +kernel
theorem dX12_readsStretch_16 : decode cX12_readsStretch 16 = .ok (.invokevirtual 236, 3) := by decide +kernel
theorem dX12_readsStretch_19 : decode cX12_readsStretch 19 = .ok (.iastore, 1) := by decide +kernel
theorem dX12_readsStretch_20 : decode cX12_readsStretch 20 = .ok (.aload_n 0, 1) := by decide +kernel
theorem dX12_readsStretch_21 : decode cX12_readsStretch 21 = .ok (.getfield 53, 3) := by decide +kernel
theorem dX12_readsStretch_24 : decode cX12_readsStretch 24 = .ok (.bipush 13, 2) := by decide +kernel
theorem dX12_readsStretch_26 : decode cX12_readsStretch 26 = .ok (.iload_n 1, 1) := by decide +kernel
theorem dX12_readsStretch_27 : decode cX12_readsStretch 27 = .ok (.iadd, 1) := by decide +kernel
theorem dX12_readsStretch_28 : decode cX12_readsStretch 28 = .ok (.aload_n 0, 1) := by decide +kernel
theorem dX12_readsStretch_29 : decode cX12_readsStretch 29 = .ok (.iconst 0, 1) := by decide +kernel
theorem dX12_readsStretch_30 : decode cX12_readsStretch 30 = .ok (.bipush 99, 2) := by decide +kernel
theorem dX12_readsStretch_32 : decode cX12_readsStretch 32 = .ok (.invokevirtual 236, 3) := by decide +kernel
theorem dX12_readsStretch_35 : decode cX12_readsStretch 35 = .ok (.iastore, 1) := by decide +kernel
theorem dX12_readsStretch_36 : decode cX12_readsStretch 36 = .ok (.aload_n 0, 1) := by decide +kernel
theorem dX12_readsStretch_37 : decode cX12_readsStretch 37 = .ok (.getfield 53, 3) := by decide +kernel
theorem dX12_readsStretch_40 : decode cX12_readsStretch 40 = .ok (.bipush 25, 2) := by decide +kernel
theorem dX12_readsStretch_42 : decode cX12_readsStretch 42 = .ok (.iload_n 1, 1) := by decide +kernel
theorem dX12_readsStretch_43 : decode cX12_readsStretch 43 = .ok (.iadd, 1) := by decide +kernel
theorem dX12_readsStretch_44 : decode cX12_readsStretch 44 = .ok (.aload_n 0, 1) := by decide +kernel
theorem dX12_readsStretch_45 : decode cX12_readsStretch 45 = .ok (.iconst 0, 1) := by decide +kernel
theorem dX12_readsStretch_46 : decode cX12_readsStretch 46 = .ok (.iconst 2, 1) := by decide +kernel
theorem dX12_readsStretch_47 : decode cX12_readsStretch 47 = .ok (.invokevirtual 236, 3) := by decide +kernel
theorem dX12_readsStretch_50 : decode cX12_readsStretch 50 = .ok (.iastore, 1) := by decide +kernel
theorem dX12_readsStretch_51 : decode cX12_readsStretch 51 = .ok (.aload_n 0, 1) := by decide +kernel
theorem dX12_readsStretch_52 : decode cX12_readsStretch 52 = .ok (.invokevirtual 176, 3) := by decide +kernel
theorem dX12_readsStretch_55 : decode cX12_readsStretch 55 = .ok (.ifCond .eq 13, 3) := by decide +kernel
theorem dX12_readsStretch_58 : decode cX12_readsStretch 58 = .ok (.aload_n 0, 1) := by decide +kernel
theorem dX12_readsStretch_59 : decode cX12_readsStretch 59 = .ok (.dup, 1) := by decide +kernel
theorem dX12_readsStretch_60 : decode cX12_readsStretch 60 = .ok (.getfield 233, 3) := by decide +kernel
theorem dX12_readsStretch_63 : decode cX12_readsStretch 63 = .ok (.iconst 1, 1) := by decide +kernel
theorem dX12_readsStretch_64 : decode cX12_readsStretch 64 = .ok (.iadd, 1) := by decide +kernel
theorem dX12_readsStretch_65 : decode cX12_readsStretch 65 = .ok (.putfield 233, 3) := by decide +kernel
theorem dX12_readsStretch_68 : decode cX12_readsStretch 68 = .ok (.return_, 1) := by decide +kernel
theorem dX12_readsWoman_0 : decode cX12_readsWoman 0 = .ok (.aload_n 0, 1) := by decide +kernel
theorem dX12_readsWoman_1 : decode cX12_readsWoman 1 = .ok (.getfield 240, 3) := by decide +kernel
theorem dX12_readsWoman_4 : decode cX12_readsWoman 4 = .ok (.istore_n 1, 1) := by decide +kernel
theorem dX12_readsWoman_5 : decode cX12_readsWoman 5 = .ok (.aload_n 0, 1) := by decide +kernel
theorem dX12_readsWoman_6 : decode cX12_readsWoman 6 = .ok (.getfield 44, 3) := by decide +kernel
theorem dX12_readsWoman_9 : decode cX12_readsWoman 9 = .ok (.iload_n 1, 1) := by decide +kernel
theorem dX12_readsWoman_10 : decode cX12_readsWoman 10 = .ok (.aload_n 0, 1) := by decide +kernel
theorem dX12_readsWoman_11 : decode cX12_readsWoman 11 = .ok (.iconst 0, 1) := by decide +kernel
theorem dX12_readsWoman_12 : decode cX12_readsWoman 12 = .ok (.bipush 9, 2) := by decide +kernel
theorem dX12_readsWoman_14 : decode cX12_readsWoman 14 = .ok (.invokevirtual 236, 3) := by decide +kernel
theorem dX12_readsWoman_17 : decode cX12_readsWoman 17 = .ok (.iastore, 1) := by decide +kernel
theorem dX12_readsWoman_18 : decode cX12_readsWoman 18 = .ok (.aload_n 0, 1) := by decide +kernel
theorem dX12_readsWoman_19 : decode cX12_readsWoman 19 = .ok (.invokevirtual 176, 3) := by decide +kernel
theorem dX12_readsWoman_22 : decode cX12_readsWoman 22 = .ok (.ifCond .ne 4, 3) := by decide +kernel
theorem dX12_readsWoman_25 : decode cX12_readsWoman 25 = .ok (.return_, 1) := by decide +kernel
theorem dX12_readsWoman_26 : decode cX12_readsWoman 26 = .ok (.aload_n 0, 1) := by decide +kernel
theorem dX12_readsWoman_27 : decode cX12_readsWoman 27 = .ok (.getfield 150, 3) := by decide +kernel
theorem dX12_readsWoman_30 : decode cX12_readsWoman 30 = .ok (.iconst 2, 1) := by decide +kernel
theorem dX12_readsWoman_31 : decode cX12_readsWoman 31 = .ok (.if_icmp .eq 11, 3) := by decide +kernel
theorem dX12_readsWoman_34 : decode cX12_readsWoman 34 = .ok (.aload_n 0, 1) := by decide +kernel
theorem dX12_readsWoman_35 : decode cX12_readsWoman 35 = .ok (.iconst 1, 1) := by decide +kernel
theorem dX12_readsWoman_36 : decode cX12_readsWoman 36 = .ok (.invokevirtual 183, 3) := by decide +kernel
theorem dX12_readsWoman_39 : decode cX12_readsWoman 39 = .ok (.goto 35, 3) := by decide +kernel
theorem dX12_readsWoman_42 : decode cX12_readsWoman 42 = .ok (.aload_n 0, 1) := by decide +kernel
theorem dX12_readsWoman_43 : decode cX12_readsWoman 43 = .ok (.getfield 160, 3) := by decide +kernel
theorem dX12_readsWoman_46 : decode cX12_readsWoman 46 = .ok (.iconst 4, 1) := by decide +kernel
theorem dX12_readsWoman_47 : decode cX12_readsWoman 47 = .ok (.if_icmp .le 11, 3) := by decide +kernel
theorem dX12_readsWoman_50 : decode cX12_readsWoman 50 = .ok (.aload_n 0, 1) := by decide +kernel
theorem dX12_readsWoman_51 : decode cX12_readsWoman 51 = .ok (.iconst 2, 1) := by decide +kernel
theorem dX12_readsWoman_52 : decode cX12_readsWoman 52 = .ok (.invokevirtual 183, 3) := by decide +kernel
theorem dX12_readsWoman_55 : decode cX12_readsWoman 55 = .ok (.goto 19, 3) := by decide +kernel
theorem dX12_readsWoman_58 : decode cX12_readsWoman 58 = .ok (.aload_n 0, 1) := by decide +kernel
theorem dX12_readsWoman_59 : decode cX12_readsWoman 59 = .ok (.getfield 144, 3) := by decide +kernel
theorem dX12_readsWoman_62 : decode cX12_readsWoman 62 = .ok (.aload_n 0, 1) := by decide +kernel
theorem dX12_readsWoman_63 : decode cX12_readsWoman 63 = .ok (.getfield 233, 3) := by decide +kernel
theorem dX12_readsWoman_66 : decode cX12_readsWoman 66 = .ok (.if_icmp .lt 8, 3) := by decide +kernel
theorem dX12_readsWoman_69 : decode cX12_readsWoman 69 = .ok (.aload_n 0, 1) := by decide +kernel
theorem dX12_readsWoman_70 : decode cX12_readsWoman 70 = .ok (.iconst 3, 1) := by decide +kernel
theorem dX12_readsWoman_71 : decode cX12_readsWoman 71 = .ok (.invokevirtual 183, 3) := by decide +kernel
theorem dX12_readsWoman_74 : decode cX12_readsWoman 74 = .ok (.aload_n 0, 1) := by decide +kernel
theorem dX12_readsWoman_75 : decode cX12_readsWoman 75 = .ok (.invokevirtual 176, 3) := by decide +kernel
theorem dX12_readsWoman_78 : decode cX12_readsWoman 78 = .ok (.ifCond .ne 4, 3) := by decide +kernel
theorem dX12_readsWoman_81 : decode cX12_readsWoman 81 = .ok (.return_, 1) := by decide +kernel
theorem dX12_readsWoman_82 : decode cX12_readsWoman 82 = .ok (.aload_n 0, 1) := by decide +kernel
theorem dX12_readsWoman_83 : decode cX12_readsWoman 83 = .ok (.getfield 53, 3) := by decide +kernel
theorem dX12_readsWoman_86 : decode cX12_readsWoman 86 = .ok (.bipush 37, 2) := by decide +kernel
theorem dX12_readsWoman_88 : decode cX12_readsWoman 88 = .ok (.iload_n 1, 1) := by decide +kernel
theorem dX12_readsWoman_89 : decode cX12_readsWoman 89 = .ok (.iadd, 1) := by decide +kernel
theorem dX12_readsWoman_90 : decode cX12_readsWoman 90 = .ok (.aload_n 0, 1) := by decide +kernel
theorem dX12_readsWoman_91 : decode cX12_readsWoman 91 = .ok (.getfield 144, 3) := by decide +kernel
theorem dX12_readsWoman_94 : decode cX12_readsWoman 94 = .ok (.iastore, 1) := by decide +kernel
theorem dX12_readsWoman_95 : decode cX12_readsWoman 95 = .ok (.aload_n 0, 1) := by decide +kernel
theorem dX12_readsWoman_96 : decode cX12_readsWoman 96 = .ok (.invokevirtual 180, 3) := by decide +kernel
theorem dX12_readsWoman_99 : decode cX12_readsWoman 99 = .ok (.aload_n 0, 1) := by decide +kernel
theorem dX12_readsWoman_100 : decode cX12_readsWoman 100 = .ok (.getfield 53, 3) := by decide +kernel
theorem dX12_readsWoman_103 : decode cX12_readsWoman 103 = .ok (.bipush 43, 2) := by decide +kernel
theorem dX12_readsWoman_105 : decode cX12_readsWoman 105 = .ok (.iload_n 1, 1) := by decide +kernel
theorem dX12_readsWoman_106 : decode cX12_readsWoman 106 = .ok (.iadd, 1) := by decide +kernel
theorem dX12_readsWoman_107 : decode cX12_readsWoman 107 = .ok (.aload_n 0, 1) := by decide +kernel
theorem dX12_readsWoman_108 : decode cX12_readsWoman 108 = .ok (.iconst 0, 1) := by decide +kernel
theorem dX12_readsWoman_109 : decode cX12_readsWoman 109 = .ok (.bipush 99, 2) := by decide +kernel
theorem dX12_readsWoman_111 : decode cX12_readsWoman 111 = .ok (.invokevirtual 236, 3) := by decide +kernel
theorem dX12_readsWoman_114 : decode cX12_readsWoman 114 = .ok (.iastore, 1) := by decide +kernel
theorem dX12_readsWoman_115 : decode cX12_readsWoman 115 = .ok (.aload_n 0, 1) := by decide +kernel
theorem dX12_readsWoman_116 : decode cX12_readsWoman 116 = .ok (.invokevirtual 176, 3) := by decide +kernel
theorem dX12_readsWoman_119 : decode cX12_readsWoman 119 = .ok (.ifCond .eq 13, 3) := by decide +kernel
theorem dX12_readsWoman_122 : decode cX12_readsWoman 122 = .ok (.aload_n 0, 1) := by decide +kernel
theorem dX12_readsWoman_123 : decode cX12_readsWoman 123 = .ok (.dup, 1) := by decide +kernel
theorem dX12_readsWoman_124 : decode cX12_readsWoman 124 = .ok (.getfield 240, 3) := by decide +kernel
theorem dX12_readsWoman_127 : decode cX12_readsWoman 127 = .ok (.iconst 1, 1) := by decide +kernel
theorem dX12_readsWoman_128 : decode cX12_readsWoman 128 = .ok (.iadd, 1) := by decide +kernel
theorem dX12_readsWoman_129 : decode cX12_readsWoman 129 = .ok (.putfield 240, 3) := by decide +kernel
theorem dX12_readsWoman_132 : decode cX12_readsWoman 132 = .ok (.return_, 1) := by decide +kernel
theorem dX12_isKnot_0 : decode cX12_isKnot 0 = .ok (.iconst 0, 1) := by decide +kernel
theorem dX12_isKnot_1 : decode cX12_isKnot 1 = .ok (.istore_n 1, 1) := by decide +kernel
theorem dX12_isKnot_2 : decode cX12_isKnot 2 = .ok (.iload_n 1, 1) := by decide +kernel
theorem dX12_isKnot_3 : decode cX12_isKnot 3 = .ok (.aload_n 0, 1) := by decide +kernel
theorem dX12_isKnot_4 : decode cX12_isKnot 4 = .ok (.getfield 243, 3) := by decide +kernel
theorem dX12_isKnot_7 : decode cX12_isKnot 7 = .ok (.if_icmp .ge 37, 3) := by decide +kernel
theorem dX12_isKnot_10 : decode cX12_isKnot 10 = .ok (.aload_n 0, 1) := by decide +kernel
theorem dX12_isKnot_11 : decode cX12_isKnot 11 = .ok (.getfield 47, 3) := by decide +kernel
theorem dX12_isKnot_14 : decode cX12_isKnot 14 = .ok (.iload_n 1, 1) := by decide +kernel
theorem dX12_isKnot_15 : decode cX12_isKnot 15 = .ok (.iaload, 1) := by decide +kernel
theorem dX12_isKnot_16 : decode cX12_isKnot 16 = .ok (.aload_n 0, 1) := by decide +kernel
theorem dX12_isKnot_17 : decode cX12_isKnot 17 = .ok (.getfield 144, 3) := by decide +kernel
theorem dX12_isKnot_20 : decode cX12_isKnot 20 = .ok (.if_icmp .ne 18, 3) := by decide +kernel
theorem dX12_isKnot_23 : decode cX12_isKnot 23 = .ok (.aload_n 0, 1) := by decide +kernel
theorem dX12_isKnot_24 : decode cX12_isKnot 24 = .ok (.getfield 50, 3) := by decide +kernel
theorem dX12_isKnot_27 : decode cX12_isKnot 27 = .ok (.iload_n 1, 1) := by decide +kernel
theorem dX12_isKnot_28 : decode cX12_isKnot 28 = .ok (.iaload, 1) := by decide +kernel
theorem dX12_isKnot_29 : decode cX12_isKnot 29 = .ok (.aload_n 0, 1) := by decide +kernel
theorem dX12_isKnot_30 : decode cX12_isKnot 30 = .ok (.getfield 160, 3) := by decide +kernel
theorem dX12_isKnot_33 : decode cX12_isKnot 33 = .ok (.if_icmp .ne 5, 3) := by decide +kernel
theorem dX12_isKnot_36 : decode cX12_isKnot 36 = .ok (.iconst 1, 1) := by decide +kernel
theorem dX12_isKnot_37 : decode cX12_isKnot 37 = .ok (.ireturn, 1) := by decide +kernel
theorem dX12_isKnot_38 : decode cX12_isKnot 38 = .ok (.iinc 1 1, 3) := by decide +kernel
theorem dX12_isKnot_41 : decode cX12_isKnot 41 = .ok (.goto (-39), 3) := by decide +kernel
theorem dX12_isKnot_44 : decode cX12_isKnot 44 = .ok (.iconst 0, 1) := by decide +kernel
theorem dX12_isKnot_45 : decode cX12_isKnot 45 = .ok (.ireturn, 1) := by decide +kernel
theorem dX12_readsKnots_0 : decode cX12_readsKnots 0 = .ok (.iconst 1, 1) := by decide +kernel
theorem dX12_readsKnots_1 : decode cX12_readsKnots 1 = .ok (.istore_n 1, 1) := by decide +kernel
theorem dX12_readsKnots_2 : decode cX12_readsKnots 2 = .ok (.iload_n 1, 1) := by decide +kernel
theorem dX12_readsKnots_3 : decode cX12_readsKnots 3 = .ok (.ifCond .eq 128, 3) := by decide +kernel
theorem dX12_readsKnots_6 : decode cX12_readsKnots 6 = .ok (.aload_n 0, 1) := by decide +kernel
theorem dX12_readsKnots_7 : decode cX12_readsKnots 7 = .ok (.invokevirtual 176, 3) := by decide +kernel
theorem dX12_readsKnots_10 : decode cX12_readsKnots 10 = .ok (.ifCond .eq 121, 3) := by decide +kernel
theorem dX12_readsKnots_13 : decode cX12_readsKnots 13 = .ok (.aload_n 0, 1) := by decide +kernel
theorem dX12_readsKnots_14 : decode cX12_readsKnots 14 = .ok (.getfield 150, 3) := by decide +kernel
theorem dX12_readsKnots_17 : decode cX12_readsKnots 17 = .ok (.iconst 2, 1) := by decide +kernel
theorem dX12_readsKnots_18 : decode cX12_readsKnots 18 = .ok (.if_icmp .eq 11, 3) := by decide +kernel
theorem dX12_readsKnots_21 : decode cX12_readsKnots 21 = .ok (.aload_n 0, 1) := by decide +kernel
theorem dX12_readsKnots_22 : decode cX12_readsKnots 22 = .ok (.iconst 1, 1) := by decide +kernel
theorem dX12_readsKnots_23 : decode cX12_readsKnots 23 = .ok (.invokevirtual 183, 3) := by decide +kernel
theorem dX12_readsKnots_26 : decode cX12_readsKnots 26 = .ok (.goto 40, 3) := by decide +kernel
theorem dX12_readsKnots_29 : decode cX12_readsKnots 29 = .ok (.aload_n 0, 1) := by decide +kernel
theorem dX12_readsKnots_30 : decode cX12_readsKnots 30 = .ok (.getfield 243, 3) := by decide +kernel
theorem dX12_readsKnots_33 : decode cX12_readsKnots 33 = .ok (.bipush 8, 2) := by decide +kernel
theorem dX12_readsKnots_35 : decode cX12_readsKnots 35 = .ok (.if_icmp .eq 11, 3) := by decide +kernel
theorem dX12_readsKnots_38 : decode cX12_readsKnots 38 = .ok (.aload_n 0, 1) := by decide +kernel
theorem dX12_readsKnots_39 : decode cX12_readsKnots 39 = .ok (.getfield 160, 3) := by decide +kernel
theorem dX12_readsKnots_42 : decode cX12_readsKnots 42 = .ok (.iconst 4, 1) := by decide +kernel
theorem dX12_readsKnots_43 : decode cX12_readsKnots 43 = .ok (.if_icmp .le 11, 3) := by decide +kernel
theorem dX12_readsKnots_46 : decode cX12_readsKnots 46 = .ok (.aload_n 0, 1) := by decide +kernel
theorem dX12_readsKnots_47 : decode cX12_readsKnots 47 = .ok (.iconst 2, 1) := by decide +kernel
theorem dX12_readsKnots_48 : decode cX12_readsKnots 48 = .ok (.invokevirtual 183, 3) := by decide +kernel
theorem dX12_readsKnots_51 : decode cX12_readsKnots 51 = .ok (.goto 15, 3) := by decide +kernel
theorem dX12_readsKnots_54 : decode cX12_readsKnots 54 = .ok (.aload_n 0, 1) := by decide +kernel
theorem dX12_readsKnots_55 : decode cX12_readsKnots 55 = .ok (.invokevirtual 246, 3) := by decide +kernel
theorem dX12_readsKnots_58 : decode cX12_readsKnots 58 = .ok (.ifCond .eq 8, 3) := by decide +kernel
theorem dX12_readsKnots_61 : decode cX12_readsKnots 61 = .ok (.aload_n 0, 1) := by decide +kernel
theorem dX12_readsKnots_62 : decode cX12_readsKnots 62 = .ok (.iconst 4, 1) := by decide +kernel
theorem dX12_readsKnots_63 : decode cX12_readsKnots 63 = .ok (.invokevirtual 183, 3) := by decide +kernel
theorem dX12_readsKnots_66 : decode cX12_readsKnots 66 = .ok (.aload_n 0, 1) := by decide +kernel
theorem dX12_readsKnots_67 : decode cX12_readsKnots 67 = .ok (.invokevirtual 176, 3) := by decide +kernel
theorem dX12_readsKnots_70 : decode cX12_readsKnots 70 = .ok (.ifCond .ne 4, 3) := by decide +kernel
theorem dX12_readsKnots_73 : decode cX12_readsKnots 73 = .ok (.return_, 1) := by decide +kernel
theorem dX12_readsKnots_74 : decode cX12_readsKnots 74 = .ok (.aload_n 0, 1) := by decide +kernel
theorem dX12_readsKnots_75 : decode cX12_readsKnots 75 = .ok (.getfield 47, 3) := by decide +kernel
theorem dX12_readsKnots_78 : decode cX12_readsKnots 78 = .ok (.aload_n 0, 1) := by decide +kernel
theorem dX12_readsKnots_79 : decode cX12_readsKnots 79 = .ok (.getfield 243, 3) := by decide +kernel
theorem dX12_readsKnots_82 : decode cX12_readsKnots 82 = .ok (.aload_n 0, 1) := by decide +kernel
theorem dX12_readsKnots_83 : decode cX12_readsKnots 83 = .ok (.getfield 144, 3) := by decide +kernel
theorem dX12_readsKnots_86 : decode cX12_readsKnots 86 = .ok (.iastore, 1) := by decide +kernel
theorem dX12_readsKnots_87 : decode cX12_readsKnots 87 = .ok (.aload_n 0, 1) := by decide +kernel
theorem dX12_readsKnots_88 : decode cX12_readsKnots 88 = .ok (.getfield 50, 3) := by decide +kernel
theorem dX12_readsKnots_91 : decode cX12_readsKnots 91 = .ok (.aload_n 0, 1) := by decide +kernel
theorem dX12_readsKnots_92 : decode cX12_readsKnots 92 = .ok (.getfield 243, 3) := by decide +kernel
theorem dX12_readsKnots_95 : decode cX12_readsKnots 95 = .ok (.aload_n 0, 1) := by decide +kernel
theorem dX12_readsKnots_96 : decode cX12_readsKnots 96 = .ok (.getfield 160, 3) := by decide +kernel
theorem dX12_readsKnots_99 : decode cX12_readsKnots 99 = .ok (.iastore, 1) := by decide +kernel
theorem dX12_readsKnots_100 : decode cX12_readsKnots 100 = .ok (.aload_n 0, 1) := by decide +kernel
theorem dX12_readsKnots_101 : decode cX12_readsKnots 101 = .ok (.dup, 1) := by decide +kernel
theorem dX12_readsKnots_102 : decode cX12_readsKnots 102 = .ok (.getfield 243, 3) := by decide +kernel
theorem dX12_readsKnots_105 : decode cX12_readsKnots 105 = .ok (.iconst 1, 1) := by decide +kernel
theorem dX12_readsKnots_106 : decode cX12_readsKnots 106 = .ok (.iadd, 1) := by decide +kernel
theorem dX12_readsKnots_107 : decode cX12_readsKnots 107 = .ok (.putfield 243, 3) := by decide +kernel
theorem dX12_readsKnots_110 : decode cX12_readsKnots 110 = .ok (.aload_n 0, 1) := by decide +kernel
theorem dX12_readsKnots_111 : decode cX12_readsKnots 111 = .ok (.invokevirtual 180, 3) := by decide +kernel
theorem dX12_readsKnots_114 : decode cX12_readsKnots 114 = .ok (.aload_n 0, 1) := by decide +kernel
theorem dX12_readsKnots_115 : decode cX12_readsKnots 115 = .ok (.getfield 150, 3) := by decide +kernel
theorem dX12_readsKnots_118 : decode cX12_readsKnots 118 = .ok (.iconst 2, 1) := by decide +kernel
theorem dX12_readsKnots_119 : decode cX12_readsKnots 119 = .ok (.if_icmp .ne 7, 3) := by decide +kernel
theorem dX12_readsKnots_122 : decode cX12_readsKnots 122 = .ok (.iconst 1, 1) := by decide +kernel
theorem dX12_readsKnots_123 : decode cX12_readsKnots 123 = .ok (.goto 4, 3) := by decide +kernel
theorem dX12_readsKnots_126 : decode cX12_readsKnots 126 = .ok (.iconst 0, 1) := by decide +kernel
theorem dX12_readsKnots_127 : decode cX12_readsKnots 127 = .ok (.istore_n 1, 1) := by decide +kernel
theorem dX12_readsKnots_128 : decode cX12_readsKnots 128 = .ok (.goto (-126), 3) := by decide +kernel
theorem dX12_readsKnots_131 : decode cX12_readsKnots 131 = .ok (.return_, 1) := by decide +kernel
theorem dX12_line_0 : decode cX12_line 0 = .ok (.aload_n 0, 1) := by decide +kernel
theorem dX12_line_1 : decode cX12_line 1 = .ok (.invokevirtual 201, 3) := by decide +kernel
theorem dX12_line_4 : decode cX12_line 4 = .ok (.istore_n 1, 1) := by decide +kernel
theorem dX12_line_5 : decode cX12_line 5 = .ok (.iload_n 1, 1) := by decide +kernel
theorem dX12_line_6 : decode cX12_line 6 = .ok (.bipush 6, 2) := by decide +kernel
theorem dX12_line_8 : decode cX12_line 8 = .ok (.if_icmp .ne 32, 3) := by decide +kernel
theorem dX12_line_11 : decode cX12_line 11 = .ok (.aload_n 0, 1) := by decide +kernel
theorem dX12_line_12 : decode cX12_line 12 = .ok (.aload_n 0, 1) := by decide +kernel
theorem dX12_line_13 : decode cX12_line 13 = .ok (.getfield 233, 3) := by decide +kernel
theorem dX12_line_16 : decode cX12_line 16 = .ok (.bipush 12, 2) := by decide +kernel
theorem dX12_line_18 : decode cX12_line 18 = .ok (.if_icmp .ne 7, 3) := by decide +kernel
theorem dX12_line_21 : decode cX12_line 21 = .ok (.iconst 1, 1) := by decide +kernel
theorem dX12_line_22 : decode cX12_line 22 = .ok (.goto 4, 3) := by decide +kernel
theorem dX12_line_25 : decode cX12_line 25 = .ok (.iconst 0, 1) := by decide +kernel
theorem dX12_line_26 : decode cX12_line 26 = .ok (.iconst 0, 1) := by decide +kernel
theorem dX12_line_27 : decode cX12_line 27 = .ok (.invokevirtual 249, 3) := by decide +kernel
theorem dX12_line_30 : decode cX12_line 30 = .ok (.ifCond .eq 208, 3) := by decide +kernel
theorem dX12_line_33 : decode cX12_line 33 = .ok (.aload_n 0, 1) := by decide +kernel
theorem dX12_line_34 : decode cX12_line 34 = .ok (.invokevirtual 253, 3) := by decide +kernel
theorem dX12_line_37 : decode cX12_line 37 = .ok (.goto 201, 3) := by decide +kernel
theorem dX12_line_40 : decode cX12_line 40 = .ok (.iload_n 1, 1) := by decide +kernel
theorem dX12_line_41 : decode cX12_line 41 = .ok (.bipush 7, 2) := by decide +kernel
theorem dX12_line_43 : decode cX12_line 43 = .ok (.if_icmp .ne 32, 3) := by decide +kernel
theorem dX12_line_46 : decode cX12_line 46 = .ok (.aload_n 0, 1) := by decide +kernel
theorem dX12_line_47 : decode cX12_line 47 = .ok (.aload_n 0, 1) := by decide +kernel
theorem dX12_line_48 : decode cX12_line 48 = .ok (.getfield 240, 3) := by decide +kernel
theorem dX12_line_51 : decode cX12_line 51 = .ok (.bipush 6, 2) := by decide +kernel
theorem dX12_line_53 : decode cX12_line 53 = .ok (.if_icmp .ne 7, 3) := by decide +kernel
theorem dX12_line_56 : decode cX12_line 56 = .ok (.iconst 1, 1) := by decide +kernel
theorem dX12_line_57 : decode cX12_line 57 = .ok (.goto 4, 3) := by decide +kernel
theorem dX12_line_60 : decode cX12_line 60 = .ok (.iconst 0, 1) := by decide +kernel
theorem dX12_line_61 : decode cX12_line 61 = .ok (.iconst 0, 1) := by decide +kernel
theorem dX12_line_62 : decode cX12_line 62 = .ok (.invokevirtual 249, 3) := by decide +kernel
theorem dX12_line_65 : decode cX12_line 65 = .ok (.ifCond .eq 173, 3) := by decide +kernel
theorem dX12_line_68 : decode cX12_line 68 = .ok (.aload_n 0, 1) := by decide +kernel
theorem dX12_line_69 : decode cX12_line 69 = .ok (.invokevirtual 256, 3) := by decide +kernel
theorem dX12_line_72 : decode cX12_line 72 = .ok (.goto 166, 3) := by decide +kernel
theorem dX12_line_75 : decode cX12_line 75 = .ok (.iload_n 1, 1) := by decide +kernel
theorem dX12_line_76 : decode cX12_line 76 = .ok (.bipush 8, 2) := by decide +kernel
theorem dX12_line_78 : decode cX12_line 78 = .ok (.if_icmp .ne 30, 3) := by decide +kernel
theorem dX12_line_81 : decode cX12_line 81 = .ok (.aload_n 0, 1) := by decide +kernel
theorem dX12_line_82 : decode cX12_line 82 = .ok (.iconst 0, 1) := by decide +kernel
theorem dX12_line_83 : decode cX12_line 83 = .ok (.aload_n 0, 1) := by decide +kernel
theorem dX12_line_84 : decode cX12_line 84 = .ok (.getfield 243, 3) := by decide +kernel
theorem dX12_line_87 : decode cX12_line 87 = .ok (.ifCond .le 7, 3) := by decide +kernel
theorem dX12_line_90 : decode cX12_line 90 = .ok (.iconst 1, 1) := by decide +kernel
theorem dX12_line_91 : decode cX12_line 91 = .ok (.goto 4, 3) := by decide +kernel
theorem dX12_line_94 : decode cX12_line 94 = .ok (.iconst 0, 1) := by decide +kernel
theorem dX12_line_95 : decode cX12_line 95 = .ok (.invokevirtual 249, 3) := by decide +kernel
theorem dX12_line_98 : decode cX12_line 98 = .ok (.ifCond .eq 140, 3) := by decide +kernel
theorem dX12_line_101 : decode cX12_line 101 = .ok (.aload_n 0, 1) := by decide +kernel
theorem dX12_line_102 : decode cX12_line 102 = .ok (.invokevirtual 259, 3) := by decide +kernel
theorem dX12_line_105 : decode cX12_line 105 = .ok (.goto 133, 3) := by decide +kernel
theorem dX12_line_108 : decode cX12_line 108 = .ok (.iload_n 1, 1) := by decide +kernel
theorem dX12_line_109 : decode cX12_line 109 = .ok (.bipush 9, 2) := by decide +kernel
theorem dX12_line_111 : decode cX12_line 111 = .ok (.if_icmp .ne 38, 3) := by decide +kernel
theorem dX12_line_114 : decode cX12_line 114 = .ok (.aload_n 0, 1) := by decide +kernel
theorem dX12_line_115 : decode cX12_line 115 = .ok (.iconst 0, 1) := by decide +kernel
theorem dX12_line_116 : decode cX12_line 116 = .ok (.aload_n 0, 1) := by decide +kernel
theorem dX12_line_117 : decode cX12_line 117 = .ok (.getfield 262, 3) := by decide +kernel
theorem dX12_line_120 : decode cX12_line 120 = .ok (.iconst (-1), 1) := by decide +kernel
theorem dX12_line_121 : decode cX12_line 121 = .ok (.if_icmp .eq 7, 3) := by decide +kernel
theorem dX12_line_124 : decode cX12_line 124 = .ok (.iconst 1, 1) := by decide +kernel
theorem dX12_line_125 : decode cX12_line 125 = .ok (.goto 4, 3) := by decide +kernel
theorem dX12_line_128 : decode cX12_line 128 = .ok (.iconst 0, 1) := by decide +kernel
theorem dX12_line_129 : decode cX12_line 129 = .ok (.invokevirtual 249, 3) := by decide +kernel
theorem dX12_line_132 : decode cX12_line 132 = .ok (.ifCond .eq 106, 3) := by decide +kernel
theorem dX12_line_135 : decode cX12_line 135 = .ok (.aload_n 0, 1) := by decide +kernel
theorem dX12_line_136 : decode cX12_line 136 = .ok (.aload_n 0, 1) := by decide +kernel
theorem dX12_line_137 : decode cX12_line 137 = .ok (.iconst 1, 1) := by decide +kernel
theorem dX12_line_138 : decode cX12_line 138 = .ok (.bipush 9, 2) := by decide +kernel
theorem dX12_line_140 : decode cX12_line 140 = .ok (.invokevirtual 236, 3) := by decide +kernel
theorem dX12_line_143 : decode cX12_line 143 = .ok (.putfield 262, 3) := by decide +kernel
theorem dX12_line_146 : decode cX12_line 146 = .ok (.goto 92, 3) := by decide +kernel
theorem dX12_line_149 : decode cX12_line 149 = .ok (.iload_n 1, 1) := by decide +kernel
theorem dX12_line_150 : decode cX12_line 150 = .ok (.bipush 10, 2) := by decide +kernel
theorem dX12_line_152 : decode cX12_line 152 = .ok (.if_icmp .ne 39, 3) := by decide +kernel
theorem dX12_line_155 : decode cX12_line 155 = .ok (.aload_n 0, 1) := by decide +kernel
theorem dX12_line_156 : decode cX12_line 156 = .ok (.iconst 0, 1) := by decide +kernel
theorem dX12_line_157 : decode cX12_line 157 = .ok (.aload_n 0, 1) := by decide +kernel
theorem dX12_line_158 : decode cX12_line 158 = .ok (.getfield 265, 3) := by decide +kernel
theorem dX12_line_161 : decode cX12_line 161 = .ok (.iconst (-1), 1) := by decide +kernel
theorem dX12_line_162 : decode cX12_line 162 = .ok (.if_icmp .eq 7, 3) := by decide +kernel
theorem dX12_line_165 : decode cX12_line 165 = .ok (.iconst 1, 1) := by decide +kernel
theorem dX12_line_166 : decode cX12_line 166 = .ok (.goto 4, 3) := by decide +kernel
theorem dX12_line_169 : decode cX12_line 169 = .ok (.iconst 0, 1) := by decide +kernel
theorem dX12_line_170 : decode cX12_line 170 = .ok (.invokevirtual 249, 3) := by decide +kernel
theorem dX12_line_173 : decode cX12_line 173 = .ok (.ifCond .eq 65, 3) := by decide +kernel
theorem dX12_line_176 : decode cX12_line 176 = .ok (.aload_n 0, 1) := by decide +kernel
theorem dX12_line_177 : decode cX12_line 177 = .ok (.aload_n 0, 1) := by decide +kernel
theorem dX12_line_178 : decode cX12_line 178 = .ok (.getfield 186, 3) := by decide +kernel
theorem dX12_line_181 : decode cX12_line 181 = .ok (.putfield 265, 3) := by decide +kernel
theorem dX12_line_184 : decode cX12_line 184 = .ok (.aload_n 0, 1) := by decide +kernel
theorem dX12_line_185 : decode cX12_line 185 = .ok (.invokevirtual 268, 3) := by decide +kernel
theorem dX12_line_188 : decode cX12_line 188 = .ok (.goto 50, 3) := by decide +kernel
theorem dX12_line_191 : decode cX12_line 191 = .ok (.iload_n 1, 1) := by decide +kernel
theorem dX12_line_192 : decode cX12_line 192 = .ok (.bipush 11, 2) := by decide +kernel
theorem dX12_line_194 : decode cX12_line 194 = .ok (.if_icmp .ne 39, 3) := by decide +kernel
theorem dX12_line_197 : decode cX12_line 197 = .ok (.aload_n 0, 1) := by decide +kernel
theorem dX12_line_198 : decode cX12_line 198 = .ok (.iconst 0, 1) := by decide +kernel
theorem dX12_line_199 : decode cX12_line 199 = .ok (.aload_n 0, 1) := by decide +kernel
theorem dX12_line_200 : decode cX12_line 200 = .ok (.getfield 271, 3) := by decide +kernel
theorem dX12_line_203 : decode cX12_line 203 = .ok (.iconst (-1), 1) := by decide +kernel
theorem dX12_line_204 : decode cX12_line 204 = .ok (.if_icmp .eq 7, 3) := by decide +kernel
theorem dX12_line_207 : decode cX12_line 207 = .ok (.iconst 1, 1) := by decide +kernel
theorem dX12_line_208 : decode cX12_line 208 = .ok (.goto 4, 3) := by decide +kernel
theorem dX12_line_211 : decode cX12_line 211 = .ok (.iconst 0, 1) := by decide +kernel
theorem dX12_line_212 : decode cX12_line 212 = .ok (.invokevirtual 249, 3) := by decide +kernel
theorem dX12_line_215 : decode cX12_line 215 = .ok (.ifCond .eq 23, 3) := by decide +kernel
theorem dX12_line_218 : decode cX12_line 218 = .ok (.aload_n 0, 1) := by decide +kernel
theorem dX12_line_219 : decode cX12_line 219 = .ok (.aload_n 0, 1) := by decide +kernel
theorem dX12_line_220 : decode cX12_line 220 = .ok (.getfield 186, 3) := by decide +kernel
theorem dX12_line_223 : decode cX12_line 223 = .ok (.putfield 271, 3) := by decide +kernel
theorem dX12_line_226 : decode cX12_line 226 = .ok (.aload_n 0, 1) := by decide +kernel
theorem dX12_line_227 : decode cX12_line 227 = .ok (.invokevirtual 268, 3) := by decide +kernel
theorem dX12_line_230 : decode cX12_line 230 = .ok (.goto 8, 3) := by decide +kernel
theorem dX12_line_233 : decode cX12_line 233 = .ok (.aload_n 0, 1) := by decide +kernel
theorem dX12_line_234 : decode cX12_line 234 = .ok (.iconst 1, 1) := by decide +kernel
theorem dX12_line_235 : decode cX12_line 235 = .ok (.invokevirtual 183, 3) := by decide +kernel
theorem dX12_line_238 : decode cX12_line 238 = .ok (.aload_n 0, 1) := by decide +kernel
theorem dX12_line_239 : decode cX12_line 239 = .ok (.aload_n 0, 1) := by decide +kernel
theorem dX12_line_240 : decode cX12_line 240 = .ok (.bipush 59, 2) := by decide +kernel
theorem dX12_line_242 : decode cX12_line 242 = .ok (.invokevirtual 208, 3) := by decide +kernel
theorem dX12_line_245 : decode cX12_line 245 = .ok (.invokevirtual 274, 3) := by decide +kernel
theorem dX12_line_248 : decode cX12_line 248 = .ok (.return_, 1) := by decide +kernel
theorem dX12_ring_0 : decode cX12_ring 0 = .ok (.aload_n 0, 1) := by decide +kernel
theorem dX12_ring_1 : decode cX12_ring 1 = .ok (.iconst 0, 1) := by decide +kernel
theorem dX12_ring_2 : decode cX12_ring 2 = .ok (.putfield 117, 3) := by decide +kernel
theorem dX12_ring_5 : decode cX12_ring 5 = .ok (.aload_n 0, 1) := by decide +kernel
theorem dX12_ring_6 : decode cX12_ring 6 = .ok (.iload_n 1, 1) := by decide +kernel
theorem dX12_ring_7 : decode cX12_ring 7 = .ok (.ifCond .lt 15, 3) := by decide +kernel
theorem dX12_ring_10 : decode cX12_ring 10 = .ok (.iload_n 1, 1) := by decide +kernel
theorem dX12_ring_11 : decode cX12_ring 11 = .ok (.aload_n 0, 1) := by decide +kernel
theorem dX12_ring_12 : decode cX12_ring 12 = .ok (.getfield 120, 3) := by decide +kernel
theorem dX12_ring_15 : decode cX12_ring 15 = .ok (.if_icmp .gt 7, 3) := by decide +kernel
theorem dX12_ring_18 : decode cX12_ring 18 = .ok (.iconst 1, 1) := by decide +kernel
theorem dX12_ring_19 : decode cX12_ring 19 = .ok (.goto 4, 3) := by decide +kernel
theorem dX12_ring_22 : decode cX12_ring 22 = .ok (.iconst 0, 1) := by decide +kernel
theorem dX12_ring_23 : decode cX12_ring 23 = .ok (.iconst 1, 1) := by decide +kernel
theorem dX12_ring_24 : decode cX12_ring 24 = .ok (.invokevirtual 277, 3) := by decide +kernel
theorem dX12_ring_27 : decode cX12_ring 27 = .ok (.ifCond .ne 5, 3) := by decide +kernel
theorem dX12_ring_30 : decode cX12_ring 30 = .ok (.iconst 0, 1) := by decide +kernel
theorem dX12_ring_31 : decode cX12_ring 31 = .ok (.ireturn, 1) := by decide +kernel
theorem dX12_ring_32 : decode cX12_ring 32 = .ok (.aload_n 0, 1) := by decide +kernel
theorem dX12_ring_33 : decode cX12_ring 33 = .ok (.iconst 0, 1) := by decide +kernel
theorem dX12_ring_34 : decode cX12_ring 34 = .ok (.putfield 120, 3) := by decide +kernel
theorem dX12_ring_37 : decode cX12_ring 37 = .ok (.aload_n 0, 1) := by decide +kernel
theorem dX12_ring_38 : decode cX12_ring 38 = .ok (.iconst (-1), 1) := by decide +kernel
theorem dX12_ring_39 : decode cX12_ring 39 = .ok (.putfield 38, 3) := by decide +kernel
theorem dX12_ring_42 : decode cX12_ring 42 = .ok (.aload_n 0, 1) := by decide +kernel
theorem dX12_ring_43 : decode cX12_ring 43 = .ok (.iconst 0, 1) := by decide +kernel
theorem dX12_ring_44 : decode cX12_ring 44 = .ok (.putfield 173, 3) := by decide +kernel
theorem dX12_ring_47 : decode cX12_ring 47 = .ok (.aload_n 0, 1) := by decide +kernel
theorem dX12_ring_48 : decode cX12_ring 48 = .ok (.iload_n 1, 1) := by decide +kernel
theorem dX12_ring_49 : decode cX12_ring 49 = .ok (.putfield 127, 3) := by decide +kernel
theorem dX12_ring_52 : decode cX12_ring 52 = .ok (.aload_n 0, 1) := by decide +kernel
theorem dX12_ring_53 : decode cX12_ring 53 = .ok (.iconst 0, 1) := by decide +kernel
theorem dX12_ring_54 : decode cX12_ring 54 = .ok (.putfield 130, 3) := by decide +kernel
theorem dX12_ring_57 : decode cX12_ring 57 = .ok (.aload_n 0, 1) := by decide +kernel
theorem dX12_ring_58 : decode cX12_ring 58 = .ok (.iconst 0, 1) := by decide +kernel
theorem dX12_ring_59 : decode cX12_ring 59 = .ok (.putfield 233, 3) := by decide +kernel
theorem dX12_ring_62 : decode cX12_ring 62 = .ok (.aload_n 0, 1) := by decide +kernel
theorem dX12_ring_63 : decode cX12_ring 63 = .ok (.iconst 0, 1) := by decide +kernel
theorem dX12_ring_64 : decode cX12_ring 64 = .ok (.putfield 240, 3) := by decide +kernel
theorem dX12_ring_67 : decode cX12_ring 67 = .ok (.aload_n 0, 1) := by decide +kernel
theorem dX12_ring_68 : decode cX12_ring 68 = .ok (.iconst 0, 1) := by decide +kernel
theorem dX12_ring_69 : decode cX12_ring 69 = .ok (.putfield 243, 3) := by decide +kernel
theorem dX12_ring_72 : decode cX12_ring 72 = .ok (.aload_n 0, 1) := by decide +kernel
theorem dX12_ring_73 : decode cX12_ring 73 = .ok (.iconst (-1), 1) := by decide +kernel
theorem dX12_ring_74 : decode cX12_ring 74 = .ok (.putfield 262, 3) := by decide +kernel
theorem dX12_ring_77 : decode cX12_ring 77 = .ok (.aload_n 0, 1) := by decide +kernel
theorem dX12_ring_78 : decode cX12_ring 78 = .ok (.iconst (-1), 1) := by decide +kernel
theorem dX12_ring_79 : decode cX12_ring 79 = .ok (.putfield 265, 3) := by decide +kernel
theorem dX12_ring_82 : decode cX12_ring 82 = .ok (.aload_n 0, 1) := by decide +kernel
theorem dX12_ring_83 : decode cX12_ring 83 = .ok (.iconst (-1), 1) := by decide +kernel
theorem dX12_ring_84 : decode cX12_ring 84 = .ok (.putfield 271, 3) := by decide +kernel
theorem dX12_ring_87 : decode cX12_ring 87 = .ok (.iconst 0, 1) := by decide +kernel
theorem dX12_ring_88 : decode cX12_ring 88 = .ok (.istore_n 2, 1) := by decide +kernel
theorem dX12_ring_89 : decode cX12_ring 89 = .ok (.iload_n 2, 1) := by decide +kernel
theorem dX12_ring_90 : decode cX12_ring 90 = .ok (.bipush 49, 2) := by decide +kernel
theorem dX12_ring_92 : decode cX12_ring 92 = .ok (.if_icmp .ge 16, 3) := by decide +kernel
theorem dX12_ring_95 : decode cX12_ring 95 = .ok (.aload_n 0, 1) := by decide +kernel
theorem dX12_ring_96 : decode cX12_ring 96 = .ok (.getfield 53, 3) := by decide +kernel
theorem dX12_ring_99 : decode cX12_ring 99 = .ok (.iload_n 2, 1) := by decide +kernel
theorem dX12_ring_100 : decode cX12_ring 100 = .ok (.iconst 0, 1) := by decide +kernel
theorem dX12_ring_101 : decode cX12_ring 101 = .ok (.iastore, 1) := by decide +kernel
theorem dX12_ring_102 : decode cX12_ring 102 = .ok (.iinc 2 1, 3) := by decide +kernel
theorem dX12_ring_105 : decode cX12_ring 105 = .ok (.goto (-16), 3) := by decide +kernel
theorem dX12_ring_108 : decode cX12_ring 108 = .ok (.aload_n 0, 1) := by decide +kernel
theorem dX12_ring_109 : decode cX12_ring 109 = .ok (.iconst 0, 1) := by decide +kernel
theorem dX12_ring_110 : decode cX12_ring 110 = .ok (.putfield 186, 3) := by decide +kernel
theorem dX12_ring_113 : decode cX12_ring 113 = .ok (.aload_n 0, 1) := by decide +kernel
theorem dX12_ring_114 : decode cX12_ring 114 = .ok (.invokevirtual 180, 3) := by decide +kernel
theorem dX12_ring_117 : decode cX12_ring 117 = .ok (.aload_n 0, 1) := by decide +kernel
theorem dX12_ring_118 : decode cX12_ring 118 = .ok (.invokevirtual 176, 3) := by decide +kernel
theorem dX12_ring_121 : decode cX12_ring 121 = .ok (.ifCond .eq 17, 3) := by decide +kernel
theorem dX12_ring_124 : decode cX12_ring 124 = .ok (.aload_n 0, 1) := by decide +kernel
theorem dX12_ring_125 : decode cX12_ring 125 = .ok (.getfield 150, 3) := by decide +kernel
theorem dX12_ring_128 : decode cX12_ring 128 = .ok (.ifCond .eq 10, 3) := by decide +kernel
theorem dX12_ring_131 : decode cX12_ring 131 = .ok (.aload_n 0, 1) := by decide +kernel
theorem dX12_ring_132 : decode cX12_ring 132 = .ok (.invokevirtual 281, 3) := by decide +kernel
theorem dX12_ring_135 : decode cX12_ring 135 = .ok (.goto (-18), 3) := by decide +kernel
theorem dX12_ring_138 : decode cX12_ring 138 = .ok (.aload_n 0, 1) := by decide +kernel
theorem dX12_ring_139 : decode cX12_ring 139 = .ok (.invokevirtual 176, 3) := by decide +kernel
theorem dX12_ring_142 : decode cX12_ring 142 = .ok (.ifCond .ne 18, 3) := by decide +kernel
theorem dX12_ring_145 : decode cX12_ring 145 = .ok (.aload_n 0, 1) := by decide +kernel
theorem dX12_ring_146 : decode cX12_ring 146 = .ok (.getfield 41, 3) := by decide +kernel
theorem dX12_ring_149 : decode cX12_ring 149 = .ok (.iconst 0, 1) := by decide +kernel
theorem dX12_ring_150 : decode cX12_ring 150 = .ok (.dup2, 1) := by decide +kernel
theorem dX12_ring_151 : decode cX12_ring 151 = .ok (.iaload, 1) := by decide +kernel
theorem dX12_ring_152 : decode cX12_ring 152 = .ok (.iconst 1, 1) := by decide +kernel
theorem dX12_ring_153 : decode cX12_ring 153 = .ok (.iadd, 1) := by decide +kernel
theorem dX12_ring_154 : decode cX12_ring 154 = .ok (.iastore, 1) := by decide +kernel
theorem dX12_ring_155 : decode cX12_ring 155 = .ok (.aload_n 0, 1) := by decide +kernel
theorem dX12_ring_156 : decode cX12_ring 156 = .ok (.getfield 173, 3) := by decide +kernel
theorem dX12_ring_159 : decode cX12_ring 159 = .ok (.ireturn, 1) := by decide +kernel
theorem dX12_ring_160 : decode cX12_ring 160 = .ok (.aload_n 0, 1) := by decide +kernel
theorem dX12_ring_161 : decode cX12_ring 161 = .ok (.aload_n 0, 1) := by decide +kernel
theorem dX12_ring_162 : decode cX12_ring 162 = .ok (.getfield 233, 3) := by decide +kernel
theorem dX12_ring_165 : decode cX12_ring 165 = .ok (.iconst 3, 1) := by decide +kernel
theorem dX12_ring_166 : decode cX12_ring 166 = .ok (.if_icmp .ge 7, 3) := by decide +kernel
theorem dX12_ring_169 : decode cX12_ring 169 = .ok (.iconst 3, 1) := by decide +kernel
theorem dX12_ring_170 : decode cX12_ring 170 = .ok (.goto 7, 3) := by decide +kernel
theorem dX12_ring_173 : decode cX12_ring 173 = .ok (.aload_n 0, 1) := by decide +kernel
theorem dX12_ring_174 : decode cX12_ring 174 = .ok (.getfield 233, 3) := by decide +kernel
theorem dX12_ring_177 : decode cX12_ring 177 = .ok (.putfield 7, 3) := by decide +kernel
theorem dX12_ring_180 : decode cX12_ring 180 = .ok (.aload_n 0, 1) := by decide +kernel
theorem dX12_ring_181 : decode cX12_ring 181 = .ok (.aload_n 0, 1) := by decide +kernel
theorem dX12_ring_182 : decode cX12_ring 182 = .ok (.getfield 240, 3) := by decide +kernel
theorem dX12_ring_185 : decode cX12_ring 185 = .ok (.putfield 284, 3) := by decide +kernel
theorem dX12_ring_188 : decode cX12_ring 188 = .ok (.aload_n 0, 1) := by decide +kernel
theorem dX12_ring_189 : decode cX12_ring 189 = .ok (.aload_n 0, 1) := by decide +kernel
theorem dX12_ring_190 : decode cX12_ring 190 = .ok (.getfield 243, 3) := by decide +kernel
theorem dX12_ring_193 : decode cX12_ring 193 = .ok (.putfield 287, 3) := by decide +kernel
theorem dX12_ring_196 : decode cX12_ring 196 = .ok (.aload_n 0, 1) := by decide +kernel
theorem dX12_ring_197 : decode cX12_ring 197 = .ok (.aload_n 0, 1) := by decide +kernel
theorem dX12_ring_198 : decode cX12_ring 198 = .ok (.getfield 262, 3) := by decide +kernel
theorem dX12_ring_201 : decode cX12_ring 201 = .ok (.iconst (-1), 1) := by decide +kernel
theorem dX12_ring_202 : decode cX12_ring 202 = .ok (.if_icmp .ne 8, 3) := by decide +kernel
theorem dX12_ring_205 : decode cX12_ring 205 = .ok (.bipush 7, 2) := by decide +kernel
theorem dX12_ring_207 : decode cX12_ring 207 = .ok (.goto 7, 3) := by decide +kernel
theorem dX12_ring_210 : decode cX12_ring 210 = .ok (.aload_n 0, 1) := by decide +kernel
theorem dX12_ring_211 : decode cX12_ring 211 = .ok (.getfield 262, 3) := by decide +kernel
theorem dX12_ring_214 : decode cX12_ring 214 = .ok (.putfield 13, 3) := by decide +kernel
theorem dX12_ring_217 : decode cX12_ring 217 = .ok (.aload_n 0, 1) := by decide +kernel
theorem dX12_ring_218 : decode cX12_ring 218 = .ok (.aload_n 0, 1) := by decide +kernel
theorem dX12_ring_219 : decode cX12_ring 219 = .ok (.getfield 265, 3) := by decide +kernel
theorem dX12_ring_222 : decode cX12_ring 222 = .ok (.putfield 16, 3) := by decide +kernel
theorem dX12_ring_225 : decode cX12_ring 225 = .ok (.aload_n 0, 1) := by decide +kernel
theorem dX12_ring_226 : decode cX12_ring 226 = .ok (.aload_n 0, 1) := by decide +kernel
theorem dX12_ring_227 : decode cX12_ring 227 = .ok (.getfield 271, 3) := by decide +kernel
theorem dX12_ring_230 : decode cX12_ring 230 = .ok (.putfield 19, 3) := by decide +kernel
theorem dX12_ring_233 : decode cX12_ring 233 = .ok (.aload_n 0, 1) := by decide +kernel
theorem dX12_ring_234 : decode cX12_ring 234 = .ok (.aload_n 0, 1) := by decide +kernel
theorem dX12_ring_235 : decode cX12_ring 235 = .ok (.getfield 44, 3) := by decide +kernel
theorem dX12_ring_238 : decode cX12_ring 238 = .ok (.aload_n 0, 1) := by decide +kernel
theorem dX12_ring_239 : decode cX12_ring 239 = .ok (.getfield 22, 3) := by decide +kernel
theorem dX12_ring_242 : decode cX12_ring 242 = .ok (.invokevirtual 290, 3) := by decide +kernel
theorem dX12_ring_245 : decode cX12_ring 245 = .ok (.aload_n 0, 1) := by decide +kernel
theorem dX12_ring_246 : decode cX12_ring 246 = .ok (.aload_n 0, 1) := by decide +kernel
theorem dX12_ring_247 : decode cX12_ring 247 = .ok (.getfield 47, 3) := by decide +kernel
theorem dX12_ring_250 : decode cX12_ring 250 = .ok (.aload_n 0, 1) := by decide +kernel
theorem dX12_ring_251 : decode cX12_ring 251 = .ok (.getfield 26, 3) := by decide +kernel
theorem dX12_ring_254 : decode cX12_ring 254 = .ok (.invokevirtual 290, 3) := by decide +kernel
theorem dX12_ring_257 : decode cX12_ring 257 = .ok (.aload_n 0, 1) := by decide +kernel
theorem dX12_ring_258 : decode cX12_ring 258 = .ok (.aload_n 0, 1) := by decide +kernel
theorem dX12_ring_259 : decode cX12_ring 259 = .ok (.getfield 50, 3) := by decide +kernel
theorem dX12_ring_262 : decode cX12_ring 262 = .ok (.aload_n 0, 1) := by decide +kernel
theorem dX12_ring_263 : decode cX12_ring 263 = .ok (.getfield 29, 3) := by decide +kernel
theorem dX12_ring_266 : decode cX12_ring 266 = .ok (.invokevirtual 290, 3) := by decide +kernel
theorem dX12_ring_269 : decode cX12_ring 269 = .ok (.aload_n 0, 1) := by decide +kernel
theorem dX12_ring_270 : decode cX12_ring 270 = .ok (.aload_n 0, 1) := by decide +kernel
theorem dX12_ring_271 : decode cX12_ring 271 = .ok (.getfield 56, 3) := by decide +kernel
theorem dX12_ring_274 : decode cX12_ring 274 = .ok (.aload_n 0, 1) := by decide +kernel
theorem dX12_ring_275 : decode cX12_ring 275 = .ok (.getfield 32, 3) := by decide +kernel
theorem dX12_ring_278 : decode cX12_ring 278 = .ok (.invokevirtual 290, 3) := by decide +kernel
theorem dX12_ring_281 : decode cX12_ring 281 = .ok (.iconst 0, 1) := by decide +kernel
theorem dX12_ring_282 : decode cX12_ring 282 = .ok (.istore_n 2, 1) := by decide +kernel
theorem dX12_ring_283 : decode cX12_ring 283 = .ok (.iload_n 2, 1) := by decide +kernel
theorem dX12_ring_284 : decode cX12_ring 284 = .ok (.bipush 49, 2) := by decide +kernel
theorem dX12_ring_286 : decode cX12_ring 286 = .ok (.if_icmp .ge 21, 3) := by decide +kernel
theorem dX12_ring_289 : decode cX12_ring 289 = .ok (.aload_n 0, 1) := by decide +kernel
theorem dX12_ring_290 : decode cX12_ring 290 = .ok (.getfield 66, 3) := by decide +kernel
theorem dX12_ring_293 : decode cX12_ring 293 = .ok (.iload_n 2, 1) := by decide +kernel
theorem dX12_ring_294 : decode cX12_ring 294 = .ok (.aload_n 0, 1) := by decide +kernel
theorem dX12_ring_295 : decode cX12_ring 295 = .ok (.getfield 53, 3) := by decide +kernel
theorem dX12_ring_298 : decode cX12_ring 298 = .ok (.iload_n 2, 1) := by decide +kernel
theorem dX12_ring_299 : decode cX12_ring 299 = .ok (.iaload, 1) := by decide +kernel
theorem dX12_ring_300 : decode cX12_ring 300 = .ok (.iastore, 1) := by decide +kernel
theorem dX12_ring_301 : decode cX12_ring 301 = .ok (.iinc 2 1, 3) := by decide +kernel
theorem dX12_ring_304 : decode cX12_ring 304 = .ok (.goto (-21), 3) := by decide +kernel
theorem dX12_ring_307 : decode cX12_ring 307 = .ok (.aload_n 0, 1) := by decide +kernel
theorem dX12_ring_308 : decode cX12_ring 308 = .ok (.getfield 233, 3) := by decide +kernel
theorem dX12_ring_311 : decode cX12_ring 311 = .ok (.istore_n 2, 1) := by decide +kernel
theorem dX12_ring_312 : decode cX12_ring 312 = .ok (.iload_n 2, 1) := by decide +kernel
theorem dX12_ring_313 : decode cX12_ring 313 = .ok (.iconst 3, 1) := by decide +kernel
theorem dX12_ring_314 : decode cX12_ring 314 = .ok (.if_icmp .ge 20, 3) := by decide +kernel
theorem dX12_ring_317 : decode cX12_ring 317 = .ok (.aload_n 0, 1) := by decide +kernel
theorem dX12_ring_318 : decode cX12_ring 318 = .ok (.getfield 66, 3) := by decide +kernel
theorem dX12_ring_321 : decode cX12_ring 321 = .ok (.bipush 13, 2) := by decide +kernel
theorem dX12_ring_323 : decode cX12_ring 323 = .ok (.iload_n 2, 1) := by decide +kernel
theorem dX12_ring_324 : decode cX12_ring 324 = .ok (.iadd, 1) := by decide +kernel
theorem dX12_ring_325 : decode cX12_ring 325 = .ok (.bipush 50, 2) := by decide +kernel
theorem dX12_ring_327 : decode cX12_ring 327 = .ok (.iastore, 1) := by decide +kernel
theorem dX12_ring_328 : decode cX12_ring 328 = .ok (.iinc 2 1, 3) := by decide +kernel
theorem dX12_ring_331 : decode cX12_ring 331 = .ok (.goto (-19), 3) := by decide +kernel
theorem dX12_ring_334 : decode cX12_ring 334 = .ok (.aload_n 0, 1) := by decide +kernel
theorem dX12_ring_335 : decode cX12_ring 335 = .ok (.iconst 0, 1) := by decide +kernel
theorem dX12_ring_336 : decode cX12_ring 336 = .ok (.putfield 294, 3) := by decide +kernel
theorem dX12_ring_339 : decode cX12_ring 339 = .ok (.aload_n 0, 1) := by decide +kernel
theorem dX12_ring_340 : decode cX12_ring 340 = .ok (.iconst 0, 1) := by decide +kernel
theorem dX12_ring_341 : decode cX12_ring 341 = .ok (.putfield 297, 3) := by decide +kernel
theorem dX12_ring_344 : decode cX12_ring 344 = .ok (.aload_n 0, 1) := by decide +kernel
theorem dX12_ring_345 : decode cX12_ring 345 = .ok (.iconst 0, 1) := by decide +kernel
theorem dX12_ring_346 : decode cX12_ring 346 = .ok (.putfield 300, 3) := by decide +kernel
theorem dX12_ring_349 : decode cX12_ring 349 = .ok (.iconst 0, 1) := by decide +kernel
theorem dX12_ring_350 : decode cX12_ring 350 = .ok (.ireturn, 1) := by decide +kernel
theorem dX12_fault_0 : decode cX12_fault 0 = .ok (.aload_n 0, 1) := by decide +kernel
theorem dX12_fault_1 : decode cX12_fault 1 = .ok (.iconst 0, 1) := by decide +kernel
theorem dX12_fault_2 : decode cX12_fault 2 = .ok (.putfield 117, 3) := by decide +kernel
theorem dX12_fault_5 : decode cX12_fault 5 = .ok (.aload_n 0, 1) := by decide +kernel
theorem dX12_fault_6 : decode cX12_fault 6 = .ok (.getfield 38, 3) := by decide +kernel
theorem dX12_fault_9 : decode cX12_fault 9 = .ok (.ireturn, 1) := by decide +kernel
theorem dX12_keeps_0 : decode cX12_keeps 0 = .ok (.aload_n 0, 1) := by decide +kernel
theorem dX12_keeps_1 : decode cX12_keeps 1 = .ok (.getfield 294, 3) := by decide +kernel
theorem dX12_keeps_4 : decode cX12_keeps 4 = .ok (.bipush 40, 2) := by decide +kernel
theorem dX12_keeps_6 : decode cX12_keeps 6 = .ok (.if_icmp .ne 44, 3) := by decide +kernel
theorem dX12_keeps_9 : decode cX12_keeps 9 = .ok (.bipush 49, 2) := by decide +kernel
theorem dX12_keeps_11 : decode cX12_keeps 11 = .ok (.istore_n 1, 1) := by decide +kernel
theorem dX12_keeps_12 : decode cX12_keeps 12 = .ok (.iload_n 1, 1) := by decide +kernel
theorem dX12_keeps_13 : decode cX12_keeps 13 = .ok (.sipush 1960, 3) := by decide +kernel
theorem dX12_keeps_16 : decode cX12_keeps 16 = .ok (.if_icmp .ge 24, 3) := by decide +kernel
theorem dX12_keeps_19 : decode cX12_keeps 19 = .ok (.aload_n 0, 1) := by decide +kernel
theorem dX12_keeps_20 : decode cX12_keeps 20 = .ok (.getfield 69, 3) := by decide +kernel
theorem dX12_keeps_23 : decode cX12_keeps 23 = .ok (.iload_n 1, 1) := by decide +kernel
theorem dX12_keeps_24 : decode cX12_keeps 24 = .ok (.bipush 49, 2) := by decide +kernel
theorem dX12_keeps_26 : decode cX12_keeps 26 = .ok (.isub, 1) := by decide +kernel
theorem dX12_keeps_27 : decode cX12_keeps 27 = .ok (.aload_n 0, 1) := by decide +kernel
theorem dX12_keeps_28 : decode cX12_keeps 28 = .ok (.getfield 69, 3) := by decide +kernel
theorem dX12_keeps_31 : decode cX12_keeps 31 = .ok (.iload_n 1, 1) := by decide +kernel
theorem dX12_keeps_32 : decode cX12_keeps 32 = .ok (.iaload, 1) := by decide +kernel
theorem dX12_keeps_33 : decode cX12_keeps 33 = .ok (.iastore, 1) := by decide +kernel
theorem dX12_keeps_34 : decode cX12_keeps 34 = .ok (.iinc 1 1, 3) := by decide +kernel
theorem dX12_keeps_37 : decode cX12_keeps 37 = .ok (.goto (-25), 3) := by decide +kernel
theorem dX12_keeps_40 : decode cX12_keeps 40 = .ok (.aload_n 0, 1) := by decide +kernel
theorem dX12_keeps_41 : decode cX12_keeps 41 = .ok (.dup, 1) := by decide +kernel
theorem dX12_keeps_42 : decode cX12_keeps 42 = .ok (.getfield 294, 3) := by decide +kernel
theorem dX12_keeps_45 : decode cX12_keeps 45 = .ok (.iconst 1, 1) := by decide +kernel
theorem dX12_keeps_46 : decode cX12_keeps 46 = .ok (.isub, 1) := by decide +kernel
theorem dX12_keeps_47 : decode cX12_keeps 47 = .ok (.putfield 294, 3) := by decide +kernel
theorem dX12_keeps_50 : decode cX12_keeps 50 = .ok (.iconst 0, 1) := by decide +kernel
theorem dX12_keeps_51 : decode cX12_keeps 51 = .ok (.istore_n 1, 1) := by decide +kernel
theorem dX12_keeps_52 : decode cX12_keeps 52 = .ok (.iload_n 1, 1) := by decide +kernel
theorem dX12_keeps_53 : decode cX12_keeps 53 = .ok (.bipush 49, 2) := by decide +kernel
theorem dX12_keeps_55 : decode cX12_keeps 55 = .ok (.if_icmp .ge 29, 3) := by decide +kernel
theorem dX12_keeps_58 : decode cX12_keeps 58 = .ok (.aload_n 0, 1) := by decide +kernel
theorem dX12_keeps_59 : decode cX12_keeps 59 = .ok (.getfield 69, 3) := by decide +kernel
theorem dX12_keeps_62 : decode cX12_keeps 62 = .ok (.bipush 49, 2) := by decide +kernel
theorem dX12_keeps_64 : decode cX12_keeps 64 = .ok (.aload_n 0, 1) := by decide +kernel
theorem dX12_keeps_65 : decode cX12_keeps 65 = .ok (.getfield 294, 3) := by decide +kernel
theorem dX12_keeps_68 : decode cX12_keeps 68 = .ok (.imul, 1) := by decide +kernel
theorem dX12_keeps_69 : decode cX12_keeps 69 = .ok (.iload_n 1, 1) := by decide +kernel
theorem dX12_keeps_70 : decode cX12_keeps 70 = .ok (.iadd, 1) := by decide +kernel
theorem dX12_keeps_71 : decode cX12_keeps 71 = .ok (.aload_n 0, 1) := by decide +kernel
theorem dX12_keeps_72 : decode cX12_keeps 72 = .ok (.getfield 66, 3) := by decide +kernel
theorem dX12_keeps_75 : decode cX12_keeps 75 = .ok (.iload_n 1, 1) := by decide +kernel
theorem dX12_keeps_76 : decode cX12_keeps 76 = .ok (.iaload, 1) := by decide +kernel
theorem dX12_keeps_77 : decode cX12_keeps 77 = .ok (.iastore, 1) := by decide +kernel
theorem dX12_keeps_78 : decode cX12_keeps 78 = .ok (.iinc 1 1, 3) := by decide +kernel
theorem dX12_keeps_81 : decode cX12_keeps 81 = .ok (.goto (-29), 3) := by decide +kernel
theorem dX12_keeps_84 : decode cX12_keeps 84 = .ok (.aload_n 0, 1) := by decide +kernel
theorem dX12_keeps_85 : decode cX12_keeps 85 = .ok (.dup, 1) := by decide +kernel
theorem dX12_keeps_86 : decode cX12_keeps 86 = .ok (.getfield 294, 3) := by decide +kernel
theorem dX12_keeps_89 : decode cX12_keeps 89 = .ok (.iconst 1, 1) := by decide +kernel
theorem dX12_keeps_90 : decode cX12_keeps 90 = .ok (.iadd, 1) := by decide +kernel
theorem dX12_keeps_91 : decode cX12_keeps 91 = .ok (.putfield 294, 3) := by decide +kernel
theorem dX12_keeps_94 : decode cX12_keeps 94 = .ok (.return_, 1) := by decide +kernel
theorem dX12_refuses_0 : decode cX12_refuses 0 = .ok (.aload_n 0, 1) := by decide +kernel
theorem dX12_refuses_1 : decode cX12_refuses 1 = .ok (.getfield 41, 3) := by decide +kernel
theorem dX12_refuses_4 : decode cX12_refuses 4 = .ok (.iload_n 1, 1) := by decide +kernel
theorem dX12_refuses_5 : decode cX12_refuses 5 = .ok (.dup2, 1) := by decide +kernel
theorem dX12_refuses_6 : decode cX12_refuses 6 = .ok (.iaload, 1) := by decide +kernel
theorem dX12_refuses_7 : decode cX12_refuses 7 = .ok (.iconst 1, 1) := by decide +kernel
theorem dX12_refuses_8 : decode cX12_refuses 8 = .ok (.iadd, 1) := by decide +kernel
theorem dX12_refuses_9 : decode cX12_refuses 9 = .ok (.iastore, 1) := by decide +kernel
theorem dX12_refuses_10 : decode cX12_refuses 10 = .ok (.iconst (-1), 1) := by decide +kernel
theorem dX12_refuses_11 : decode cX12_refuses 11 = .ok (.ireturn, 1) := by decide +kernel
theorem dX12_undo_0 : decode cX12_undo 0 = .ok (.aload_n 0, 1) := by decide +kernel
theorem dX12_undo_1 : decode cX12_undo 1 = .ok (.iconst 0, 1) := by decide +kernel
theorem dX12_undo_2 : decode cX12_undo 2 = .ok (.putfield 117, 3) := by decide +kernel
theorem dX12_undo_5 : decode cX12_undo 5 = .ok (.aload_n 0, 1) := by decide +kernel
theorem dX12_undo_6 : decode cX12_undo 6 = .ok (.getfield 294, 3) := by decide +kernel
theorem dX12_undo_9 : decode cX12_undo 9 = .ok (.ifCond .ne 5, 3) := by decide +kernel
theorem dX12_undo_12 : decode cX12_undo 12 = .ok (.iconst (-1), 1) := by decide +kernel
theorem dX12_undo_13 : decode cX12_undo 13 = .ok (.ireturn, 1) := by decide +kernel
theorem dX12_undo_14 : decode cX12_undo 14 = .ok (.aload_n 0, 1) := by decide +kernel
theorem dX12_undo_15 : decode cX12_undo 15 = .ok (.dup, 1) := by decide +kernel
theorem dX12_undo_16 : decode cX12_undo 16 = .ok (.getfield 294, 3) := by decide +kernel
theorem dX12_undo_19 : decode cX12_undo 19 = .ok (.iconst 1, 1) := by decide +kernel
theorem dX12_undo_20 : decode cX12_undo 20 = .ok (.isub, 1) := by decide +kernel
theorem dX12_undo_21 : decode cX12_undo 21 = .ok (.putfield 294, 3) := by decide +kernel
theorem dX12_undo_24 : decode cX12_undo 24 = .ok (.iconst 0, 1) := by decide +kernel
theorem dX12_undo_25 : decode cX12_undo 25 = .ok (.istore_n 1, 1) := by decide +kernel
theorem dX12_undo_26 : decode cX12_undo 26 = .ok (.iload_n 1, 1) := by decide +kernel
theorem dX12_undo_27 : decode cX12_undo 27 = .ok (.bipush 49, 2) := by decide +kernel
theorem dX12_undo_29 : decode cX12_undo 29 = .ok (.if_icmp .ge 29, 3) := by decide +kernel
theorem dX12_undo_32 : decode cX12_undo 32 = .ok (.aload_n 0, 1) := by decide +kernel
theorem dX12_undo_33 : decode cX12_undo 33 = .ok (.getfield 66, 3) := by decide +kernel
theorem dX12_undo_36 : decode cX12_undo 36 = .ok (.iload_n 1, 1) := by decide +kernel
theorem dX12_undo_37 : decode cX12_undo 37 = .ok (.aload_n 0, 1) := by decide +kernel
theorem dX12_undo_38 : decode cX12_undo 38 = .ok (.getfield 69, 3) := by decide +kernel
theorem dX12_undo_41 : decode cX12_undo 41 = .ok (.bipush 49, 2) := by decide +kernel
theorem dX12_undo_43 : decode cX12_undo 43 = .ok (.aload_n 0, 1) := by decide +kernel
theorem dX12_undo_44 : decode cX12_undo 44 = .ok (.getfield 294, 3) := by decide +kernel
theorem dX12_undo_47 : decode cX12_undo 47 = .ok (.imul, 1) := by decide +kernel
theorem dX12_undo_48 : decode cX12_undo 48 = .ok (.iload_n 1, 1) := by decide +kernel
theorem dX12_undo_49 : decode cX12_undo 49 = .ok (.iadd, 1) := by decide +kernel
theorem dX12_undo_50 : decode cX12_undo 50 = .ok (.iaload, 1) := by decide +kernel
theorem dX12_undo_51 : decode cX12_undo 51 = .ok (.iastore, 1) := by decide +kernel
theorem dX12_undo_52 : decode cX12_undo 52 = .ok (.iinc 1 1, 3) := by decide +kernel
theorem dX12_undo_55 : decode cX12_undo 55 = .ok (.goto (-29), 3) := by decide +kernel
theorem dX12_undo_58 : decode cX12_undo 58 = .ok (.aload_n 0, 1) := by decide +kernel
theorem dX12_undo_59 : decode cX12_undo 59 = .ok (.getfield 294, 3) := by decide +kernel
theorem dX12_undo_62 : decode cX12_undo 62 = .ok (.ireturn, 1) := by decide +kernel
theorem dX12_tries_0 : decode cX12_tries 0 = .ok (.iconst 0, 1) := by decide +kernel
theorem dX12_tries_1 : decode cX12_tries 1 = .ok (.istore_n 1, 1) := by decide +kernel
theorem dX12_tries_2 : decode cX12_tries 2 = .ok (.iload_n 1, 1) := by decide +kernel
theorem dX12_tries_3 : decode cX12_tries 3 = .ok (.bipush 49, 2) := by decide +kernel
theorem dX12_tries_5 : decode cX12_tries 5 = .ok (.if_icmp .ge 24, 3) := by decide +kernel
theorem dX12_tries_8 : decode cX12_tries 8 = .ok (.aload_n 0, 1) := by decide +kernel
theorem dX12_tries_9 : decode cX12_tries 9 = .ok (.getfield 66, 3) := by decide +kernel
theorem dX12_tries_12 : decode cX12_tries 12 = .ok (.bipush 49, 2) := by decide +kernel
theorem dX12_tries_14 : decode cX12_tries 14 = .ok (.iload_n 1, 1) := by decide +kernel
theorem dX12_tries_15 : decode cX12_tries 15 = .ok (.iadd, 1) := by decide +kernel
theorem dX12_tries_16 : decode cX12_tries 16 = .ok (.aload_n 0, 1) := by decide +kernel
theorem dX12_tries_17 : decode cX12_tries 17 = .ok (.getfield 66, 3) := by decide +kernel
theorem dX12_tries_20 : decode cX12_tries 20 = .ok (.iload_n 1, 1) := by decide +kernel
theorem dX12_tries_21 : decode cX12_tries 21 = .ok (.iaload, 1) := by decide +kernel
theorem dX12_tries_22 : decode cX12_tries 22 = .ok (.iastore, 1) := by decide +kernel
theorem dX12_tries_23 : decode cX12_tries 23 = .ok (.iinc 1 1, 3) := by decide +kernel
theorem dX12_tries_26 : decode cX12_tries 26 = .ok (.goto (-24), 3) := by decide +kernel
theorem dX12_tries_29 : decode cX12_tries 29 = .ok (.return_, 1) := by decide +kernel
theorem dX12_works_0 : decode cX12_works 0 = .ok (.iload_n 0, 1) := by decide +kernel
theorem dX12_works_1 : decode cX12_works 1 = .ok (.tableswitch 105 4 10 #[43, 57, 71, 82, 93, 97, 101], 43) := by decide +kernel
theorem dX12_works_44 : decode cX12_works 44 = .ok (.iload_n 1, 1) := by decide +kernel
theorem dX12_works_45 : decode cX12_works 45 = .ok (.ifCond .eq 11, 3) := by decide +kernel
theorem dX12_works_48 : decode cX12_works 48 = .ok (.iload_n 2, 1) := by decide +kernel
theorem dX12_works_49 : decode cX12_works 49 = .ok (.ifCond .eq 7, 3) := by decide +kernel
theorem dX12_works_52 : decode cX12_works 52 = .ok (.iconst 1, 1) := by decide +kernel
theorem dX12_works_53 : decode cX12_works 53 = .ok (.goto 4, 3) := by decide +kernel
theorem dX12_works_56 : decode cX12_works 56 = .ok (.iconst 0, 1) := by decide +kernel
theorem dX12_works_57 : decode cX12_works 57 = .ok (.ireturn, 1) := by decide +kernel
theorem dX12_works_58 : decode cX12_works 58 = .ok (.iload_n 1, 1) := by decide +kernel
theorem dX12_works_59 : decode cX12_works 59 = .ok (.ifCond .ne 7, 3) := by decide +kernel
theorem dX12_works_62 : decode cX12_works 62 = .ok (.iload_n 2, 1) := by decide +kernel
theorem dX12_works_63 : decode cX12_works 63 = .ok (.ifCond .eq 7, 3) := by decide +kernel
theorem dX12_works_66 : decode cX12_works 66 = .ok (.iconst 1, 1) := by decide +kernel
theorem dX12_works_67 : decode cX12_works 67 = .ok (.goto 4, 3) := by decide +kernel
theorem dX12_works_70 : decode cX12_works 70 = .ok (.iconst 0, 1) := by decide +kernel
theorem dX12_works_71 : decode cX12_works 71 = .ok (.ireturn, 1) := by decide +kernel
theorem dX12_works_72 : decode cX12_works 72 = .ok (.iload_n 1, 1) := by decide +kernel
theorem dX12_works_73 : decode cX12_works 73 = .ok (.iload_n 2, 1) := by decide +kernel
theorem dX12_works_74 : decode cX12_works 74 = .ok (.if_icmp .ge 7, 3) := by decide +kernel
theorem dX12_works_77 : decode cX12_works 77 = .ok (.iconst 1, 1) := by decide +kernel
theorem dX12_works_78 : decode cX12_works 78 = .ok (.goto 4, 3) := by decide +kernel
theorem dX12_works_81 : decode cX12_works 81 = .ok (.iconst 0, 1) := by decide +kernel
theorem dX12_works_82 : decode cX12_works 82 = .ok (.ireturn, 1) := by decide +kernel
theorem dX12_works_83 : decode cX12_works 83 = .ok (.iload_n 1, 1) := by decide +kernel
theorem dX12_works_84 : decode cX12_works 84 = .ok (.iload_n 2, 1) := by decide +kernel
theorem dX12_works_85 : decode cX12_works 85 = .ok (.if_icmp .ne 7, 3) := by decide +kernel
theorem dX12_works_88 : decode cX12_works 88 = .ok (.iconst 1, 1) := by decide +kernel
theorem dX12_works_89 : decode cX12_works 89 = .ok (.goto 4, 3) := by decide +kernel
theorem dX12_works_92 : decode cX12_works 92 = .ok (.iconst 0, 1) := by decide +kernel
theorem dX12_works_93 : decode cX12_works 93 = .ok (.ireturn, 1) := by decide +kernel
theorem dX12_works_94 : decode cX12_works 94 = .ok (.iload_n 1, 1) := by decide +kernel
theorem dX12_works_95 : decode cX12_works 95 = .ok (.iload_n 2, 1) := by decide +kernel
theorem dX12_works_96 : decode cX12_works 96 = .ok (.iadd, 1) := by decide +kernel
theorem dX12_works_97 : decode cX12_works 97 = .ok (.ireturn, 1) := by decide +kernel
theorem dX12_works_98 : decode cX12_works 98 = .ok (.iload_n 1, 1) := by decide +kernel
theorem dX12_works_99 : decode cX12_works 99 = .ok (.iload_n 2, 1) := by decide +kernel
theorem dX12_works_100 : decode cX12_works 100 = .ok (.isub, 1) := by decide +kernel
theorem dX12_works_101 : decode cX12_works 101 = .ok (.ireturn, 1) := by decide +kernel
theorem dX12_works_102 : decode cX12_works 102 = .ok (.iload_n 1, 1) := by decide +kernel
theorem dX12_works_103 : decode cX12_works 103 = .ok (.iload_n 2, 1) := by decide +kernel
theorem dX12_works_104 : decode cX12_works 104 = .ok (.imul, 1) := by decide +kernel
theorem dX12_works_105 : decode cX12_works 105 = .ok (.ireturn, 1) := by decide +kernel
theorem dX12_works_106 : decode cX12_works 106 = .ok (.iload_n 2, 1) := by decide +kernel
theorem dX12_works_107 : decode cX12_works 107 = .ok (.ifCond .ne 7, 3) := by decide +kernel
theorem dX12_works_110 : decode cX12_works 110 = .ok (.iconst 0, 1) := by decide +kernel
theorem dX12_works_111 : decode cX12_works 111 = .ok (.goto 6, 3) := by decide +kernel
theorem dX12_works_114 : decode cX12_works 114 = .ok (.iload_n 1, 1) := by decide +kernel
theorem dX12_works_115 : decode cX12_works 115 = .ok (.iload_n 2, 1) := by decide +kernel
theorem dX12_works_116 : decode cX12_works 116 = .ok (.idiv, 1) := by decide +kernel
theorem dX12_works_117 : decode cX12_works 117 = .ok (.ireturn, 1) := by decide +kernel
theorem dX12_reckons_0 : decode cX12_reckons 0 = .ok (.iconst 0, 1) := by decide +kernel
theorem dX12_reckons_1 : decode cX12_reckons 1 = .ok (.istore_n 2, 1) := by decide +kernel
theorem dX12_reckons_2 : decode cX12_reckons 2 = .ok (.iload_n 1, 1) := by decide +kernel
theorem dX12_reckons_3 : decode cX12_reckons 3 = .ok (.istore_n 3, 1) := by decide +kernel
theorem dX12_reckons_4 : decode cX12_reckons 4 = .ok (.aload_n 0, 1) := by decide +kernel
theorem dX12_reckons_5 : decode cX12_reckons 5 = .ok (.getfield 32, 3) := by decide +kernel
theorem dX12_reckons_8 : decode cX12_reckons 8 = .ok (.iload_n 3, 1) := by decide +kernel
theorem dX12_reckons_9 : decode cX12_reckons 9 = .ok (.iaload, 1) := by decide +kernel
theorem dX12_reckons_10 : decode cX12_reckons 10 = .ok (.ifCond .eq 133, 3) := by decide +kernel
theorem dX12_reckons_13 : decode cX12_reckons 13 = .ok (.aload_n 0, 1) := by decide +kernel
theorem dX12_reckons_14 : decode cX12_reckons 14 = .ok (.getfield 32, 3) := by decide +kernel
theorem dX12_reckons_17 : decode cX12_reckons 17 = .ok (.iload_n 3, 1) := by decide +kernel
theorem dX12_reckons_18 : decode cX12_reckons 18 = .ok (.iaload, 1) := by decide +kernel
theorem dX12_reckons_19 : decode cX12_reckons 19 = .ok (.istore 4, 2) := by decide +kernel
theorem dX12_reckons_21 : decode cX12_reckons 21 = .ok (.iinc 3 1, 3) := by decide +kernel
theorem dX12_reckons_24 : decode cX12_reckons 24 = .ok (.iload 4, 2) := by decide +kernel
theorem dX12_reckons_26 : decode cX12_reckons 26 = .ok (.iconst 1, 1) := by decide +kernel
theorem dX12_reckons_27 : decode cX12_reckons 27 = .ok (.if_icmp .eq 9, 3) := by decide +kernel
theorem dX12_reckons_30 : decode cX12_reckons 30 = .ok (.iload 4, 2) := by decide +kernel
theorem dX12_reckons_32 : decode cX12_reckons 32 = .ok (.iconst 2, 1) := by decide +kernel
theorem dX12_reckons_33 : decode cX12_reckons 33 = .ok (.if_icmp .ne 44, 3) := by decide +kernel
theorem dX12_reckons_36 : decode cX12_reckons 36 = .ok (.aload_n 0, 1) := by decide +kernel
theorem dX12_reckons_37 : decode cX12_reckons 37 = .ok (.getfield 75, 3) := by decide +kernel
theorem dX12_reckons_40 : decode cX12_reckons 40 = .ok (.iload_n 2, 1) := by decide +kernel
theorem dX12_reckons_41 : decode cX12_reckons 41 = .ok (.iload 4, 2) := by decide +kernel
theorem dX12_reckons_43 : decode cX12_reckons 43 = .ok (.iconst 1, 1) := by decide +kernel
theorem dX12_reckons_44 : decode cX12_reckons 44 = .ok (.if_icmp .ne 12, 3) := by decide +kernel
theorem dX12_reckons_47 : decode cX12_reckons 47 = .ok (.aload_n 0, 1) := by decide +kernel
theorem dX12_reckons_48 : decode cX12_reckons 48 = .ok (.getfield 32, 3) := by decide +kernel
theorem dX12_reckons_51 : decode cX12_reckons 51 = .ok (.iload_n 3, 1) := by decide +kernel
theorem dX12_reckons_52 : decode cX12_reckons 52 = .ok (.iaload, 1) := by decide +kernel
theorem dX12_reckons_53 : decode cX12_reckons 53 = .ok (.goto 14, 3) := by decide +kernel
theorem dX12_reckons_56 : decode cX12_reckons 56 = .ok (.aload_n 0, 1) := by decide +kernel
theorem dX12_reckons_57 : decode cX12_reckons 57 = .ok (.getfield 72, 3) := by decide +kernel
theorem dX12_reckons_60 : decode cX12_reckons 60 = .ok (.aload_n 0, 1) := by decide +kernel
theorem dX12_reckons_61 : decode cX12_reckons 61 = .ok (.getfield 32, 3) := by decide +kernel
theorem dX12_reckons_64 : decode cX12_reckons 64 = .ok (.iload_n 3, 1) := by decide +kernel
theorem dX12_reckons_65 : decode cX12_reckons 65 = .ok (.iaload, 1) := by decide +kernel
theorem dX12_reckons_66 : decode cX12_reckons 66 = .ok (.iaload, 1) := by decide +kernel
theorem dX12_reckons_67 : decode cX12_reckons 67 = .ok (.iastore, 1) := by decide +kernel
theorem dX12_reckons_68 : decode cX12_reckons 68 = .ok (.iinc 3 1, 3) := by decide +kernel
theorem dX12_reckons_71 : decode cX12_reckons 71 = .ok (.iinc 2 1, 3) := by decide +kernel
theorem dX12_reckons_74 : decode cX12_reckons 74 = .ok (.goto 66, 3) := by decide +kernel
theorem dX12_reckons_77 : decode cX12_reckons 77 = .ok (.iload 4, 2) := by decide +kernel
theorem dX12_reckons_79 : decode cX12_reckons 79 = .ok (.iconst 3, 1) := by decide +kernel
theorem dX12_reckons_80 : decode cX12_reckons 80 = .ok (.if_icmp .ne 30, 3) := by decide +kernel
theorem dX12_reckons_83 : decode cX12_reckons 83 = .ok (.aload_n 0, 1) := by decide +kernel
theorem dX12_reckons_84 : decode cX12_reckons 84 = .ok (.getfield 75, 3) := by decide +kernel
theorem dX12_reckons_87 : decode cX12_reckons 87 = .ok (.iload_n 2, 1) := by decide +kernel
theorem dX12_reckons_88 : decode cX12_reckons 88 = .ok (.iconst 1, 1) := by decide +kernel
theorem dX12_reckons_89 : decode cX12_reckons 89 = .ok (.isub, 1) := by decide +kernel
theorem dX12_reckons_90 : decode cX12_reckons 90 = .ok (.aload_n 0, 1) := by decide +kernel
theorem dX12_reckons_91 : decode cX12_reckons 91 = .ok (.getfield 75, 3) := by decide +kernel
theorem dX12_reckons_94 : decode cX12_reckons 94 = .ok (.iload_n 2, 1) := by decide +kernel
theorem dX12_reckons_95 : decode cX12_reckons 95 = .ok (.iconst 1, 1) := by decide +kernel
theorem dX12_reckons_96 : decode cX12_reckons 96 = .ok (.isub, 1) := by decide +kernel
theorem dX12_reckons_97 : decode cX12_reckons 97 = .ok (.iaload, 1) := by decide +kernel
theorem dX12_reckons_98 : decode cX12_reckons 98 = .ok (.ifCond .ne 7, 3) := by decide +kernel
theorem dX12_reckons_101 : decode cX12_reckons 101 = .ok (.iconst 1, 1) := by decide +kernel
theorem dX12_reckons_102 : decode cX12_reckons 102 = .ok (.goto 4, 3) := by decide +kernel
theorem dX12_reckons_105 : decode cX12_reckons 105 = .ok (.iconst 0, 1) := by decide +kernel
theorem dX12_reckons_106 : decode cX12_reckons 106 = .ok (.iastore, 1) := by decide +kernel
theorem dX12_reckons_107 : decode cX12_reckons 107 = .ok (.goto 33, 3) := by decide +kernel
theorem dX12_reckons_110 : decode cX12_reckons 110 = .ok (.iinc 2 (-1), 3) := by decide +kernel
theorem dX12_reckons_113 : decode cX12_reckons 113 = .ok (.aload_n 0, 1) := by decide +kernel
theorem dX12_reckons_114 : decode cX12_reckons 114 = .ok (.getfield 75, 3) := by decide +kernel
theorem dX12_reckons_117 : decode cX12_reckons 117 = .ok (.iload_n 2, 1) := by decide +kernel
theorem dX12_reckons_118 : decode cX12_reckons 118 = .ok (.iconst 1, 1) := by decide +kernel
theorem dX12_reckons_119 : decode cX12_reckons 119 = .ok (.isub, 1) := by decide +kernel
theorem dX12_reckons_120 : decode cX12_reckons 120 = .ok (.iload 4, 2) := by decide +kernel
theorem dX12_reckons_122 : decode cX12_reckons 122 = .ok (.aload_n 0, 1) := by decide +kernel
theorem dX12_reckons_123 : decode cX12_reckons 123 = .ok (.getfield 75, 3) := by decide +kernel
theorem dX12_reckons_126 : decode cX12_reckons 126 = .ok (.iload_n 2, 1) := by decide +kernel
theorem dX12_reckons_127 : decode cX12_reckons 127 = .ok (.iconst 1, 1) := by decide +kernel
theorem dX12_reckons_128 : decode cX12_reckons 128 = .ok (.isub, 1) := by decide +kernel
theorem dX12_reckons_129 : decode cX12_reckons 129 = .ok (.iaload, 1) := by decide +kernel
theorem dX12_reckons_130 : decode cX12_reckons 130 = .ok (.aload_n 0, 1) := by decide +kernel
theorem dX12_reckons_131 : decode cX12_reckons 131 = .ok (.getfield 75, 3) := by decide +kernel
theorem dX12_reckons_134 : decode cX12_reckons 134 = .ok (.iload_n 2, 1) := by decide +kernel
theorem dX12_reckons_135 : decode cX12_reckons 135 = .ok (.iaload, 1) := by decide +kernel
theorem dX12_reckons_136 : decode cX12_reckons 136 = .ok (.invokestatic 304, 3) := by decide +kernel
theorem dX12_reckons_139 : decode cX12_reckons 139 = .ok (.iastore, 1) := by decide +kernel
theorem dX12_reckons_140 : decode cX12_reckons 140 = .ok (.goto (-136), 3) := by decide +kernel
theorem dX12_reckons_143 : decode cX12_reckons 143 = .ok (.aload_n 0, 1) := by decide +kernel
theorem dX12_reckons_144 : decode cX12_reckons 144 = .ok (.getfield 75, 3) := by decide +kernel
theorem dX12_reckons_147 : decode cX12_reckons 147 = .ok (.iconst 0, 1) := by decide +kernel
theorem dX12_reckons_148 : decode cX12_reckons 148 = .ok (.iaload, 1) := by decide +kernel
theorem dX12_reckons_149 : decode cX12_reckons 149 = .ok (.ireturn, 1) := by decide +kernel
theorem dX12_ahead1_0 : decode cX12_ahead1 0 = .ok (.iload_n 1, 1) := by decide +kernel
theorem dX12_ahead1_1 : decode cX12_ahead1 1 = .ok (.ifCond .ne 12, 3) := by decide +kernel
theorem dX12_ahead1_4 : decode cX12_ahead1 4 = .ok (.aload_n 0, 1) := by decide +kernel
theorem dX12_ahead1_5 : decode cX12_ahead1 5 = .ok (.getfield 7, 3) := by decide +kernel
theorem dX12_ahead1_8 : decode cX12_ahead1 8 = .ok (.iconst 1, 1) := by decide +kernel
theorem dX12_ahead1_9 : decode cX12_ahead1 9 = .ok (.isub, 1) := by decide +kernel
theorem dX12_ahead1_10 : decode cX12_ahead1 10 = .ok (.goto 6, 3) := by decide +kernel
theorem dX12_ahead1_13 : decode cX12_ahead1 13 = .ok (.iload_n 1, 1) := by decide +kernel
theorem dX12_ahead1_14 : decode cX12_ahead1 14 = .ok (.iconst 1, 1) := by decide +kernel
theorem dX12_ahead1_15 : decode cX12_ahead1 15 = .ok (.isub, 1) := by decide +kernel
theorem dX12_ahead1_16 : decode cX12_ahead1 16 = .ok (.ireturn, 1) := by decide +kernel
theorem dX12_behind1_0 : decode cX12_behind1 0 = .ok (.iload_n 1, 1) := by decide +kernel
theorem dX12_behind1_1 : decode cX12_behind1 1 = .ok (.aload_n 0, 1) := by decide +kernel
theorem dX12_behind1_2 : decode cX12_behind1 2 = .ok (.getfield 7, 3) := by decide +kernel
theorem dX12_behind1_5 : decode cX12_behind1 5 = .ok (.iconst 1, 1) := by decide +kernel
theorem dX12_behind1_6 : decode cX12_behind1 6 = .ok (.isub, 1) := by decide +kernel
theorem dX12_behind1_7 : decode cX12_behind1 7 = .ok (.if_icmp .ne 7, 3) := by decide +kernel
theorem dX12_behind1_10 : decode cX12_behind1 10 = .ok (.iconst 0, 1) := by decide +kernel
theorem dX12_behind1_11 : decode cX12_behind1 11 = .ok (.goto 6, 3) := by decide +kernel
theorem dX12_behind1_14 : decode cX12_behind1 14 = .ok (.iload_n 1, 1) := by decide +kernel
theorem dX12_behind1_15 : decode cX12_behind1 15 = .ok (.iconst 1, 1) := by decide +kernel
theorem dX12_behind1_16 : decode cX12_behind1 16 = .ok (.iadd, 1) := by decide +kernel
theorem dX12_behind1_17 : decode cX12_behind1 17 = .ok (.ireturn, 1) := by decide +kernel
theorem dX12_isGap_0 : decode cX12_isGap 0 = .ok (.aload_n 0, 1) := by decide +kernel
theorem dX12_isGap_1 : decode cX12_isGap 1 = .ok (.getfield 66, 3) := by decide +kernel
theorem dX12_isGap_4 : decode cX12_isGap 4 = .ok (.iload_n 1, 1) := by decide +kernel
theorem dX12_isGap_5 : decode cX12_isGap 5 = .ok (.bipush 13, 2) := by decide +kernel
theorem dX12_isGap_7 : decode cX12_isGap 7 = .ok (.iadd, 1) := by decide +kernel
theorem dX12_isGap_8 : decode cX12_isGap 8 = .ok (.iload_n 2, 1) := by decide +kernel
theorem dX12_isGap_9 : decode cX12_isGap 9 = .ok (.iadd, 1) := by decide +kernel
theorem dX12_isGap_10 : decode cX12_isGap 10 = .ok (.iaload, 1) := by decide +kernel
theorem dX12_isGap_11 : decode cX12_isGap 11 = .ok (.ifCond .ne 7, 3) := by decide +kernel
theorem dX12_isGap_14 : decode cX12_isGap 14 = .ok (.iconst 1, 1) := by decide +kernel
theorem dX12_isGap_15 : decode cX12_isGap 15 = .ok (.goto 4, 3) := by decide +kernel
theorem dX12_isGap_18 : decode cX12_isGap 18 = .ok (.iconst 0, 1) := by decide +kernel
theorem dX12_isGap_19 : decode cX12_isGap 19 = .ok (.ireturn, 1) := by decide +kernel
theorem dX12_womenAt_0 : decode cX12_womenAt 0 = .ok (.iconst 0, 1) := by decide +kernel
theorem dX12_womenAt_1 : decode cX12_womenAt 1 = .ok (.istore_n 3, 1) := by decide +kernel
theorem dX12_womenAt_2 : decode cX12_womenAt 2 = .ok (.iconst 0, 1) := by decide +kernel
theorem dX12_womenAt_3 : decode cX12_womenAt 3 = .ok (.istore 4, 2) := by decide +kernel
theorem dX12_womenAt_5 : decode cX12_womenAt 5 = .ok (.iload 4, 2) := by decide +kernel
theorem dX12_womenAt_7 : decode cX12_womenAt 7 = .ok (.aload_n 0, 1) := by decide +kernel
theorem dX12_womenAt_8 : decode cX12_womenAt 8 = .ok (.getfield 284, 3) := by decide +kernel
theorem dX12_womenAt_11 : decode cX12_womenAt 11 = .ok (.if_icmp .ge 36, 3) := by decide +kernel
theorem dX12_womenAt_14 : decode cX12_womenAt 14 = .ok (.iload_n 3, 1) := by decide +kernel
theorem dX12_womenAt_15 : decode cX12_womenAt 15 = .ok (.aload_n 0, 1) := by decide +kernel
theorem dX12_womenAt_16 : decode cX12_womenAt 16 = .ok (.getfield 66, 3) := by decide +kernel
theorem dX12_womenAt_19 : decode cX12_womenAt 19 = .ok (.iload_n 1, 1) := by decide +kernel
theorem dX12_womenAt_20 : decode cX12_womenAt 20 = .ok (.bipush 37, 2) := by decide +kernel
theorem dX12_womenAt_22 : decode cX12_womenAt 22 = .ok (.iadd, 1) := by decide +kernel
theorem dX12_womenAt_23 : decode cX12_womenAt 23 = .ok (.iload 4, 2) := by decide +kernel
theorem dX12_womenAt_25 : decode cX12_womenAt 25 = .ok (.iadd, 1) := by decide +kernel
theorem dX12_womenAt_26 : decode cX12_womenAt 26 = .ok (.iaload, 1) := by decide +kernel
theorem dX12_womenAt_27 : decode cX12_womenAt 27 = .ok (.iload_n 2, 1) := by decide +kernel
theorem dX12_womenAt_28 : decode cX12_womenAt 28 = .ok (.if_icmp .ne 10, 3) := by decide +kernel
theorem dX12_womenAt_31 : decode cX12_womenAt 31 = .ok (.iconst 1, 1) := by decide +kernel
theorem dX12_womenAt_32 : decode cX12_womenAt 32 = .ok (.iload 4, 2) := by decide +kernel
theorem dX12_womenAt_34 : decode cX12_womenAt 34 = .ok (.ishl, 1) := by decide +kernel
theorem dX12_womenAt_35 : decode cX12_womenAt 35 = .ok (.goto 4, 3) := by decide +kernel
theorem dX12_womenAt_38 : decode cX12_womenAt 38 = .ok (.iconst 0, 1) := by decide +kernel
theorem dX12_womenAt_39 : decode cX12_womenAt 39 = .ok (.ior, 1) := by decide +kernel
theorem dX12_womenAt_40 : decode cX12_womenAt 40 = .ok (.istore_n 3, 1) := by decide +kernel
theorem dX12_womenAt_41 : decode cX12_womenAt 41 = .ok (.iinc 4 1, 3) := by decide +kernel
theorem dX12_womenAt_44 : decode cX12_womenAt 44 = .ok (.goto (-39), 3) := by decide +kernel
theorem dX12_womenAt_47 : decode cX12_womenAt 47 = .ok (.iload_n 3, 1) := by decide +kernel
theorem dX12_womenAt_48 : decode cX12_womenAt 48 = .ok (.ireturn, 1) := by decide +kernel
theorem dX12_besideOf_0 : decode cX12_besideOf 0 = .ok (.aload_n 0, 1) := by decide +kernel
theorem dX12_besideOf_1 : decode cX12_besideOf 1 = .ok (.getfield 66, 3) := by decide +kernel
theorem dX12_besideOf_4 : decode cX12_besideOf 4 = .ok (.iload_n 1, 1) := by decide +kernel
theorem dX12_besideOf_5 : decode cX12_besideOf 5 = .ok (.iconst 1, 1) := by decide +kernel
theorem dX12_besideOf_6 : decode cX12_besideOf 6 = .ok (.iadd, 1) := by decide +kernel
theorem dX12_besideOf_7 : decode cX12_besideOf 7 = .ok (.aload_n 0, 1) := by decide +kernel
theorem dX12_besideOf_8 : decode cX12_besideOf 8 = .ok (.iload_n 2, 1) := by decide +kernel
theorem dX12_besideOf_9 : decode cX12_besideOf 9 = .ok (.invokevirtual 308, 3) := by decide +kernel
theorem dX12_besideOf_12 : decode cX12_besideOf 12 = .ok (.iadd, 1) := by decide +kernel
theorem dX12_besideOf_13 : decode cX12_besideOf 13 = .ok (.iaload, 1) := by decide +kernel
theorem dX12_besideOf_14 : decode cX12_besideOf 14 = .ok (.aload_n 0, 1) := by decide +kernel
theorem dX12_besideOf_15 : decode cX12_besideOf 15 = .ok (.getfield 66, 3) := by decide +kernel
theorem dX12_besideOf_18 : decode cX12_besideOf 18 = .ok (.iload_n 1, 1) := by decide +kernel
theorem dX12_besideOf_19 : decode cX12_besideOf 19 = .ok (.iconst 1, 1) := by decide +kernel
theorem dX12_besideOf_20 : decode cX12_besideOf 20 = .ok (.iadd, 1) := by decide +kernel
theorem dX12_besideOf_21 : decode cX12_besideOf 21 = .ok (.aload_n 0, 1) := by decide +kernel
theorem dX12_besideOf_22 : decode cX12_besideOf 22 = .ok (.iload_n 2, 1) := by decide +kernel
theorem dX12_besideOf_23 : decode cX12_besideOf 23 = .ok (.invokevirtual 311, 3) := by decide +kernel
theorem dX12_besideOf_26 : decode cX12_besideOf 26 = .ok (.iadd, 1) := by decide +kernel
theorem dX12_besideOf_27 : decode cX12_besideOf 27 = .ok (.iaload, 1) := by decide +kernel
theorem dX12_besideOf_28 : decode cX12_besideOf 28 = .ok (.iadd, 1) := by decide +kernel
theorem dX12_besideOf_29 : decode cX12_besideOf 29 = .ok (.ireturn, 1) := by decide +kernel
theorem dX12_asks_0 : decode cX12_asks 0 = .ok (.aload_n 0, 1) := by decide +kernel
theorem dX12_asks_1 : decode cX12_asks 1 = .ok (.getfield 72, 3) := by decide +kernel
theorem dX12_asks_4 : decode cX12_asks 4 = .ok (.iconst 0, 1) := by decide +kernel
theorem dX12_asks_5 : decode cX12_asks 5 = .ok (.aload_n 0, 1) := by decide +kernel
theorem dX12_asks_6 : decode cX12_asks 6 = .ok (.getfield 66, 3) := by decide +kernel
theorem dX12_asks_9 : decode cX12_asks 9 = .ok (.iload_n 2, 1) := by decide +kernel
theorem dX12_asks_10 : decode cX12_asks 10 = .ok (.iconst 1, 1) := by decide +kernel
theorem dX12_asks_11 : decode cX12_asks 11 = .ok (.iadd, 1) := by decide +kernel
theorem dX12_asks_12 : decode cX12_asks 12 = .ok (.iload_n 3, 1) := by decide +kernel
theorem dX12_asks_13 : decode cX12_asks 13 = .ok (.iadd, 1) := by decide +kernel
theorem dX12_asks_14 : decode cX12_asks 14 = .ok (.iaload, 1) := by decide +kernel
theorem dX12_asks_15 : decode cX12_asks 15 = .ok (.iastore, 1) := by decide +kernel
theorem dX12_asks_16 : decode cX12_asks 16 = .ok (.aload_n 0, 1) := by decide +kernel
theorem dX12_asks_17 : decode cX12_asks 17 = .ok (.getfield 72, 3) := by decide +kernel
theorem dX12_asks_20 : decode cX12_asks 20 = .ok (.iconst 1, 1) := by decide +kernel
theorem dX12_asks_21 : decode cX12_asks 21 = .ok (.aload_n 0, 1) := by decide +kernel
theorem dX12_asks_22 : decode cX12_asks 22 = .ok (.getfield 66, 3) := by decide +kernel
theorem dX12_asks_25 : decode cX12_asks 25 = .ok (.iload_n 2, 1) := by decide +kernel
theorem dX12_asks_26 : decode cX12_asks 26 = .ok (.bipush 13, 2) := by decide +kernel
theorem dX12_asks_28 : decode cX12_asks 28 = .ok (.iadd, 1) := by decide +kernel
theorem dX12_asks_29 : decode cX12_asks 29 = .ok (.iload_n 3, 1) := by decide +kernel
theorem dX12_asks_30 : decode cX12_asks 30 = .ok (.iadd, 1) := by decide +kernel
theorem dX12_asks_31 : decode cX12_asks 31 = .ok (.iaload, 1) := by decide +kernel
theorem dX12_asks_32 : decode cX12_asks 32 = .ok (.iastore, 1) := by decide +kernel
theorem dX12_asks_33 : decode cX12_asks 33 = .ok (.aload_n 0, 1) := by decide +kernel
theorem dX12_asks_34 : decode cX12_asks 34 = .ok (.getfield 72, 3) := by decide +kernel
theorem dX12_asks_37 : decode cX12_asks 37 = .ok (.iconst 2, 1) := by decide +kernel
theorem dX12_asks_38 : decode cX12_asks 38 = .ok (.aload_n 0, 1) := by decide +kernel
theorem dX12_asks_39 : decode cX12_asks 39 = .ok (.getfield 66, 3) := by decide +kernel
theorem dX12_asks_42 : decode cX12_asks 42 = .ok (.iload_n 2, 1) := by decide +kernel
theorem dX12_asks_43 : decode cX12_asks 43 = .ok (.bipush 25, 2) := by decide +kernel
theorem dX12_asks_45 : decode cX12_asks 45 = .ok (.iadd, 1) := by decide +kernel
theorem dX12_asks_46 : decode cX12_asks 46 = .ok (.iload_n 3, 1) := by decide +kernel
theorem dX12_asks_47 : decode cX12_asks 47 = .ok (.iadd, 1) := by decide +kernel
theorem dX12_asks_48 : decode cX12_asks 48 = .ok (.iaload, 1) := by decide +kernel
theorem dX12_asks_49 : decode cX12_asks 49 = .ok (.iastore, 1) := by decide +kernel
theorem dX12_asks_50 : decode cX12_asks 50 = .ok (.aload_n 0, 1) := by decide +kernel
theorem dX12_asks_51 : decode cX12_asks 51 = .ok (.getfield 72, 3) := by decide +kernel
theorem dX12_asks_54 : decode cX12_asks 54 = .ok (.iconst 3, 1) := by decide +kernel
theorem dX12_asks_55 : decode cX12_asks 55 = .ok (.aload_n 0, 1) := by decide +kernel
theorem dX12_asks_56 : decode cX12_asks 56 = .ok (.iload_n 2, 1) := by decide +kernel
theorem dX12_asks_57 : decode cX12_asks 57 = .ok (.iload_n 3, 1) := by decide +kernel
theorem dX12_asks_58 : decode cX12_asks 58 = .ok (.invokevirtual 314, 3) := by decide +kernel
theorem dX12_asks_61 : decode cX12_asks 61 = .ok (.iastore, 1) := by decide +kernel
theorem dX12_asks_62 : decode cX12_asks 62 = .ok (.aload_n 0, 1) := by decide +kernel
theorem dX12_asks_63 : decode cX12_asks 63 = .ok (.getfield 72, 3) := by decide +kernel
theorem dX12_asks_66 : decode cX12_asks 66 = .ok (.iconst 4, 1) := by decide +kernel
theorem dX12_asks_67 : decode cX12_asks 67 = .ok (.aload_n 0, 1) := by decide +kernel
theorem dX12_asks_68 : decode cX12_asks 68 = .ok (.iload_n 2, 1) := by decide +kernel
theorem dX12_asks_69 : decode cX12_asks 69 = .ok (.iload_n 3, 1) := by decide +kernel
theorem dX12_asks_70 : decode cX12_asks 70 = .ok (.invokevirtual 317, 3) := by decide +kernel
theorem dX12_asks_73 : decode cX12_asks 73 = .ok (.invokestatic 320, 3) := by decide +kernel
theorem dX12_asks_76 : decode cX12_asks 76 = .ok (.iastore, 1) := by decide +kernel
theorem dX12_asks_77 : decode cX12_asks 77 = .ok (.aload_n 0, 1) := by decide +kernel
theorem dX12_asks_78 : decode cX12_asks 78 = .ok (.getfield 72, 3) := by decide +kernel
theorem dX12_asks_81 : decode cX12_asks 81 = .ok (.iconst 5, 1) := by decide +kernel
theorem dX12_asks_82 : decode cX12_asks 82 = .ok (.aload_n 0, 1) := by decide +kernel
theorem dX12_asks_83 : decode cX12_asks 83 = .ok (.getfield 66, 3) := by decide +kernel
theorem dX12_asks_86 : decode cX12_asks 86 = .ok (.iload_n 2, 1) := by decide +kernel
theorem dX12_asks_87 : decode cX12_asks 87 = .ok (.iconst 0, 1) := by decide +kernel
theorem dX12_asks_88 : decode cX12_asks 88 = .ok (.iadd, 1) := by decide +kernel
theorem dX12_asks_89 : decode cX12_asks 89 = .ok (.iaload, 1) := by decide +kernel
theorem dX12_asks_90 : decode cX12_asks 90 = .ok (.iastore, 1) := by decide +kernel
theorem dX12_asks_91 : decode cX12_asks 91 = .ok (.aload_n 0, 1) := by decide +kernel
theorem dX12_asks_92 : decode cX12_asks 92 = .ok (.iload_n 1, 1) := by decide +kernel
theorem dX12_asks_93 : decode cX12_asks 93 = .ok (.invokevirtual 323, 3) := by decide +kernel
theorem dX12_asks_96 : decode cX12_asks 96 = .ok (.ireturn, 1) := by decide +kernel
theorem dX12_pullsOf_0 : decode cX12_pullsOf 0 = .ok (.aload_n 0, 1) := by decide +kernel
theorem dX12_pullsOf_1 : decode cX12_pullsOf 1 = .ok (.iload_n 1, 1) := by decide +kernel
theorem dX12_pullsOf_2 : decode cX12_pullsOf 2 = .ok (.iload_n 2, 1) := by decide +kernel
theorem dX12_pullsOf_3 : decode cX12_pullsOf 3 = .ok (.invokevirtual 326, 3) := by decide +kernel
theorem dX12_pullsOf_6 : decode cX12_pullsOf 6 = .ok (.ifCond .eq 5, 3) := by decide +kernel
theorem dX12_pullsOf_9 : decode cX12_pullsOf 9 = .ok (.iconst 0, 1) := by decide +kernel
theorem dX12_pullsOf_10 : decode cX12_pullsOf 10 = .ok (.ireturn, 1) := by decide +kernel
theorem dX12_pullsOf_11 : decode cX12_pullsOf 11 = .ok (.aload_n 0, 1) := by decide +kernel
theorem dX12_pullsOf_12 : decode cX12_pullsOf 12 = .ok (.getfield 19, 3) := by decide +kernel
theorem dX12_pullsOf_15 : decode cX12_pullsOf 15 = .ok (.iconst (-1), 1) := by decide +kernel
theorem dX12_pullsOf_16 : decode cX12_pullsOf 16 = .ok (.if_icmp .ne 28, 3) := by decide +kernel
theorem dX12_pullsOf_19 : decode cX12_pullsOf 19 = .ok (.aload_n 0, 1) := by decide +kernel
theorem dX12_pullsOf_20 : decode cX12_pullsOf 20 = .ok (.iload_n 1, 1) := by decide +kernel
theorem dX12_pullsOf_21 : decode cX12_pullsOf 21 = .ok (.iload_n 2, 1) := by decide +kernel
theorem dX12_pullsOf_22 : decode cX12_pullsOf 22 = .ok (.invokevirtual 314, 3) := by decide +kernel
theorem dX12_pullsOf_25 : decode cX12_pullsOf 25 = .ok (.iconst 2, 1) := by decide +kernel
theorem dX12_pullsOf_26 : decode cX12_pullsOf 26 = .ok (.aload_n 0, 1) := by decide +kernel
theorem dX12_pullsOf_27 : decode cX12_pullsOf 27 = .ok (.getfield 66, 3) := by decide +kernel
theorem dX12_pullsOf_30 : decode cX12_pullsOf 30 = .ok (.iload_n 1, 1) := by decide +kernel
theorem dX12_pullsOf_31 : decode cX12_pullsOf 31 = .ok (.iconst 1, 1) := by decide +kernel
theorem dX12_pullsOf_32 : decode cX12_pullsOf 32 = .ok (.iadd, 1) := by decide +kernel
theorem dX12_pullsOf_33 : decode cX12_pullsOf 33 = .ok (.iload_n 2, 1) := by decide +kernel
theorem dX12_pullsOf_34 : decode cX12_pullsOf 34 = .ok (.iadd, 1) := by decide +kernel
theorem dX12_pullsOf_35 : decode cX12_pullsOf 35 = .ok (.iaload, 1) := by decide +kernel
theorem dX12_pullsOf_36 : decode cX12_pullsOf 36 = .ok (.imul, 1) := by decide +kernel
theorem dX12_pullsOf_37 : decode cX12_pullsOf 37 = .ok (.isub, 1) := by decide +kernel
theorem dX12_pullsOf_38 : decode cX12_pullsOf 38 = .ok (.bipush 9, 2) := by decide +kernel
theorem dX12_pullsOf_40 : decode cX12_pullsOf 40 = .ok (.idiv, 1) := by decide +kernel
theorem dX12_pullsOf_41 : decode cX12_pullsOf 41 = .ok (.goto 13, 3) := by decide +kernel
theorem dX12_pullsOf_44 : decode cX12_pullsOf 44 = .ok (.aload_n 0, 1) := by decide +kernel
theorem dX12_pullsOf_45 : decode cX12_pullsOf 45 = .ok (.aload_n 0, 1) := by decide +kernel
theorem dX12_pullsOf_46 : decode cX12_pullsOf 46 = .ok (.getfield 19, 3) := by decide +kernel
theorem dX12_pullsOf_49 : decode cX12_pullsOf 49 = .ok (.iload_n 1, 1) := by decide +kernel
theorem dX12_pullsOf_50 : decode cX12_pullsOf 50 = .ok (.iload_n 2, 1) := by decide +kernel
theorem dX12_pullsOf_51 : decode cX12_pullsOf 51 = .ok (.invokevirtual 330, 3) := by decide +kernel
theorem dX12_pullsOf_54 : decode cX12_pullsOf 54 = .ok (.bipush (-9), 2) := by decide +kernel
theorem dX12_pullsOf_56 : decode cX12_pullsOf 56 = .ok (.bipush 9, 2) := by decide +kernel
theorem dX12_pullsOf_58 : decode cX12_pullsOf 58 = .ok (.invokestatic 333, 3) := by decide +kernel
theorem dX12_pullsOf_61 : decode cX12_pullsOf 61 = .ok (.ireturn, 1) := by decide +kernel
theorem dX12_fraysOf_0 : decode cX12_fraysOf 0 = .ok (.aload_n 0, 1) := by decide +kernel
theorem dX12_fraysOf_1 : decode cX12_fraysOf 1 = .ok (.iload_n 1, 1) := by decide +kernel
theorem dX12_fraysOf_2 : decode cX12_fraysOf 2 = .ok (.iload_n 2, 1) := by decide +kernel
theorem dX12_fraysOf_3 : decode cX12_fraysOf 3 = .ok (.invokevirtual 326, 3) := by decide +kernel
theorem dX12_fraysOf_6 : decode cX12_fraysOf 6 = .ok (.ifCond .eq 5, 3) := by decide +kernel
theorem dX12_fraysOf_9 : decode cX12_fraysOf 9 = .ok (.iconst 0, 1) := by decide +kernel
theorem dX12_fraysOf_10 : decode cX12_fraysOf 10 = .ok (.ireturn, 1) := by decide +kernel
theorem dX12_fraysOf_11 : decode cX12_fraysOf 11 = .ok (.aload_n 0, 1) := by decide +kernel
theorem dX12_fraysOf_12 : decode cX12_fraysOf 12 = .ok (.getfield 16, 3) := by decide +kernel
theorem dX12_fraysOf_15 : decode cX12_fraysOf 15 = .ok (.iconst (-1), 1) := by decide +kernel
theorem dX12_fraysOf_16 : decode cX12_fraysOf 16 = .ok (.if_icmp .ne 33, 3) := by decide +kernel
theorem dX12_fraysOf_19 : decode cX12_fraysOf 19 = .ok (.aload_n 0, 1) := by decide +kernel
theorem dX12_fraysOf_20 : decode cX12_fraysOf 20 = .ok (.getfield 66, 3) := by decide +kernel
theorem dX12_fraysOf_23 : decode cX12_fraysOf 23 = .ok (.iload_n 1, 1) := by decide +kernel
theorem dX12_fraysOf_24 : decode cX12_fraysOf 24 = .ok (.iconst 1, 1) := by decide +kernel
theorem dX12_fraysOf_25 : decode cX12_fraysOf 25 = .ok (.iadd, 1) := by decide +kernel
theorem dX12_fraysOf_26 : decode cX12_fraysOf 26 = .ok (.iload_n 2, 1) := by decide +kernel
theorem dX12_fraysOf_27 : decode cX12_fraysOf 27 = .ok (.iadd, 1) := by decide +kernel
theorem dX12_fraysOf_28 : decode cX12_fraysOf 28 = .ok (.iaload, 1) := by decide +kernel
theorem dX12_fraysOf_29 : decode cX12_fraysOf 29 = .ok (.bipush 9, 2) := by decide +kernel
theorem dX12_fraysOf_31 : decode cX12_fraysOf 31 = .ok (.idiv, 1) := by decide +kernel
theorem dX12_fraysOf_32 : decode cX12_fraysOf 32 = .ok (.aload_n 0, 1) := by decide +kernel
theorem dX12_fraysOf_33 : decode cX12_fraysOf 33 = .ok (.getfield 66, 3) := by decide +kernel
theorem dX12_fraysOf_36 : decode cX12_fraysOf 36 = .ok (.iload_n 1, 1) := by decide +kernel
theorem dX12_fraysOf_37 : decode cX12_fraysOf 37 = .ok (.bipush 25, 2) := by decide +kernel
theorem dX12_fraysOf_39 : decode cX12_fraysOf 39 = .ok (.iadd, 1) := by decide +kernel
theorem dX12_fraysOf_40 : decode cX12_fraysOf 40 = .ok (.iload_n 2, 1) := by decide +kernel
theorem dX12_fraysOf_41 : decode cX12_fraysOf 41 = .ok (.iadd, 1) := by decide +kernel
theorem dX12_fraysOf_42 : decode cX12_fraysOf 42 = .ok (.iaload, 1) := by decide +kernel
theorem dX12_fraysOf_43 : decode cX12_fraysOf 43 = .ok (.iconst 1, 1) := by decide +kernel
theorem dX12_fraysOf_44 : decode cX12_fraysOf 44 = .ok (.iadd, 1) := by decide +kernel
theorem dX12_fraysOf_45 : decode cX12_fraysOf 45 = .ok (.idiv, 1) := by decide +kernel
theorem dX12_fraysOf_46 : decode cX12_fraysOf 46 = .ok (.goto 13, 3) := by decide +kernel
theorem dX12_fraysOf_49 : decode cX12_fraysOf 49 = .ok (.aload_n 0, 1) := by decide +kernel
theorem dX12_fraysOf_50 : decode cX12_fraysOf 50 = .ok (.aload_n 0, 1) := by decide +kernel
theorem dX12_fraysOf_51 : decode cX12_fraysOf 51 = .ok (.getfield 16, 3) := by decide +kernel
theorem dX12_fraysOf_54 : decode cX12_fraysOf 54 = .ok (.iload_n 1, 1) := by decide +kernel
theorem dX12_fraysOf_55 : decode cX12_fraysOf 55 = .ok (.iload_n 2, 1) := by decide +kernel
theorem dX12_fraysOf_56 : decode cX12_fraysOf 56 = .ok (.invokevirtual 330, 3) := by decide +kernel
theorem dX12_fraysOf_59 : decode cX12_fraysOf 59 = .ok (.iconst 0, 1) := by decide +kernel
theorem dX12_fraysOf_60 : decode cX12_fraysOf 60 = .ok (.bipush 20, 2) := by decide +kernel
theorem dX12_fraysOf_62 : decode cX12_fraysOf 62 = .ok (.invokestatic 333, 3) := by decide +kernel
theorem dX12_fraysOf_65 : decode cX12_fraysOf 65 = .ok (.ireturn, 1) := by decide +kernel
theorem dX12_strains_0 : decode cX12_strains 0 = .ok (.aload_n 0, 1) := by decide +kernel
theorem dX12_strains_1 : decode cX12_strains 1 = .ok (.getfield 66, 3) := by decide +kernel
theorem dX12_strains_4 : decode cX12_strains 4 = .ok (.iload_n 1, 1) := by decide +kernel
theorem dX12_strains_5 : decode cX12_strains 5 = .ok (.iconst 1, 1) := by decide +kernel
theorem dX12_strains_6 : decode cX12_strains 6 = .ok (.iadd, 1) := by decide +kernel
theorem dX12_strains_7 : decode cX12_strains 7 = .ok (.iload_n 2, 1) := by decide +kernel
theorem dX12_strains_8 : decode cX12_strains 8 = .ok (.iadd, 1) := by decide +kernel
theorem dX12_strains_9 : decode cX12_strains 9 = .ok (.bipush 99, 2) := by decide +kernel
theorem dX12_strains_11 : decode cX12_strains 11 = .ok (.aload_n 0, 1) := by decide +kernel
theorem dX12_strains_12 : decode cX12_strains 12 = .ok (.getfield 66, 3) := by decide +kernel
theorem dX12_strains_15 : decode cX12_strains 15 = .ok (.iload_n 1, 1) := by decide +kernel
theorem dX12_strains_16 : decode cX12_strains 16 = .ok (.iconst 1, 1) := by decide +kernel
theorem dX12_strains_17 : decode cX12_strains 17 = .ok (.iadd, 1) := by decide +kernel
theorem dX12_strains_18 : decode cX12_strains 18 = .ok (.iload_n 2, 1) := by decide +kernel
theorem dX12_strains_19 : decode cX12_strains 19 = .ok (.iadd, 1) := by decide +kernel
theorem dX12_strains_20 : decode cX12_strains 20 = .ok (.iaload, 1) := by decide +kernel
theorem dX12_strains_21 : decode cX12_strains 21 = .ok (.iload_n 3, 1) := by decide +kernel
theorem dX12_strains_22 : decode cX12_strains 22 = .ok (.iadd, 1) := by decide +kernel
theorem dX12_strains_23 : decode cX12_strains 23 = .ok (.invokestatic 336, 3) := by decide +kernel
theorem dX12_strains_26 : decode cX12_strains 26 = .ok (.iastore, 1) := by decide +kernel
theorem dX12_strains_27 : decode cX12_strains 27 = .ok (.return_, 1) := by decide +kernel
theorem dX12_loosens_0 : decode cX12_loosens 0 = .ok (.aload_n 0, 1) := by decide +kernel
theorem dX12_loosens_1 : decode cX12_loosens 1 = .ok (.getfield 66, 3) := by decide +kernel
theorem dX12_loosens_4 : decode cX12_loosens 4 = .ok (.iload_n 1, 1) := by decide +kernel
theorem dX12_loosens_5 : decode cX12_loosens 5 = .ok (.bipush 13, 2) := by decide +kernel
theorem dX12_loosens_7 : decode cX12_loosens 7 = .ok (.iadd, 1) := by decide +kernel
theorem dX12_loosens_8 : decode cX12_loosens 8 = .ok (.iload_n 2, 1) := by decide +kernel
theorem dX12_loosens_9 : decode cX12_loosens 9 = .ok (.iadd, 1) := by decide +kernel
theorem dX12_loosens_10 : decode cX12_loosens 10 = .ok (.aload_n 0, 1) := by decide +kernel
theorem dX12_loosens_11 : decode cX12_loosens 11 = .ok (.getfield 66, 3) := by decide +kernel
theorem dX12_loosens_14 : decode cX12_loosens 14 = .ok (.iload_n 1, 1) := by decide +kernel
theorem dX12_loosens_15 : decode cX12_loosens 15 = .ok (.bipush 13, 2) := by decide +kernel
theorem dX12_loosens_17 : decode cX12_loosens 17 = .ok (.iadd, 1) := by decide +kernel
theorem dX12_loosens_18 : decode cX12_loosens 18 = .ok (.iload_n 2, 1) := by decide +kernel
theorem dX12_loosens_19 : decode cX12_loosens 19 = .ok (.iadd, 1) := by decide +kernel
theorem dX12_loosens_20 : decode cX12_loosens 20 = .ok (.iaload, 1) := by decide +kernel
theorem dX12_loosens_21 : decode cX12_loosens 21 = .ok (.iload_n 3, 1) := by decide +kernel
theorem dX12_loosens_22 : decode cX12_loosens 22 = .ok (.isub, 1) := by decide +kernel
theorem dX12_loosens_23 : decode cX12_loosens 23 = .ok (.iconst 0, 1) := by decide +kernel
theorem dX12_loosens_24 : decode cX12_loosens 24 = .ok (.bipush 99, 2) := by decide +kernel
theorem dX12_loosens_26 : decode cX12_loosens 26 = .ok (.invokestatic 333, 3) := by decide +kernel
theorem dX12_loosens_29 : decode cX12_loosens 29 = .ok (.iastore, 1) := by decide +kernel
theorem dX12_loosens_30 : decode cX12_loosens 30 = .ok (.aload_n 0, 1) := by decide +kernel
theorem dX12_loosens_31 : decode cX12_loosens 31 = .ok (.iload_n 1, 1) := by decide +kernel
theorem dX12_loosens_32 : decode cX12_loosens 32 = .ok (.iload_n 2, 1) := by decide +kernel
theorem dX12_loosens_33 : decode cX12_loosens 33 = .ok (.invokevirtual 326, 3) := by decide +kernel
theorem dX12_loosens_36 : decode cX12_loosens 36 = .ok (.ifCond .ne 4, 3) := by decide +kernel
theorem dX12_loosens_39 : decode cX12_loosens 39 = .ok (.return_, 1) := by decide +kernel
theorem dX12_loosens_40 : decode cX12_loosens 40 = .ok (.aload_n 0, 1) := by decide +kernel
theorem dX12_loosens_41 : decode cX12_loosens 41 = .ok (.getfield 66, 3) := by decide +kernel
theorem dX12_loosens_44 : decode cX12_loosens 44 = .ok (.iload_n 1, 1) := by decide +kernel
theorem dX12_loosens_45 : decode cX12_loosens 45 = .ok (.iconst 1, 1) := by decide +kernel
theorem dX12_loosens_46 : decode cX12_loosens 46 = .ok (.iadd, 1) := by decide +kernel
theorem dX12_loosens_47 : decode cX12_loosens 47 = .ok (.iload_n 2, 1) := by decide +kernel
theorem dX12_loosens_48 : decode cX12_loosens 48 = .ok (.iadd, 1) := by decide +kernel
theorem dX12_loosens_49 : decode cX12_loosens 49 = .ok (.iaload, 1) := by decide +kernel
theorem dX12_loosens_50 : decode cX12_loosens 50 = .ok (.iconst 2, 1) := by decide +kernel
theorem dX12_loosens_51 : decode cX12_loosens 51 = .ok (.idiv, 1) := by decide +kernel
theorem dX12_loosens_52 : decode cX12_loosens 52 = .ok (.istore 4, 2) := by decide +kernel
theorem dX12_loosens_54 : decode cX12_loosens 54 = .ok (.aload_n 0, 1) := by decide +kernel
theorem dX12_loosens_55 : decode cX12_loosens 55 = .ok (.iload_n 1, 1) := by decide +kernel
theorem dX12_loosens_56 : decode cX12_loosens 56 = .ok (.aload_n 0, 1) := by decide +kernel
theorem dX12_loosens_57 : decode cX12_loosens 57 = .ok (.iload_n 2, 1) := by decide +kernel
theorem dX12_loosens_58 : decode cX12_loosens 58 = .ok (.invokevirtual 308, 3) := by decide +kernel
theorem dX12_loosens_61 : decode cX12_loosens 61 = .ok (.invokevirtual 326, 3) := by decide +kernel
theorem dX12_loosens_64 : decode cX12_loosens 64 = .ok (.ifCond .ne 15, 3) := by decide +kernel
theorem dX12_loosens_67 : decode cX12_loosens 67 = .ok (.aload_n 0, 1) := by decide +kernel
theorem dX12_loosens_68 : decode cX12_loosens 68 = .ok (.iload_n 1, 1) := by decide +kernel
theorem dX12_loosens_69 : decode cX12_loosens 69 = .ok (.aload_n 0, 1) := by decide +kernel
theorem dX12_loosens_70 : decode cX12_loosens 70 = .ok (.iload_n 2, 1) := by decide +kernel
theorem dX12_loosens_71 : decode cX12_loosens 71 = .ok (.invokevirtual 308, 3) := by decide +kernel
theorem dX12_loosens_74 : decode cX12_loosens 74 = .ok (.iload 4, 2) := by decide +kernel
theorem dX12_loosens_76 : decode cX12_loosens 76 = .ok (.invokevirtual 339, 3) := by decide +kernel
theorem dX12_loosens_79 : decode cX12_loosens 79 = .ok (.aload_n 0, 1) := by decide +kernel
theorem dX12_loosens_80 : decode cX12_loosens 80 = .ok (.iload_n 1, 1) := by decide +kernel
theorem dX12_loosens_81 : decode cX12_loosens 81 = .ok (.aload_n 0, 1) := by decide +kernel
theorem dX12_loosens_82 : decode cX12_loosens 82 = .ok (.iload_n 2, 1) := by decide +kernel
theorem dX12_loosens_83 : decode cX12_loosens 83 = .ok (.invokevirtual 311, 3) := by decide +kernel
theorem dX12_loosens_86 : decode cX12_loosens 86 = .ok (.invokevirtual 326, 3) := by decide +kernel
theorem dX12_loosens_89 : decode cX12_loosens 89 = .ok (.ifCond .ne 15, 3) := by decide +kernel
theorem dX12_loosens_92 : decode cX12_loosens 92 = .ok (.aload_n 0, 1) := by decide +kernel
theorem dX12_loosens_93 : decode cX12_loosens 93 = .ok (.iload_n 1, 1) := by decide +kernel
theorem dX12_loosens_94 : decode cX12_loosens 94 = .ok (.aload_n 0, 1) := by decide +kernel
theorem dX12_loosens_95 : decode cX12_loosens 95 = .ok (.iload_n 2, 1) := by decide +kernel
theorem dX12_loosens_96 : decode cX12_loosens 96 = .ok (.invokevirtual 311, 3) := by decide +kernel
theorem dX12_loosens_99 : decode cX12_loosens 99 = .ok (.iload 4, 2) := by decide +kernel
theorem dX12_loosens_101 : decode cX12_loosens 101 = .ok (.invokevirtual 339, 3) := by decide +kernel
theorem dX12_loosens_104 : decode cX12_loosens 104 = .ok (.aload_n 0, 1) := by decide +kernel
theorem dX12_loosens_105 : decode cX12_loosens 105 = .ok (.getfield 66, 3) := by decide +kernel
theorem dX12_loosens_108 : decode cX12_loosens 108 = .ok (.iload_n 1, 1) := by decide +kernel
theorem dX12_loosens_109 : decode cX12_loosens 109 = .ok (.iconst 1, 1) := by decide +kernel
theorem dX12_loosens_110 : decode cX12_loosens 110 = .ok (.iadd, 1) := by decide +kernel
theorem dX12_loosens_111 : decode cX12_loosens 111 = .ok (.iload_n 2, 1) := by decide +kernel
theorem dX12_loosens_112 : decode cX12_loosens 112 = .ok (.iadd, 1) := by decide +kernel
theorem dX12_loosens_113 : decode cX12_loosens 113 = .ok (.iconst 0, 1) := by decide +kernel
theorem dX12_loosens_114 : decode cX12_loosens 114 = .ok (.iastore, 1) := by decide +kernel
theorem dX12_loosens_115 : decode cX12_loosens 115 = .ok (.return_, 1) := by decide +kernel
theorem dX12_mends_0 : decode cX12_mends 0 = .ok (.aload_n 0, 1) := by decide +kernel
theorem dX12_mends_1 : decode cX12_mends 1 = .ok (.getfield 66, 3) := by decide +kernel
theorem dX12_mends_4 : decode cX12_mends 4 = .ok (.iload_n 1, 1) := by decide +kernel
theorem dX12_mends_5 : decode cX12_mends 5 = .ok (.bipush 43, 2) := by decide +kernel
theorem dX12_mends_7 : decode cX12_mends 7 = .ok (.iadd, 1) := by decide +kernel
theorem dX12_mends_8 : decode cX12_mends 8 = .ok (.iload_n 2, 1) := by decide +kernel
theorem dX12_mends_9 : decode cX12_mends 9 = .ok (.iadd, 1) := by decide +kernel
theorem dX12_mends_10 : decode cX12_mends 10 = .ok (.iaload, 1) := by decide +kernel
theorem dX12_mends_11 : decode cX12_mends 11 = .ok (.ifCond .ne 4, 3) := by decide +kernel
theorem dX12_mends_14 : decode cX12_mends 14 = .ok (.return_, 1) := by decide +kernel
theorem dX12_mends_15 : decode cX12_mends 15 = .ok (.aload_n 0, 1) := by decide +kernel
theorem dX12_mends_16 : decode cX12_mends 16 = .ok (.getfield 66, 3) := by decide +kernel
theorem dX12_mends_19 : decode cX12_mends 19 = .ok (.iload_n 1, 1) := by decide +kernel
theorem dX12_mends_20 : decode cX12_mends 20 = .ok (.bipush 37, 2) := by decide +kernel
theorem dX12_mends_22 : decode cX12_mends 22 = .ok (.iadd, 1) := by decide +kernel
theorem dX12_mends_23 : decode cX12_mends 23 = .ok (.iload_n 2, 1) := by decide +kernel
theorem dX12_mends_24 : decode cX12_mends 24 = .ok (.iadd, 1) := by decide +kernel
theorem dX12_mends_25 : decode cX12_mends 25 = .ok (.iaload, 1) := by decide +kernel
theorem dX12_mends_26 : decode cX12_mends 26 = .ok (.istore_n 3, 1) := by decide +kernel
theorem dX12_mends_27 : decode cX12_mends 27 = .ok (.aload_n 0, 1) := by decide +kernel
theorem dX12_mends_28 : decode cX12_mends 28 = .ok (.getfield 66, 3) := by decide +kernel
theorem dX12_mends_31 : decode cX12_mends 31 = .ok (.iload_n 1, 1) := by decide +kernel
theorem dX12_mends_32 : decode cX12_mends 32 = .ok (.bipush 43, 2) := by decide +kernel
theorem dX12_mends_34 : decode cX12_mends 34 = .ok (.iadd, 1) := by decide +kernel
theorem dX12_mends_35 : decode cX12_mends 35 = .ok (.iload_n 2, 1) := by decide +kernel
theorem dX12_mends_36 : decode cX12_mends 36 = .ok (.iadd, 1) := by decide +kernel
theorem dX12_mends_37 : decode cX12_mends 37 = .ok (.dup2, 1) := by decide +kernel
theorem dX12_mends_38 : decode cX12_mends 38 = .ok (.iaload, 1) := by decide +kernel
theorem dX12_mends_39 : decode cX12_mends 39 = .ok (.iconst 1, 1) := by decide +kernel
theorem dX12_mends_40 : decode cX12_mends 40 = .ok (.isub, 1) := by decide +kernel
theorem dX12_mends_41 : decode cX12_mends 41 = .ok (.iastore, 1) := by decide +kernel
theorem dX12_mends_42 : decode cX12_mends 42 = .ok (.aload_n 0, 1) := by decide +kernel
theorem dX12_mends_43 : decode cX12_mends 43 = .ok (.getfield 66, 3) := by decide +kernel
theorem dX12_mends_46 : decode cX12_mends 46 = .ok (.iload_n 1, 1) := by decide +kernel
theorem dX12_mends_47 : decode cX12_mends 47 = .ok (.bipush 13, 2) := by decide +kernel
theorem dX12_mends_49 : decode cX12_mends 49 = .ok (.iadd, 1) := by decide +kernel
theorem dX12_mends_50 : decode cX12_mends 50 = .ok (.iload_n 3, 1) := by decide +kernel
theorem dX12_mends_51 : decode cX12_mends 51 = .ok (.iadd, 1) := by decide +kernel
theorem dX12_mends_52 : decode cX12_mends 52 = .ok (.bipush 99, 2) := by decide +kernel
theorem dX12_mends_54 : decode cX12_mends 54 = .ok (.aload_n 0, 1) := by decide +kernel
theorem dX12_mends_55 : decode cX12_mends 55 = .ok (.getfield 66, 3) := by decide +kernel
theorem dX12_mends_58 : decode cX12_mends 58 = .ok (.iload_n 1, 1) := by decide +kernel
theorem dX12_mends_59 : decode cX12_mends 59 = .ok (.bipush 13, 2) := by decide +kernel
theorem dX12_mends_61 : decode cX12_mends 61 = .ok (.iadd, 1) := by decide +kernel
theorem dX12_mends_62 : decode cX12_mends 62 = .ok (.iload_n 3, 1) := by decide +kernel
theorem dX12_mends_63 : decode cX12_mends 63 = .ok (.iadd, 1) := by decide +kernel
theorem dX12_mends_64 : decode cX12_mends 64 = .ok (.iaload, 1) := by decide +kernel
theorem dX12_mends_65 : decode cX12_mends 65 = .ok (.iconst 2, 1) := by decide +kernel
theorem dX12_mends_66 : decode cX12_mends 66 = .ok (.aload_n 0, 1) := by decide +kernel
theorem dX12_mends_67 : decode cX12_mends 67 = .ok (.getfield 22, 3) := by decide +kernel
theorem dX12_mends_70 : decode cX12_mends 70 = .ok (.iload_n 2, 1) := by decide +kernel
theorem dX12_mends_71 : decode cX12_mends 71 = .ok (.iaload, 1) := by decide +kernel
theorem dX12_mends_72 : decode cX12_mends 72 = .ok (.imul, 1) := by decide +kernel
theorem dX12_mends_73 : decode cX12_mends 73 = .ok (.iadd, 1) := by decide +kernel
theorem dX12_mends_74 : decode cX12_mends 74 = .ok (.iconst 3, 1) := by decide +kernel
theorem dX12_mends_75 : decode cX12_mends 75 = .ok (.iadd, 1) := by decide +kernel
theorem dX12_mends_76 : decode cX12_mends 76 = .ok (.invokestatic 336, 3) := by decide +kernel
theorem dX12_mends_79 : decode cX12_mends 79 = .ok (.iastore, 1) := by decide +kernel
theorem dX12_mends_80 : decode cX12_mends 80 = .ok (.return_, 1) := by decide +kernel
theorem dX12_goesOn_0 : decode cX12_goesOn 0 = .ok (.aload_n 0, 1) := by decide +kernel
theorem dX12_goesOn_1 : decode cX12_goesOn 1 = .ok (.getfield 66, 3) := by decide +kernel
theorem dX12_goesOn_4 : decode cX12_goesOn 4 = .ok (.iload_n 1, 1) := by decide +kernel
theorem dX12_goesOn_5 : decode cX12_goesOn 5 = .ok (.bipush 37, 2) := by decide +kernel
theorem dX12_goesOn_7 : decode cX12_goesOn 7 = .ok (.iadd, 1) := by decide +kernel
theorem dX12_goesOn_8 : decode cX12_goesOn 8 = .ok (.iload_n 2, 1) := by decide +kernel
theorem dX12_goesOn_9 : decode cX12_goesOn 9 = .ok (.iadd, 1) := by decide +kernel
theorem dX12_goesOn_10 : decode cX12_goesOn 10 = .ok (.aload_n 0, 1) := by decide +kernel
theorem dX12_goesOn_11 : decode cX12_goesOn 11 = .ok (.aload_n 0, 1) := by decide +kernel
theorem dX12_goesOn_12 : decode cX12_goesOn 12 = .ok (.getfield 66, 3) := by decide +kernel
theorem dX12_goesOn_15 : decode cX12_goesOn 15 = .ok (.iload_n 1, 1) := by decide +kernel
theorem dX12_goesOn_16 : decode cX12_goesOn 16 = .ok (.bipush 37, 2) := by decide +kernel
theorem dX12_goesOn_18 : decode cX12_goesOn 18 = .ok (.iadd, 1) := by decide +kernel
theorem dX12_goesOn_19 : decode cX12_goesOn 19 = .ok (.iload_n 2, 1) := by decide +kernel
theorem dX12_goesOn_20 : decode cX12_goesOn 20 = .ok (.iadd, 1) := by decide +kernel
theorem dX12_goesOn_21 : decode cX12_goesOn 21 = .ok (.iaload, 1) := by decide +kernel
theorem dX12_goesOn_22 : decode cX12_goesOn 22 = .ok (.invokevirtual 311, 3) := by decide +kernel
theorem dX12_goesOn_25 : decode cX12_goesOn 25 = .ok (.iastore, 1) := by decide +kernel
theorem dX12_goesOn_26 : decode cX12_goesOn 26 = .ok (.return_, 1) := by decide +kernel
theorem dX12_dayGoes_0 : decode cX12_dayGoes 0 = .ok (.iconst 0, 1) := by decide +kernel
theorem dX12_dayGoes_1 : decode cX12_dayGoes 1 = .ok (.istore_n 2, 1) := by decide +kernel
theorem dX12_dayGoes_2 : decode cX12_dayGoes 2 = .ok (.iload_n 2, 1) := by decide +kernel
theorem dX12_dayGoes_3 : decode cX12_dayGoes 3 = .ok (.aload_n 0, 1) := by decide +kernel
theorem dX12_dayGoes_4 : decode cX12_dayGoes 4 = .ok (.getfield 7, 3) := by decide +kernel
theorem dX12_dayGoes_7 : decode cX12_dayGoes 7 = .ok (.if_icmp .ge 21, 3) := by decide +kernel
theorem dX12_dayGoes_10 : decode cX12_dayGoes 10 = .ok (.aload_n 0, 1) := by decide +kernel
theorem dX12_dayGoes_11 : decode cX12_dayGoes 11 = .ok (.getfield 78, 3) := by decide +kernel
theorem dX12_dayGoes_14 : decode cX12_dayGoes 14 = .ok (.iload_n 2, 1) := by decide +kernel
theorem dX12_dayGoes_15 : decode cX12_dayGoes 15 = .ok (.aload_n 0, 1) := by decide +kernel
theorem dX12_dayGoes_16 : decode cX12_dayGoes 16 = .ok (.iload_n 1, 1) := by decide +kernel
theorem dX12_dayGoes_17 : decode cX12_dayGoes 17 = .ok (.iload_n 2, 1) := by decide +kernel
theorem dX12_dayGoes_18 : decode cX12_dayGoes 18 = .ok (.invokevirtual 343, 3) := by decide +kernel
theorem dX12_dayGoes_21 : decode cX12_dayGoes 21 = .ok (.iastore, 1) := by decide +kernel
theorem dX12_dayGoes_22 : decode cX12_dayGoes 22 = .ok (.iinc 2 1, 3) := by decide +kernel
theorem dX12_dayGoes_25 : decode cX12_dayGoes 25 = .ok (.goto (-23), 3) := by decide +kernel
theorem dX12_dayGoes_28 : decode cX12_dayGoes 28 = .ok (.iconst 0, 1) := by decide +kernel
theorem dX12_dayGoes_29 : decode cX12_dayGoes 29 = .ok (.istore_n 2, 1) := by decide +kernel
theorem dX12_dayGoes_30 : decode cX12_dayGoes 30 = .ok (.iload_n 2, 1) := by decide +kernel
theorem dX12_dayGoes_31 : decode cX12_dayGoes 31 = .ok (.aload_n 0, 1) := by decide +kernel
theorem dX12_dayGoes_32 : decode cX12_dayGoes 32 = .ok (.getfield 7, 3) := by decide +kernel
theorem dX12_dayGoes_35 : decode cX12_dayGoes 35 = .ok (.if_icmp .ge 51, 3) := by decide +kernel
theorem dX12_dayGoes_38 : decode cX12_dayGoes 38 = .ok (.aload_n 0, 1) := by decide +kernel
theorem dX12_dayGoes_39 : decode cX12_dayGoes 39 = .ok (.iload_n 1, 1) := by decide +kernel
theorem dX12_dayGoes_40 : decode cX12_dayGoes 40 = .ok (.iload_n 2, 1) := by decide +kernel
theorem dX12_dayGoes_41 : decode cX12_dayGoes 41 = .ok (.invokevirtual 326, 3) := by decide +kernel
theorem dX12_dayGoes_44 : decode cX12_dayGoes 44 = .ok (.ifCond .ne 36, 3) := by decide +kernel
theorem dX12_dayGoes_47 : decode cX12_dayGoes 47 = .ok (.aload_n 0, 1) := by decide +kernel
theorem dX12_dayGoes_48 : decode cX12_dayGoes 48 = .ok (.getfield 66, 3) := by decide +kernel
theorem dX12_dayGoes_51 : decode cX12_dayGoes 51 = .ok (.iload_n 1, 1) := by decide +kernel
theorem dX12_dayGoes_52 : decode cX12_dayGoes 52 = .ok (.iconst 1, 1) := by decide +kernel
theorem dX12_dayGoes_53 : decode cX12_dayGoes 53 = .ok (.iadd, 1) := by decide +kernel
theorem dX12_dayGoes_54 : decode cX12_dayGoes 54 = .ok (.iload_n 2, 1) := by decide +kernel
theorem dX12_dayGoes_55 : decode cX12_dayGoes 55 = .ok (.iadd, 1) := by decide +kernel
theorem dX12_dayGoes_56 : decode cX12_dayGoes 56 = .ok (.aload_n 0, 1) := by decide +kernel
theorem dX12_dayGoes_57 : decode cX12_dayGoes 57 = .ok (.getfield 66, 3) := by decide +kernel
theorem dX12_dayGoes_60 : decode cX12_dayGoes 60 = .ok (.iload_n 1, 1) := by decide +kernel
theorem dX12_dayGoes_61 : decode cX12_dayGoes 61 = .ok (.iconst 1, 1) := by decide +kernel
theorem dX12_dayGoes_62 : decode cX12_dayGoes 62 = .ok (.iadd, 1) := by decide +kernel
theorem dX12_dayGoes_63 : decode cX12_dayGoes 63 = .ok (.iload_n 2, 1) := by decide +kernel
theorem dX12_dayGoes_64 : decode cX12_dayGoes 64 = .ok (.iadd, 1) := by decide +kernel
theorem dX12_dayGoes_65 : decode cX12_dayGoes 65 = .ok (.iaload, 1) := by decide +kernel
theorem dX12_dayGoes_66 : decode cX12_dayGoes 66 = .ok (.aload_n 0, 1) := by decide +kernel
theorem dX12_dayGoes_67 : decode cX12_dayGoes 67 = .ok (.getfield 78, 3) := by decide +kernel
theorem dX12_dayGoes_70 : decode cX12_dayGoes 70 = .ok (.iload_n 2, 1) := by decide +kernel
theorem dX12_dayGoes_71 : decode cX12_dayGoes 71 = .ok (.iaload, 1) := by decide +kernel
theorem dX12_dayGoes_72 : decode cX12_dayGoes 72 = .ok (.iadd, 1) := by decide +kernel
theorem dX12_dayGoes_73 : decode cX12_dayGoes 73 = .ok (.iconst 0, 1) := by decide +kernel
theorem dX12_dayGoes_74 : decode cX12_dayGoes 74 = .ok (.bipush 99, 2) := by decide +kernel
theorem dX12_dayGoes_76 : decode cX12_dayGoes 76 = .ok (.invokestatic 333, 3) := by decide +kernel
theorem dX12_dayGoes_79 : decode cX12_dayGoes 79 = .ok (.iastore, 1) := by decide +kernel
theorem dX12_dayGoes_80 : decode cX12_dayGoes 80 = .ok (.iinc 2 1, 3) := by decide +kernel
theorem dX12_dayGoes_83 : decode cX12_dayGoes 83 = .ok (.goto (-53), 3) := by decide +kernel
theorem dX12_dayGoes_86 : decode cX12_dayGoes 86 = .ok (.iconst 0, 1) := by decide +kernel
theorem dX12_dayGoes_87 : decode cX12_dayGoes 87 = .ok (.istore_n 2, 1) := by decide +kernel
theorem dX12_dayGoes_88 : decode cX12_dayGoes 88 = .ok (.iload_n 2, 1) := by decide +kernel
theorem dX12_dayGoes_89 : decode cX12_dayGoes 89 = .ok (.aload_n 0, 1) := by decide +kernel
theorem dX12_dayGoes_90 : decode cX12_dayGoes 90 = .ok (.getfield 7, 3) := by decide +kernel
theorem dX12_dayGoes_93 : decode cX12_dayGoes 93 = .ok (.if_icmp .ge 30, 3) := by decide +kernel
theorem dX12_dayGoes_96 : decode cX12_dayGoes 96 = .ok (.aload_n 0, 1) := by decide +kernel
theorem dX12_dayGoes_97 : decode cX12_dayGoes 97 = .ok (.iload_n 1, 1) := by decide +kernel
theorem dX12_dayGoes_98 : decode cX12_dayGoes 98 = .ok (.iload_n 2, 1) := by decide +kernel
theorem dX12_dayGoes_99 : decode cX12_dayGoes 99 = .ok (.invokevirtual 326, 3) := by decide +kernel
theorem dX12_dayGoes_102 : decode cX12_dayGoes 102 = .ok (.ifCond .ne 15, 3) := by decide +kernel
theorem dX12_dayGoes_105 : decode cX12_dayGoes 105 = .ok (.aload_n 0, 1) := by decide +kernel
theorem dX12_dayGoes_106 : decode cX12_dayGoes 106 = .ok (.iload_n 1, 1) := by decide +kernel
theorem dX12_dayGoes_107 : decode cX12_dayGoes 107 = .ok (.iload_n 2, 1) := by decide +kernel
theorem dX12_dayGoes_108 : decode cX12_dayGoes 108 = .ok (.aload_n 0, 1) := by decide +kernel
theorem dX12_dayGoes_109 : decode cX12_dayGoes 109 = .ok (.iload_n 1, 1) := by decide +kernel
theorem dX12_dayGoes_110 : decode cX12_dayGoes 110 = .ok (.iload_n 2, 1) := by decide +kernel
theorem dX12_dayGoes_111 : decode cX12_dayGoes 111 = .ok (.invokevirtual 346, 3) := by decide +kernel
theorem dX12_dayGoes_114 : decode cX12_dayGoes 114 = .ok (.invokevirtual 349, 3) := by decide +kernel
theorem dX12_dayGoes_117 : decode cX12_dayGoes 117 = .ok (.iinc 2 1, 3) := by decide +kernel
theorem dX12_dayGoes_120 : decode cX12_dayGoes 120 = .ok (.goto (-32), 3) := by decide +kernel
theorem dX12_dayGoes_123 : decode cX12_dayGoes 123 = .ok (.aload_n 0, 1) := by decide +kernel
theorem dX12_dayGoes_124 : decode cX12_dayGoes 124 = .ok (.getfield 66, 3) := by decide +kernel
theorem dX12_dayGoes_127 : decode cX12_dayGoes 127 = .ok (.iload_n 1, 1) := by decide +kernel
theorem dX12_dayGoes_128 : decode cX12_dayGoes 128 = .ok (.iconst 0, 1) := by decide +kernel
theorem dX12_dayGoes_129 : decode cX12_dayGoes 129 = .ok (.iadd, 1) := by decide +kernel
theorem dX12_dayGoes_130 : decode cX12_dayGoes 130 = .ok (.iaload, 1) := by decide +kernel
theorem dX12_dayGoes_131 : decode cX12_dayGoes 131 = .ok (.aload_n 0, 1) := by decide +kernel
theorem dX12_dayGoes_132 : decode cX12_dayGoes 132 = .ok (.getfield 13, 3) := by decide +kernel
theorem dX12_dayGoes_135 : decode cX12_dayGoes 135 = .ok (.irem, 1) := by decide +kernel
theorem dX12_dayGoes_136 : decode cX12_dayGoes 136 = .ok (.aload_n 0, 1) := by decide +kernel
theorem dX12_dayGoes_137 : decode cX12_dayGoes 137 = .ok (.getfield 13, 3) := by decide +kernel
theorem dX12_dayGoes_140 : decode cX12_dayGoes 140 = .ok (.iconst 1, 1) := by decide +kernel
theorem dX12_dayGoes_141 : decode cX12_dayGoes 141 = .ok (.isub, 1) := by decide +kernel
theorem dX12_dayGoes_142 : decode cX12_dayGoes 142 = .ok (.if_icmp .ne 31, 3) := by decide +kernel
theorem dX12_dayGoes_145 : decode cX12_dayGoes 145 = .ok (.iconst 0, 1) := by decide +kernel
theorem dX12_dayGoes_146 : decode cX12_dayGoes 146 = .ok (.istore_n 2, 1) := by decide +kernel
theorem dX12_dayGoes_147 : decode cX12_dayGoes 147 = .ok (.iload_n 2, 1) := by decide +kernel
theorem dX12_dayGoes_148 : decode cX12_dayGoes 148 = .ok (.aload_n 0, 1) := by decide +kernel
theorem dX12_dayGoes_149 : decode cX12_dayGoes 149 = .ok (.getfield 284, 3) := by decide +kernel
theorem dX12_dayGoes_152 : decode cX12_dayGoes 152 = .ok (.if_icmp .ge 21, 3) := by decide +kernel
theorem dX12_dayGoes_155 : decode cX12_dayGoes 155 = .ok (.aload_n 0, 1) := by decide +kernel
theorem dX12_dayGoes_156 : decode cX12_dayGoes 156 = .ok (.iload_n 1, 1) := by decide +kernel
theorem dX12_dayGoes_157 : decode cX12_dayGoes 157 = .ok (.iload_n 2, 1) := by decide +kernel
theorem dX12_dayGoes_158 : decode cX12_dayGoes 158 = .ok (.invokevirtual 352, 3) := by decide +kernel
theorem dX12_dayGoes_161 : decode cX12_dayGoes 161 = .ok (.aload_n 0, 1) := by decide +kernel
theorem dX12_dayGoes_162 : decode cX12_dayGoes 162 = .ok (.iload_n 1, 1) := by decide +kernel
theorem dX12_dayGoes_163 : decode cX12_dayGoes 163 = .ok (.iload_n 2, 1) := by decide +kernel
theorem dX12_dayGoes_164 : decode cX12_dayGoes 164 = .ok (.invokevirtual 356, 3) := by decide +kernel
theorem dX12_dayGoes_167 : decode cX12_dayGoes 167 = .ok (.iinc 2 1, 3) := by decide +kernel
theorem dX12_dayGoes_170 : decode cX12_dayGoes 170 = .ok (.goto (-23), 3) := by decide +kernel
theorem dX12_dayGoes_173 : decode cX12_dayGoes 173 = .ok (.aload_n 0, 1) := by decide +kernel
theorem dX12_dayGoes_174 : decode cX12_dayGoes 174 = .ok (.getfield 66, 3) := by decide +kernel
theorem dX12_dayGoes_177 : decode cX12_dayGoes 177 = .ok (.iload_n 1, 1) := by decide +kernel
theorem dX12_dayGoes_178 : decode cX12_dayGoes 178 = .ok (.iconst 0, 1) := by decide +kernel
theorem dX12_dayGoes_179 : decode cX12_dayGoes 179 = .ok (.iadd, 1) := by decide +kernel
theorem dX12_dayGoes_180 : decode cX12_dayGoes 180 = .ok (.dup2, 1) := by decide +kernel
theorem dX12_dayGoes_181 : decode cX12_dayGoes 181 = .ok (.iaload, 1) := by decide +kernel
theorem dX12_dayGoes_182 : decode cX12_dayGoes 182 = .ok (.iconst 1, 1) := by decide +kernel
theorem dX12_dayGoes_183 : decode cX12_dayGoes 183 = .ok (.iadd, 1) := by decide +kernel
theorem dX12_dayGoes_184 : decode cX12_dayGoes 184 = .ok (.iastore, 1) := by decide +kernel
theorem dX12_dayGoes_185 : decode cX12_dayGoes 185 = .ok (.return_, 1) := by decide +kernel
theorem dX12_daysGo_0 : decode cX12_daysGo 0 = .ok (.iconst 0, 1) := by decide +kernel
theorem dX12_daysGo_1 : decode cX12_daysGo 1 = .ok (.istore_n 2, 1) := by decide +kernel
theorem dX12_daysGo_2 : decode cX12_daysGo 2 = .ok (.iload_n 2, 1) := by decide +kernel
theorem dX12_daysGo_3 : decode cX12_daysGo 3 = .ok (.iload_n 1, 1) := by decide +kernel
theorem dX12_daysGo_4 : decode cX12_daysGo 4 = .ok (.if_icmp .ge 15, 3) := by decide +kernel
theorem dX12_daysGo_7 : decode cX12_daysGo 7 = .ok (.aload_n 0, 1) := by decide +kernel
theorem dX12_daysGo_8 : decode cX12_daysGo 8 = .ok (.bipush 49, 2) := by decide +kernel
theorem dX12_daysGo_10 : decode cX12_daysGo 10 = .ok (.invokevirtual 359, 3) := by decide +kernel
theorem dX12_daysGo_13 : decode cX12_daysGo 13 = .ok (.iinc 2 1, 3) := by decide +kernel
theorem dX12_daysGo_16 : decode cX12_daysGo 16 = .ok (.goto (-14), 3) := by decide +kernel
theorem dX12_daysGo_19 : decode cX12_daysGo 19 = .ok (.return_, 1) := by decide +kernel
theorem dX12_openOnes_0 : decode cX12_openOnes 0 = .ok (.iconst 0, 1) := by decide +kernel
theorem dX12_openOnes_1 : decode cX12_openOnes 1 = .ok (.istore_n 2, 1) := by decide +kernel
theorem dX12_openOnes_2 : decode cX12_openOnes 2 = .ok (.iconst 0, 1) := by decide +kernel
theorem dX12_openOnes_3 : decode cX12_openOnes 3 = .ok (.istore_n 3, 1) := by decide +kernel
theorem dX12_openOnes_4 : decode cX12_openOnes 4 = .ok (.iload_n 3, 1) := by decide +kernel
theorem dX12_openOnes_5 : decode cX12_openOnes 5 = .ok (.aload_n 0, 1) := by decide +kernel
theorem dX12_openOnes_6 : decode cX12_openOnes 6 = .ok (.getfield 7, 3) := by decide +kernel
theorem dX12_openOnes_9 : decode cX12_openOnes 9 = .ok (.if_icmp .ge 28, 3) := by decide +kernel
theorem dX12_openOnes_12 : decode cX12_openOnes 12 = .ok (.iload_n 2, 1) := by decide +kernel
theorem dX12_openOnes_13 : decode cX12_openOnes 13 = .ok (.aload_n 0, 1) := by decide +kernel
theorem dX12_openOnes_14 : decode cX12_openOnes 14 = .ok (.iload_n 1, 1) := by decide +kernel
theorem dX12_openOnes_15 : decode cX12_openOnes 15 = .ok (.iload_n 3, 1) := by decide +kernel
theorem dX12_openOnes_16 : decode cX12_openOnes 16 = .ok (.invokevirtual 326, 3) := by decide +kernel
theorem dX12_openOnes_19 : decode cX12_openOnes 19 = .ok (.ifCond .eq 9, 3) := by decide +kernel
theorem dX12_openOnes_22 : decode cX12_openOnes 22 = .ok (.iconst 1, 1) := by decide +kernel
theorem dX12_openOnes_23 : decode cX12_openOnes 23 = .ok (.iload_n 3, 1) := by decide +kernel
theorem dX12_openOnes_24 : decode cX12_openOnes 24 = .ok (.ishl, 1) := by decide +kernel
theorem dX12_openOnes_25 : decode cX12_openOnes 25 = .ok (.goto 4, 3) := by decide +kernel
theorem dX12_openOnes_28 : decode cX12_openOnes 28 = .ok (.iconst 0, 1) := by decide +kernel
theorem dX12_openOnes_29 : decode cX12_openOnes 29 = .ok (.ior, 1) := by decide +kernel
theorem dX12_openOnes_30 : decode cX12_openOnes 30 = .ok (.istore_n 2, 1) := by decide +kernel
theorem dX12_openOnes_31 : decode cX12_openOnes 31 = .ok (.iinc 3 1, 3) := by decide +kernel
theorem dX12_openOnes_34 : decode cX12_openOnes 34 = .ok (.goto (-30), 3) := by decide +kernel
theorem dX12_openOnes_37 : decode cX12_openOnes 37 = .ok (.iload_n 2, 1) := by decide +kernel
theorem dX12_openOnes_38 : decode cX12_openOnes 38 = .ok (.ireturn, 1) := by decide +kernel
theorem dX12_sumOf_0 : decode cX12_sumOf 0 = .ok (.iconst 0, 1) := by decide +kernel
theorem dX12_sumOf_1 : decode cX12_sumOf 1 = .ok (.istore 4, 2) := by decide +kernel
theorem dX12_sumOf_3 : decode cX12_sumOf 3 = .ok (.iconst 0, 1) := by decide +kernel
theorem dX12_sumOf_4 : decode cX12_sumOf 4 = .ok (.istore 5, 2) := by decide +kernel
theorem dX12_sumOf_6 : decode cX12_sumOf 6 = .ok (.iload 5, 2) := by decide +kernel
theorem dX12_sumOf_8 : decode cX12_sumOf 8 = .ok (.iload_n 3, 1) := by decide +kernel
theorem dX12_sumOf_9 : decode cX12_sumOf 9 = .ok (.if_icmp .ge 25, 3) := by decide +kernel
theorem dX12_sumOf_12 : decode cX12_sumOf 12 = .ok (.iload 4, 2) := by decide +kernel
theorem dX12_sumOf_14 : decode cX12_sumOf 14 = .ok (.aload_n 0, 1) := by decide +kernel
theorem dX12_sumOf_15 : decode cX12_sumOf 15 = .ok (.getfield 66, 3) := by decide +kernel
theorem dX12_sumOf_18 : decode cX12_sumOf 18 = .ok (.iload_n 1, 1) := by decide +kernel
theorem dX12_sumOf_19 : decode cX12_sumOf 19 = .ok (.iload_n 2, 1) := by decide +kernel
theorem dX12_sumOf_20 : decode cX12_sumOf 20 = .ok (.iadd, 1) := by decide +kernel
theorem dX12_sumOf_21 : decode cX12_sumOf 21 = .ok (.iload 5, 2) := by decide +kernel
theorem dX12_sumOf_23 : decode cX12_sumOf 23 = .ok (.iadd, 1) := by decide +kernel
theorem dX12_sumOf_24 : decode cX12_sumOf 24 = .ok (.iaload, 1) := by decide +kernel
theorem dX12_sumOf_25 : decode cX12_sumOf 25 = .ok (.iadd, 1) := by decide +kernel
theorem dX12_sumOf_26 : decode cX12_sumOf 26 = .ok (.istore 4, 2) := by decide +kernel
theorem dX12_sumOf_28 : decode cX12_sumOf 28 = .ok (.iinc 5 1, 3) := by decide +kernel
theorem dX12_sumOf_31 : decode cX12_sumOf 31 = .ok (.goto (-25), 3) := by decide +kernel
theorem dX12_sumOf_34 : decode cX12_sumOf 34 = .ok (.iload 4, 2) := by decide +kernel
theorem dX12_sumOf_36 : decode cX12_sumOf 36 = .ok (.ireturn, 1) := by decide +kernel
theorem dX12_idle_0 : decode cX12_idle 0 = .ok (.iconst 0, 1) := by decide +kernel
theorem dX12_idle_1 : decode cX12_idle 1 = .ok (.istore_n 1, 1) := by decide +kernel
theorem dX12_idle_2 : decode cX12_idle 2 = .ok (.iconst 0, 1) := by decide +kernel
theorem dX12_idle_3 : decode cX12_idle 3 = .ok (.istore_n 2, 1) := by decide +kernel
theorem dX12_idle_4 : decode cX12_idle 4 = .ok (.iload_n 2, 1) := by decide +kernel
theorem dX12_idle_5 : decode cX12_idle 5 = .ok (.aload_n 0, 1) := by decide +kernel
theorem dX12_idle_6 : decode cX12_idle 6 = .ok (.getfield 284, 3) := by decide +kernel
theorem dX12_idle_9 : decode cX12_idle 9 = .ok (.if_icmp .ge 54, 3) := by decide +kernel
theorem dX12_idle_12 : decode cX12_idle 12 = .ok (.iload_n 1, 1) := by decide +kernel
theorem dX12_idle_13 : decode cX12_idle 13 = .ok (.aload_n 0, 1) := by decide +kernel
theorem dX12_idle_14 : decode cX12_idle 14 = .ok (.getfield 66, 3) := by decide +kernel
theorem dX12_idle_17 : decode cX12_idle 17 = .ok (.bipush 43, 2) := by decide +kernel
theorem dX12_idle_19 : decode cX12_idle 19 = .ok (.iload_n 2, 1) := by decide +kernel
theorem dX12_idle_20 : decode cX12_idle 20 = .ok (.iadd, 1) := by decide +kernel
theorem dX12_idle_21 : decode cX12_idle 21 = .ok (.iaload, 1) := by decide +kernel
theorem dX12_idle_22 : decode cX12_idle 22 = .ok (.ifCond .eq 26, 3) := by decide +kernel
theorem dX12_idle_25 : decode cX12_idle 25 = .ok (.aload_n 0, 1) := by decide +kernel
theorem dX12_idle_26 : decode cX12_idle 26 = .ok (.iconst 0, 1) := by decide +kernel
theorem dX12_idle_27 : decode cX12_idle 27 = .ok (.aload_n 0, 1) := by decide +kernel
theorem dX12_idle_28 : decode cX12_idle 28 = .ok (.getfield 66, 3) := by decide +kernel
theorem dX12_idle_31 : decode cX12_idle 31 = .ok (.bipush 37, 2) := by decide +kernel
theorem dX12_idle_33 : decode cX12_idle 33 = .ok (.iload_n 2, 1) := by decide +kernel
theorem dX12_idle_34 : decode cX12_idle 34 = .ok (.iadd, 1) := by decide +kernel
theorem dX12_idle_35 : decode cX12_idle 35 = .ok (.iaload, 1) := by decide +kernel
theorem dX12_idle_36 : decode cX12_idle 36 = .ok (.invokevirtual 317, 3) := by decide +kernel
theorem dX12_idle_39 : decode cX12_idle 39 = .ok (.iconst 1, 1) := by decide +kernel
theorem dX12_idle_40 : decode cX12_idle 40 = .ok (.iload_n 2, 1) := by decide +kernel
theorem dX12_idle_41 : decode cX12_idle 41 = .ok (.ishl, 1) := by decide +kernel
theorem dX12_idle_42 : decode cX12_idle 42 = .ok (.iconst 1, 1) := by decide +kernel
theorem dX12_idle_43 : decode cX12_idle 43 = .ok (.isub, 1) := by decide +kernel
theorem dX12_idle_44 : decode cX12_idle 44 = .ok (.iand, 1) := by decide +kernel
theorem dX12_idle_45 : decode cX12_idle 45 = .ok (.ifCond .eq 9, 3) := by decide +kernel
theorem dX12_idle_48 : decode cX12_idle 48 = .ok (.iconst 1, 1) := by decide +kernel
theorem dX12_idle_49 : decode cX12_idle 49 = .ok (.iload_n 2, 1) := by decide +kernel
theorem dX12_idle_50 : decode cX12_idle 50 = .ok (.ishl, 1) := by decide +kernel
theorem dX12_idle_51 : decode cX12_idle 51 = .ok (.goto 4, 3) := by decide +kernel
theorem dX12_idle_54 : decode cX12_idle 54 = .ok (.iconst 0, 1) := by decide +kernel
theorem dX12_idle_55 : decode cX12_idle 55 = .ok (.ior, 1) := by decide +kernel
theorem dX12_idle_56 : decode cX12_idle 56 = .ok (.istore_n 1, 1) := by decide +kernel
theorem dX12_idle_57 : decode cX12_idle 57 = .ok (.iinc 2 1, 3) := by decide +kernel
theorem dX12_idle_60 : decode cX12_idle 60 = .ok (.goto (-56), 3) := by decide +kernel
theorem dX12_idle_63 : decode cX12_idle 63 = .ok (.iload_n 1, 1) := by decide +kernel
theorem dX12_idle_64 : decode cX12_idle 64 = .ok (.ireturn, 1) := by decide +kernel
theorem dX12_count_0 : decode cX12_count 0 = .ok (.aload_n 0, 1) := by decide +kernel
theorem dX12_count_1 : decode cX12_count 1 = .ok (.iconst 0, 1) := by decide +kernel
theorem dX12_count_2 : decode cX12_count 2 = .ok (.putfield 117, 3) := by decide +kernel
theorem dX12_count_5 : decode cX12_count 5 = .ok (.aload_n 0, 1) := by decide +kernel
theorem dX12_count_6 : decode cX12_count 6 = .ok (.iload_n 1, 1) := by decide +kernel
theorem dX12_count_7 : decode cX12_count 7 = .ok (.iconst 0, 1) := by decide +kernel
theorem dX12_count_8 : decode cX12_count 8 = .ok (.bipush 14, 2) := by decide +kernel
theorem dX12_count_10 : decode cX12_count 10 = .ok (.invokestatic 362, 3) := by decide +kernel
theorem dX12_count_13 : decode cX12_count 13 = .ok (.iconst 1, 1) := by decide +kernel
theorem dX12_count_14 : decode cX12_count 14 = .ok (.invokevirtual 277, 3) := by decide +kernel
theorem dX12_count_17 : decode cX12_count 17 = .ok (.ifCond .ne 5, 3) := by decide +kernel
theorem dX12_count_20 : decode cX12_count 20 = .ok (.iconst 0, 1) := by decide +kernel
theorem dX12_count_21 : decode cX12_count 21 = .ok (.ireturn, 1) := by decide +kernel
theorem dX12_count_22 : decode cX12_count 22 = .ok (.iload_n 1, 1) := by decide +kernel
theorem dX12_count_23 : decode cX12_count 23 = .ok (.tableswitch 138 0 11 #[61, 66, 71, 76, 81, 88, 94, 106, 118, 123, 128, 133], 61) := by decide +kernel
theorem dX12_count_84 : decode cX12_count 84 = .ok (.aload_n 0, 1) := by decide +kernel
theorem dX12_count_85 : decode cX12_count 85 = .ok (.getfield 7, 3) := by decide +kernel
theorem dX12_count_88 : decode cX12_count 88 = .ok (.ireturn, 1) := by decide +kernel
theorem dX12_count_89 : decode cX12_count 89 = .ok (.aload_n 0, 1) := by decide +kernel
theorem dX12_count_90 : decode cX12_count 90 = .ok (.getfield 284, 3) := by decide +kernel
theorem dX12_count_93 : decode cX12_count 93 = .ok (.ireturn, 1) := by decide +kernel
theorem dX12_count_94 : decode cX12_count 94 = .ok (.aload_n 0, 1) := by decide +kernel
theorem dX12_count_95 : decode cX12_count 95 = .ok (.getfield 287, 3) := by decide +kernel
theorem dX12_count_98 : decode cX12_count 98 = .ok (.ireturn, 1) := by decide +kernel
theorem dX12_count_99 : decode cX12_count 99 = .ok (.aload_n 0, 1) := by decide +kernel
theorem dX12_count_100 : decode cX12_count 100 = .ok (.getfield 13, 3) := by decide +kernel
theorem dX12_count_103 : decode cX12_count 103 = .ok (.ireturn, 1) := by decide +kernel
theorem dX12_count_104 : decode cX12_count 104 = .ok (.aload_n 0, 1) := by decide +kernel
theorem dX12_count_105 : decode cX12_count 105 = .ok (.getfield 66, 3) := by decide +kernel
theorem dX12_count_108 : decode cX12_count 108 = .ok (.iconst 0, 1) := by decide +kernel
theorem dX12_count_109 : decode cX12_count 109 = .ok (.iaload, 1) := by decide +kernel
theorem dX12_count_110 : decode cX12_count 110 = .ok (.ireturn, 1) := by decide +kernel
theorem dX12_count_111 : decode cX12_count 111 = .ok (.aload_n 0, 1) := by decide +kernel
theorem dX12_count_112 : decode cX12_count 112 = .ok (.iconst 0, 1) := by decide +kernel
theorem dX12_count_113 : decode cX12_count 113 = .ok (.invokevirtual 366, 3) := by decide +kernel
theorem dX12_count_116 : decode cX12_count 116 = .ok (.ireturn, 1) := by decide +kernel
theorem dX12_count_117 : decode cX12_count 117 = .ok (.aload_n 0, 1) := by decide +kernel
theorem dX12_count_118 : decode cX12_count 118 = .ok (.iconst 0, 1) := by decide +kernel
theorem dX12_count_119 : decode cX12_count 119 = .ok (.bipush 13, 2) := by decide +kernel
theorem dX12_count_121 : decode cX12_count 121 = .ok (.aload_n 0, 1) := by decide +kernel
theorem dX12_count_122 : decode cX12_count 122 = .ok (.getfield 7, 3) := by decide +kernel
theorem dX12_count_125 : decode cX12_count 125 = .ok (.invokevirtual 369, 3) := by decide +kernel
theorem dX12_count_128 : decode cX12_count 128 = .ok (.ireturn, 1) := by decide +kernel
theorem dX12_count_129 : decode cX12_count 129 = .ok (.aload_n 0, 1) := by decide +kernel
theorem dX12_count_130 : decode cX12_count 130 = .ok (.iconst 0, 1) := by decide +kernel
theorem dX12_count_131 : decode cX12_count 131 = .ok (.bipush 43, 2) := by decide +kernel
theorem dX12_count_133 : decode cX12_count 133 = .ok (.aload_n 0, 1) := by decide +kernel
theorem dX12_count_134 : decode cX12_count 134 = .ok (.getfield 284, 3) := by decide +kernel
theorem dX12_count_137 : decode cX12_count 137 = .ok (.invokevirtual 369, 3) := by decide +kernel
theorem dX12_count_140 : decode cX12_count 140 = .ok (.ireturn, 1) := by decide +kernel
theorem dX12_count_141 : decode cX12_count 141 = .ok (.aload_n 0, 1) := by decide +kernel
theorem dX12_count_142 : decode cX12_count 142 = .ok (.invokevirtual 372, 3) := by decide +kernel
theorem dX12_count_145 : decode cX12_count 145 = .ok (.ireturn, 1) := by decide +kernel
theorem dX12_count_146 : decode cX12_count 146 = .ok (.aload_n 0, 1) := by decide +kernel
theorem dX12_count_147 : decode cX12_count 147 = .ok (.getfield 294, 3) := by decide +kernel
theorem dX12_count_150 : decode cX12_count 150 = .ok (.ireturn, 1) := by decide +kernel
theorem dX12_count_151 : decode cX12_count 151 = .ok (.aload_n 0, 1) := by decide +kernel
theorem dX12_count_152 : decode cX12_count 152 = .ok (.getfield 297, 3) := by decide +kernel
theorem dX12_count_155 : decode cX12_count 155 = .ok (.ireturn, 1) := by decide +kernel
theorem dX12_count_156 : decode cX12_count 156 = .ok (.aload_n 0, 1) := by decide +kernel
theorem dX12_count_157 : decode cX12_count 157 = .ok (.getfield 120, 3) := by decide +kernel
theorem dX12_count_160 : decode cX12_count 160 = .ok (.ireturn, 1) := by decide +kernel
theorem dX12_count_161 : decode cX12_count 161 = .ok (.aload_n 0, 1) := by decide +kernel
theorem dX12_count_162 : decode cX12_count 162 = .ok (.getfield 41, 3) := by decide +kernel
theorem dX12_count_165 : decode cX12_count 165 = .ok (.iload_n 1, 1) := by decide +kernel
theorem dX12_count_166 : decode cX12_count 166 = .ok (.bipush 12, 2) := by decide +kernel
theorem dX12_count_168 : decode cX12_count 168 = .ok (.isub, 1) := by decide +kernel
theorem dX12_count_169 : decode cX12_count 169 = .ok (.iaload, 1) := by decide +kernel
theorem dX12_count_170 : decode cX12_count 170 = .ok (.ireturn, 1) := by decide +kernel
theorem dX12_isStretch_0 : decode cX12_isStretch 0 = .ok (.aload_n 0, 1) := by decide +kernel
theorem dX12_isStretch_1 : decode cX12_isStretch 1 = .ok (.iload_n 1, 1) := by decide +kernel
theorem dX12_isStretch_2 : decode cX12_isStretch 2 = .ok (.ifCond .lt 15, 3) := by decide +kernel
theorem dX12_isStretch_5 : decode cX12_isStretch 5 = .ok (.iload_n 1, 1) := by decide +kernel
theorem dX12_isStretch_6 : decode cX12_isStretch 6 = .ok (.aload_n 0, 1) := by decide +kernel
theorem dX12_isStretch_7 : decode cX12_isStretch 7 = .ok (.getfield 7, 3) := by decide +kernel
theorem dX12_isStretch_10 : decode cX12_isStretch 10 = .ok (.if_icmp .ge 7, 3) := by decide +kernel
theorem dX12_isStretch_13 : decode cX12_isStretch 13 = .ok (.iconst 1, 1) := by decide +kernel
theorem dX12_isStretch_14 : decode cX12_isStretch 14 = .ok (.goto 4, 3) := by decide +kernel
theorem dX12_isStretch_17 : decode cX12_isStretch 17 = .ok (.iconst 0, 1) := by decide +kernel
theorem dX12_isStretch_18 : decode cX12_isStretch 18 = .ok (.iconst 1, 1) := by decide +kernel
theorem dX12_isStretch_19 : decode cX12_isStretch 19 = .ok (.invokevirtual 277, 3) := by decide +kernel
theorem dX12_isStretch_22 : decode cX12_isStretch 22 = .ok (.ireturn, 1) := by decide +kernel
theorem dX12_isWoman_0 : decode cX12_isWoman 0 = .ok (.aload_n 0, 1) := by decide +kernel
theorem dX12_isWoman_1 : decode cX12_isWoman 1 = .ok (.iload_n 1, 1) := by decide +kernel
theorem dX12_isWoman_2 : decode cX12_isWoman 2 = .ok (.ifCond .lt 15, 3) := by decide +kernel
theorem dX12_isWoman_5 : decode cX12_isWoman 5 = .ok (.iload_n 1, 1) := by decide +kernel
theorem dX12_isWoman_6 : decode cX12_isWoman 6 = .ok (.aload_n 0, 1) := by decide +kernel
theorem dX12_isWoman_7 : decode cX12_isWoman 7 = .ok (.getfield 284, 3) := by decide +kernel
theorem dX12_isWoman_10 : decode cX12_isWoman 10 = .ok (.if_icmp .ge 7, 3) := by decide +kernel
theorem dX12_isWoman_13 : decode cX12_isWoman 13 = .ok (.iconst 1, 1) := by decide +kernel
theorem dX12_isWoman_14 : decode cX12_isWoman 14 = .ok (.goto 4, 3) := by decide +kernel
theorem dX12_isWoman_17 : decode cX12_isWoman 17 = .ok (.iconst 0, 1) := by decide +kernel
theorem dX12_isWoman_18 : decode cX12_isWoman 18 = .ok (.iconst 1, 1) := by decide +kernel
theorem dX12_isWoman_19 : decode cX12_isWoman 19 = .ok (.invokevirtual 277, 3) := by decide +kernel
theorem dX12_isWoman_22 : decode cX12_isWoman 22 = .ok (.ireturn, 1) := by decide +kernel
theorem dX12_isWhat_0 : decode cX12_isWhat 0 = .ok (.aload_n 0, 1) := by decide +kernel
theorem dX12_isWhat_1 : decode cX12_isWhat 1 = .ok (.iload_n 1, 1) := by decide +kernel
theorem dX12_isWhat_2 : decode cX12_isWhat 2 = .ok (.iconst 0, 1) := by decide +kernel
theorem dX12_isWhat_3 : decode cX12_isWhat 3 = .ok (.iload_n 2, 1) := by decide +kernel
theorem dX12_isWhat_4 : decode cX12_isWhat 4 = .ok (.invokestatic 362, 3) := by decide +kernel
theorem dX12_isWhat_7 : decode cX12_isWhat 7 = .ok (.iconst 1, 1) := by decide +kernel
theorem dX12_isWhat_8 : decode cX12_isWhat 8 = .ok (.invokevirtual 277, 3) := by decide +kernel
theorem dX12_isWhat_11 : decode cX12_isWhat 11 = .ok (.ireturn, 1) := by decide +kernel
theorem dX12_isDays_0 : decode cX12_isDays 0 = .ok (.aload_n 0, 1) := by decide +kernel
theorem dX12_isDays_1 : decode cX12_isDays 1 = .ok (.iload_n 1, 1) := by decide +kernel
theorem dX12_isDays_2 : decode cX12_isDays 2 = .ok (.iload_n 2, 1) := by decide +kernel
theorem dX12_isDays_3 : decode cX12_isDays 3 = .ok (.bipush 60, 2) := by decide +kernel
theorem dX12_isDays_5 : decode cX12_isDays 5 = .ok (.invokestatic 362, 3) := by decide +kernel
theorem dX12_isDays_8 : decode cX12_isDays 8 = .ok (.iload_n 3, 1) := by decide +kernel
theorem dX12_isDays_9 : decode cX12_isDays 9 = .ok (.invokevirtual 277, 3) := by decide +kernel
theorem dX12_isDays_12 : decode cX12_isDays 12 = .ok (.ireturn, 1) := by decide +kernel
theorem dX12_stretch_0 : decode cX12_stretch 0 = .ok (.aload_n 0, 1) := by decide +kernel
theorem dX12_stretch_1 : decode cX12_stretch 1 = .ok (.iconst 0, 1) := by decide +kernel
theorem dX12_stretch_2 : decode cX12_stretch 2 = .ok (.putfield 117, 3) := by decide +kernel
theorem dX12_stretch_5 : decode cX12_stretch 5 = .ok (.aload_n 0, 1) := by decide +kernel
theorem dX12_stretch_6 : decode cX12_stretch 6 = .ok (.iload_n 1, 1) := by decide +kernel
theorem dX12_stretch_7 : decode cX12_stretch 7 = .ok (.invokevirtual 375, 3) := by decide +kernel
theorem dX12_stretch_10 : decode cX12_stretch 10 = .ok (.ifCond .eq 12, 3) := by decide +kernel
theorem dX12_stretch_13 : decode cX12_stretch 13 = .ok (.aload_n 0, 1) := by decide +kernel
theorem dX12_stretch_14 : decode cX12_stretch 14 = .ok (.iload_n 2, 1) := by decide +kernel
theorem dX12_stretch_15 : decode cX12_stretch 15 = .ok (.iconst 5, 1) := by decide +kernel
theorem dX12_stretch_16 : decode cX12_stretch 16 = .ok (.invokevirtual 378, 3) := by decide +kernel
theorem dX12_stretch_19 : decode cX12_stretch 19 = .ok (.ifCond .ne 5, 3) := by decide +kernel
theorem dX12_stretch_22 : decode cX12_stretch 22 = .ok (.iconst 0, 1) := by decide +kernel
theorem dX12_stretch_23 : decode cX12_stretch 23 = .ok (.ireturn, 1) := by decide +kernel
theorem dX12_stretch_24 : decode cX12_stretch 24 = .ok (.iload_n 2, 1) := by decide +kernel
theorem dX12_stretch_25 : decode cX12_stretch 25 = .ok (.tableswitch 78 0 4 #[35, 44, 54, 64, 71], 35) := by decide +kernel
theorem dX12_stretch_60 : decode cX12_stretch 60 = .ok (.aload_n 0, 1) := by decide +kernel
theorem dX12_stretch_61 : decode cX12_stretch 61 = .ok (.getfield 66, 3) := by decide +kernel
theorem dX12_stretch_64 : decode cX12_stretch 64 = .ok (.iconst 1, 1) := by decide +kernel
theorem dX12_stretch_65 : decode cX12_stretch 65 = .ok (.iload_n 1, 1) := by decide +kernel
theorem dX12_stretch_66 : decode cX12_stretch 66 = .ok (.iadd, 1) := by decide +kernel
theorem dX12_stretch_67 : decode cX12_stretch 67 = .ok (.iaload, 1) := by decide +kernel
theorem dX12_stretch_68 : decode cX12_stretch 68 = .ok (.ireturn, 1) := by decide +kernel
theorem dX12_stretch_69 : decode cX12_stretch 69 = .ok (.aload_n 0, 1) := by decide +kernel
theorem dX12_stretch_70 : decode cX12_stretch 70 = .ok (.getfield 66, 3) := by decide +kernel
theorem dX12_stretch_73 : decode cX12_stretch 73 = .ok (.bipush 13, 2) := by decide +kernel
theorem dX12_stretch_75 : decode cX12_stretch 75 = .ok (.iload_n 1, 1) := by decide +kernel
theorem dX12_stretch_76 : decode cX12_stretch 76 = .ok (.iadd, 1) := by decide +kernel
theorem dX12_stretch_77 : decode cX12_stretch 77 = .ok (.iaload, 1) := by decide +kernel
theorem dX12_stretch_78 : decode cX12_stretch 78 = .ok (.ireturn, 1) := by decide +kernel
theorem dX12_stretch_79 : decode cX12_stretch 79 = .ok (.aload_n 0, 1) := by decide +kernel
theorem dX12_stretch_80 : decode cX12_stretch 80 = .ok (.getfield 66, 3) := by decide +kernel
theorem dX12_stretch_83 : decode cX12_stretch 83 = .ok (.bipush 25, 2) := by decide +kernel
theorem dX12_stretch_85 : decode cX12_stretch 85 = .ok (.iload_n 1, 1) := by decide +kernel
theorem dX12_stretch_86 : decode cX12_stretch 86 = .ok (.iadd, 1) := by decide +kernel
theorem dX12_stretch_87 : decode cX12_stretch 87 = .ok (.iaload, 1) := by decide +kernel
theorem dX12_stretch_88 : decode cX12_stretch 88 = .ok (.ireturn, 1) := by decide +kernel
theorem dX12_stretch_89 : decode cX12_stretch 89 = .ok (.aload_n 0, 1) := by decide +kernel
theorem dX12_stretch_90 : decode cX12_stretch 90 = .ok (.iconst 0, 1) := by decide +kernel
theorem dX12_stretch_91 : decode cX12_stretch 91 = .ok (.iload_n 1, 1) := by decide +kernel
theorem dX12_stretch_92 : decode cX12_stretch 92 = .ok (.invokevirtual 317, 3) := by decide +kernel
theorem dX12_stretch_95 : decode cX12_stretch 95 = .ok (.ireturn, 1) := by decide +kernel
theorem dX12_stretch_96 : decode cX12_stretch 96 = .ok (.aload_n 0, 1) := by decide +kernel
theorem dX12_stretch_97 : decode cX12_stretch 97 = .ok (.iconst 0, 1) := by decide +kernel
theorem dX12_stretch_98 : decode cX12_stretch 98 = .ok (.iload_n 1, 1) := by decide +kernel
theorem dX12_stretch_99 : decode cX12_stretch 99 = .ok (.invokevirtual 346, 3) := by decide +kernel
theorem dX12_stretch_102 : decode cX12_stretch 102 = .ok (.ireturn, 1) := by decide +kernel
theorem dX12_stretch_103 : decode cX12_stretch 103 = .ok (.aload_n 0, 1) := by decide +kernel
theorem dX12_stretch_104 : decode cX12_stretch 104 = .ok (.iconst 0, 1) := by decide +kernel
theorem dX12_stretch_105 : decode cX12_stretch 105 = .ok (.iload_n 1, 1) := by decide +kernel
theorem dX12_stretch_106 : decode cX12_stretch 106 = .ok (.invokevirtual 343, 3) := by decide +kernel
theorem dX12_stretch_109 : decode cX12_stretch 109 = .ok (.ireturn, 1) := by decide +kernel
theorem dX12_woman_0 : decode cX12_woman 0 = .ok (.aload_n 0, 1) := by decide +kernel
theorem dX12_woman_1 : decode cX12_woman 1 = .ok (.iconst 0, 1) := by decide +kernel
theorem dX12_woman_2 : decode cX12_woman 2 = .ok (.putfield 117, 3) := by decide +kernel
theorem dX12_woman_5 : decode cX12_woman 5 = .ok (.aload_n 0, 1) := by decide +kernel
theorem dX12_woman_6 : decode cX12_woman 6 = .ok (.iload_n 1, 1) := by decide +kernel
theorem dX12_woman_7 : decode cX12_woman 7 = .ok (.invokevirtual 381, 3) := by decide +kernel
theorem dX12_woman_10 : decode cX12_woman 10 = .ok (.ifCond .eq 12, 3) := by decide +kernel
theorem dX12_woman_13 : decode cX12_woman 13 = .ok (.aload_n 0, 1) := by decide +kernel
theorem dX12_woman_14 : decode cX12_woman 14 = .ok (.iload_n 2, 1) := by decide +kernel
theorem dX12_woman_15 : decode cX12_woman 15 = .ok (.iconst 2, 1) := by decide +kernel
theorem dX12_woman_16 : decode cX12_woman 16 = .ok (.invokevirtual 378, 3) := by decide +kernel
theorem dX12_woman_19 : decode cX12_woman 19 = .ok (.ifCond .ne 5, 3) := by decide +kernel
theorem dX12_woman_22 : decode cX12_woman 22 = .ok (.iconst 0, 1) := by decide +kernel
theorem dX12_woman_23 : decode cX12_woman 23 = .ok (.ireturn, 1) := by decide +kernel
theorem dX12_woman_24 : decode cX12_woman 24 = .ok (.iload_n 2, 1) := by decide +kernel
theorem dX12_woman_25 : decode cX12_woman 25 = .ok (.ifCond .ne 12, 3) := by decide +kernel
theorem dX12_woman_28 : decode cX12_woman 28 = .ok (.aload_n 0, 1) := by decide +kernel
theorem dX12_woman_29 : decode cX12_woman 29 = .ok (.getfield 22, 3) := by decide +kernel
theorem dX12_woman_32 : decode cX12_woman 32 = .ok (.iload_n 1, 1) := by decide +kernel
theorem dX12_woman_33 : decode cX12_woman 33 = .ok (.iaload, 1) := by decide +kernel
theorem dX12_woman_34 : decode cX12_woman 34 = .ok (.goto 29, 3) := by decide +kernel
theorem dX12_woman_37 : decode cX12_woman 37 = .ok (.iload_n 2, 1) := by decide +kernel
theorem dX12_woman_38 : decode cX12_woman 38 = .ok (.iconst 1, 1) := by decide +kernel
theorem dX12_woman_39 : decode cX12_woman 39 = .ok (.if_icmp .ne 15, 3) := by decide +kernel
theorem dX12_woman_42 : decode cX12_woman 42 = .ok (.aload_n 0, 1) := by decide +kernel
theorem dX12_woman_43 : decode cX12_woman 43 = .ok (.getfield 66, 3) := by decide +kernel
theorem dX12_woman_46 : decode cX12_woman 46 = .ok (.bipush 37, 2) := by decide +kernel
theorem dX12_woman_48 : decode cX12_woman 48 = .ok (.iload_n 1, 1) := by decide +kernel
theorem dX12_woman_49 : decode cX12_woman 49 = .ok (.iadd, 1) := by decide +kernel
theorem dX12_woman_50 : decode cX12_woman 50 = .ok (.iaload, 1) := by decide +kernel
theorem dX12_woman_51 : decode cX12_woman 51 = .ok (.goto 12, 3) := by decide +kernel
theorem dX12_woman_54 : decode cX12_woman 54 = .ok (.aload_n 0, 1) := by decide +kernel
theorem dX12_woman_55 : decode cX12_woman 55 = .ok (.getfield 66, 3) := by decide +kernel
theorem dX12_woman_58 : decode cX12_woman 58 = .ok (.bipush 43, 2) := by decide +kernel
theorem dX12_woman_60 : decode cX12_woman 60 = .ok (.iload_n 1, 1) := by decide +kernel
theorem dX12_woman_61 : decode cX12_woman 61 = .ok (.iadd, 1) := by decide +kernel
theorem dX12_woman_62 : decode cX12_woman 62 = .ok (.iaload, 1) := by decide +kernel
theorem dX12_woman_63 : decode cX12_woman 63 = .ok (.ireturn, 1) := by decide +kernel
theorem dX12_days_0 : decode cX12_days 0 = .ok (.aload_n 0, 1) := by decide +kernel
theorem dX12_days_1 : decode cX12_days 1 = .ok (.iconst 0, 1) := by decide +kernel
theorem dX12_days_2 : decode cX12_days 2 = .ok (.putfield 117, 3) := by decide +kernel
theorem dX12_days_5 : decode cX12_days 5 = .ok (.iload_n 1, 1) := by decide +kernel
theorem dX12_days_6 : decode cX12_days 6 = .ok (.iconst 1, 1) := by decide +kernel
theorem dX12_days_7 : decode cX12_days 7 = .ok (.bipush 20, 2) := by decide +kernel
theorem dX12_days_9 : decode cX12_days 9 = .ok (.invokestatic 362, 3) := by decide +kernel
theorem dX12_days_12 : decode cX12_days 12 = .ok (.ifCond .eq 17, 3) := by decide +kernel
theorem dX12_days_15 : decode cX12_days 15 = .ok (.aload_n 0, 1) := by decide +kernel
theorem dX12_days_16 : decode cX12_days 16 = .ok (.getfield 66, 3) := by decide +kernel
theorem dX12_days_19 : decode cX12_days 19 = .ok (.iconst 0, 1) := by decide +kernel
theorem dX12_days_20 : decode cX12_days 20 = .ok (.iaload, 1) := by decide +kernel
theorem dX12_days_21 : decode cX12_days 21 = .ok (.iload_n 1, 1) := by decide +kernel
theorem dX12_days_22 : decode cX12_days 22 = .ok (.iadd, 1) := by decide +kernel
theorem dX12_days_23 : decode cX12_days 23 = .ok (.sipush 999, 3) := by decide +kernel
theorem dX12_days_26 : decode cX12_days 26 = .ok (.if_icmp .le 9, 3) := by decide +kernel
theorem dX12_days_29 : decode cX12_days 29 = .ok (.aload_n 0, 1) := by decide +kernel
theorem dX12_days_30 : decode cX12_days 30 = .ok (.iconst 1, 1) := by decide +kernel
theorem dX12_days_31 : decode cX12_days 31 = .ok (.invokevirtual 384, 3) := by decide +kernel
theorem dX12_days_34 : decode cX12_days 34 = .ok (.ireturn, 1) := by decide +kernel
theorem dX12_days_35 : decode cX12_days 35 = .ok (.aload_n 0, 1) := by decide +kernel
theorem dX12_days_36 : decode cX12_days 36 = .ok (.invokevirtual 387, 3) := by decide +kernel
theorem dX12_days_39 : decode cX12_days 39 = .ok (.iconst 0, 1) := by decide +kernel
theorem dX12_days_40 : decode cX12_days 40 = .ok (.istore_n 2, 1) := by decide +kernel
theorem dX12_days_41 : decode cX12_days 41 = .ok (.iload_n 2, 1) := by decide +kernel
theorem dX12_days_42 : decode cX12_days 42 = .ok (.iload_n 1, 1) := by decide +kernel
theorem dX12_days_43 : decode cX12_days 43 = .ok (.if_icmp .ge 14, 3) := by decide +kernel
theorem dX12_days_46 : decode cX12_days 46 = .ok (.aload_n 0, 1) := by decide +kernel
theorem dX12_days_47 : decode cX12_days 47 = .ok (.iconst 0, 1) := by decide +kernel
theorem dX12_days_48 : decode cX12_days 48 = .ok (.invokevirtual 359, 3) := by decide +kernel
theorem dX12_days_51 : decode cX12_days 51 = .ok (.iinc 2 1, 3) := by decide +kernel
theorem dX12_days_54 : decode cX12_days 54 = .ok (.goto (-13), 3) := by decide +kernel
theorem dX12_days_57 : decode cX12_days 57 = .ok (.aload_n 0, 1) := by decide +kernel
theorem dX12_days_58 : decode cX12_days 58 = .ok (.getfield 66, 3) := by decide +kernel
theorem dX12_days_61 : decode cX12_days 61 = .ok (.iconst 0, 1) := by decide +kernel
theorem dX12_days_62 : decode cX12_days 62 = .ok (.iaload, 1) := by decide +kernel
theorem dX12_days_63 : decode cX12_days 63 = .ok (.ireturn, 1) := by decide +kernel
theorem dX12_mend_0 : decode cX12_mend 0 = .ok (.aload_n 0, 1) := by decide +kernel
theorem dX12_mend_1 : decode cX12_mend 1 = .ok (.iconst 0, 1) := by decide +kernel
theorem dX12_mend_2 : decode cX12_mend 2 = .ok (.putfield 117, 3) := by decide +kernel
theorem dX12_mend_5 : decode cX12_mend 5 = .ok (.aload_n 0, 1) := by decide +kernel
theorem dX12_mend_6 : decode cX12_mend 6 = .ok (.iload_n 1, 1) := by decide +kernel
theorem dX12_mend_7 : decode cX12_mend 7 = .ok (.invokevirtual 381, 3) := by decide +kernel
theorem dX12_mend_10 : decode cX12_mend 10 = .ok (.ifCond .ne 5, 3) := by decide +kernel
theorem dX12_mend_13 : decode cX12_mend 13 = .ok (.iconst 0, 1) := by decide +kernel
theorem dX12_mend_14 : decode cX12_mend 14 = .ok (.ireturn, 1) := by decide +kernel
theorem dX12_mend_15 : decode cX12_mend 15 = .ok (.aload_n 0, 1) := by decide +kernel
theorem dX12_mend_16 : decode cX12_mend 16 = .ok (.getfield 66, 3) := by decide +kernel
theorem dX12_mend_19 : decode cX12_mend 19 = .ok (.bipush 43, 2) := by decide +kernel
theorem dX12_mend_21 : decode cX12_mend 21 = .ok (.iload_n 1, 1) := by decide +kernel
theorem dX12_mend_22 : decode cX12_mend 22 = .ok (.iadd, 1) := by decide +kernel
theorem dX12_mend_23 : decode cX12_mend 23 = .ok (.iaload, 1) := by decide +kernel
theorem dX12_mend_24 : decode cX12_mend 24 = .ok (.ifCond .ne 9, 3) := by decide +kernel
theorem dX12_mend_27 : decode cX12_mend 27 = .ok (.aload_n 0, 1) := by decide +kernel
theorem dX12_mend_28 : decode cX12_mend 28 = .ok (.iconst 1, 1) := by decide +kernel
theorem dX12_mend_29 : decode cX12_mend 29 = .ok (.invokevirtual 384, 3) := by decide +kernel
theorem dX12_mend_32 : decode cX12_mend 32 = .ok (.ireturn, 1) := by decide +kernel
theorem dX12_mend_33 : decode cX12_mend 33 = .ok (.aload_n 0, 1) := by decide +kernel
theorem dX12_mend_34 : decode cX12_mend 34 = .ok (.invokevirtual 387, 3) := by decide +kernel
theorem dX12_mend_37 : decode cX12_mend 37 = .ok (.aload_n 0, 1) := by decide +kernel
theorem dX12_mend_38 : decode cX12_mend 38 = .ok (.iconst 0, 1) := by decide +kernel
theorem dX12_mend_39 : decode cX12_mend 39 = .ok (.iload_n 1, 1) := by decide +kernel
theorem dX12_mend_40 : decode cX12_mend 40 = .ok (.invokevirtual 352, 3) := by decide +kernel
theorem dX12_mend_43 : decode cX12_mend 43 = .ok (.aload_n 0, 1) := by decide +kernel
theorem dX12_mend_44 : decode cX12_mend 44 = .ok (.getfield 66, 3) := by decide +kernel
theorem dX12_mend_47 : decode cX12_mend 47 = .ok (.bipush 13, 2) := by decide +kernel
theorem dX12_mend_49 : decode cX12_mend 49 = .ok (.aload_n 0, 1) := by decide +kernel
theorem dX12_mend_50 : decode cX12_mend 50 = .ok (.getfield 66, 3) := by decide +kernel
theorem dX12_mend_53 : decode cX12_mend 53 = .ok (.bipush 37, 2) := by decide +kernel
theorem dX12_mend_55 : decode cX12_mend 55 = .ok (.iload_n 1, 1) := by decide +kernel
theorem dX12_mend_56 : decode cX12_mend 56 = .ok (.iadd, 1) := by decide +kernel
theorem dX12_mend_57 : decode cX12_mend 57 = .ok (.iaload, 1) := by decide +kernel
theorem dX12_mend_58 : decode cX12_mend 58 = .ok (.iadd, 1) := by decide +kernel
theorem dX12_mend_59 : decode cX12_mend 59 = .ok (.iaload, 1) := by decide +kernel
theorem dX12_mend_60 : decode cX12_mend 60 = .ok (.ireturn, 1) := by decide +kernel
theorem dX12_go_0 : decode cX12_go 0 = .ok (.aload_n 0, 1) := by decide +kernel
theorem dX12_go_1 : decode cX12_go 1 = .ok (.iconst 0, 1) := by decide +kernel
theorem dX12_go_2 : decode cX12_go 2 = .ok (.putfield 117, 3) := by decide +kernel
theorem dX12_go_5 : decode cX12_go 5 = .ok (.aload_n 0, 1) := by decide +kernel
theorem dX12_go_6 : decode cX12_go 6 = .ok (.iload_n 1, 1) := by decide +kernel
theorem dX12_go_7 : decode cX12_go 7 = .ok (.invokevirtual 381, 3) := by decide +kernel
theorem dX12_go_10 : decode cX12_go 10 = .ok (.ifCond .eq 11, 3) := by decide +kernel
theorem dX12_go_13 : decode cX12_go 13 = .ok (.aload_n 0, 1) := by decide +kernel
theorem dX12_go_14 : decode cX12_go 14 = .ok (.iload_n 2, 1) := by decide +kernel
theorem dX12_go_15 : decode cX12_go 15 = .ok (.invokevirtual 375, 3) := by decide +kernel
theorem dX12_go_18 : decode cX12_go 18 = .ok (.ifCond .ne 5, 3) := by decide +kernel
theorem dX12_go_21 : decode cX12_go 21 = .ok (.iconst 0, 1) := by decide +kernel
theorem dX12_go_22 : decode cX12_go 22 = .ok (.ireturn, 1) := by decide +kernel
theorem dX12_go_23 : decode cX12_go 23 = .ok (.aload_n 0, 1) := by decide +kernel
theorem dX12_go_24 : decode cX12_go 24 = .ok (.getfield 66, 3) := by decide +kernel
theorem dX12_go_27 : decode cX12_go 27 = .ok (.bipush 37, 2) := by decide +kernel
theorem dX12_go_29 : decode cX12_go 29 = .ok (.iload_n 1, 1) := by decide +kernel
theorem dX12_go_30 : decode cX12_go 30 = .ok (.iadd, 1) := by decide +kernel
theorem dX12_go_31 : decode cX12_go 31 = .ok (.iaload, 1) := by decide +kernel
theorem dX12_go_32 : decode cX12_go 32 = .ok (.istore_n 3, 1) := by decide +kernel
theorem dX12_go_33 : decode cX12_go 33 = .ok (.iload_n 3, 1) := by decide +kernel
theorem dX12_go_34 : decode cX12_go 34 = .ok (.iload_n 2, 1) := by decide +kernel
theorem dX12_go_35 : decode cX12_go 35 = .ok (.if_icmp .ne 9, 3) := by decide +kernel
theorem dX12_go_38 : decode cX12_go 38 = .ok (.aload_n 0, 1) := by decide +kernel
theorem dX12_go_39 : decode cX12_go 39 = .ok (.iconst 1, 1) := by decide +kernel
theorem dX12_go_40 : decode cX12_go 40 = .ok (.invokevirtual 384, 3) := by decide +kernel
theorem dX12_go_43 : decode cX12_go 43 = .ok (.ireturn, 1) := by decide +kernel
theorem dX12_go_44 : decode cX12_go 44 = .ok (.aload_n 0, 1) := by decide +kernel
theorem dX12_go_45 : decode cX12_go 45 = .ok (.invokevirtual 387, 3) := by decide +kernel
theorem dX12_go_48 : decode cX12_go 48 = .ok (.aload_n 0, 1) := by decide +kernel
theorem dX12_go_49 : decode cX12_go 49 = .ok (.getfield 66, 3) := by decide +kernel
theorem dX12_go_52 : decode cX12_go 52 = .ok (.bipush 37, 2) := by decide +kernel
theorem dX12_go_54 : decode cX12_go 54 = .ok (.iload_n 1, 1) := by decide +kernel
theorem dX12_go_55 : decode cX12_go 55 = .ok (.iadd, 1) := by decide +kernel
theorem dX12_go_56 : decode cX12_go 56 = .ok (.iload_n 2, 1) := by decide +kernel
theorem dX12_go_57 : decode cX12_go 57 = .ok (.iastore, 1) := by decide +kernel
theorem dX12_go_58 : decode cX12_go 58 = .ok (.iload_n 3, 1) := by decide +kernel
theorem dX12_go_59 : decode cX12_go 59 = .ok (.ireturn, 1) := by decide +kernel
theorem dX12_stitch_0 : decode cX12_stitch 0 = .ok (.aload_n 0, 1) := by decide +kernel
theorem dX12_stitch_1 : decode cX12_stitch 1 = .ok (.iconst 0, 1) := by decide +kernel
theorem dX12_stitch_2 : decode cX12_stitch 2 = .ok (.putfield 117, 3) := by decide +kernel
theorem dX12_stitch_5 : decode cX12_stitch 5 = .ok (.aload_n 0, 1) := by decide +kernel
theorem dX12_stitch_6 : decode cX12_stitch 6 = .ok (.iload_n 1, 1) := by decide +kernel
theorem dX12_stitch_7 : decode cX12_stitch 7 = .ok (.invokevirtual 375, 3) := by decide +kernel
theorem dX12_stitch_10 : decode cX12_stitch 10 = .ok (.ifCond .ne 5, 3) := by decide +kernel
theorem dX12_stitch_13 : decode cX12_stitch 13 = .ok (.iconst 0, 1) := by decide +kernel
theorem dX12_stitch_14 : decode cX12_stitch 14 = .ok (.ireturn, 1) := by decide +kernel
theorem dX12_stitch_15 : decode cX12_stitch 15 = .ok (.aload_n 0, 1) := by decide +kernel
theorem dX12_stitch_16 : decode cX12_stitch 16 = .ok (.getfield 66, 3) := by decide +kernel
theorem dX12_stitch_19 : decode cX12_stitch 19 = .ok (.bipush 25, 2) := by decide +kernel
theorem dX12_stitch_21 : decode cX12_stitch 21 = .ok (.iload_n 1, 1) := by decide +kernel
theorem dX12_stitch_22 : decode cX12_stitch 22 = .ok (.iadd, 1) := by decide +kernel
theorem dX12_stitch_23 : decode cX12_stitch 23 = .ok (.iaload, 1) := by decide +kernel
theorem dX12_stitch_24 : decode cX12_stitch 24 = .ok (.istore_n 3, 1) := by decide +kernel
theorem dX12_stitch_25 : decode cX12_stitch 25 = .ok (.iload_n 2, 1) := by decide +kernel
theorem dX12_stitch_26 : decode cX12_stitch 26 = .ok (.iconst 0, 1) := by decide +kernel
theorem dX12_stitch_27 : decode cX12_stitch 27 = .ok (.iconst 2, 1) := by decide +kernel
theorem dX12_stitch_28 : decode cX12_stitch 28 = .ok (.invokestatic 362, 3) := by decide +kernel
theorem dX12_stitch_31 : decode cX12_stitch 31 = .ok (.ifCond .eq 8, 3) := by decide +kernel
theorem dX12_stitch_34 : decode cX12_stitch 34 = .ok (.iload_n 3, 1) := by decide +kernel
theorem dX12_stitch_35 : decode cX12_stitch 35 = .ok (.iload_n 2, 1) := by decide +kernel
theorem dX12_stitch_36 : decode cX12_stitch 36 = .ok (.if_icmp .ne 9, 3) := by decide +kernel
theorem dX12_stitch_39 : decode cX12_stitch 39 = .ok (.aload_n 0, 1) := by decide +kernel
theorem dX12_stitch_40 : decode cX12_stitch 40 = .ok (.iconst 1, 1) := by decide +kernel
theorem dX12_stitch_41 : decode cX12_stitch 41 = .ok (.invokevirtual 384, 3) := by decide +kernel
theorem dX12_stitch_44 : decode cX12_stitch 44 = .ok (.ireturn, 1) := by decide +kernel
theorem dX12_stitch_45 : decode cX12_stitch 45 = .ok (.aload_n 0, 1) := by decide +kernel
theorem dX12_stitch_46 : decode cX12_stitch 46 = .ok (.invokevirtual 387, 3) := by decide +kernel
theorem dX12_stitch_49 : decode cX12_stitch 49 = .ok (.aload_n 0, 1) := by decide +kernel
theorem dX12_stitch_50 : decode cX12_stitch 50 = .ok (.getfield 66, 3) := by decide +kernel
theorem dX12_stitch_53 : decode cX12_stitch 53 = .ok (.bipush 25, 2) := by decide +kernel
theorem dX12_stitch_55 : decode cX12_stitch 55 = .ok (.iload_n 1, 1) := by decide +kernel
theorem dX12_stitch_56 : decode cX12_stitch 56 = .ok (.iadd, 1) := by decide +kernel
theorem dX12_stitch_57 : decode cX12_stitch 57 = .ok (.iload_n 2, 1) := by decide +kernel
theorem dX12_stitch_58 : decode cX12_stitch 58 = .ok (.iastore, 1) := by decide +kernel
theorem dX12_stitch_59 : decode cX12_stitch 59 = .ok (.iload_n 3, 1) := by decide +kernel
theorem dX12_stitch_60 : decode cX12_stitch 60 = .ok (.ireturn, 1) := by decide +kernel
theorem dX12_thread_0 : decode cX12_thread 0 = .ok (.aload_n 0, 1) := by decide +kernel
theorem dX12_thread_1 : decode cX12_thread 1 = .ok (.iconst 0, 1) := by decide +kernel
theorem dX12_thread_2 : decode cX12_thread 2 = .ok (.putfield 117, 3) := by decide +kernel
theorem dX12_thread_5 : decode cX12_thread 5 = .ok (.aload_n 0, 1) := by decide +kernel
theorem dX12_thread_6 : decode cX12_thread 6 = .ok (.iload_n 1, 1) := by decide +kernel
theorem dX12_thread_7 : decode cX12_thread 7 = .ok (.invokevirtual 381, 3) := by decide +kernel
theorem dX12_thread_10 : decode cX12_thread 10 = .ok (.ifCond .ne 5, 3) := by decide +kernel
theorem dX12_thread_13 : decode cX12_thread 13 = .ok (.iconst 0, 1) := by decide +kernel
theorem dX12_thread_14 : decode cX12_thread 14 = .ok (.ireturn, 1) := by decide +kernel
theorem dX12_thread_15 : decode cX12_thread 15 = .ok (.iload_n 2, 1) := by decide +kernel
theorem dX12_thread_16 : decode cX12_thread 16 = .ok (.iconst 1, 1) := by decide +kernel
theorem dX12_thread_17 : decode cX12_thread 17 = .ok (.bipush 50, 2) := by decide +kernel
theorem dX12_thread_19 : decode cX12_thread 19 = .ok (.invokestatic 362, 3) := by decide +kernel
theorem dX12_thread_22 : decode cX12_thread 22 = .ok (.ifCond .ne 9, 3) := by decide +kernel
theorem dX12_thread_25 : decode cX12_thread 25 = .ok (.aload_n 0, 1) := by decide +kernel
theorem dX12_thread_26 : decode cX12_thread 26 = .ok (.iconst 1, 1) := by decide +kernel
theorem dX12_thread_27 : decode cX12_thread 27 = .ok (.invokevirtual 384, 3) := by decide +kernel
theorem dX12_thread_30 : decode cX12_thread 30 = .ok (.ireturn, 1) := by decide +kernel
theorem dX12_thread_31 : decode cX12_thread 31 = .ok (.aload_n 0, 1) := by decide +kernel
theorem dX12_thread_32 : decode cX12_thread 32 = .ok (.invokevirtual 387, 3) := by decide +kernel
theorem dX12_thread_35 : decode cX12_thread 35 = .ok (.aload_n 0, 1) := by decide +kernel
theorem dX12_thread_36 : decode cX12_thread 36 = .ok (.getfield 66, 3) := by decide +kernel
theorem dX12_thread_39 : decode cX12_thread 39 = .ok (.bipush 43, 2) := by decide +kernel
theorem dX12_thread_41 : decode cX12_thread 41 = .ok (.iload_n 1, 1) := by decide +kernel
theorem dX12_thread_42 : decode cX12_thread 42 = .ok (.iadd, 1) := by decide +kernel
theorem dX12_thread_43 : decode cX12_thread 43 = .ok (.bipush 99, 2) := by decide +kernel
theorem dX12_thread_45 : decode cX12_thread 45 = .ok (.aload_n 0, 1) := by decide +kernel
theorem dX12_thread_46 : decode cX12_thread 46 = .ok (.getfield 66, 3) := by decide +kernel
theorem dX12_thread_49 : decode cX12_thread 49 = .ok (.bipush 43, 2) := by decide +kernel
theorem dX12_thread_51 : decode cX12_thread 51 = .ok (.iload_n 1, 1) := by decide +kernel
theorem dX12_thread_52 : decode cX12_thread 52 = .ok (.iadd, 1) := by decide +kernel
theorem dX12_thread_53 : decode cX12_thread 53 = .ok (.iaload, 1) := by decide +kernel
theorem dX12_thread_54 : decode cX12_thread 54 = .ok (.iload_n 2, 1) := by decide +kernel
theorem dX12_thread_55 : decode cX12_thread 55 = .ok (.iadd, 1) := by decide +kernel
theorem dX12_thread_56 : decode cX12_thread 56 = .ok (.invokestatic 336, 3) := by decide +kernel
theorem dX12_thread_59 : decode cX12_thread 59 = .ok (.iastore, 1) := by decide +kernel
theorem dX12_thread_60 : decode cX12_thread 60 = .ok (.aload_n 0, 1) := by decide +kernel
theorem dX12_thread_61 : decode cX12_thread 61 = .ok (.getfield 66, 3) := by decide +kernel
theorem dX12_thread_64 : decode cX12_thread 64 = .ok (.bipush 43, 2) := by decide +kernel
theorem dX12_thread_66 : decode cX12_thread 66 = .ok (.iload_n 1, 1) := by decide +kernel
theorem dX12_thread_67 : decode cX12_thread 67 = .ok (.iadd, 1) := by decide +kernel
theorem dX12_thread_68 : decode cX12_thread 68 = .ok (.iaload, 1) := by decide +kernel
theorem dX12_thread_69 : decode cX12_thread 69 = .ok (.ireturn, 1) := by decide +kernel
theorem dX12_tear_0 : decode cX12_tear 0 = .ok (.aload_n 0, 1) := by decide +kernel
theorem dX12_tear_1 : decode cX12_tear 1 = .ok (.iconst 0, 1) := by decide +kernel
theorem dX12_tear_2 : decode cX12_tear 2 = .ok (.putfield 117, 3) := by decide +kernel
theorem dX12_tear_5 : decode cX12_tear 5 = .ok (.aload_n 0, 1) := by decide +kernel
theorem dX12_tear_6 : decode cX12_tear 6 = .ok (.iload_n 1, 1) := by decide +kernel
theorem dX12_tear_7 : decode cX12_tear 7 = .ok (.invokevirtual 375, 3) := by decide +kernel
theorem dX12_tear_10 : decode cX12_tear 10 = .ok (.ifCond .ne 5, 3) := by decide +kernel
theorem dX12_tear_13 : decode cX12_tear 13 = .ok (.iconst 0, 1) := by decide +kernel
theorem dX12_tear_14 : decode cX12_tear 14 = .ok (.ireturn, 1) := by decide +kernel
theorem dX12_tear_15 : decode cX12_tear 15 = .ok (.iload_n 2, 1) := by decide +kernel
theorem dX12_tear_16 : decode cX12_tear 16 = .ok (.iconst 1, 1) := by decide +kernel
theorem dX12_tear_17 : decode cX12_tear 17 = .ok (.bipush 50, 2) := by decide +kernel
theorem dX12_tear_19 : decode cX12_tear 19 = .ok (.invokestatic 362, 3) := by decide +kernel
theorem dX12_tear_22 : decode cX12_tear 22 = .ok (.ifCond .eq 12, 3) := by decide +kernel
theorem dX12_tear_25 : decode cX12_tear 25 = .ok (.aload_n 0, 1) := by decide +kernel
theorem dX12_tear_26 : decode cX12_tear 26 = .ok (.iconst 0, 1) := by decide +kernel
theorem dX12_tear_27 : decode cX12_tear 27 = .ok (.iload_n 1, 1) := by decide +kernel
theorem dX12_tear_28 : decode cX12_tear 28 = .ok (.invokevirtual 326, 3) := by decide +kernel
theorem dX12_tear_31 : decode cX12_tear 31 = .ok (.ifCond .eq 9, 3) := by decide +kernel
theorem dX12_tear_34 : decode cX12_tear 34 = .ok (.aload_n 0, 1) := by decide +kernel
theorem dX12_tear_35 : decode cX12_tear 35 = .ok (.iconst 1, 1) := by decide +kernel
theorem dX12_tear_36 : decode cX12_tear 36 = .ok (.invokevirtual 384, 3) := by decide +kernel
theorem dX12_tear_39 : decode cX12_tear 39 = .ok (.ireturn, 1) := by decide +kernel
theorem dX12_tear_40 : decode cX12_tear 40 = .ok (.aload_n 0, 1) := by decide +kernel
theorem dX12_tear_41 : decode cX12_tear 41 = .ok (.invokevirtual 387, 3) := by decide +kernel
theorem dX12_tear_44 : decode cX12_tear 44 = .ok (.aload_n 0, 1) := by decide +kernel
theorem dX12_tear_45 : decode cX12_tear 45 = .ok (.iconst 0, 1) := by decide +kernel
theorem dX12_tear_46 : decode cX12_tear 46 = .ok (.iload_n 1, 1) := by decide +kernel
theorem dX12_tear_47 : decode cX12_tear 47 = .ok (.iload_n 2, 1) := by decide +kernel
theorem dX12_tear_48 : decode cX12_tear 48 = .ok (.invokevirtual 349, 3) := by decide +kernel
theorem dX12_tear_51 : decode cX12_tear 51 = .ok (.aload_n 0, 1) := by decide +kernel
theorem dX12_tear_52 : decode cX12_tear 52 = .ok (.getfield 66, 3) := by decide +kernel
theorem dX12_tear_55 : decode cX12_tear 55 = .ok (.bipush 13, 2) := by decide +kernel
theorem dX12_tear_57 : decode cX12_tear 57 = .ok (.iload_n 1, 1) := by decide +kernel
theorem dX12_tear_58 : decode cX12_tear 58 = .ok (.iadd, 1) := by decide +kernel
theorem dX12_tear_59 : decode cX12_tear 59 = .ok (.iaload, 1) := by decide +kernel
theorem dX12_tear_60 : decode cX12_tear 60 = .ok (.ireturn, 1) := by decide +kernel
theorem dX12_goesTo_0 : decode cX12_goesTo 0 = .ok (.aload_n 0, 1) := by decide +kernel
theorem dX12_goesTo_1 : decode cX12_goesTo 1 = .ok (.invokevirtual 390, 3) := by decide +kernel
theorem dX12_goesTo_4 : decode cX12_goesTo 4 = .ok (.aload_n 0, 1) := by decide +kernel
theorem dX12_goesTo_5 : decode cX12_goesTo 5 = .ok (.iload_n 1, 1) := by decide +kernel
theorem dX12_goesTo_6 : decode cX12_goesTo 6 = .ok (.invokevirtual 393, 3) := by decide +kernel
theorem dX12_goesTo_9 : decode cX12_goesTo 9 = .ok (.return_, 1) := by decide +kernel
theorem dX12_then_0 : decode cX12_then 0 = .ok (.aload_n 0, 1) := by decide +kernel
theorem dX12_then_1 : decode cX12_then 1 = .ok (.iconst 0, 1) := by decide +kernel
theorem dX12_then_2 : decode cX12_then 2 = .ok (.putfield 117, 3) := by decide +kernel
theorem dX12_then_5 : decode cX12_then 5 = .ok (.aload_n 0, 1) := by decide +kernel
theorem dX12_then_6 : decode cX12_then 6 = .ok (.iload_n 1, 1) := by decide +kernel
theorem dX12_then_7 : decode cX12_then 7 = .ok (.invokevirtual 375, 3) := by decide +kernel
theorem dX12_then_10 : decode cX12_then 10 = .ok (.ifCond .eq 22, 3) := by decide +kernel
theorem dX12_then_13 : decode cX12_then 13 = .ok (.aload_n 0, 1) := by decide +kernel
theorem dX12_then_14 : decode cX12_then 14 = .ok (.iload_n 3, 1) := by decide +kernel
theorem dX12_then_15 : decode cX12_then 15 = .ok (.iconst 1, 1) := by decide +kernel
theorem dX12_then_16 : decode cX12_then 16 = .ok (.invokevirtual 378, 3) := by decide +kernel
theorem dX12_then_19 : decode cX12_then 19 = .ok (.ifCond .eq 13, 3) := by decide +kernel
theorem dX12_then_22 : decode cX12_then 22 = .ok (.aload_n 0, 1) := by decide +kernel
theorem dX12_then_23 : decode cX12_then 23 = .ok (.iload_n 2, 1) := by decide +kernel
theorem dX12_then_24 : decode cX12_then 24 = .ok (.iconst 0, 1) := by decide +kernel
theorem dX12_then_25 : decode cX12_then 25 = .ok (.iconst 2, 1) := by decide +kernel
theorem dX12_then_26 : decode cX12_then 26 = .ok (.invokevirtual 396, 3) := by decide +kernel
theorem dX12_then_29 : decode cX12_then 29 = .ok (.ifCond .ne 5, 3) := by decide +kernel
theorem dX12_then_32 : decode cX12_then 32 = .ok (.iconst 0, 1) := by decide +kernel
theorem dX12_then_33 : decode cX12_then 33 = .ok (.ireturn, 1) := by decide +kernel
theorem dX12_then_34 : decode cX12_then 34 = .ok (.aload_n 0, 1) := by decide +kernel
theorem dX12_then_35 : decode cX12_then 35 = .ok (.iload_n 2, 1) := by decide +kernel
theorem dX12_then_36 : decode cX12_then 36 = .ok (.invokevirtual 399, 3) := by decide +kernel
theorem dX12_then_39 : decode cX12_then 39 = .ok (.aload_n 0, 1) := by decide +kernel
theorem dX12_then_40 : decode cX12_then 40 = .ok (.getfield 66, 3) := by decide +kernel
theorem dX12_then_43 : decode cX12_then 43 = .ok (.bipush 49, 2) := by decide +kernel
theorem dX12_then_45 : decode cX12_then 45 = .ok (.iload_n 3, 1) := by decide +kernel
theorem dX12_then_46 : decode cX12_then 46 = .ok (.ifCond .ne 7, 3) := by decide +kernel
theorem dX12_then_49 : decode cX12_then 49 = .ok (.iconst 1, 1) := by decide +kernel
theorem dX12_then_50 : decode cX12_then 50 = .ok (.goto 5, 3) := by decide +kernel
theorem dX12_then_53 : decode cX12_then 53 = .ok (.bipush 13, 2) := by decide +kernel
theorem dX12_then_55 : decode cX12_then 55 = .ok (.iadd, 1) := by decide +kernel
theorem dX12_then_56 : decode cX12_then 56 = .ok (.iload_n 1, 1) := by decide +kernel
theorem dX12_then_57 : decode cX12_then 57 = .ok (.iadd, 1) := by decide +kernel
theorem dX12_then_58 : decode cX12_then 58 = .ok (.iaload, 1) := by decide +kernel
theorem dX12_then_59 : decode cX12_then 59 = .ok (.ireturn, 1) := by decide +kernel
theorem dX12_extreme_0 : decode cX12_extreme 0 = .ok (.iconst 0, 1) := by decide +kernel
theorem dX12_extreme_1 : decode cX12_extreme 1 = .ok (.istore_n 3, 1) := by decide +kernel
theorem dX12_extreme_2 : decode cX12_extreme 2 = .ok (.iconst 1, 1) := by decide +kernel
theorem dX12_extreme_3 : decode cX12_extreme 3 = .ok (.istore 4, 2) := by decide +kernel
theorem dX12_extreme_5 : decode cX12_extreme 5 = .ok (.iload 4, 2) := by decide +kernel
theorem dX12_extreme_7 : decode cX12_extreme 7 = .ok (.aload_n 0, 1) := by decide +kernel
theorem dX12_extreme_8 : decode cX12_extreme 8 = .ok (.getfield 7, 3) := by decide +kernel
theorem dX12_extreme_11 : decode cX12_extreme 11 = .ok (.if_icmp .ge 67, 3) := by decide +kernel
theorem dX12_extreme_14 : decode cX12_extreme 14 = .ok (.iload_n 2, 1) := by decide +kernel
theorem dX12_extreme_15 : decode cX12_extreme 15 = .ok (.ifCond .eq 30, 3) := by decide +kernel
theorem dX12_extreme_18 : decode cX12_extreme 18 = .ok (.aload_n 0, 1) := by decide +kernel
theorem dX12_extreme_19 : decode cX12_extreme 19 = .ok (.getfield 66, 3) := by decide +kernel
theorem dX12_extreme_22 : decode cX12_extreme 22 = .ok (.iload_n 1, 1) := by decide +kernel
theorem dX12_extreme_23 : decode cX12_extreme 23 = .ok (.iconst 1, 1) := by decide +kernel
theorem dX12_extreme_24 : decode cX12_extreme 24 = .ok (.iadd, 1) := by decide +kernel
theorem dX12_extreme_25 : decode cX12_extreme 25 = .ok (.iload 4, 2) := by decide +kernel
theorem dX12_extreme_27 : decode cX12_extreme 27 = .ok (.iadd, 1) := by decide +kernel
theorem dX12_extreme_28 : decode cX12_extreme 28 = .ok (.iaload, 1) := by decide +kernel
theorem dX12_extreme_29 : decode cX12_extreme 29 = .ok (.aload_n 0, 1) := by decide +kernel
theorem dX12_extreme_30 : decode cX12_extreme 30 = .ok (.getfield 66, 3) := by decide +kernel
theorem dX12_extreme_33 : decode cX12_extreme 33 = .ok (.iload_n 1, 1) := by decide +kernel
theorem dX12_extreme_34 : decode cX12_extreme 34 = .ok (.iconst 1, 1) := by decide +kernel
theorem dX12_extreme_35 : decode cX12_extreme 35 = .ok (.iadd, 1) := by decide +kernel
theorem dX12_extreme_36 : decode cX12_extreme 36 = .ok (.iload_n 3, 1) := by decide +kernel
theorem dX12_extreme_37 : decode cX12_extreme 37 = .ok (.iadd, 1) := by decide +kernel
theorem dX12_extreme_38 : decode cX12_extreme 38 = .ok (.iaload, 1) := by decide +kernel
theorem dX12_extreme_39 : decode cX12_extreme 39 = .ok (.if_icmp .le 33, 3) := by decide +kernel
theorem dX12_extreme_42 : decode cX12_extreme 42 = .ok (.goto 27, 3) := by decide +kernel
theorem dX12_extreme_45 : decode cX12_extreme 45 = .ok (.aload_n 0, 1) := by decide +kernel
theorem dX12_extreme_46 : decode cX12_extreme 46 = .ok (.getfield 66, 3) := by decide +kernel
theorem dX12_extreme_49 : decode cX12_extreme 49 = .ok (.iload_n 1, 1) := by decide +kernel
theorem dX12_extreme_50 : decode cX12_extreme 50 = .ok (.iconst 1, 1) := by decide +kernel
theorem dX12_extreme_51 : decode cX12_extreme 51 = .ok (.iadd, 1) := by decide +kernel
theorem dX12_extreme_52 : decode cX12_extreme 52 = .ok (.iload 4, 2) := by decide +kernel
theorem dX12_extreme_54 : decode cX12_extreme 54 = .ok (.iadd, 1) := by decide +kernel
theorem dX12_extreme_55 : decode cX12_extreme 55 = .ok (.iaload, 1) := by decide +kernel
theorem dX12_extreme_56 : decode cX12_extreme 56 = .ok (.aload_n 0, 1) := by decide +kernel
theorem dX12_extreme_57 : decode cX12_extreme 57 = .ok (.getfield 66, 3) := by decide +kernel
theorem dX12_extreme_60 : decode cX12_extreme 60 = .ok (.iload_n 1, 1) := by decide +kernel
theorem dX12_extreme_61 : decode cX12_extreme 61 = .ok (.iconst 1, 1) := by decide +kernel
theorem dX12_extreme_62 : decode cX12_extreme 62 = .ok (.iadd, 1) := by decide +kernel
theorem dX12_extreme_63 : decode cX12_extreme 63 = .ok (.iload_n 3, 1) := by decide +kernel
theorem dX12_extreme_64 : decode cX12_extreme 64 = .ok (.iadd, 1) := by decide +kernel
theorem dX12_extreme_65 : decode cX12_extreme 65 = .ok (.iaload, 1) := by decide +kernel
theorem dX12_extreme_66 : decode cX12_extreme 66 = .ok (.if_icmp .ge 6, 3) := by decide +kernel
theorem dX12_extreme_69 : decode cX12_extreme 69 = .ok (.iload 4, 2) := by decide +kernel
theorem dX12_extreme_71 : decode cX12_extreme 71 = .ok (.istore_n 3, 1) := by decide +kernel
theorem dX12_extreme_72 : decode cX12_extreme 72 = .ok (.iinc 4 1, 3) := by decide +kernel
theorem dX12_extreme_75 : decode cX12_extreme 75 = .ok (.goto (-70), 3) := by decide +kernel
theorem dX12_extreme_78 : decode cX12_extreme 78 = .ok (.iload_n 3, 1) := by decide +kernel
theorem dX12_extreme_79 : decode cX12_extreme 79 = .ok (.ireturn, 1) := by decide +kernel
theorem dX12_later_0 : decode cX12_later 0 = .ok (.aload_n 0, 1) := by decide +kernel
theorem dX12_later_1 : decode cX12_later 1 = .ok (.iconst 0, 1) := by decide +kernel
theorem dX12_later_2 : decode cX12_later 2 = .ok (.putfield 117, 3) := by decide +kernel
theorem dX12_later_5 : decode cX12_later 5 = .ok (.aload_n 0, 1) := by decide +kernel
theorem dX12_later_6 : decode cX12_later 6 = .ok (.iload_n 2, 1) := by decide +kernel
theorem dX12_later_7 : decode cX12_later 7 = .ok (.iconst 3, 1) := by decide +kernel
theorem dX12_later_8 : decode cX12_later 8 = .ok (.invokevirtual 378, 3) := by decide +kernel
theorem dX12_later_11 : decode cX12_later 11 = .ok (.ifCond .eq 13, 3) := by decide +kernel
theorem dX12_later_14 : decode cX12_later 14 = .ok (.aload_n 0, 1) := by decide +kernel
theorem dX12_later_15 : decode cX12_later 15 = .ok (.iload_n 1, 1) := by decide +kernel
theorem dX12_later_16 : decode cX12_later 16 = .ok (.iconst 0, 1) := by decide +kernel
theorem dX12_later_17 : decode cX12_later 17 = .ok (.iconst 2, 1) := by decide +kernel
theorem dX12_later_18 : decode cX12_later 18 = .ok (.invokevirtual 396, 3) := by decide +kernel
theorem dX12_later_21 : decode cX12_later 21 = .ok (.ifCond .ne 5, 3) := by decide +kernel
theorem dX12_later_24 : decode cX12_later 24 = .ok (.iconst 0, 1) := by decide +kernel
theorem dX12_later_25 : decode cX12_later 25 = .ok (.ireturn, 1) := by decide +kernel
theorem dX12_later_26 : decode cX12_later 26 = .ok (.aload_n 0, 1) := by decide +kernel
theorem dX12_later_27 : decode cX12_later 27 = .ok (.iload_n 1, 1) := by decide +kernel
theorem dX12_later_28 : decode cX12_later 28 = .ok (.invokevirtual 399, 3) := by decide +kernel
theorem dX12_later_31 : decode cX12_later 31 = .ok (.iload_n 2, 1) := by decide +kernel
theorem dX12_later_32 : decode cX12_later 32 = .ok (.tableswitch 75 0 2 #[28, 35, 43], 28) := by decide +kernel
theorem dX12_later_60 : decode cX12_later 60 = .ok (.aload_n 0, 1) := by decide +kernel
theorem dX12_later_61 : decode cX12_later 61 = .ok (.bipush 49, 2) := by decide +kernel
theorem dX12_later_63 : decode cX12_later 63 = .ok (.invokevirtual 366, 3) := by decide +kernel
theorem dX12_later_66 : decode cX12_later 66 = .ok (.ireturn, 1) := by decide +kernel
theorem dX12_later_67 : decode cX12_later 67 = .ok (.aload_n 0, 1) := by decide +kernel
theorem dX12_later_68 : decode cX12_later 68 = .ok (.bipush 49, 2) := by decide +kernel
theorem dX12_later_70 : decode cX12_later 70 = .ok (.iconst 1, 1) := by decide +kernel
theorem dX12_later_71 : decode cX12_later 71 = .ok (.invokevirtual 402, 3) := by decide +kernel
theorem dX12_later_74 : decode cX12_later 74 = .ok (.ireturn, 1) := by decide +kernel
theorem dX12_later_75 : decode cX12_later 75 = .ok (.aload_n 0, 1) := by decide +kernel
theorem dX12_later_76 : decode cX12_later 76 = .ok (.getfield 66, 3) := by decide +kernel
theorem dX12_later_79 : decode cX12_later 79 = .ok (.bipush 50, 2) := by decide +kernel
theorem dX12_later_81 : decode cX12_later 81 = .ok (.aload_n 0, 1) := by decide +kernel
theorem dX12_later_82 : decode cX12_later 82 = .ok (.bipush 49, 2) := by decide +kernel
theorem dX12_later_84 : decode cX12_later 84 = .ok (.iconst 1, 1) := by decide +kernel
theorem dX12_later_85 : decode cX12_later 85 = .ok (.invokevirtual 402, 3) := by decide +kernel
theorem dX12_later_88 : decode cX12_later 88 = .ok (.iadd, 1) := by decide +kernel
theorem dX12_later_89 : decode cX12_later 89 = .ok (.iaload, 1) := by decide +kernel
theorem dX12_later_90 : decode cX12_later 90 = .ok (.aload_n 0, 1) := by decide +kernel
theorem dX12_later_91 : decode cX12_later 91 = .ok (.getfield 66, 3) := by decide +kernel
theorem dX12_later_94 : decode cX12_later 94 = .ok (.bipush 50, 2) := by decide +kernel
theorem dX12_later_96 : decode cX12_later 96 = .ok (.aload_n 0, 1) := by decide +kernel
theorem dX12_later_97 : decode cX12_later 97 = .ok (.bipush 49, 2) := by decide +kernel
theorem dX12_later_99 : decode cX12_later 99 = .ok (.iconst 0, 1) := by decide +kernel
theorem dX12_later_100 : decode cX12_later 100 = .ok (.invokevirtual 402, 3) := by decide +kernel
theorem dX12_later_103 : decode cX12_later 103 = .ok (.iadd, 1) := by decide +kernel
theorem dX12_later_104 : decode cX12_later 104 = .ok (.iaload, 1) := by decide +kernel
theorem dX12_later_105 : decode cX12_later 105 = .ok (.isub, 1) := by decide +kernel
theorem dX12_later_106 : decode cX12_later 106 = .ok (.ireturn, 1) := by decide +kernel
theorem dX12_later_107 : decode cX12_later 107 = .ok (.aload_n 0, 1) := by decide +kernel
theorem dX12_later_108 : decode cX12_later 108 = .ok (.iconst 0, 1) := by decide +kernel
theorem dX12_later_109 : decode cX12_later 109 = .ok (.bipush 43, 2) := by decide +kernel
theorem dX12_later_111 : decode cX12_later 111 = .ok (.aload_n 0, 1) := by decide +kernel
theorem dX12_later_112 : decode cX12_later 112 = .ok (.getfield 284, 3) := by decide +kernel
theorem dX12_later_115 : decode cX12_later 115 = .ok (.invokevirtual 369, 3) := by decide +kernel
theorem dX12_later_118 : decode cX12_later 118 = .ok (.aload_n 0, 1) := by decide +kernel
theorem dX12_later_119 : decode cX12_later 119 = .ok (.bipush 49, 2) := by decide +kernel
theorem dX12_later_121 : decode cX12_later 121 = .ok (.bipush 43, 2) := by decide +kernel
theorem dX12_later_123 : decode cX12_later 123 = .ok (.aload_n 0, 1) := by decide +kernel
theorem dX12_later_124 : decode cX12_later 124 = .ok (.getfield 284, 3) := by decide +kernel
theorem dX12_later_127 : decode cX12_later 127 = .ok (.invokevirtual 369, 3) := by decide +kernel
theorem dX12_later_130 : decode cX12_later 130 = .ok (.isub, 1) := by decide +kernel
theorem dX12_later_131 : decode cX12_later 131 = .ok (.ireturn, 1) := by decide +kernel
theorem dX12_opensIn_0 : decode cX12_opensIn 0 = .ok (.aload_n 0, 1) := by decide +kernel
theorem dX12_opensIn_1 : decode cX12_opensIn 1 = .ok (.invokevirtual 390, 3) := by decide +kernel
theorem dX12_opensIn_4 : decode cX12_opensIn 4 = .ok (.iconst 0, 1) := by decide +kernel
theorem dX12_opensIn_5 : decode cX12_opensIn 5 = .ok (.istore_n 2, 1) := by decide +kernel
theorem dX12_opensIn_6 : decode cX12_opensIn 6 = .ok (.iload_n 2, 1) := by decide +kernel
theorem dX12_opensIn_7 : decode cX12_opensIn 7 = .ok (.bipush 60, 2) := by decide +kernel
theorem dX12_opensIn_9 : decode cX12_opensIn 9 = .ok (.if_icmp .gt 27, 3) := by decide +kernel
theorem dX12_opensIn_12 : decode cX12_opensIn 12 = .ok (.aload_n 0, 1) := by decide +kernel
theorem dX12_opensIn_13 : decode cX12_opensIn 13 = .ok (.bipush 49, 2) := by decide +kernel
theorem dX12_opensIn_15 : decode cX12_opensIn 15 = .ok (.iload_n 1, 1) := by decide +kernel
theorem dX12_opensIn_16 : decode cX12_opensIn 16 = .ok (.invokevirtual 326, 3) := by decide +kernel
theorem dX12_opensIn_19 : decode cX12_opensIn 19 = .ok (.ifCond .eq 5, 3) := by decide +kernel
theorem dX12_opensIn_22 : decode cX12_opensIn 22 = .ok (.iload_n 2, 1) := by decide +kernel
theorem dX12_opensIn_23 : decode cX12_opensIn 23 = .ok (.ireturn, 1) := by decide +kernel
theorem dX12_opensIn_24 : decode cX12_opensIn 24 = .ok (.aload_n 0, 1) := by decide +kernel
theorem dX12_opensIn_25 : decode cX12_opensIn 25 = .ok (.bipush 49, 2) := by decide +kernel
theorem dX12_opensIn_27 : decode cX12_opensIn 27 = .ok (.invokevirtual 359, 3) := by decide +kernel
theorem dX12_opensIn_30 : decode cX12_opensIn 30 = .ok (.iinc 2 1, 3) := by decide +kernel
theorem dX12_opensIn_33 : decode cX12_opensIn 33 = .ok (.goto (-27), 3) := by decide +kernel
theorem dX12_opensIn_36 : decode cX12_opensIn 36 = .ok (.ldc_w 406, 3) := by decide +kernel
theorem dX12_opensIn_39 : decode cX12_opensIn 39 = .ok (.ireturn, 1) := by decide +kernel
theorem dX12_opens_0 : decode cX12_opens 0 = .ok (.aload_n 0, 1) := by decide +kernel
theorem dX12_opens_1 : decode cX12_opens 1 = .ok (.iconst 0, 1) := by decide +kernel
theorem dX12_opens_2 : decode cX12_opens 2 = .ok (.putfield 117, 3) := by decide +kernel
theorem dX12_opens_5 : decode cX12_opens 5 = .ok (.aload_n 0, 1) := by decide +kernel
theorem dX12_opens_6 : decode cX12_opens 6 = .ok (.iload_n 1, 1) := by decide +kernel
theorem dX12_opens_7 : decode cX12_opens 7 = .ok (.invokevirtual 375, 3) := by decide +kernel
theorem dX12_opens_10 : decode cX12_opens 10 = .ok (.ifCond .ne 5, 3) := by decide +kernel
theorem dX12_opens_13 : decode cX12_opens 13 = .ok (.iconst 0, 1) := by decide +kernel
theorem dX12_opens_14 : decode cX12_opens 14 = .ok (.ireturn, 1) := by decide +kernel
theorem dX12_opens_15 : decode cX12_opens 15 = .ok (.aload_n 0, 1) := by decide +kernel
theorem dX12_opens_16 : decode cX12_opens 16 = .ok (.iload_n 1, 1) := by decide +kernel
theorem dX12_opens_17 : decode cX12_opens 17 = .ok (.invokevirtual 407, 3) := by decide +kernel
theorem dX12_opens_20 : decode cX12_opens 20 = .ok (.istore_n 2, 1) := by decide +kernel
theorem dX12_opens_21 : decode cX12_opens 21 = .ok (.iload_n 2, 1) := by decide +kernel
theorem dX12_opens_22 : decode cX12_opens 22 = .ok (.ldc_w 406, 3) := by decide +kernel
theorem dX12_opens_25 : decode cX12_opens 25 = .ok (.if_icmp .ne 7, 3) := by decide +kernel
theorem dX12_opens_28 : decode cX12_opens 28 = .ok (.iconst (-1), 1) := by decide +kernel
theorem dX12_opens_29 : decode cX12_opens 29 = .ok (.goto 4, 3) := by decide +kernel
theorem dX12_opens_32 : decode cX12_opens 32 = .ok (.iload_n 2, 1) := by decide +kernel
theorem dX12_opens_33 : decode cX12_opens 33 = .ok (.ireturn, 1) := by decide +kernel
theorem dX12_first_0 : decode cX12_first 0 = .ok (.aload_n 0, 1) := by decide +kernel
theorem dX12_first_1 : decode cX12_first 1 = .ok (.iconst 0, 1) := by decide +kernel
theorem dX12_first_2 : decode cX12_first 2 = .ok (.putfield 117, 3) := by decide +kernel
theorem dX12_first_5 : decode cX12_first 5 = .ok (.iconst (-1), 1) := by decide +kernel
theorem dX12_first_6 : decode cX12_first 6 = .ok (.istore_n 1, 1) := by decide +kernel
theorem dX12_first_7 : decode cX12_first 7 = .ok (.ldc_w 406, 3) := by decide +kernel
theorem dX12_first_10 : decode cX12_first 10 = .ok (.istore_n 2, 1) := by decide +kernel
theorem dX12_first_11 : decode cX12_first 11 = .ok (.iconst 0, 1) := by decide +kernel
theorem dX12_first_12 : decode cX12_first 12 = .ok (.istore_n 3, 1) := by decide +kernel
theorem dX12_first_13 : decode cX12_first 13 = .ok (.iload_n 3, 1) := by decide +kernel
theorem dX12_first_14 : decode cX12_first 14 = .ok (.aload_n 0, 1) := by decide +kernel
theorem dX12_first_15 : decode cX12_first 15 = .ok (.getfield 7, 3) := by decide +kernel
theorem dX12_first_18 : decode cX12_first 18 = .ok (.if_icmp .ge 35, 3) := by decide +kernel
theorem dX12_first_21 : decode cX12_first 21 = .ok (.aload_n 0, 1) := by decide +kernel
theorem dX12_first_22 : decode cX12_first 22 = .ok (.iload_n 3, 1) := by decide +kernel
theorem dX12_first_23 : decode cX12_first 23 = .ok (.invokevirtual 407, 3) := by decide +kernel
theorem dX12_first_26 : decode cX12_first 26 = .ok (.istore 4, 2) := by decide +kernel
theorem dX12_first_28 : decode cX12_first 28 = .ok (.iload 4, 2) := by decide +kernel
theorem dX12_first_30 : decode cX12_first 30 = .ok (.ifCond .eq 17, 3) := by decide +kernel
theorem dX12_first_33 : decode cX12_first 33 = .ok (.iload 4, 2) := by decide +kernel
theorem dX12_first_35 : decode cX12_first 35 = .ok (.iload_n 2, 1) := by decide +kernel
theorem dX12_first_36 : decode cX12_first 36 = .ok (.if_icmp .lt 6, 3) := by decide +kernel
theorem dX12_first_39 : decode cX12_first 39 = .ok (.goto 8, 3) := by decide +kernel
theorem dX12_first_42 : decode cX12_first 42 = .ok (.iload_n 3, 1) := by decide +kernel
theorem dX12_first_43 : decode cX12_first 43 = .ok (.istore_n 1, 1) := by decide +kernel
theorem dX12_first_44 : decode cX12_first 44 = .ok (.iload 4, 2) := by decide +kernel
theorem dX12_first_46 : decode cX12_first 46 = .ok (.istore_n 2, 1) := by decide +kernel
theorem dX12_first_47 : decode cX12_first 47 = .ok (.iinc 3 1, 3) := by decide +kernel
theorem dX12_first_50 : decode cX12_first 50 = .ok (.goto (-37), 3) := by decide +kernel
theorem dX12_first_53 : decode cX12_first 53 = .ok (.iload_n 1, 1) := by decide +kernel
theorem dX12_first_54 : decode cX12_first 54 = .ok (.ireturn, 1) := by decide +kernel
theorem dX12_where_0 : decode cX12_where 0 = .ok (.aload_n 0, 1) := by decide +kernel
theorem dX12_where_1 : decode cX12_where 1 = .ok (.iconst 0, 1) := by decide +kernel
theorem dX12_where_2 : decode cX12_where 2 = .ok (.putfield 117, 3) := by decide +kernel
theorem dX12_where_5 : decode cX12_where 5 = .ok (.aload_n 0, 1) := by decide +kernel
theorem dX12_where_6 : decode cX12_where 6 = .ok (.iload_n 1, 1) := by decide +kernel
theorem dX12_where_7 : decode cX12_where 7 = .ok (.invokevirtual 381, 3) := by decide +kernel
theorem dX12_where_10 : decode cX12_where 10 = .ok (.ifCond .eq 22, 3) := by decide +kernel
theorem dX12_where_13 : decode cX12_where 13 = .ok (.aload_n 0, 1) := by decide +kernel
theorem dX12_where_14 : decode cX12_where 14 = .ok (.iload_n 3, 1) := by decide +kernel
theorem dX12_where_15 : decode cX12_where 15 = .ok (.iconst 1, 1) := by decide +kernel
theorem dX12_where_16 : decode cX12_where 16 = .ok (.invokevirtual 378, 3) := by decide +kernel
theorem dX12_where_19 : decode cX12_where 19 = .ok (.ifCond .eq 13, 3) := by decide +kernel
theorem dX12_where_22 : decode cX12_where 22 = .ok (.aload_n 0, 1) := by decide +kernel
theorem dX12_where_23 : decode cX12_where 23 = .ok (.iload_n 2, 1) := by decide +kernel
theorem dX12_where_24 : decode cX12_where 24 = .ok (.iconst 0, 1) := by decide +kernel
theorem dX12_where_25 : decode cX12_where 25 = .ok (.iconst 2, 1) := by decide +kernel
theorem dX12_where_26 : decode cX12_where 26 = .ok (.invokevirtual 396, 3) := by decide +kernel
theorem dX12_where_29 : decode cX12_where 29 = .ok (.ifCond .ne 5, 3) := by decide +kernel
theorem dX12_where_32 : decode cX12_where 32 = .ok (.iconst 0, 1) := by decide +kernel
theorem dX12_where_33 : decode cX12_where 33 = .ok (.ireturn, 1) := by decide +kernel
theorem dX12_where_34 : decode cX12_where 34 = .ok (.aload_n 0, 1) := by decide +kernel
theorem dX12_where_35 : decode cX12_where 35 = .ok (.iload_n 2, 1) := by decide +kernel
theorem dX12_where_36 : decode cX12_where 36 = .ok (.invokevirtual 399, 3) := by decide +kernel
theorem dX12_where_39 : decode cX12_where 39 = .ok (.aload_n 0, 1) := by decide +kernel
theorem dX12_where_40 : decode cX12_where 40 = .ok (.getfield 66, 3) := by decide +kernel
theorem dX12_where_43 : decode cX12_where 43 = .ok (.bipush 49, 2) := by decide +kernel
theorem dX12_where_45 : decode cX12_where 45 = .ok (.iload_n 3, 1) := by decide +kernel
theorem dX12_where_46 : decode cX12_where 46 = .ok (.ifCond .ne 8, 3) := by decide +kernel
theorem dX12_where_49 : decode cX12_where 49 = .ok (.bipush 37, 2) := by decide +kernel
theorem dX12_where_51 : decode cX12_where 51 = .ok (.goto 5, 3) := by decide +kernel
theorem dX12_where_54 : decode cX12_where 54 = .ok (.bipush 43, 2) := by decide +kernel
theorem dX12_where_56 : decode cX12_where 56 = .ok (.iadd, 1) := by decide +kernel
theorem dX12_where_57 : decode cX12_where 57 = .ok (.iload_n 1, 1) := by decide +kernel
theorem dX12_where_58 : decode cX12_where 58 = .ok (.iadd, 1) := by decide +kernel
theorem dX12_where_59 : decode cX12_where 59 = .ok (.iaload, 1) := by decide +kernel
theorem dX12_where_60 : decode cX12_where 60 = .ok (.ireturn, 1) := by decide +kernel
theorem dX12_spent_0 : decode cX12_spent 0 = .ok (.aload_n 0, 1) := by decide +kernel
theorem dX12_spent_1 : decode cX12_spent 1 = .ok (.iconst 0, 1) := by decide +kernel
theorem dX12_spent_2 : decode cX12_spent 2 = .ok (.putfield 117, 3) := by decide +kernel
theorem dX12_spent_5 : decode cX12_spent 5 = .ok (.aload_n 0, 1) := by decide +kernel
theorem dX12_spent_6 : decode cX12_spent 6 = .ok (.invokevirtual 390, 3) := by decide +kernel
theorem dX12_spent_9 : decode cX12_spent 9 = .ok (.iconst 0, 1) := by decide +kernel
theorem dX12_spent_10 : decode cX12_spent 10 = .ok (.istore_n 1, 1) := by decide +kernel
theorem dX12_spent_11 : decode cX12_spent 11 = .ok (.iload_n 1, 1) := by decide +kernel
theorem dX12_spent_12 : decode cX12_spent 12 = .ok (.bipush 60, 2) := by decide +kernel
theorem dX12_spent_14 : decode cX12_spent 14 = .ok (.if_icmp .gt 32, 3) := by decide +kernel
theorem dX12_spent_17 : decode cX12_spent 17 = .ok (.aload_n 0, 1) := by decide +kernel
theorem dX12_spent_18 : decode cX12_spent 18 = .ok (.bipush 49, 2) := by decide +kernel
theorem dX12_spent_20 : decode cX12_spent 20 = .ok (.bipush 43, 2) := by decide +kernel
theorem dX12_spent_22 : decode cX12_spent 22 = .ok (.aload_n 0, 1) := by decide +kernel
theorem dX12_spent_23 : decode cX12_spent 23 = .ok (.getfield 284, 3) := by decide +kernel
theorem dX12_spent_26 : decode cX12_spent 26 = .ok (.invokevirtual 369, 3) := by decide +kernel
theorem dX12_spent_29 : decode cX12_spent 29 = .ok (.ifCond .ne 5, 3) := by decide +kernel
theorem dX12_spent_32 : decode cX12_spent 32 = .ok (.iload_n 1, 1) := by decide +kernel
theorem dX12_spent_33 : decode cX12_spent 33 = .ok (.ireturn, 1) := by decide +kernel
theorem dX12_spent_34 : decode cX12_spent 34 = .ok (.aload_n 0, 1) := by decide +kernel
theorem dX12_spent_35 : decode cX12_spent 35 = .ok (.bipush 49, 2) := by decide +kernel
theorem dX12_spent_37 : decode cX12_spent 37 = .ok (.invokevirtual 359, 3) := by decide +kernel
theorem dX12_spent_40 : decode cX12_spent 40 = .ok (.iinc 1 1, 3) := by decide +kernel
theorem dX12_spent_43 : decode cX12_spent 43 = .ok (.goto (-32), 3) := by decide +kernel
theorem dX12_spent_46 : decode cX12_spent 46 = .ok (.iconst (-1), 1) := by decide +kernel
theorem dX12_spent_47 : decode cX12_spent 47 = .ok (.ireturn, 1) := by decide +kernel
theorem dX12_toHold_0 : decode cX12_toHold 0 = .ok (.aload_n 0, 1) := by decide +kernel
theorem dX12_toHold_1 : decode cX12_toHold 1 = .ok (.iconst 0, 1) := by decide +kernel
theorem dX12_toHold_2 : decode cX12_toHold 2 = .ok (.putfield 117, 3) := by decide +kernel
theorem dX12_toHold_5 : decode cX12_toHold 5 = .ok (.aload_n 0, 1) := by decide +kernel
theorem dX12_toHold_6 : decode cX12_toHold 6 = .ok (.iload_n 1, 1) := by decide +kernel
theorem dX12_toHold_7 : decode cX12_toHold 7 = .ok (.invokevirtual 375, 3) := by decide +kernel
theorem dX12_toHold_10 : decode cX12_toHold 10 = .ok (.ifCond .eq 13, 3) := by decide +kernel
theorem dX12_toHold_13 : decode cX12_toHold 13 = .ok (.aload_n 0, 1) := by decide +kernel
theorem dX12_toHold_14 : decode cX12_toHold 14 = .ok (.iload_n 2, 1) := by decide +kernel
theorem dX12_toHold_15 : decode cX12_toHold 15 = .ok (.iconst 1, 1) := by decide +kernel
theorem dX12_toHold_16 : decode cX12_toHold 16 = .ok (.iconst 2, 1) := by decide +kernel
theorem dX12_toHold_17 : decode cX12_toHold 17 = .ok (.invokevirtual 396, 3) := by decide +kernel
theorem dX12_toHold_20 : decode cX12_toHold 20 = .ok (.ifCond .ne 5, 3) := by decide +kernel
theorem dX12_toHold_23 : decode cX12_toHold 23 = .ok (.iconst 0, 1) := by decide +kernel
theorem dX12_toHold_24 : decode cX12_toHold 24 = .ok (.ireturn, 1) := by decide +kernel
theorem dX12_toHold_25 : decode cX12_toHold 25 = .ok (.iconst 0, 1) := by decide +kernel
theorem dX12_toHold_26 : decode cX12_toHold 26 = .ok (.istore_n 3, 1) := by decide +kernel
theorem dX12_toHold_27 : decode cX12_toHold 27 = .ok (.iload_n 3, 1) := by decide +kernel
theorem dX12_toHold_28 : decode cX12_toHold 28 = .ok (.bipush 99, 2) := by decide +kernel
theorem dX12_toHold_30 : decode cX12_toHold 30 = .ok (.if_icmp .gt 91, 3) := by decide +kernel
theorem dX12_toHold_33 : decode cX12_toHold 33 = .ok (.aload_n 0, 1) := by decide +kernel
theorem dX12_toHold_34 : decode cX12_toHold 34 = .ok (.invokevirtual 390, 3) := by decide +kernel
theorem dX12_toHold_37 : decode cX12_toHold 37 = .ok (.aload_n 0, 1) := by decide +kernel
theorem dX12_toHold_38 : decode cX12_toHold 38 = .ok (.getfield 66, 3) := by decide +kernel
theorem dX12_toHold_41 : decode cX12_toHold 41 = .ok (.bipush 62, 2) := by decide +kernel
theorem dX12_toHold_43 : decode cX12_toHold 43 = .ok (.iload_n 1, 1) := by decide +kernel
theorem dX12_toHold_44 : decode cX12_toHold 44 = .ok (.iadd, 1) := by decide +kernel
theorem dX12_toHold_45 : decode cX12_toHold 45 = .ok (.bipush 99, 2) := by decide +kernel
theorem dX12_toHold_47 : decode cX12_toHold 47 = .ok (.aload_n 0, 1) := by decide +kernel
theorem dX12_toHold_48 : decode cX12_toHold 48 = .ok (.getfield 66, 3) := by decide +kernel
theorem dX12_toHold_51 : decode cX12_toHold 51 = .ok (.bipush 62, 2) := by decide +kernel
theorem dX12_toHold_53 : decode cX12_toHold 53 = .ok (.iload_n 1, 1) := by decide +kernel
theorem dX12_toHold_54 : decode cX12_toHold 54 = .ok (.iadd, 1) := by decide +kernel
theorem dX12_toHold_55 : decode cX12_toHold 55 = .ok (.iaload, 1) := by decide +kernel
theorem dX12_toHold_56 : decode cX12_toHold 56 = .ok (.iload_n 3, 1) := by decide +kernel
theorem dX12_toHold_57 : decode cX12_toHold 57 = .ok (.iadd, 1) := by decide +kernel
theorem dX12_toHold_58 : decode cX12_toHold 58 = .ok (.invokestatic 336, 3) := by decide +kernel
theorem dX12_toHold_61 : decode cX12_toHold 61 = .ok (.iastore, 1) := by decide +kernel
theorem dX12_toHold_62 : decode cX12_toHold 62 = .ok (.iconst 1, 1) := by decide +kernel
theorem dX12_toHold_63 : decode cX12_toHold 63 = .ok (.istore 4, 2) := by decide +kernel
theorem dX12_toHold_65 : decode cX12_toHold 65 = .ok (.iconst 0, 1) := by decide +kernel
theorem dX12_toHold_66 : decode cX12_toHold 66 = .ok (.istore 5, 2) := by decide +kernel
theorem dX12_toHold_68 : decode cX12_toHold 68 = .ok (.iload 5, 2) := by decide +kernel
theorem dX12_toHold_70 : decode cX12_toHold 70 = .ok (.iload_n 2, 1) := by decide +kernel
theorem dX12_toHold_71 : decode cX12_toHold 71 = .ok (.if_icmp .ge 37, 3) := by decide +kernel
theorem dX12_toHold_74 : decode cX12_toHold 74 = .ok (.iload 4, 2) := by decide +kernel
theorem dX12_toHold_76 : decode cX12_toHold 76 = .ok (.ifCond .eq 32, 3) := by decide +kernel
theorem dX12_toHold_79 : decode cX12_toHold 79 = .ok (.aload_n 0, 1) := by decide +kernel
theorem dX12_toHold_80 : decode cX12_toHold 80 = .ok (.bipush 49, 2) := by decide +kernel
theorem dX12_toHold_82 : decode cX12_toHold 82 = .ok (.invokevirtual 359, 3) := by decide +kernel
theorem dX12_toHold_85 : decode cX12_toHold 85 = .ok (.aload_n 0, 1) := by decide +kernel
theorem dX12_toHold_86 : decode cX12_toHold 86 = .ok (.bipush 49, 2) := by decide +kernel
theorem dX12_toHold_88 : decode cX12_toHold 88 = .ok (.iload_n 1, 1) := by decide +kernel
theorem dX12_toHold_89 : decode cX12_toHold 89 = .ok (.invokevirtual 326, 3) := by decide +kernel
theorem dX12_toHold_92 : decode cX12_toHold 92 = .ok (.ifCond .ne 7, 3) := by decide +kernel
theorem dX12_toHold_95 : decode cX12_toHold 95 = .ok (.iconst 1, 1) := by decide +kernel
theorem dX12_toHold_96 : decode cX12_toHold 96 = .ok (.goto 4, 3) := by decide +kernel
theorem dX12_toHold_99 : decode cX12_toHold 99 = .ok (.iconst 0, 1) := by decide +kernel
theorem dX12_toHold_100 : decode cX12_toHold 100 = .ok (.istore 4, 2) := by decide +kernel
theorem dX12_toHold_102 : decode cX12_toHold 102 = .ok (.iinc 5 1, 3) := by decide +kernel
theorem dX12_toHold_105 : decode cX12_toHold 105 = .ok (.goto (-37), 3) := by decide +kernel
theorem dX12_toHold_108 : decode cX12_toHold 108 = .ok (.iload 4, 2) := by decide +kernel
theorem dX12_toHold_110 : decode cX12_toHold 110 = .ok (.ifCond .eq 5, 3) := by decide +kernel
theorem dX12_toHold_113 : decode cX12_toHold 113 = .ok (.iload_n 3, 1) := by decide +kernel
theorem dX12_toHold_114 : decode cX12_toHold 114 = .ok (.ireturn, 1) := by decide +kernel
theorem dX12_toHold_115 : decode cX12_toHold 115 = .ok (.iinc 3 1, 3) := by decide +kernel
theorem dX12_toHold_118 : decode cX12_toHold 118 = .ok (.goto (-91), 3) := by decide +kernel
theorem dX12_toHold_121 : decode cX12_toHold 121 = .ok (.iconst (-1), 1) := by decide +kernel
theorem dX12_toHold_122 : decode cX12_toHold 122 = .ok (.ireturn, 1) := by decide +kernel
theorem dX12_toSend_0 : decode cX12_toSend 0 = .ok (.aload_n 0, 1) := by decide +kernel
theorem dX12_toSend_1 : decode cX12_toSend 1 = .ok (.iconst 0, 1) := by decide +kernel
theorem dX12_toSend_2 : decode cX12_toSend 2 = .ok (.putfield 117, 3) := by decide +kernel
theorem dX12_toSend_5 : decode cX12_toSend 5 = .ok (.aload_n 0, 1) := by decide +kernel
theorem dX12_toSend_6 : decode cX12_toSend 6 = .ok (.iload_n 1, 1) := by decide +kernel
theorem dX12_toSend_7 : decode cX12_toSend 7 = .ok (.invokevirtual 381, 3) := by decide +kernel
theorem dX12_toSend_10 : decode cX12_toSend 10 = .ok (.ifCond .eq 22, 3) := by decide +kernel
theorem dX12_toSend_13 : decode cX12_toSend 13 = .ok (.aload_n 0, 1) := by decide +kernel
theorem dX12_toSend_14 : decode cX12_toSend 14 = .ok (.iload_n 3, 1) := by decide +kernel
theorem dX12_toSend_15 : decode cX12_toSend 15 = .ok (.iconst 1, 1) := by decide +kernel
theorem dX12_toSend_16 : decode cX12_toSend 16 = .ok (.invokevirtual 378, 3) := by decide +kernel
theorem dX12_toSend_19 : decode cX12_toSend 19 = .ok (.ifCond .eq 13, 3) := by decide +kernel
theorem dX12_toSend_22 : decode cX12_toSend 22 = .ok (.aload_n 0, 1) := by decide +kernel
theorem dX12_toSend_23 : decode cX12_toSend 23 = .ok (.iload_n 2, 1) := by decide +kernel
theorem dX12_toSend_24 : decode cX12_toSend 24 = .ok (.iconst 1, 1) := by decide +kernel
theorem dX12_toSend_25 : decode cX12_toSend 25 = .ok (.iconst 2, 1) := by decide +kernel
theorem dX12_toSend_26 : decode cX12_toSend 26 = .ok (.invokevirtual 396, 3) := by decide +kernel
theorem dX12_toSend_29 : decode cX12_toSend 29 = .ok (.ifCond .ne 5, 3) := by decide +kernel
theorem dX12_toSend_32 : decode cX12_toSend 32 = .ok (.iconst 0, 1) := by decide +kernel
theorem dX12_toSend_33 : decode cX12_toSend 33 = .ok (.ireturn, 1) := by decide +kernel
theorem dX12_toSend_34 : decode cX12_toSend 34 = .ok (.iconst (-1), 1) := by decide +kernel
theorem dX12_toSend_35 : decode cX12_toSend 35 = .ok (.istore 4, 2) := by decide +kernel
theorem dX12_toSend_37 : decode cX12_toSend 37 = .ok (.ldc_w 406, 3) := by decide +kernel
theorem dX12_toSend_40 : decode cX12_toSend 40 = .ok (.istore 5, 2) := by decide +kernel
theorem dX12_toSend_42 : decode cX12_toSend 42 = .ok (.iconst 0, 1) := by decide +kernel
theorem dX12_toSend_43 : decode cX12_toSend 43 = .ok (.istore 6, 2) := by decide +kernel
theorem dX12_toSend_45 : decode cX12_toSend 45 = .ok (.iload 6, 2) := by decide +kernel
theorem dX12_toSend_47 : decode cX12_toSend 47 = .ok (.aload_n 0, 1) := by decide +kernel
theorem dX12_toSend_48 : decode cX12_toSend 48 = .ok (.getfield 7, 3) := by decide +kernel
theorem dX12_toSend_51 : decode cX12_toSend 51 = .ok (.if_icmp .ge 58, 3) := by decide +kernel
theorem dX12_toSend_54 : decode cX12_toSend 54 = .ok (.aload_n 0, 1) := by decide +kernel
theorem dX12_toSend_55 : decode cX12_toSend 55 = .ok (.invokevirtual 390, 3) := by decide +kernel
theorem dX12_toSend_58 : decode cX12_toSend 58 = .ok (.aload_n 0, 1) := by decide +kernel
theorem dX12_toSend_59 : decode cX12_toSend 59 = .ok (.getfield 66, 3) := by decide +kernel
theorem dX12_toSend_62 : decode cX12_toSend 62 = .ok (.bipush 86, 2) := by decide +kernel
theorem dX12_toSend_64 : decode cX12_toSend 64 = .ok (.iload_n 1, 1) := by decide +kernel
theorem dX12_toSend_65 : decode cX12_toSend 65 = .ok (.iadd, 1) := by decide +kernel
theorem dX12_toSend_66 : decode cX12_toSend 66 = .ok (.iload 6, 2) := by decide +kernel
theorem dX12_toSend_68 : decode cX12_toSend 68 = .ok (.iastore, 1) := by decide +kernel
theorem dX12_toSend_69 : decode cX12_toSend 69 = .ok (.aload_n 0, 1) := by decide +kernel
theorem dX12_toSend_70 : decode cX12_toSend 70 = .ok (.iload_n 2, 1) := by decide +kernel
theorem dX12_toSend_71 : decode cX12_toSend 71 = .ok (.invokevirtual 393, 3) := by decide +kernel
theorem dX12_toSend_74 : decode cX12_toSend 74 = .ok (.aload_n 0, 1) := by decide +kernel
theorem dX12_toSend_75 : decode cX12_toSend 75 = .ok (.bipush 49, 2) := by decide +kernel
theorem dX12_toSend_77 : decode cX12_toSend 77 = .ok (.invokevirtual 366, 3) := by decide +kernel
theorem dX12_toSend_80 : decode cX12_toSend 80 = .ok (.invokestatic 320, 3) := by decide +kernel
theorem dX12_toSend_83 : decode cX12_toSend 83 = .ok (.istore 7, 2) := by decide +kernel
theorem dX12_toSend_85 : decode cX12_toSend 85 = .ok (.iload 7, 2) := by decide +kernel
theorem dX12_toSend_87 : decode cX12_toSend 87 = .ok (.iload 5, 2) := by decide +kernel
theorem dX12_toSend_89 : decode cX12_toSend 89 = .ok (.if_icmp .lt 6, 3) := by decide +kernel
theorem dX12_toSend_92 : decode cX12_toSend 92 = .ok (.goto 11, 3) := by decide +kernel
theorem dX12_toSend_95 : decode cX12_toSend 95 = .ok (.iload 6, 2) := by decide +kernel
theorem dX12_toSend_97 : decode cX12_toSend 97 = .ok (.istore 4, 2) := by decide +kernel
theorem dX12_toSend_99 : decode cX12_toSend 99 = .ok (.iload 7, 2) := by decide +kernel
theorem dX12_toSend_101 : decode cX12_toSend 101 = .ok (.istore 5, 2) := by decide +kernel
theorem dX12_toSend_103 : decode cX12_toSend 103 = .ok (.iinc 6 1, 3) := by decide +kernel
theorem dX12_toSend_106 : decode cX12_toSend 106 = .ok (.goto (-61), 3) := by decide +kernel
theorem dX12_toSend_109 : decode cX12_toSend 109 = .ok (.iload_n 3, 1) := by decide +kernel
theorem dX12_toSend_110 : decode cX12_toSend 110 = .ok (.ifCond .ne 8, 3) := by decide +kernel
theorem dX12_toSend_113 : decode cX12_toSend 113 = .ok (.iload 4, 2) := by decide +kernel
theorem dX12_toSend_115 : decode cX12_toSend 115 = .ok (.goto 5, 3) := by decide +kernel
theorem dX12_toSend_118 : decode cX12_toSend 118 = .ok (.iload 5, 2) := by decide +kernel
theorem dX12_toSend_120 : decode cX12_toSend 120 = .ok (.ireturn, 1) := by decide +kernel
theorem dX12_bestStitch_0 : decode cX12_bestStitch 0 = .ok (.aload_n 0, 1) := by decide +kernel
theorem dX12_bestStitch_1 : decode cX12_bestStitch 1 = .ok (.iconst 0, 1) := by decide +kernel
theorem dX12_bestStitch_2 : decode cX12_bestStitch 2 = .ok (.putfield 117, 3) := by decide +kernel
theorem dX12_bestStitch_5 : decode cX12_bestStitch 5 = .ok (.aload_n 0, 1) := by decide +kernel
theorem dX12_bestStitch_6 : decode cX12_bestStitch 6 = .ok (.iload_n 1, 1) := by decide +kernel
theorem dX12_bestStitch_7 : decode cX12_bestStitch 7 = .ok (.invokevirtual 375, 3) := by decide +kernel
theorem dX12_bestStitch_10 : decode cX12_bestStitch 10 = .ok (.ifCond .eq 13, 3) := by decide +kernel
theorem dX12_bestStitch_13 : decode cX12_bestStitch 13 = .ok (.aload_n 0, 1) := by decide +kernel
theorem dX12_bestStitch_14 : decode cX12_bestStitch 14 = .ok (.iload_n 2, 1) := by decide +kernel
theorem dX12_bestStitch_15 : decode cX12_bestStitch 15 = .ok (.iconst 1, 1) := by decide +kernel
theorem dX12_bestStitch_16 : decode cX12_bestStitch 16 = .ok (.iconst 2, 1) := by decide +kernel
theorem dX12_bestStitch_17 : decode cX12_bestStitch 17 = .ok (.invokevirtual 396, 3) := by decide +kernel
theorem dX12_bestStitch_20 : decode cX12_bestStitch 20 = .ok (.ifCond .ne 5, 3) := by decide +kernel
theorem dX12_bestStitch_23 : decode cX12_bestStitch 23 = .ok (.iconst 0, 1) := by decide +kernel
theorem dX12_bestStitch_24 : decode cX12_bestStitch 24 = .ok (.ireturn, 1) := by decide +kernel
theorem dX12_bestStitch_25 : decode cX12_bestStitch 25 = .ok (.iconst (-1), 1) := by decide +kernel
theorem dX12_bestStitch_26 : decode cX12_bestStitch 26 = .ok (.istore_n 3, 1) := by decide +kernel
theorem dX12_bestStitch_27 : decode cX12_bestStitch 27 = .ok (.iconst (-1), 1) := by decide +kernel
theorem dX12_bestStitch_28 : decode cX12_bestStitch 28 = .ok (.istore 4, 2) := by decide +kernel
theorem dX12_bestStitch_30 : decode cX12_bestStitch 30 = .ok (.iconst 0, 1) := by decide +kernel
theorem dX12_bestStitch_31 : decode cX12_bestStitch 31 = .ok (.istore 5, 2) := by decide +kernel
theorem dX12_bestStitch_33 : decode cX12_bestStitch 33 = .ok (.iload 5, 2) := by decide +kernel
theorem dX12_bestStitch_35 : decode cX12_bestStitch 35 = .ok (.iconst 3, 1) := by decide +kernel
theorem dX12_bestStitch_36 : decode cX12_bestStitch 36 = .ok (.if_icmp .ge 60, 3) := by decide +kernel
theorem dX12_bestStitch_39 : decode cX12_bestStitch 39 = .ok (.aload_n 0, 1) := by decide +kernel
theorem dX12_bestStitch_40 : decode cX12_bestStitch 40 = .ok (.invokevirtual 390, 3) := by decide +kernel
theorem dX12_bestStitch_43 : decode cX12_bestStitch 43 = .ok (.aload_n 0, 1) := by decide +kernel
theorem dX12_bestStitch_44 : decode cX12_bestStitch 44 = .ok (.getfield 66, 3) := by decide +kernel
theorem dX12_bestStitch_47 : decode cX12_bestStitch 47 = .ok (.bipush 74, 2) := by decide +kernel
theorem dX12_bestStitch_49 : decode cX12_bestStitch 49 = .ok (.iload_n 1, 1) := by decide +kernel
theorem dX12_bestStitch_50 : decode cX12_bestStitch 50 = .ok (.iadd, 1) := by decide +kernel
theorem dX12_bestStitch_51 : decode cX12_bestStitch 51 = .ok (.iload 5, 2) := by decide +kernel
theorem dX12_bestStitch_53 : decode cX12_bestStitch 53 = .ok (.iastore, 1) := by decide +kernel
theorem dX12_bestStitch_54 : decode cX12_bestStitch 54 = .ok (.aload_n 0, 1) := by decide +kernel
theorem dX12_bestStitch_55 : decode cX12_bestStitch 55 = .ok (.iload_n 2, 1) := by decide +kernel
theorem dX12_bestStitch_56 : decode cX12_bestStitch 56 = .ok (.invokevirtual 393, 3) := by decide +kernel
theorem dX12_bestStitch_59 : decode cX12_bestStitch 59 = .ok (.aload_n 0, 1) := by decide +kernel
theorem dX12_bestStitch_60 : decode cX12_bestStitch 60 = .ok (.getfield 66, 3) := by decide +kernel
theorem dX12_bestStitch_63 : decode cX12_bestStitch 63 = .ok (.bipush 62, 2) := by decide +kernel
theorem dX12_bestStitch_65 : decode cX12_bestStitch 65 = .ok (.iload_n 1, 1) := by decide +kernel
theorem dX12_bestStitch_66 : decode cX12_bestStitch 66 = .ok (.iadd, 1) := by decide +kernel
theorem dX12_bestStitch_67 : decode cX12_bestStitch 67 = .ok (.iaload, 1) := by decide +kernel
theorem dX12_bestStitch_68 : decode cX12_bestStitch 68 = .ok (.iload 4, 2) := by decide +kernel
theorem dX12_bestStitch_70 : decode cX12_bestStitch 70 = .ok (.if_icmp .gt 6, 3) := by decide +kernel
theorem dX12_bestStitch_73 : decode cX12_bestStitch 73 = .ok (.goto 17, 3) := by decide +kernel
theorem dX12_bestStitch_76 : decode cX12_bestStitch 76 = .ok (.iload 5, 2) := by decide +kernel
theorem dX12_bestStitch_78 : decode cX12_bestStitch 78 = .ok (.istore_n 3, 1) := by decide +kernel
theorem dX12_bestStitch_79 : decode cX12_bestStitch 79 = .ok (.aload_n 0, 1) := by decide +kernel
theorem dX12_bestStitch_80 : decode cX12_bestStitch 80 = .ok (.getfield 66, 3) := by decide +kernel
theorem dX12_bestStitch_83 : decode cX12_bestStitch 83 = .ok (.bipush 62, 2) := by decide +kernel
theorem dX12_bestStitch_85 : decode cX12_bestStitch 85 = .ok (.iload_n 1, 1) := by decide +kernel
theorem dX12_bestStitch_86 : decode cX12_bestStitch 86 = .ok (.iadd, 1) := by decide +kernel
theorem dX12_bestStitch_87 : decode cX12_bestStitch 87 = .ok (.iaload, 1) := by decide +kernel
theorem dX12_bestStitch_88 : decode cX12_bestStitch 88 = .ok (.istore 4, 2) := by decide +kernel
theorem dX12_bestStitch_90 : decode cX12_bestStitch 90 = .ok (.iinc 5 1, 3) := by decide +kernel
theorem dX12_bestStitch_93 : decode cX12_bestStitch 93 = .ok (.goto (-60), 3) := by decide +kernel
theorem dX12_bestStitch_96 : decode cX12_bestStitch 96 = .ok (.iload_n 3, 1) := by decide +kernel
theorem dX12_bestStitch_97 : decode cX12_bestStitch 97 = .ok (.ireturn, 1) := by decide +kernel
theorem dX12_stepsBy_0 : decode cX12_stepsBy 0 = .ok (.iload_n 1, 1) := by decide +kernel
theorem dX12_stepsBy_1 : decode cX12_stepsBy 1 = .ok (.iload_n 2, 1) := by decide +kernel
theorem dX12_stepsBy_2 : decode cX12_stepsBy 2 = .ok (.if_icmp .ge 9, 3) := by decide +kernel
theorem dX12_stepsBy_5 : decode cX12_stepsBy 5 = .ok (.iload_n 2, 1) := by decide +kernel
theorem dX12_stepsBy_6 : decode cX12_stepsBy 6 = .ok (.iload_n 1, 1) := by decide +kernel
theorem dX12_stepsBy_7 : decode cX12_stepsBy 7 = .ok (.isub, 1) := by decide +kernel
theorem dX12_stepsBy_8 : decode cX12_stepsBy 8 = .ok (.goto 6, 3) := by decide +kernel
theorem dX12_stepsBy_11 : decode cX12_stepsBy 11 = .ok (.iload_n 1, 1) := by decide +kernel
theorem dX12_stepsBy_12 : decode cX12_stepsBy 12 = .ok (.iload_n 2, 1) := by decide +kernel
theorem dX12_stepsBy_13 : decode cX12_stepsBy 13 = .ok (.isub, 1) := by decide +kernel
theorem dX12_stepsBy_14 : decode cX12_stepsBy 14 = .ok (.istore_n 3, 1) := by decide +kernel
theorem dX12_stepsBy_15 : decode cX12_stepsBy 15 = .ok (.iload_n 3, 1) := by decide +kernel
theorem dX12_stepsBy_16 : decode cX12_stepsBy 16 = .ok (.aload_n 0, 1) := by decide +kernel
theorem dX12_stepsBy_17 : decode cX12_stepsBy 17 = .ok (.getfield 7, 3) := by decide +kernel
theorem dX12_stepsBy_20 : decode cX12_stepsBy 20 = .ok (.iload_n 3, 1) := by decide +kernel
theorem dX12_stepsBy_21 : decode cX12_stepsBy 21 = .ok (.isub, 1) := by decide +kernel
theorem dX12_stepsBy_22 : decode cX12_stepsBy 22 = .ok (.invokestatic 336, 3) := by decide +kernel
theorem dX12_stepsBy_25 : decode cX12_stepsBy 25 = .ok (.ireturn, 1) := by decide +kernel
theorem dX12_byWoman_0 : decode cX12_byWoman 0 = .ok (.aload_n 0, 1) := by decide +kernel
theorem dX12_byWoman_1 : decode cX12_byWoman 1 = .ok (.aload_n 0, 1) := by decide +kernel
theorem dX12_byWoman_2 : decode cX12_byWoman 2 = .ok (.getfield 66, 3) := by decide +kernel
theorem dX12_byWoman_5 : decode cX12_byWoman 5 = .ok (.bipush 37, 2) := by decide +kernel
theorem dX12_byWoman_7 : decode cX12_byWoman 7 = .ok (.iload_n 2, 1) := by decide +kernel
theorem dX12_byWoman_8 : decode cX12_byWoman 8 = .ok (.iadd, 1) := by decide +kernel
theorem dX12_byWoman_9 : decode cX12_byWoman 9 = .ok (.iaload, 1) := by decide +kernel
theorem dX12_byWoman_10 : decode cX12_byWoman 10 = .ok (.aload_n 0, 1) := by decide +kernel
theorem dX12_byWoman_11 : decode cX12_byWoman 11 = .ok (.getfield 84, 3) := by decide +kernel
theorem dX12_byWoman_14 : decode cX12_byWoman 14 = .ok (.iload_n 1, 1) := by decide +kernel
theorem dX12_byWoman_15 : decode cX12_byWoman 15 = .ok (.iaload, 1) := by decide +kernel
theorem dX12_byWoman_16 : decode cX12_byWoman 16 = .ok (.invokevirtual 410, 3) := by decide +kernel
theorem dX12_byWoman_19 : decode cX12_byWoman 19 = .ok (.aload_n 0, 1) := by decide +kernel
theorem dX12_byWoman_20 : decode cX12_byWoman 20 = .ok (.getfield 81, 3) := by decide +kernel
theorem dX12_byWoman_23 : decode cX12_byWoman 23 = .ok (.bipush 64, 2) := by decide +kernel
theorem dX12_byWoman_25 : decode cX12_byWoman 25 = .ok (.iload_n 1, 1) := by decide +kernel
theorem dX12_byWoman_26 : decode cX12_byWoman 26 = .ok (.iconst 1, 1) := by decide +kernel
theorem dX12_byWoman_27 : decode cX12_byWoman 27 = .ok (.iadd, 1) := by decide +kernel
theorem dX12_byWoman_28 : decode cX12_byWoman 28 = .ok (.imul, 1) := by decide +kernel
theorem dX12_byWoman_29 : decode cX12_byWoman 29 = .ok (.iload_n 3, 1) := by decide +kernel
theorem dX12_byWoman_30 : decode cX12_byWoman 30 = .ok (.iconst 1, 1) := by decide +kernel
theorem dX12_byWoman_31 : decode cX12_byWoman 31 = .ok (.iload_n 2, 1) := by decide +kernel
theorem dX12_byWoman_32 : decode cX12_byWoman 32 = .ok (.ishl, 1) := by decide +kernel
theorem dX12_byWoman_33 : decode cX12_byWoman 33 = .ok (.ior, 1) := by decide +kernel
theorem dX12_byWoman_34 : decode cX12_byWoman 34 = .ok (.iadd, 1) := by decide +kernel
theorem dX12_byWoman_35 : decode cX12_byWoman 35 = .ok (.iaload, 1) := by decide +kernel
theorem dX12_byWoman_36 : decode cX12_byWoman 36 = .ok (.iadd, 1) := by decide +kernel
theorem dX12_byWoman_37 : decode cX12_byWoman 37 = .ok (.ireturn, 1) := by decide +kernel
theorem dX12_sent_0 : decode cX12_sent 0 = .ok (.aload_n 0, 1) := by decide +kernel
theorem dX12_sent_1 : decode cX12_sent 1 = .ok (.iconst 0, 1) := by decide +kernel
theorem dX12_sent_2 : decode cX12_sent 2 = .ok (.putfield 117, 3) := by decide +kernel
theorem dX12_sent_5 : decode cX12_sent 5 = .ok (.aload_n 0, 1) := by decide +kernel
theorem dX12_sent_6 : decode cX12_sent 6 = .ok (.iload_n 1, 1) := by decide +kernel
theorem dX12_sent_7 : decode cX12_sent 7 = .ok (.ifCond .lt 26, 3) := by decide +kernel
theorem dX12_sent_10 : decode cX12_sent 10 = .ok (.iload_n 1, 1) := by decide +kernel
theorem dX12_sent_11 : decode cX12_sent 11 = .ok (.iconst 1, 1) := by decide +kernel
theorem dX12_sent_12 : decode cX12_sent 12 = .ok (.aload_n 0, 1) := by decide +kernel
theorem dX12_sent_13 : decode cX12_sent 13 = .ok (.getfield 7, 3) := by decide +kernel
theorem dX12_sent_16 : decode cX12_sent 16 = .ok (.ishl, 1) := by decide +kernel
theorem dX12_sent_17 : decode cX12_sent 17 = .ok (.if_icmp .ge 16, 3) := by decide +kernel
theorem dX12_sent_20 : decode cX12_sent 20 = .ok (.iload_n 1, 1) := by decide +kernel
theorem dX12_sent_21 : decode cX12_sent 21 = .ok (.invokestatic 320, 3) := by decide +kernel
theorem dX12_sent_24 : decode cX12_sent 24 = .ok (.bipush 6, 2) := by decide +kernel
theorem dX12_sent_26 : decode cX12_sent 26 = .ok (.if_icmp .gt 7, 3) := by decide +kernel
theorem dX12_sent_29 : decode cX12_sent 29 = .ok (.iconst 1, 1) := by decide +kernel
theorem dX12_sent_30 : decode cX12_sent 30 = .ok (.goto 4, 3) := by decide +kernel
theorem dX12_sent_33 : decode cX12_sent 33 = .ok (.iconst 0, 1) := by decide +kernel
theorem dX12_sent_34 : decode cX12_sent 34 = .ok (.iconst 2, 1) := by decide +kernel
theorem dX12_sent_35 : decode cX12_sent 35 = .ok (.invokevirtual 277, 3) := by decide +kernel
theorem dX12_sent_38 : decode cX12_sent 38 = .ok (.ifCond .ne 5, 3) := by decide +kernel
theorem dX12_sent_41 : decode cX12_sent 41 = .ok (.iconst 0, 1) := by decide +kernel
theorem dX12_sent_42 : decode cX12_sent 42 = .ok (.ireturn, 1) := by decide +kernel
theorem dX12_sent_43 : decode cX12_sent 43 = .ok (.aload_n 0, 1) := by decide +kernel
theorem dX12_sent_44 : decode cX12_sent 44 = .ok (.iload_n 2, 1) := by decide +kernel
theorem dX12_sent_45 : decode cX12_sent 45 = .ok (.iconst (-1), 1) := by decide +kernel
theorem dX12_sent_46 : decode cX12_sent 46 = .ok (.if_icmp .eq 24, 3) := by decide +kernel
theorem dX12_sent_49 : decode cX12_sent 49 = .ok (.iload_n 2, 1) := by decide +kernel
theorem dX12_sent_50 : decode cX12_sent 50 = .ok (.ifCond .lt 24, 3) := by decide +kernel
theorem dX12_sent_53 : decode cX12_sent 53 = .ok (.iload_n 2, 1) := by decide +kernel
theorem dX12_sent_54 : decode cX12_sent 54 = .ok (.aload_n 0, 1) := by decide +kernel
theorem dX12_sent_55 : decode cX12_sent 55 = .ok (.getfield 7, 3) := by decide +kernel
theorem dX12_sent_58 : decode cX12_sent 58 = .ok (.if_icmp .ge 16, 3) := by decide +kernel
theorem dX12_sent_61 : decode cX12_sent 61 = .ok (.iload_n 1, 1) := by decide +kernel
theorem dX12_sent_62 : decode cX12_sent 62 = .ok (.iload_n 2, 1) := by decide +kernel
theorem dX12_sent_63 : decode cX12_sent 63 = .ok (.ishr, 1) := by decide +kernel
theorem dX12_sent_64 : decode cX12_sent 64 = .ok (.iconst 1, 1) := by decide +kernel
theorem dX12_sent_65 : decode cX12_sent 65 = .ok (.iand, 1) := by decide +kernel
theorem dX12_sent_66 : decode cX12_sent 66 = .ok (.iconst 1, 1) := by decide +kernel
theorem dX12_sent_67 : decode cX12_sent 67 = .ok (.if_icmp .ne 7, 3) := by decide +kernel
theorem dX12_sent_70 : decode cX12_sent 70 = .ok (.iconst 1, 1) := by decide +kernel
theorem dX12_sent_71 : decode cX12_sent 71 = .ok (.goto 4, 3) := by decide +kernel
theorem dX12_sent_74 : decode cX12_sent 74 = .ok (.iconst 0, 1) := by decide +kernel
theorem dX12_sent_75 : decode cX12_sent 75 = .ok (.iconst 1, 1) := by decide +kernel
theorem dX12_sent_76 : decode cX12_sent 76 = .ok (.invokevirtual 277, 3) := by decide +kernel
theorem dX12_sent_79 : decode cX12_sent 79 = .ok (.ifCond .ne 5, 3) := by decide +kernel
theorem dX12_sent_82 : decode cX12_sent 82 = .ok (.iconst 0, 1) := by decide +kernel
theorem dX12_sent_83 : decode cX12_sent 83 = .ok (.ireturn, 1) := by decide +kernel
theorem dX12_sent_84 : decode cX12_sent 84 = .ok (.iconst 0, 1) := by decide +kernel
theorem dX12_sent_85 : decode cX12_sent 85 = .ok (.istore_n 3, 1) := by decide +kernel
theorem dX12_sent_86 : decode cX12_sent 86 = .ok (.iconst 0, 1) := by decide +kernel
theorem dX12_sent_87 : decode cX12_sent 87 = .ok (.istore 4, 2) := by decide +kernel
theorem dX12_sent_89 : decode cX12_sent 89 = .ok (.iload 4, 2) := by decide +kernel
theorem dX12_sent_91 : decode cX12_sent 91 = .ok (.aload_n 0, 1) := by decide +kernel
theorem dX12_sent_92 : decode cX12_sent 92 = .ok (.getfield 7, 3) := by decide +kernel
theorem dX12_sent_95 : decode cX12_sent 95 = .ok (.if_icmp .ge 32, 3) := by decide +kernel
theorem dX12_sent_98 : decode cX12_sent 98 = .ok (.iload_n 1, 1) := by decide +kernel
theorem dX12_sent_99 : decode cX12_sent 99 = .ok (.iload 4, 2) := by decide +kernel
theorem dX12_sent_101 : decode cX12_sent 101 = .ok (.ishr, 1) := by decide +kernel
theorem dX12_sent_102 : decode cX12_sent 102 = .ok (.iconst 1, 1) := by decide +kernel
theorem dX12_sent_103 : decode cX12_sent 103 = .ok (.iand, 1) := by decide +kernel
theorem dX12_sent_104 : decode cX12_sent 104 = .ok (.ifCond .ne 6, 3) := by decide +kernel
theorem dX12_sent_107 : decode cX12_sent 107 = .ok (.goto 14, 3) := by decide +kernel
theorem dX12_sent_110 : decode cX12_sent 110 = .ok (.aload_n 0, 1) := by decide +kernel
theorem dX12_sent_111 : decode cX12_sent 111 = .ok (.getfield 84, 3) := by decide +kernel
theorem dX12_sent_114 : decode cX12_sent 114 = .ok (.iload_n 3, 1) := by decide +kernel
theorem dX12_sent_115 : decode cX12_sent 115 = .ok (.iload 4, 2) := by decide +kernel
theorem dX12_sent_117 : decode cX12_sent 117 = .ok (.iastore, 1) := by decide +kernel
theorem dX12_sent_118 : decode cX12_sent 118 = .ok (.iinc 3 1, 3) := by decide +kernel
theorem dX12_sent_121 : decode cX12_sent 121 = .ok (.iinc 4 1, 3) := by decide +kernel
theorem dX12_sent_124 : decode cX12_sent 124 = .ok (.goto (-35), 3) := by decide +kernel
theorem dX12_sent_127 : decode cX12_sent 127 = .ok (.iload_n 3, 1) := by decide +kernel
theorem dX12_sent_128 : decode cX12_sent 128 = .ok (.aload_n 0, 1) := by decide +kernel
theorem dX12_sent_129 : decode cX12_sent 129 = .ok (.getfield 284, 3) := by decide +kernel
theorem dX12_sent_132 : decode cX12_sent 132 = .ok (.if_icmp .le 6, 3) := by decide +kernel
theorem dX12_sent_135 : decode cX12_sent 135 = .ok (.bipush (-2), 2) := by decide +kernel
theorem dX12_sent_137 : decode cX12_sent 137 = .ok (.ireturn, 1) := by decide +kernel
theorem dX12_sent_138 : decode cX12_sent 138 = .ok (.iconst 0, 1) := by decide +kernel
theorem dX12_sent_139 : decode cX12_sent 139 = .ok (.istore 4, 2) := by decide +kernel
theorem dX12_sent_141 : decode cX12_sent 141 = .ok (.iload 4, 2) := by decide +kernel
theorem dX12_sent_143 : decode cX12_sent 143 = .ok (.bipush 64, 2) := by decide +kernel
theorem dX12_sent_145 : decode cX12_sent 145 = .ok (.if_icmp .ge 22, 3) := by decide +kernel
theorem dX12_sent_148 : decode cX12_sent 148 = .ok (.aload_n 0, 1) := by decide +kernel
theorem dX12_sent_149 : decode cX12_sent 149 = .ok (.getfield 81, 3) := by decide +kernel
theorem dX12_sent_152 : decode cX12_sent 152 = .ok (.bipush 64, 2) := by decide +kernel
theorem dX12_sent_154 : decode cX12_sent 154 = .ok (.iload_n 3, 1) := by decide +kernel
theorem dX12_sent_155 : decode cX12_sent 155 = .ok (.imul, 1) := by decide +kernel
theorem dX12_sent_156 : decode cX12_sent 156 = .ok (.iload 4, 2) := by decide +kernel
theorem dX12_sent_158 : decode cX12_sent 158 = .ok (.iadd, 1) := by decide +kernel
theorem dX12_sent_159 : decode cX12_sent 159 = .ok (.iconst 0, 1) := by decide +kernel
theorem dX12_sent_160 : decode cX12_sent 160 = .ok (.iastore, 1) := by decide +kernel
theorem dX12_sent_161 : decode cX12_sent 161 = .ok (.iinc 4 1, 3) := by decide +kernel
theorem dX12_sent_164 : decode cX12_sent 164 = .ok (.goto (-23), 3) := by decide +kernel
theorem dX12_sent_167 : decode cX12_sent 167 = .ok (.iload_n 3, 1) := by decide +kernel
theorem dX12_sent_168 : decode cX12_sent 168 = .ok (.iconst 1, 1) := by decide +kernel
theorem dX12_sent_169 : decode cX12_sent 169 = .ok (.isub, 1) := by decide +kernel
theorem dX12_sent_170 : decode cX12_sent 170 = .ok (.istore 4, 2) := by decide +kernel
theorem dX12_sent_172 : decode cX12_sent 172 = .ok (.iload 4, 2) := by decide +kernel
theorem dX12_sent_174 : decode cX12_sent 174 = .ok (.ifCond .lt 94, 3) := by decide +kernel
theorem dX12_sent_177 : decode cX12_sent 177 = .ok (.iconst 0, 1) := by decide +kernel
theorem dX12_sent_178 : decode cX12_sent 178 = .ok (.istore 5, 2) := by decide +kernel
theorem dX12_sent_180 : decode cX12_sent 180 = .ok (.iload 5, 2) := by decide +kernel
theorem dX12_sent_182 : decode cX12_sent 182 = .ok (.iconst 1, 1) := by decide +kernel
theorem dX12_sent_183 : decode cX12_sent 183 = .ok (.aload_n 0, 1) := by decide +kernel
theorem dX12_sent_184 : decode cX12_sent 184 = .ok (.getfield 284, 3) := by decide +kernel
theorem dX12_sent_187 : decode cX12_sent 187 = .ok (.ishl, 1) := by decide +kernel
theorem dX12_sent_188 : decode cX12_sent 188 = .ok (.if_icmp .ge 74, 3) := by decide +kernel
theorem dX12_sent_191 : decode cX12_sent 191 = .ok (.ldc_w 406, 3) := by decide +kernel
theorem dX12_sent_194 : decode cX12_sent 194 = .ok (.istore 6, 2) := by decide +kernel
theorem dX12_sent_196 : decode cX12_sent 196 = .ok (.iconst 0, 1) := by decide +kernel
theorem dX12_sent_197 : decode cX12_sent 197 = .ok (.istore 7, 2) := by decide +kernel
theorem dX12_sent_199 : decode cX12_sent 199 = .ok (.iload 7, 2) := by decide +kernel
theorem dX12_sent_201 : decode cX12_sent 201 = .ok (.aload_n 0, 1) := by decide +kernel
theorem dX12_sent_202 : decode cX12_sent 202 = .ok (.getfield 284, 3) := by decide +kernel
theorem dX12_sent_205 : decode cX12_sent 205 = .ok (.if_icmp .ge 36, 3) := by decide +kernel
theorem dX12_sent_208 : decode cX12_sent 208 = .ok (.iload 5, 2) := by decide +kernel
theorem dX12_sent_210 : decode cX12_sent 210 = .ok (.iload 7, 2) := by decide +kernel
theorem dX12_sent_212 : decode cX12_sent 212 = .ok (.ishr, 1) := by decide +kernel
theorem dX12_sent_213 : decode cX12_sent 213 = .ok (.iconst 1, 1) := by decide +kernel
theorem dX12_sent_214 : decode cX12_sent 214 = .ok (.iand, 1) := by decide +kernel
theorem dX12_sent_215 : decode cX12_sent 215 = .ok (.ifCond .ne 20, 3) := by decide +kernel
theorem dX12_sent_218 : decode cX12_sent 218 = .ok (.iload 6, 2) := by decide +kernel
theorem dX12_sent_220 : decode cX12_sent 220 = .ok (.aload_n 0, 1) := by decide +kernel
theorem dX12_sent_221 : decode cX12_sent 221 = .ok (.iload 4, 2) := by decide +kernel
theorem dX12_sent_223 : decode cX12_sent 223 = .ok (.iload 7, 2) := by decide +kernel
theorem dX12_sent_225 : decode cX12_sent 225 = .ok (.iload 5, 2) := by decide +kernel
theorem dX12_sent_227 : decode cX12_sent 227 = .ok (.invokevirtual 413, 3) := by decide +kernel
theorem dX12_sent_230 : decode cX12_sent 230 = .ok (.invokestatic 336, 3) := by decide +kernel
theorem dX12_sent_233 : decode cX12_sent 233 = .ok (.istore 6, 2) := by decide +kernel
theorem dX12_sent_235 : decode cX12_sent 235 = .ok (.iinc 7 1, 3) := by decide +kernel
theorem dX12_sent_238 : decode cX12_sent 238 = .ok (.goto (-39), 3) := by decide +kernel
theorem dX12_sent_241 : decode cX12_sent 241 = .ok (.aload_n 0, 1) := by decide +kernel
theorem dX12_sent_242 : decode cX12_sent 242 = .ok (.getfield 81, 3) := by decide +kernel
theorem dX12_sent_245 : decode cX12_sent 245 = .ok (.bipush 64, 2) := by decide +kernel
theorem dX12_sent_247 : decode cX12_sent 247 = .ok (.iload 4, 2) := by decide +kernel
theorem dX12_sent_249 : decode cX12_sent 249 = .ok (.imul, 1) := by decide +kernel
theorem dX12_sent_250 : decode cX12_sent 250 = .ok (.iload 5, 2) := by decide +kernel
theorem dX12_sent_252 : decode cX12_sent 252 = .ok (.iadd, 1) := by decide +kernel
theorem dX12_sent_253 : decode cX12_sent 253 = .ok (.iload 6, 2) := by decide +kernel
theorem dX12_sent_255 : decode cX12_sent 255 = .ok (.iastore, 1) := by decide +kernel
theorem dX12_sent_256 : decode cX12_sent 256 = .ok (.iinc 5 1, 3) := by decide +kernel
theorem dX12_sent_259 : decode cX12_sent 259 = .ok (.goto (-79), 3) := by decide +kernel
theorem dX12_sent_262 : decode cX12_sent 262 = .ok (.iinc 4 (-1), 3) := by decide +kernel
theorem dX12_sent_265 : decode cX12_sent 265 = .ok (.goto (-93), 3) := by decide +kernel
theorem dX12_sent_268 : decode cX12_sent 268 = .ok (.iload_n 2, 1) := by decide +kernel
theorem dX12_sent_269 : decode cX12_sent 269 = .ok (.iconst (-1), 1) := by decide +kernel
theorem dX12_sent_270 : decode cX12_sent 270 = .ok (.if_icmp .ne 10, 3) := by decide +kernel
theorem dX12_sent_273 : decode cX12_sent 273 = .ok (.aload_n 0, 1) := by decide +kernel
theorem dX12_sent_274 : decode cX12_sent 274 = .ok (.getfield 81, 3) := by decide +kernel
theorem dX12_sent_277 : decode cX12_sent 277 = .ok (.iconst 0, 1) := by decide +kernel
theorem dX12_sent_278 : decode cX12_sent 278 = .ok (.iaload, 1) := by decide +kernel
theorem dX12_sent_279 : decode cX12_sent 279 = .ok (.ireturn, 1) := by decide +kernel
theorem dX12_sent_280 : decode cX12_sent 280 = .ok (.iconst 0, 1) := by decide +kernel
theorem dX12_sent_281 : decode cX12_sent 281 = .ok (.istore 4, 2) := by decide +kernel
theorem dX12_sent_283 : decode cX12_sent 283 = .ok (.iconst (-1), 1) := by decide +kernel
theorem dX12_sent_284 : decode cX12_sent 284 = .ok (.istore 5, 2) := by decide +kernel
theorem dX12_sent_286 : decode cX12_sent 286 = .ok (.iconst 0, 1) := by decide +kernel
theorem dX12_sent_287 : decode cX12_sent 287 = .ok (.istore 6, 2) := by decide +kernel
theorem dX12_sent_289 : decode cX12_sent 289 = .ok (.iload 6, 2) := by decide +kernel
theorem dX12_sent_291 : decode cX12_sent 291 = .ok (.iload_n 3, 1) := by decide +kernel
theorem dX12_sent_292 : decode cX12_sent 292 = .ok (.if_icmp .ge 91, 3) := by decide +kernel
theorem dX12_sent_295 : decode cX12_sent 295 = .ok (.aload_n 0, 1) := by decide +kernel
theorem dX12_sent_296 : decode cX12_sent 296 = .ok (.getfield 284, 3) := by decide +kernel
theorem dX12_sent_299 : decode cX12_sent 299 = .ok (.iconst 1, 1) := by decide +kernel
theorem dX12_sent_300 : decode cX12_sent 300 = .ok (.isub, 1) := by decide +kernel
theorem dX12_sent_301 : decode cX12_sent 301 = .ok (.istore 7, 2) := by decide +kernel
theorem dX12_sent_303 : decode cX12_sent 303 = .ok (.iload 7, 2) := by decide +kernel
theorem dX12_sent_305 : decode cX12_sent 305 = .ok (.ifCond .lt 49, 3) := by decide +kernel
theorem dX12_sent_308 : decode cX12_sent 308 = .ok (.iload 4, 2) := by decide +kernel
theorem dX12_sent_310 : decode cX12_sent 310 = .ok (.iload 7, 2) := by decide +kernel
theorem dX12_sent_312 : decode cX12_sent 312 = .ok (.ishr, 1) := by decide +kernel
theorem dX12_sent_313 : decode cX12_sent 313 = .ok (.iconst 1, 1) := by decide +kernel
theorem dX12_sent_314 : decode cX12_sent 314 = .ok (.iand, 1) := by decide +kernel
theorem dX12_sent_315 : decode cX12_sent 315 = .ok (.ifCond .ne 33, 3) := by decide +kernel
theorem dX12_sent_318 : decode cX12_sent 318 = .ok (.aload_n 0, 1) := by decide +kernel
theorem dX12_sent_319 : decode cX12_sent 319 = .ok (.iload 6, 2) := by decide +kernel
theorem dX12_sent_321 : decode cX12_sent 321 = .ok (.iload 7, 2) := by decide +kernel
theorem dX12_sent_323 : decode cX12_sent 323 = .ok (.iload 4, 2) := by decide +kernel
theorem dX12_sent_325 : decode cX12_sent 325 = .ok (.invokevirtual 413, 3) := by decide +kernel
theorem dX12_sent_328 : decode cX12_sent 328 = .ok (.aload_n 0, 1) := by decide +kernel
theorem dX12_sent_329 : decode cX12_sent 329 = .ok (.getfield 81, 3) := by decide +kernel
theorem dX12_sent_332 : decode cX12_sent 332 = .ok (.bipush 64, 2) := by decide +kernel
theorem dX12_sent_334 : decode cX12_sent 334 = .ok (.iload 6, 2) := by decide +kernel
theorem dX12_sent_336 : decode cX12_sent 336 = .ok (.imul, 1) := by decide +kernel
theorem dX12_sent_337 : decode cX12_sent 337 = .ok (.iload 4, 2) := by decide +kernel
theorem dX12_sent_339 : decode cX12_sent 339 = .ok (.iadd, 1) := by decide +kernel
theorem dX12_sent_340 : decode cX12_sent 340 = .ok (.iaload, 1) := by decide +kernel
theorem dX12_sent_341 : decode cX12_sent 341 = .ok (.if_icmp .ne 7, 3) := by decide +kernel
theorem dX12_sent_344 : decode cX12_sent 344 = .ok (.iload 7, 2) := by decide +kernel
theorem dX12_sent_346 : decode cX12_sent 346 = .ok (.istore 5, 2) := by decide +kernel
theorem dX12_sent_348 : decode cX12_sent 348 = .ok (.iinc 7 (-1), 3) := by decide +kernel
theorem dX12_sent_351 : decode cX12_sent 351 = .ok (.goto (-48), 3) := by decide +kernel
theorem dX12_sent_354 : decode cX12_sent 354 = .ok (.aload_n 0, 1) := by decide +kernel
theorem dX12_sent_355 : decode cX12_sent 355 = .ok (.getfield 84, 3) := by decide +kernel
theorem dX12_sent_358 : decode cX12_sent 358 = .ok (.iload 6, 2) := by decide +kernel
theorem dX12_sent_360 : decode cX12_sent 360 = .ok (.iaload, 1) := by decide +kernel
theorem dX12_sent_361 : decode cX12_sent 361 = .ok (.iload_n 2, 1) := by decide +kernel
theorem dX12_sent_362 : decode cX12_sent 362 = .ok (.if_icmp .ne 6, 3) := by decide +kernel
theorem dX12_sent_365 : decode cX12_sent 365 = .ok (.iload 5, 2) := by decide +kernel
theorem dX12_sent_367 : decode cX12_sent 367 = .ok (.ireturn, 1) := by decide +kernel
theorem dX12_sent_368 : decode cX12_sent 368 = .ok (.iload 4, 2) := by decide +kernel
theorem dX12_sent_370 : decode cX12_sent 370 = .ok (.iconst 1, 1) := by decide +kernel
theorem dX12_sent_371 : decode cX12_sent 371 = .ok (.iload 5, 2) := by decide +kernel
theorem dX12_sent_373 : decode cX12_sent 373 = .ok (.ishl, 1) := by decide +kernel
theorem dX12_sent_374 : decode cX12_sent 374 = .ok (.ior, 1) := by decide +kernel
theorem dX12_sent_375 : decode cX12_sent 375 = .ok (.istore 4, 2) := by decide +kernel
theorem dX12_sent_377 : decode cX12_sent 377 = .ok (.iinc 6 1, 3) := by decide +kernel
theorem dX12_sent_380 : decode cX12_sent 380 = .ok (.goto (-91), 3) := by decide +kernel
theorem dX12_sent_383 : decode cX12_sent 383 = .ok (.iload 5, 2) := by decide +kernel
theorem dX12_sent_385 : decode cX12_sent 385 = .ok (.ireturn, 1) := by decide +kernel
theorem dX12_closed_0 : decode cX12_closed 0 = .ok (.aload_n 0, 1) := by decide +kernel
theorem dX12_closed_1 : decode cX12_closed 1 = .ok (.iconst 0, 1) := by decide +kernel
theorem dX12_closed_2 : decode cX12_closed 2 = .ok (.putfield 117, 3) := by decide +kernel
theorem dX12_closed_5 : decode cX12_closed 5 = .ok (.aload_n 0, 1) := by decide +kernel
theorem dX12_closed_6 : decode cX12_closed 6 = .ok (.iload_n 1, 1) := by decide +kernel
theorem dX12_closed_7 : decode cX12_closed 7 = .ok (.iconst 1, 1) := by decide +kernel
theorem dX12_closed_8 : decode cX12_closed 8 = .ok (.invokevirtual 378, 3) := by decide +kernel
theorem dX12_closed_11 : decode cX12_closed 11 = .ok (.ifCond .ne 5, 3) := by decide +kernel
theorem dX12_closed_14 : decode cX12_closed 14 = .ok (.iconst 0, 1) := by decide +kernel
theorem dX12_closed_15 : decode cX12_closed 15 = .ok (.ireturn, 1) := by decide +kernel
theorem dX12_closed_16 : decode cX12_closed 16 = .ok (.iconst 0, 1) := by decide +kernel
theorem dX12_closed_17 : decode cX12_closed 17 = .ok (.istore_n 2, 1) := by decide +kernel
theorem dX12_closed_18 : decode cX12_closed 18 = .ok (.iconst (-1), 1) := by decide +kernel
theorem dX12_closed_19 : decode cX12_closed 19 = .ok (.istore_n 3, 1) := by decide +kernel
theorem dX12_closed_20 : decode cX12_closed 20 = .ok (.iconst 0, 1) := by decide +kernel
theorem dX12_closed_21 : decode cX12_closed 21 = .ok (.istore 4, 2) := by decide +kernel
theorem dX12_closed_23 : decode cX12_closed 23 = .ok (.iload 4, 2) := by decide +kernel
theorem dX12_closed_25 : decode cX12_closed 25 = .ok (.aload_n 0, 1) := by decide +kernel
theorem dX12_closed_26 : decode cX12_closed 26 = .ok (.getfield 7, 3) := by decide +kernel
theorem dX12_closed_29 : decode cX12_closed 29 = .ok (.if_icmp .ge 60, 3) := by decide +kernel
theorem dX12_closed_32 : decode cX12_closed 32 = .ok (.iconst 0, 1) := by decide +kernel
theorem dX12_closed_33 : decode cX12_closed 33 = .ok (.istore 5, 2) := by decide +kernel
theorem dX12_closed_35 : decode cX12_closed 35 = .ok (.iload 5, 2) := by decide +kernel
theorem dX12_closed_37 : decode cX12_closed 37 = .ok (.aload_n 0, 1) := by decide +kernel
theorem dX12_closed_38 : decode cX12_closed 38 = .ok (.getfield 7, 3) := by decide +kernel
theorem dX12_closed_41 : decode cX12_closed 41 = .ok (.if_icmp .ge 27, 3) := by decide +kernel
theorem dX12_closed_44 : decode cX12_closed 44 = .ok (.aload_n 0, 1) := by decide +kernel
theorem dX12_closed_45 : decode cX12_closed 45 = .ok (.iconst 0, 1) := by decide +kernel
theorem dX12_closed_46 : decode cX12_closed 46 = .ok (.iload 4, 2) := by decide +kernel
theorem dX12_closed_48 : decode cX12_closed 48 = .ok (.iload 5, 2) := by decide +kernel
theorem dX12_closed_50 : decode cX12_closed 50 = .ok (.iadd, 1) := by decide +kernel
theorem dX12_closed_51 : decode cX12_closed 51 = .ok (.aload_n 0, 1) := by decide +kernel
theorem dX12_closed_52 : decode cX12_closed 52 = .ok (.getfield 7, 3) := by decide +kernel
theorem dX12_closed_55 : decode cX12_closed 55 = .ok (.irem, 1) := by decide +kernel
theorem dX12_closed_56 : decode cX12_closed 56 = .ok (.invokevirtual 326, 3) := by decide +kernel
theorem dX12_closed_59 : decode cX12_closed 59 = .ok (.ifCond .ne 9, 3) := by decide +kernel
theorem dX12_closed_62 : decode cX12_closed 62 = .ok (.iinc 5 1, 3) := by decide +kernel
theorem dX12_closed_65 : decode cX12_closed 65 = .ok (.goto (-30), 3) := by decide +kernel
theorem dX12_closed_68 : decode cX12_closed 68 = .ok (.iload 5, 2) := by decide +kernel
theorem dX12_closed_70 : decode cX12_closed 70 = .ok (.iload_n 2, 1) := by decide +kernel
theorem dX12_closed_71 : decode cX12_closed 71 = .ok (.if_icmp .gt 6, 3) := by decide +kernel
theorem dX12_closed_74 : decode cX12_closed 74 = .ok (.goto 9, 3) := by decide +kernel
theorem dX12_closed_77 : decode cX12_closed 77 = .ok (.iload 5, 2) := by decide +kernel
theorem dX12_closed_79 : decode cX12_closed 79 = .ok (.istore_n 2, 1) := by decide +kernel
theorem dX12_closed_80 : decode cX12_closed 80 = .ok (.iload 4, 2) := by decide +kernel
theorem dX12_closed_82 : decode cX12_closed 82 = .ok (.istore_n 3, 1) := by decide +kernel
theorem dX12_closed_83 : decode cX12_closed 83 = .ok (.iinc 4 1, 3) := by decide +kernel
theorem dX12_closed_86 : decode cX12_closed 86 = .ok (.goto (-63), 3) := by decide +kernel
theorem dX12_closed_89 : decode cX12_closed 89 = .ok (.iload_n 1, 1) := by decide +kernel
theorem dX12_closed_90 : decode cX12_closed 90 = .ok (.ifCond .ne 7, 3) := by decide +kernel
theorem dX12_closed_93 : decode cX12_closed 93 = .ok (.iload_n 2, 1) := by decide +kernel
theorem dX12_closed_94 : decode cX12_closed 94 = .ok (.goto 4, 3) := by decide +kernel
theorem dX12_closed_97 : decode cX12_closed 97 = .ok (.iload_n 3, 1) := by decide +kernel
theorem dX12_closed_98 : decode cX12_closed 98 = .ok (.ireturn, 1) := by decide +kernel
theorem dX12_tight_0 : decode cX12_tight 0 = .ok (.aload_n 0, 1) := by decide +kernel
theorem dX12_tight_1 : decode cX12_tight 1 = .ok (.iconst 0, 1) := by decide +kernel
theorem dX12_tight_2 : decode cX12_tight 2 = .ok (.putfield 117, 3) := by decide +kernel
theorem dX12_tight_5 : decode cX12_tight 5 = .ok (.aload_n 0, 1) := by decide +kernel
theorem dX12_tight_6 : decode cX12_tight 6 = .ok (.iload_n 2, 1) := by decide +kernel
theorem dX12_tight_7 : decode cX12_tight 7 = .ok (.iconst 1, 1) := by decide +kernel
theorem dX12_tight_8 : decode cX12_tight 8 = .ok (.invokevirtual 378, 3) := by decide +kernel
theorem dX12_tight_11 : decode cX12_tight 11 = .ok (.ifCond .eq 18, 3) := by decide +kernel
theorem dX12_tight_14 : decode cX12_tight 14 = .ok (.aload_n 0, 1) := by decide +kernel
theorem dX12_tight_15 : decode cX12_tight 15 = .ok (.iload_n 1, 1) := by decide +kernel
theorem dX12_tight_16 : decode cX12_tight 16 = .ok (.iconst 1, 1) := by decide +kernel
theorem dX12_tight_17 : decode cX12_tight 17 = .ok (.bipush 12, 2) := by decide +kernel
theorem dX12_tight_19 : decode cX12_tight 19 = .ok (.invokestatic 362, 3) := by decide +kernel
theorem dX12_tight_22 : decode cX12_tight 22 = .ok (.iconst 2, 1) := by decide +kernel
theorem dX12_tight_23 : decode cX12_tight 23 = .ok (.invokevirtual 277, 3) := by decide +kernel
theorem dX12_tight_26 : decode cX12_tight 26 = .ok (.ifCond .ne 5, 3) := by decide +kernel
theorem dX12_tight_29 : decode cX12_tight 29 = .ok (.iconst 0, 1) := by decide +kernel
theorem dX12_tight_30 : decode cX12_tight 30 = .ok (.ireturn, 1) := by decide +kernel
theorem dX12_tight_31 : decode cX12_tight 31 = .ok (.iconst (-1), 1) := by decide +kernel
theorem dX12_tight_32 : decode cX12_tight 32 = .ok (.istore_n 3, 1) := by decide +kernel
theorem dX12_tight_33 : decode cX12_tight 33 = .ok (.iconst (-1), 1) := by decide +kernel
theorem dX12_tight_34 : decode cX12_tight 34 = .ok (.istore 4, 2) := by decide +kernel
theorem dX12_tight_36 : decode cX12_tight 36 = .ok (.iconst 0, 1) := by decide +kernel
theorem dX12_tight_37 : decode cX12_tight 37 = .ok (.istore 5, 2) := by decide +kernel
theorem dX12_tight_39 : decode cX12_tight 39 = .ok (.iload 5, 2) := by decide +kernel
theorem dX12_tight_41 : decode cX12_tight 41 = .ok (.aload_n 0, 1) := by decide +kernel
theorem dX12_tight_42 : decode cX12_tight 42 = .ok (.getfield 7, 3) := by decide +kernel
theorem dX12_tight_45 : decode cX12_tight 45 = .ok (.if_icmp .ge 74, 3) := by decide +kernel
theorem dX12_tight_48 : decode cX12_tight 48 = .ok (.iload_n 1, 1) := by decide +kernel
theorem dX12_tight_49 : decode cX12_tight 49 = .ok (.aload_n 0, 1) := by decide +kernel
theorem dX12_tight_50 : decode cX12_tight 50 = .ok (.getfield 7, 3) := by decide +kernel
theorem dX12_tight_53 : decode cX12_tight 53 = .ok (.if_icmp .gt 66, 3) := by decide +kernel
theorem dX12_tight_56 : decode cX12_tight 56 = .ok (.iconst 0, 1) := by decide +kernel
theorem dX12_tight_57 : decode cX12_tight 57 = .ok (.istore 6, 2) := by decide +kernel
theorem dX12_tight_59 : decode cX12_tight 59 = .ok (.iconst 0, 1) := by decide +kernel
theorem dX12_tight_60 : decode cX12_tight 60 = .ok (.istore 7, 2) := by decide +kernel
theorem dX12_tight_62 : decode cX12_tight 62 = .ok (.iload 7, 2) := by decide +kernel
theorem dX12_tight_64 : decode cX12_tight 64 = .ok (.iload_n 1, 1) := by decide +kernel
theorem dX12_tight_65 : decode cX12_tight 65 = .ok (.if_icmp .ge 31, 3) := by decide +kernel
theorem dX12_tight_68 : decode cX12_tight 68 = .ok (.iload 6, 2) := by decide +kernel
theorem dX12_tight_70 : decode cX12_tight 70 = .ok (.aload_n 0, 1) := by decide +kernel
theorem dX12_tight_71 : decode cX12_tight 71 = .ok (.getfield 66, 3) := by decide +kernel
theorem dX12_tight_74 : decode cX12_tight 74 = .ok (.iconst 1, 1) := by decide +kernel
theorem dX12_tight_75 : decode cX12_tight 75 = .ok (.iload 5, 2) := by decide +kernel
theorem dX12_tight_77 : decode cX12_tight 77 = .ok (.iload 7, 2) := by decide +kernel
theorem dX12_tight_79 : decode cX12_tight 79 = .ok (.iadd, 1) := by decide +kernel
theorem dX12_tight_80 : decode cX12_tight 80 = .ok (.aload_n 0, 1) := by decide +kernel
theorem dX12_tight_81 : decode cX12_tight 81 = .ok (.getfield 7, 3) := by decide +kernel
theorem dX12_tight_84 : decode cX12_tight 84 = .ok (.irem, 1) := by decide +kernel
theorem dX12_tight_85 : decode cX12_tight 85 = .ok (.iadd, 1) := by decide +kernel
theorem dX12_tight_86 : decode cX12_tight 86 = .ok (.iaload, 1) := by decide +kernel
theorem dX12_tight_87 : decode cX12_tight 87 = .ok (.iadd, 1) := by decide +kernel
theorem dX12_tight_88 : decode cX12_tight 88 = .ok (.istore 6, 2) := by decide +kernel
theorem dX12_tight_90 : decode cX12_tight 90 = .ok (.iinc 7 1, 3) := by decide +kernel
theorem dX12_tight_93 : decode cX12_tight 93 = .ok (.goto (-31), 3) := by decide +kernel
theorem dX12_tight_96 : decode cX12_tight 96 = .ok (.iload 6, 2) := by decide +kernel
theorem dX12_tight_98 : decode cX12_tight 98 = .ok (.iload 4, 2) := by decide +kernel
theorem dX12_tight_100 : decode cX12_tight 100 = .ok (.if_icmp .gt 6, 3) := by decide +kernel
theorem dX12_tight_103 : decode cX12_tight 103 = .ok (.goto 10, 3) := by decide +kernel
theorem dX12_tight_106 : decode cX12_tight 106 = .ok (.iload 5, 2) := by decide +kernel
theorem dX12_tight_108 : decode cX12_tight 108 = .ok (.istore_n 3, 1) := by decide +kernel
theorem dX12_tight_109 : decode cX12_tight 109 = .ok (.iload 6, 2) := by decide +kernel
theorem dX12_tight_111 : decode cX12_tight 111 = .ok (.istore 4, 2) := by decide +kernel
theorem dX12_tight_113 : decode cX12_tight 113 = .ok (.iinc 5 1, 3) := by decide +kernel
theorem dX12_tight_116 : decode cX12_tight 116 = .ok (.goto (-77), 3) := by decide +kernel
theorem dX12_tight_119 : decode cX12_tight 119 = .ok (.iload_n 2, 1) := by decide +kernel
theorem dX12_tight_120 : decode cX12_tight 120 = .ok (.ifCond .ne 8, 3) := by decide +kernel
theorem dX12_tight_123 : decode cX12_tight 123 = .ok (.iload 4, 2) := by decide +kernel
theorem dX12_tight_125 : decode cX12_tight 125 = .ok (.goto 4, 3) := by decide +kernel
theorem dX12_tight_128 : decode cX12_tight 128 = .ok (.iload_n 3, 1) := by decide +kernel
theorem dX12_tight_129 : decode cX12_tight 129 = .ok (.ireturn, 1) := by decide +kernel
theorem dX12_gaps_0 : decode cX12_gaps 0 = .ok (.aload_n 0, 1) := by decide +kernel
theorem dX12_gaps_1 : decode cX12_gaps 1 = .ok (.iconst 0, 1) := by decide +kernel
theorem dX12_gaps_2 : decode cX12_gaps 2 = .ok (.putfield 117, 3) := by decide +kernel
theorem dX12_gaps_5 : decode cX12_gaps 5 = .ok (.iconst 0, 1) := by decide +kernel
theorem dX12_gaps_6 : decode cX12_gaps 6 = .ok (.istore_n 1, 1) := by decide +kernel
theorem dX12_gaps_7 : decode cX12_gaps 7 = .ok (.iconst 0, 1) := by decide +kernel
theorem dX12_gaps_8 : decode cX12_gaps 8 = .ok (.istore_n 2, 1) := by decide +kernel
theorem dX12_gaps_9 : decode cX12_gaps 9 = .ok (.iload_n 2, 1) := by decide +kernel
theorem dX12_gaps_10 : decode cX12_gaps 10 = .ok (.aload_n 0, 1) := by decide +kernel
theorem dX12_gaps_11 : decode cX12_gaps 11 = .ok (.getfield 7, 3) := by decide +kernel
theorem dX12_gaps_14 : decode cX12_gaps 14 = .ok (.if_icmp .ge 39, 3) := by decide +kernel
theorem dX12_gaps_17 : decode cX12_gaps 17 = .ok (.iload_n 1, 1) := by decide +kernel
theorem dX12_gaps_18 : decode cX12_gaps 18 = .ok (.aload_n 0, 1) := by decide +kernel
theorem dX12_gaps_19 : decode cX12_gaps 19 = .ok (.iconst 0, 1) := by decide +kernel
theorem dX12_gaps_20 : decode cX12_gaps 20 = .ok (.iload_n 2, 1) := by decide +kernel
theorem dX12_gaps_21 : decode cX12_gaps 21 = .ok (.invokevirtual 326, 3) := by decide +kernel
theorem dX12_gaps_24 : decode cX12_gaps 24 = .ok (.ifCond .eq 20, 3) := by decide +kernel
theorem dX12_gaps_27 : decode cX12_gaps 27 = .ok (.aload_n 0, 1) := by decide +kernel
theorem dX12_gaps_28 : decode cX12_gaps 28 = .ok (.iconst 0, 1) := by decide +kernel
theorem dX12_gaps_29 : decode cX12_gaps 29 = .ok (.aload_n 0, 1) := by decide +kernel
theorem dX12_gaps_30 : decode cX12_gaps 30 = .ok (.iload_n 2, 1) := by decide +kernel
theorem dX12_gaps_31 : decode cX12_gaps 31 = .ok (.invokevirtual 308, 3) := by decide +kernel
theorem dX12_gaps_34 : decode cX12_gaps 34 = .ok (.invokevirtual 326, 3) := by decide +kernel
theorem dX12_gaps_37 : decode cX12_gaps 37 = .ok (.ifCond .ne 7, 3) := by decide +kernel
theorem dX12_gaps_40 : decode cX12_gaps 40 = .ok (.iconst 1, 1) := by decide +kernel
theorem dX12_gaps_41 : decode cX12_gaps 41 = .ok (.goto 4, 3) := by decide +kernel
theorem dX12_gaps_44 : decode cX12_gaps 44 = .ok (.iconst 0, 1) := by decide +kernel
theorem dX12_gaps_45 : decode cX12_gaps 45 = .ok (.iadd, 1) := by decide +kernel
theorem dX12_gaps_46 : decode cX12_gaps 46 = .ok (.istore_n 1, 1) := by decide +kernel
theorem dX12_gaps_47 : decode cX12_gaps 47 = .ok (.iinc 2 1, 3) := by decide +kernel
theorem dX12_gaps_50 : decode cX12_gaps 50 = .ok (.goto (-41), 3) := by decide +kernel
theorem dX12_gaps_53 : decode cX12_gaps 53 = .ok (.iload_n 1, 1) := by decide +kernel
theorem dX12_gaps_54 : decode cX12_gaps 54 = .ok (.ifCond .ne 16, 3) := by decide +kernel
theorem dX12_gaps_57 : decode cX12_gaps 57 = .ok (.aload_n 0, 1) := by decide +kernel
theorem dX12_gaps_58 : decode cX12_gaps 58 = .ok (.iconst 0, 1) := by decide +kernel
theorem dX12_gaps_59 : decode cX12_gaps 59 = .ok (.iconst 0, 1) := by decide +kernel
theorem dX12_gaps_60 : decode cX12_gaps 60 = .ok (.invokevirtual 326, 3) := by decide +kernel
theorem dX12_gaps_63 : decode cX12_gaps 63 = .ok (.ifCond .eq 7, 3) := by decide +kernel
theorem dX12_gaps_66 : decode cX12_gaps 66 = .ok (.iconst 1, 1) := by decide +kernel
theorem dX12_gaps_67 : decode cX12_gaps 67 = .ok (.goto 4, 3) := by decide +kernel
theorem dX12_gaps_70 : decode cX12_gaps 70 = .ok (.iload_n 1, 1) := by decide +kernel
theorem dX12_gaps_71 : decode cX12_gaps 71 = .ok (.ireturn, 1) := by decide +kernel
theorem dX12_isHere_0 : decode cX12_isHere 0 = .ok (.iload_n 2, 1) := by decide +kernel
theorem dX12_isHere_1 : decode cX12_isHere 1 = .ok (.aload_n 0, 1) := by decide +kernel
theorem dX12_isHere_2 : decode cX12_isHere 2 = .ok (.getfield 29, 3) := by decide +kernel
theorem dX12_isHere_5 : decode cX12_isHere 5 = .ok (.iload_n 1, 1) := by decide +kernel
theorem dX12_isHere_6 : decode cX12_isHere 6 = .ok (.iaload, 1) := by decide +kernel
theorem dX12_isHere_7 : decode cX12_isHere 7 = .ok (.iadd, 1) := by decide +kernel
theorem dX12_isHere_8 : decode cX12_isHere 8 = .ok (.iload_n 3, 1) := by decide +kernel
theorem dX12_isHere_9 : decode cX12_isHere 9 = .ok (.if_icmp .le 5, 3) := by decide +kernel
theorem dX12_isHere_12 : decode cX12_isHere 12 = .ok (.iconst 0, 1) := by decide +kernel
theorem dX12_isHere_13 : decode cX12_isHere 13 = .ok (.ireturn, 1) := by decide +kernel
theorem dX12_isHere_14 : decode cX12_isHere 14 = .ok (.iconst 0, 1) := by decide +kernel
theorem dX12_isHere_15 : decode cX12_isHere 15 = .ok (.istore 4, 2) := by decide +kernel
theorem dX12_isHere_17 : decode cX12_isHere 17 = .ok (.iconst 0, 1) := by decide +kernel
theorem dX12_isHere_18 : decode cX12_isHere 18 = .ok (.istore 5, 2) := by decide +kernel
theorem dX12_isHere_20 : decode cX12_isHere 20 = .ok (.iload 5, 2) := by decide +kernel
theorem dX12_isHere_22 : decode cX12_isHere 22 = .ok (.aload_n 0, 1) := by decide +kernel
theorem dX12_isHere_23 : decode cX12_isHere 23 = .ok (.getfield 29, 3) := by decide +kernel
theorem dX12_isHere_26 : decode cX12_isHere 26 = .ok (.iload_n 1, 1) := by decide +kernel
theorem dX12_isHere_27 : decode cX12_isHere 27 = .ok (.iaload, 1) := by decide +kernel
theorem dX12_isHere_28 : decode cX12_isHere 28 = .ok (.if_icmp .ge 26, 3) := by decide +kernel
theorem dX12_isHere_31 : decode cX12_isHere 31 = .ok (.bipush 10, 2) := by decide +kernel
theorem dX12_isHere_33 : decode cX12_isHere 33 = .ok (.iload 4, 2) := by decide +kernel
theorem dX12_isHere_35 : decode cX12_isHere 35 = .ok (.imul, 1) := by decide +kernel
theorem dX12_isHere_36 : decode cX12_isHere 36 = .ok (.aload_n 0, 1) := by decide +kernel
theorem dX12_isHere_37 : decode cX12_isHere 37 = .ok (.getfield 87, 3) := by decide +kernel
theorem dX12_isHere_40 : decode cX12_isHere 40 = .ok (.iload_n 2, 1) := by decide +kernel
theorem dX12_isHere_41 : decode cX12_isHere 41 = .ok (.iload 5, 2) := by decide +kernel
theorem dX12_isHere_43 : decode cX12_isHere 43 = .ok (.iadd, 1) := by decide +kernel
theorem dX12_isHere_44 : decode cX12_isHere 44 = .ok (.iaload, 1) := by decide +kernel
theorem dX12_isHere_45 : decode cX12_isHere 45 = .ok (.iadd, 1) := by decide +kernel
theorem dX12_isHere_46 : decode cX12_isHere 46 = .ok (.istore 4, 2) := by decide +kernel
theorem dX12_isHere_48 : decode cX12_isHere 48 = .ok (.iinc 5 1, 3) := by decide +kernel
theorem dX12_isHere_51 : decode cX12_isHere 51 = .ok (.goto (-31), 3) := by decide +kernel
theorem dX12_isHere_54 : decode cX12_isHere 54 = .ok (.iload 4, 2) := by decide +kernel
theorem dX12_isHere_56 : decode cX12_isHere 56 = .ok (.aload_n 0, 1) := by decide +kernel
theorem dX12_isHere_57 : decode cX12_isHere 57 = .ok (.getfield 26, 3) := by decide +kernel
theorem dX12_isHere_60 : decode cX12_isHere 60 = .ok (.iload_n 1, 1) := by decide +kernel
theorem dX12_isHere_61 : decode cX12_isHere 61 = .ok (.iaload, 1) := by decide +kernel
theorem dX12_isHere_62 : decode cX12_isHere 62 = .ok (.if_icmp .ne 7, 3) := by decide +kernel
theorem dX12_isHere_65 : decode cX12_isHere 65 = .ok (.iconst 1, 1) := by decide +kernel
theorem dX12_isHere_66 : decode cX12_isHere 66 = .ok (.goto 4, 3) := by decide +kernel
theorem dX12_isHere_69 : decode cX12_isHere 69 = .ok (.iconst 0, 1) := by decide +kernel
theorem dX12_isHere_70 : decode cX12_isHere 70 = .ok (.ireturn, 1) := by decide +kernel
theorem dX12_readings_0 : decode cX12_readings 0 = .ok (.aload_n 0, 1) := by decide +kernel
theorem dX12_readings_1 : decode cX12_readings 1 = .ok (.iconst 0, 1) := by decide +kernel
theorem dX12_readings_2 : decode cX12_readings 2 = .ok (.putfield 117, 3) := by decide +kernel
theorem dX12_readings_5 : decode cX12_readings 5 = .ok (.aload_n 0, 1) := by decide +kernel
theorem dX12_readings_6 : decode cX12_readings 6 = .ok (.iload_n 2, 1) := by decide +kernel
theorem dX12_readings_7 : decode cX12_readings 7 = .ok (.iconst 1, 1) := by decide +kernel
theorem dX12_readings_8 : decode cX12_readings 8 = .ok (.invokevirtual 378, 3) := by decide +kernel
theorem dX12_readings_11 : decode cX12_readings 11 = .ok (.ifCond .eq 19, 3) := by decide +kernel
theorem dX12_readings_14 : decode cX12_readings 14 = .ok (.aload_n 0, 1) := by decide +kernel
theorem dX12_readings_15 : decode cX12_readings 15 = .ok (.iload_n 1, 1) := by decide +kernel
theorem dX12_readings_16 : decode cX12_readings 16 = .ok (.iconst 0, 1) := by decide +kernel
theorem dX12_readings_17 : decode cX12_readings 17 = .ok (.ldc_w 416, 3) := by decide +kernel
theorem dX12_readings_20 : decode cX12_readings 20 = .ok (.invokestatic 362, 3) := by decide +kernel
theorem dX12_readings_23 : decode cX12_readings 23 = .ok (.iconst 2, 1) := by decide +kernel
theorem dX12_readings_24 : decode cX12_readings 24 = .ok (.invokevirtual 277, 3) := by decide +kernel
theorem dX12_readings_27 : decode cX12_readings 27 = .ok (.ifCond .ne 5, 3) := by decide +kernel
theorem dX12_readings_30 : decode cX12_readings 30 = .ok (.iconst 0, 1) := by decide +kernel
theorem dX12_readings_31 : decode cX12_readings 31 = .ok (.ireturn, 1) := by decide +kernel
theorem dX12_readings_32 : decode cX12_readings 32 = .ok (.iconst 1, 1) := by decide +kernel
theorem dX12_readings_33 : decode cX12_readings 33 = .ok (.istore_n 3, 1) := by decide +kernel
theorem dX12_readings_34 : decode cX12_readings 34 = .ok (.iload_n 1, 1) := by decide +kernel
theorem dX12_readings_35 : decode cX12_readings 35 = .ok (.bipush 10, 2) := by decide +kernel
theorem dX12_readings_37 : decode cX12_readings 37 = .ok (.idiv, 1) := by decide +kernel
theorem dX12_readings_38 : decode cX12_readings 38 = .ok (.istore 4, 2) := by decide +kernel
theorem dX12_readings_40 : decode cX12_readings 40 = .ok (.iload 4, 2) := by decide +kernel
theorem dX12_readings_42 : decode cX12_readings 42 = .ok (.ifCond .le 16, 3) := by decide +kernel
theorem dX12_readings_45 : decode cX12_readings 45 = .ok (.iinc 3 1, 3) := by decide +kernel
theorem dX12_readings_48 : decode cX12_readings 48 = .ok (.iload 4, 2) := by decide +kernel
theorem dX12_readings_50 : decode cX12_readings 50 = .ok (.bipush 10, 2) := by decide +kernel
theorem dX12_readings_52 : decode cX12_readings 52 = .ok (.idiv, 1) := by decide +kernel
theorem dX12_readings_53 : decode cX12_readings 53 = .ok (.istore 4, 2) := by decide +kernel
theorem dX12_readings_55 : decode cX12_readings 55 = .ok (.goto (-15), 3) := by decide +kernel
theorem dX12_readings_58 : decode cX12_readings 58 = .ok (.iload_n 1, 1) := by decide +kernel
theorem dX12_readings_59 : decode cX12_readings 59 = .ok (.istore 4, 2) := by decide +kernel
theorem dX12_readings_61 : decode cX12_readings 61 = .ok (.iload_n 3, 1) := by decide +kernel
theorem dX12_readings_62 : decode cX12_readings 62 = .ok (.iconst 1, 1) := by decide +kernel
theorem dX12_readings_63 : decode cX12_readings 63 = .ok (.isub, 1) := by decide +kernel
theorem dX12_readings_64 : decode cX12_readings 64 = .ok (.istore 5, 2) := by decide +kernel
theorem dX12_readings_66 : decode cX12_readings 66 = .ok (.iload 5, 2) := by decide +kernel
theorem dX12_readings_68 : decode cX12_readings 68 = .ok (.ifCond .lt 28, 3) := by decide +kernel
theorem dX12_readings_71 : decode cX12_readings 71 = .ok (.aload_n 0, 1) := by decide +kernel
theorem dX12_readings_72 : decode cX12_readings 72 = .ok (.getfield 87, 3) := by decide +kernel
theorem dX12_readings_75 : decode cX12_readings 75 = .ok (.iload 5, 2) := by decide +kernel
theorem dX12_readings_77 : decode cX12_readings 77 = .ok (.iload 4, 2) := by decide +kernel
theorem dX12_readings_79 : decode cX12_readings 79 = .ok (.bipush 10, 2) := by decide +kernel
theorem dX12_readings_81 : decode cX12_readings 81 = .ok (.irem, 1) := by decide +kernel
theorem dX12_readings_82 : decode cX12_readings 82 = .ok (.iastore, 1) := by decide +kernel
theorem dX12_readings_83 : decode cX12_readings 83 = .ok (.iload 4, 2) := by decide +kernel
theorem dX12_readings_85 : decode cX12_readings 85 = .ok (.bipush 10, 2) := by decide +kernel
theorem dX12_readings_87 : decode cX12_readings 87 = .ok (.idiv, 1) := by decide +kernel
theorem dX12_readings_88 : decode cX12_readings 88 = .ok (.istore 4, 2) := by decide +kernel
theorem dX12_readings_90 : decode cX12_readings 90 = .ok (.iinc 5 (-1), 3) := by decide +kernel
theorem dX12_readings_93 : decode cX12_readings 93 = .ok (.goto (-27), 3) := by decide +kernel
theorem dX12_readings_96 : decode cX12_readings 96 = .ok (.iload_n 3, 1) := by decide +kernel
theorem dX12_readings_97 : decode cX12_readings 97 = .ok (.istore 5, 2) := by decide +kernel
theorem dX12_readings_99 : decode cX12_readings 99 = .ok (.iload 5, 2) := by decide +kernel
theorem dX12_readings_101 : decode cX12_readings 101 = .ok (.ifCond .lt 145, 3) := by decide +kernel
theorem dX12_readings_104 : decode cX12_readings 104 = .ok (.aload_n 0, 1) := by decide +kernel
theorem dX12_readings_105 : decode cX12_readings 105 = .ok (.getfield 90, 3) := by decide +kernel
theorem dX12_readings_108 : decode cX12_readings 108 = .ok (.iload 5, 2) := by decide +kernel
theorem dX12_readings_110 : decode cX12_readings 110 = .ok (.iload 5, 2) := by decide +kernel
theorem dX12_readings_112 : decode cX12_readings 112 = .ok (.iload_n 3, 1) := by decide +kernel
theorem dX12_readings_113 : decode cX12_readings 113 = .ok (.if_icmp .ne 7, 3) := by decide +kernel
theorem dX12_readings_116 : decode cX12_readings 116 = .ok (.iconst 1, 1) := by decide +kernel
theorem dX12_readings_117 : decode cX12_readings 117 = .ok (.goto 4, 3) := by decide +kernel
theorem dX12_readings_120 : decode cX12_readings 120 = .ok (.iconst 0, 1) := by decide +kernel
theorem dX12_readings_121 : decode cX12_readings 121 = .ok (.iastore, 1) := by decide +kernel
theorem dX12_readings_122 : decode cX12_readings 122 = .ok (.aload_n 0, 1) := by decide +kernel
theorem dX12_readings_123 : decode cX12_readings 123 = .ok (.getfield 93, 3) := by decide +kernel
theorem dX12_readings_126 : decode cX12_readings 126 = .ok (.iload 5, 2) := by decide +kernel
theorem dX12_readings_128 : decode cX12_readings 128 = .ok (.iload 5, 2) := by decide +kernel
theorem dX12_readings_130 : decode cX12_readings 130 = .ok (.iload_n 3, 1) := by decide +kernel
theorem dX12_readings_131 : decode cX12_readings 131 = .ok (.if_icmp .ne 7, 3) := by decide +kernel
theorem dX12_readings_134 : decode cX12_readings 134 = .ok (.iconst 0, 1) := by decide +kernel
theorem dX12_readings_135 : decode cX12_readings 135 = .ok (.goto 6, 3) := by decide +kernel
theorem dX12_readings_138 : decode cX12_readings 138 = .ok (.ldc_w 406, 3) := by decide +kernel
theorem dX12_readings_141 : decode cX12_readings 141 = .ok (.iastore, 1) := by decide +kernel
theorem dX12_readings_142 : decode cX12_readings 142 = .ok (.iconst 0, 1) := by decide +kernel
theorem dX12_readings_143 : decode cX12_readings 143 = .ok (.istore 6, 2) := by decide +kernel
theorem dX12_readings_145 : decode cX12_readings 145 = .ok (.iload 6, 2) := by decide +kernel
theorem dX12_readings_147 : decode cX12_readings 147 = .ok (.aload_n 0, 1) := by decide +kernel
theorem dX12_readings_148 : decode cX12_readings 148 = .ok (.getfield 287, 3) := by decide +kernel
theorem dX12_readings_151 : decode cX12_readings 151 = .ok (.if_icmp .ge 89, 3) := by decide +kernel
theorem dX12_readings_154 : decode cX12_readings 154 = .ok (.iload 5, 2) := by decide +kernel
theorem dX12_readings_156 : decode cX12_readings 156 = .ok (.iload_n 3, 1) := by decide +kernel
theorem dX12_readings_157 : decode cX12_readings 157 = .ok (.if_icmp .eq 77, 3) := by decide +kernel
theorem dX12_readings_160 : decode cX12_readings 160 = .ok (.aload_n 0, 1) := by decide +kernel
theorem dX12_readings_161 : decode cX12_readings 161 = .ok (.iload 6, 2) := by decide +kernel
theorem dX12_readings_163 : decode cX12_readings 163 = .ok (.iload 5, 2) := by decide +kernel
theorem dX12_readings_165 : decode cX12_readings 165 = .ok (.iload_n 3, 1) := by decide +kernel
theorem dX12_readings_166 : decode cX12_readings 166 = .ok (.invokevirtual 417, 3) := by decide +kernel
theorem dX12_readings_169 : decode cX12_readings 169 = .ok (.ifCond .ne 6, 3) := by decide +kernel
theorem dX12_readings_172 : decode cX12_readings 172 = .ok (.goto 62, 3) := by decide +kernel
theorem dX12_readings_175 : decode cX12_readings 175 = .ok (.aload_n 0, 1) := by decide +kernel
theorem dX12_readings_176 : decode cX12_readings 176 = .ok (.getfield 90, 3) := by decide +kernel
theorem dX12_readings_179 : decode cX12_readings 179 = .ok (.iload 5, 2) := by decide +kernel
theorem dX12_readings_181 : decode cX12_readings 181 = .ok (.dup2, 1) := by decide +kernel
theorem dX12_readings_182 : decode cX12_readings 182 = .ok (.iaload, 1) := by decide +kernel
theorem dX12_readings_183 : decode cX12_readings 183 = .ok (.aload_n 0, 1) := by decide +kernel
theorem dX12_readings_184 : decode cX12_readings 184 = .ok (.getfield 90, 3) := by decide +kernel
theorem dX12_readings_187 : decode cX12_readings 187 = .ok (.iload 5, 2) := by decide +kernel
theorem dX12_readings_189 : decode cX12_readings 189 = .ok (.aload_n 0, 1) := by decide +kernel
theorem dX12_readings_190 : decode cX12_readings 190 = .ok (.getfield 29, 3) := by decide +kernel
theorem dX12_readings_193 : decode cX12_readings 193 = .ok (.iload 6, 2) := by decide +kernel
theorem dX12_readings_195 : decode cX12_readings 195 = .ok (.iaload, 1) := by decide +kernel
theorem dX12_readings_196 : decode cX12_readings 196 = .ok (.iadd, 1) := by decide +kernel
theorem dX12_readings_197 : decode cX12_readings 197 = .ok (.iaload, 1) := by decide +kernel
theorem dX12_readings_198 : decode cX12_readings 198 = .ok (.iadd, 1) := by decide +kernel
theorem dX12_readings_199 : decode cX12_readings 199 = .ok (.iastore, 1) := by decide +kernel
theorem dX12_readings_200 : decode cX12_readings 200 = .ok (.aload_n 0, 1) := by decide +kernel
theorem dX12_readings_201 : decode cX12_readings 201 = .ok (.getfield 93, 3) := by decide +kernel
theorem dX12_readings_204 : decode cX12_readings 204 = .ok (.iload 5, 2) := by decide +kernel
theorem dX12_readings_206 : decode cX12_readings 206 = .ok (.aload_n 0, 1) := by decide +kernel
theorem dX12_readings_207 : decode cX12_readings 207 = .ok (.getfield 93, 3) := by decide +kernel
theorem dX12_readings_210 : decode cX12_readings 210 = .ok (.iload 5, 2) := by decide +kernel
theorem dX12_readings_212 : decode cX12_readings 212 = .ok (.iaload, 1) := by decide +kernel
theorem dX12_readings_213 : decode cX12_readings 213 = .ok (.iconst 1, 1) := by decide +kernel
theorem dX12_readings_214 : decode cX12_readings 214 = .ok (.aload_n 0, 1) := by decide +kernel
theorem dX12_readings_215 : decode cX12_readings 215 = .ok (.getfield 93, 3) := by decide +kernel
theorem dX12_readings_218 : decode cX12_readings 218 = .ok (.iload 5, 2) := by decide +kernel
theorem dX12_readings_220 : decode cX12_readings 220 = .ok (.aload_n 0, 1) := by decide +kernel
theorem dX12_readings_221 : decode cX12_readings 221 = .ok (.getfield 29, 3) := by decide +kernel
theorem dX12_readings_224 : decode cX12_readings 224 = .ok (.iload 6, 2) := by decide +kernel
theorem dX12_readings_226 : decode cX12_readings 226 = .ok (.iaload, 1) := by decide +kernel
theorem dX12_readings_227 : decode cX12_readings 227 = .ok (.iadd, 1) := by decide +kernel
theorem dX12_readings_228 : decode cX12_readings 228 = .ok (.iaload, 1) := by decide +kernel
theorem dX12_readings_229 : decode cX12_readings 229 = .ok (.iadd, 1) := by decide +kernel
theorem dX12_readings_230 : decode cX12_readings 230 = .ok (.invokestatic 336, 3) := by decide +kernel
theorem dX12_readings_233 : decode cX12_readings 233 = .ok (.iastore, 1) := by decide +kernel
theorem dX12_readings_234 : decode cX12_readings 234 = .ok (.iinc 6 1, 3) := by decide +kernel
theorem dX12_readings_237 : decode cX12_readings 237 = .ok (.goto (-92), 3) := by decide +kernel
theorem dX12_readings_240 : decode cX12_readings 240 = .ok (.iinc 5 (-1), 3) := by decide +kernel
theorem dX12_readings_243 : decode cX12_readings 243 = .ok (.goto (-144), 3) := by decide +kernel
theorem dX12_readings_246 : decode cX12_readings 246 = .ok (.iload_n 2, 1) := by decide +kernel
theorem dX12_readings_247 : decode cX12_readings 247 = .ok (.ifCond .ne 12, 3) := by decide +kernel
theorem dX12_readings_250 : decode cX12_readings 250 = .ok (.aload_n 0, 1) := by decide +kernel
theorem dX12_readings_251 : decode cX12_readings 251 = .ok (.getfield 90, 3) := by decide +kernel
theorem dX12_readings_254 : decode cX12_readings 254 = .ok (.iconst 0, 1) := by decide +kernel
theorem dX12_readings_255 : decode cX12_readings 255 = .ok (.iaload, 1) := by decide +kernel
theorem dX12_readings_256 : decode cX12_readings 256 = .ok (.goto 25, 3) := by decide +kernel
theorem dX12_readings_259 : decode cX12_readings 259 = .ok (.aload_n 0, 1) := by decide +kernel
theorem dX12_readings_260 : decode cX12_readings 260 = .ok (.getfield 93, 3) := by decide +kernel
theorem dX12_readings_263 : decode cX12_readings 263 = .ok (.iconst 0, 1) := by decide +kernel
theorem dX12_readings_264 : decode cX12_readings 264 = .ok (.iaload, 1) := by decide +kernel
theorem dX12_readings_265 : decode cX12_readings 265 = .ok (.ldc_w 406, 3) := by decide +kernel
theorem dX12_readings_268 : decode cX12_readings 268 = .ok (.if_icmp .lt 7, 3) := by decide +kernel
theorem dX12_readings_271 : decode cX12_readings 271 = .ok (.iconst (-1), 1) := by decide +kernel
theorem dX12_readings_272 : decode cX12_readings 272 = .ok (.goto 9, 3) := by decide +kernel
theorem dX12_readings_275 : decode cX12_readings 275 = .ok (.aload_n 0, 1) := by decide +kernel
theorem dX12_readings_276 : decode cX12_readings 276 = .ok (.getfield 93, 3) := by decide +kernel
theorem dX12_readings_279 : decode cX12_readings 279 = .ok (.iconst 0, 1) := by decide +kernel
theorem dX12_readings_280 : decode cX12_readings 280 = .ok (.iaload, 1) := by decide +kernel
theorem dX12_readings_281 : decode cX12_readings 281 = .ok (.ireturn, 1) := by decide +kernel
theorem dX12_see_0 : decode cX12_see 0 = .ok (.aload_n 0, 1) := by decide +kernel
theorem dX12_see_1 : decode cX12_see 1 = .ok (.iconst 0, 1) := by decide +kernel
theorem dX12_see_2 : decode cX12_see 2 = .ok (.putfield 117, 3) := by decide +kernel
theorem dX12_see_5 : decode cX12_see 5 = .ok (.aload_n 0, 1) := by decide +kernel
theorem dX12_see_6 : decode cX12_see 6 = .ok (.iload_n 1, 1) := by decide +kernel
theorem dX12_see_7 : decode cX12_see 7 = .ok (.invokevirtual 375, 3) := by decide +kernel
theorem dX12_see_10 : decode cX12_see 10 = .ok (.ifCond .ne 5, 3) := by decide +kernel
theorem dX12_see_13 : decode cX12_see 13 = .ok (.iconst 0, 1) := by decide +kernel
theorem dX12_see_14 : decode cX12_see 14 = .ok (.ireturn, 1) := by decide +kernel
theorem dX12_see_15 : decode cX12_see 15 = .ok (.aload_n 0, 1) := by decide +kernel
theorem dX12_see_16 : decode cX12_see 16 = .ok (.getfield 297, 3) := by decide +kernel
theorem dX12_see_19 : decode cX12_see 19 = .ok (.bipush 8, 2) := by decide +kernel
theorem dX12_see_21 : decode cX12_see 21 = .ok (.if_icmp .eq 23, 3) := by decide +kernel
theorem dX12_see_24 : decode cX12_see 24 = .ok (.iload_n 2, 1) := by decide +kernel
theorem dX12_see_25 : decode cX12_see 25 = .ok (.iconst 0, 1) := by decide +kernel
theorem dX12_see_26 : decode cX12_see 26 = .ok (.bipush 20, 2) := by decide +kernel
theorem dX12_see_28 : decode cX12_see 28 = .ok (.invokestatic 362, 3) := by decide +kernel
theorem dX12_see_31 : decode cX12_see 31 = .ok (.ifCond .eq 13, 3) := by decide +kernel
theorem dX12_see_34 : decode cX12_see 34 = .ok (.iload_n 3, 1) := by decide +kernel
theorem dX12_see_35 : decode cX12_see 35 = .ok (.iconst 0, 1) := by decide +kernel
theorem dX12_see_36 : decode cX12_see 36 = .ok (.bipush 99, 2) := by decide +kernel
theorem dX12_see_38 : decode cX12_see 38 = .ok (.invokestatic 362, 3) := by decide +kernel
theorem dX12_see_41 : decode cX12_see 41 = .ok (.ifCond .ne 9, 3) := by decide +kernel
theorem dX12_see_44 : decode cX12_see 44 = .ok (.aload_n 0, 1) := by decide +kernel
theorem dX12_see_45 : decode cX12_see 45 = .ok (.iconst 2, 1) := by decide +kernel
theorem dX12_see_46 : decode cX12_see 46 = .ok (.invokevirtual 384, 3) := by decide +kernel
theorem dX12_see_49 : decode cX12_see 49 = .ok (.ireturn, 1) := by decide +kernel
theorem dX12_see_50 : decode cX12_see 50 = .ok (.aload_n 0, 1) := by decide +kernel
theorem dX12_see_51 : decode cX12_see 51 = .ok (.getfield 96, 3) := by decide +kernel
theorem dX12_see_54 : decode cX12_see 54 = .ok (.iconst 3, 1) := by decide +kernel
theorem dX12_see_55 : decode cX12_see 55 = .ok (.aload_n 0, 1) := by decide +kernel
theorem dX12_see_56 : decode cX12_see 56 = .ok (.getfield 297, 3) := by decide +kernel
theorem dX12_see_59 : decode cX12_see 59 = .ok (.imul, 1) := by decide +kernel
theorem dX12_see_60 : decode cX12_see 60 = .ok (.iload_n 1, 1) := by decide +kernel
theorem dX12_see_61 : decode cX12_see 61 = .ok (.iastore, 1) := by decide +kernel
theorem dX12_see_62 : decode cX12_see 62 = .ok (.aload_n 0, 1) := by decide +kernel
theorem dX12_see_63 : decode cX12_see 63 = .ok (.getfield 96, 3) := by decide +kernel
theorem dX12_see_66 : decode cX12_see 66 = .ok (.iconst 3, 1) := by decide +kernel
theorem dX12_see_67 : decode cX12_see 67 = .ok (.aload_n 0, 1) := by decide +kernel
theorem dX12_see_68 : decode cX12_see 68 = .ok (.getfield 297, 3) := by decide +kernel
theorem dX12_see_71 : decode cX12_see 71 = .ok (.imul, 1) := by decide +kernel
theorem dX12_see_72 : decode cX12_see 72 = .ok (.iconst 1, 1) := by decide +kernel
theorem dX12_see_73 : decode cX12_see 73 = .ok (.iadd, 1) := by decide +kernel
theorem dX12_see_74 : decode cX12_see 74 = .ok (.iload_n 2, 1) := by decide +kernel
theorem dX12_see_75 : decode cX12_see 75 = .ok (.iastore, 1) := by decide +kernel
theorem dX12_see_76 : decode cX12_see 76 = .ok (.aload_n 0, 1) := by decide +kernel
theorem dX12_see_77 : decode cX12_see 77 = .ok (.getfield 96, 3) := by decide +kernel
theorem dX12_see_80 : decode cX12_see 80 = .ok (.iconst 3, 1) := by decide +kernel
theorem dX12_see_81 : decode cX12_see 81 = .ok (.aload_n 0, 1) := by decide +kernel
theorem dX12_see_82 : decode cX12_see 82 = .ok (.getfield 297, 3) := by decide +kernel
theorem dX12_see_85 : decode cX12_see 85 = .ok (.imul, 1) := by decide +kernel
theorem dX12_see_86 : decode cX12_see 86 = .ok (.iconst 2, 1) := by decide +kernel
theorem dX12_see_87 : decode cX12_see 87 = .ok (.iadd, 1) := by decide +kernel
theorem dX12_see_88 : decode cX12_see 88 = .ok (.iload_n 3, 1) := by decide +kernel
theorem dX12_see_89 : decode cX12_see 89 = .ok (.iastore, 1) := by decide +kernel
theorem dX12_see_90 : decode cX12_see 90 = .ok (.aload_n 0, 1) := by decide +kernel
theorem dX12_see_91 : decode cX12_see 91 = .ok (.dup, 1) := by decide +kernel
theorem dX12_see_92 : decode cX12_see 92 = .ok (.getfield 297, 3) := by decide +kernel
theorem dX12_see_95 : decode cX12_see 95 = .ok (.iconst 1, 1) := by decide +kernel
theorem dX12_see_96 : decode cX12_see 96 = .ok (.iadd, 1) := by decide +kernel
theorem dX12_see_97 : decode cX12_see 97 = .ok (.putfield 297, 3) := by decide +kernel
theorem dX12_see_100 : decode cX12_see 100 = .ok (.aload_n 0, 1) := by decide +kernel
theorem dX12_see_101 : decode cX12_see 101 = .ok (.getfield 297, 3) := by decide +kernel
theorem dX12_see_104 : decode cX12_see 104 = .ok (.ireturn, 1) := by decide +kernel
theorem dX12_forget_0 : decode cX12_forget 0 = .ok (.aload_n 0, 1) := by decide +kernel
theorem dX12_forget_1 : decode cX12_forget 1 = .ok (.iconst 0, 1) := by decide +kernel
theorem dX12_forget_2 : decode cX12_forget 2 = .ok (.putfield 117, 3) := by decide +kernel
theorem dX12_forget_5 : decode cX12_forget 5 = .ok (.aload_n 0, 1) := by decide +kernel
theorem dX12_forget_6 : decode cX12_forget 6 = .ok (.iconst 0, 1) := by decide +kernel
theorem dX12_forget_7 : decode cX12_forget 7 = .ok (.putfield 297, 3) := by decide +kernel
theorem dX12_forget_10 : decode cX12_forget 10 = .ok (.return_, 1) := by decide +kernel
theorem dX12_isSeen_0 : decode cX12_isSeen 0 = .ok (.iconst 0, 1) := by decide +kernel
theorem dX12_isSeen_1 : decode cX12_isSeen 1 = .ok (.istore_n 1, 1) := by decide +kernel
theorem dX12_isSeen_2 : decode cX12_isSeen 2 = .ok (.iload_n 1, 1) := by decide +kernel
theorem dX12_isSeen_3 : decode cX12_isSeen 3 = .ok (.bipush 20, 2) := by decide +kernel
theorem dX12_isSeen_5 : decode cX12_isSeen 5 = .ok (.if_icmp .gt 112, 3) := by decide +kernel
theorem dX12_isSeen_8 : decode cX12_isSeen 8 = .ok (.iconst 0, 1) := by decide +kernel
theorem dX12_isSeen_9 : decode cX12_isSeen 9 = .ok (.istore_n 2, 1) := by decide +kernel
theorem dX12_isSeen_10 : decode cX12_isSeen 10 = .ok (.iload_n 2, 1) := by decide +kernel
theorem dX12_isSeen_11 : decode cX12_isSeen 11 = .ok (.aload_n 0, 1) := by decide +kernel
theorem dX12_isSeen_12 : decode cX12_isSeen 12 = .ok (.getfield 297, 3) := by decide +kernel
theorem dX12_isSeen_15 : decode cX12_isSeen 15 = .ok (.if_icmp .ge 54, 3) := by decide +kernel
theorem dX12_isSeen_18 : decode cX12_isSeen 18 = .ok (.aload_n 0, 1) := by decide +kernel
theorem dX12_isSeen_19 : decode cX12_isSeen 19 = .ok (.getfield 96, 3) := by decide +kernel
theorem dX12_isSeen_22 : decode cX12_isSeen 22 = .ok (.iconst 3, 1) := by decide +kernel
theorem dX12_isSeen_23 : decode cX12_isSeen 23 = .ok (.iload_n 2, 1) := by decide +kernel
theorem dX12_isSeen_24 : decode cX12_isSeen 24 = .ok (.imul, 1) := by decide +kernel
theorem dX12_isSeen_25 : decode cX12_isSeen 25 = .ok (.iconst 1, 1) := by decide +kernel
theorem dX12_isSeen_26 : decode cX12_isSeen 26 = .ok (.iadd, 1) := by decide +kernel
theorem dX12_isSeen_27 : decode cX12_isSeen 27 = .ok (.iaload, 1) := by decide +kernel
theorem dX12_isSeen_28 : decode cX12_isSeen 28 = .ok (.iload_n 1, 1) := by decide +kernel
theorem dX12_isSeen_29 : decode cX12_isSeen 29 = .ok (.if_icmp .ne 34, 3) := by decide +kernel
theorem dX12_isSeen_32 : decode cX12_isSeen 32 = .ok (.aload_n 0, 1) := by decide +kernel
theorem dX12_isSeen_33 : decode cX12_isSeen 33 = .ok (.getfield 66, 3) := by decide +kernel
theorem dX12_isSeen_36 : decode cX12_isSeen 36 = .ok (.bipush 62, 2) := by decide +kernel
theorem dX12_isSeen_38 : decode cX12_isSeen 38 = .ok (.aload_n 0, 1) := by decide +kernel
theorem dX12_isSeen_39 : decode cX12_isSeen 39 = .ok (.getfield 96, 3) := by decide +kernel
theorem dX12_isSeen_42 : decode cX12_isSeen 42 = .ok (.iconst 3, 1) := by decide +kernel
theorem dX12_isSeen_43 : decode cX12_isSeen 43 = .ok (.iload_n 2, 1) := by decide +kernel
theorem dX12_isSeen_44 : decode cX12_isSeen 44 = .ok (.imul, 1) := by decide +kernel
theorem dX12_isSeen_45 : decode cX12_isSeen 45 = .ok (.iaload, 1) := by decide +kernel
theorem dX12_isSeen_46 : decode cX12_isSeen 46 = .ok (.iadd, 1) := by decide +kernel
theorem dX12_isSeen_47 : decode cX12_isSeen 47 = .ok (.iaload, 1) := by decide +kernel
theorem dX12_isSeen_48 : decode cX12_isSeen 48 = .ok (.aload_n 0, 1) := by decide +kernel
theorem dX12_isSeen_49 : decode cX12_isSeen 49 = .ok (.getfield 96, 3) := by decide +kernel
theorem dX12_isSeen_52 : decode cX12_isSeen 52 = .ok (.iconst 3, 1) := by decide +kernel
theorem dX12_isSeen_53 : decode cX12_isSeen 53 = .ok (.iload_n 2, 1) := by decide +kernel
theorem dX12_isSeen_54 : decode cX12_isSeen 54 = .ok (.imul, 1) := by decide +kernel
theorem dX12_isSeen_55 : decode cX12_isSeen 55 = .ok (.iconst 2, 1) := by decide +kernel
theorem dX12_isSeen_56 : decode cX12_isSeen 56 = .ok (.iadd, 1) := by decide +kernel
theorem dX12_isSeen_57 : decode cX12_isSeen 57 = .ok (.iaload, 1) := by decide +kernel
theorem dX12_isSeen_58 : decode cX12_isSeen 58 = .ok (.if_icmp .eq 5, 3) := by decide +kernel
theorem dX12_isSeen_61 : decode cX12_isSeen 61 = .ok (.iconst 0, 1) := by decide +kernel
theorem dX12_isSeen_62 : decode cX12_isSeen 62 = .ok (.ireturn, 1) := by decide +kernel
theorem dX12_isSeen_63 : decode cX12_isSeen 63 = .ok (.iinc 2 1, 3) := by decide +kernel
theorem dX12_isSeen_66 : decode cX12_isSeen 66 = .ok (.goto (-56), 3) := by decide +kernel
theorem dX12_isSeen_69 : decode cX12_isSeen 69 = .ok (.iload_n 1, 1) := by decide +kernel
theorem dX12_isSeen_70 : decode cX12_isSeen 70 = .ok (.iconst 5, 1) := by decide +kernel
theorem dX12_isSeen_71 : decode cX12_isSeen 71 = .ok (.if_icmp .ne 34, 3) := by decide +kernel
theorem dX12_isSeen_74 : decode cX12_isSeen 74 = .ok (.iconst 0, 1) := by decide +kernel
theorem dX12_isSeen_75 : decode cX12_isSeen 75 = .ok (.istore_n 2, 1) := by decide +kernel
theorem dX12_isSeen_76 : decode cX12_isSeen 76 = .ok (.iload_n 2, 1) := by decide +kernel
theorem dX12_isSeen_77 : decode cX12_isSeen 77 = .ok (.aload_n 0, 1) := by decide +kernel
theorem dX12_isSeen_78 : decode cX12_isSeen 78 = .ok (.getfield 7, 3) := by decide +kernel
theorem dX12_isSeen_81 : decode cX12_isSeen 81 = .ok (.if_icmp .ge 24, 3) := by decide +kernel
theorem dX12_isSeen_84 : decode cX12_isSeen 84 = .ok (.aload_n 0, 1) := by decide +kernel
theorem dX12_isSeen_85 : decode cX12_isSeen 85 = .ok (.getfield 99, 3) := by decide +kernel
theorem dX12_isSeen_88 : decode cX12_isSeen 88 = .ok (.iload_n 2, 1) := by decide +kernel
theorem dX12_isSeen_89 : decode cX12_isSeen 89 = .ok (.aload_n 0, 1) := by decide +kernel
theorem dX12_isSeen_90 : decode cX12_isSeen 90 = .ok (.getfield 66, 3) := by decide +kernel
theorem dX12_isSeen_93 : decode cX12_isSeen 93 = .ok (.bipush 62, 2) := by decide +kernel
theorem dX12_isSeen_95 : decode cX12_isSeen 95 = .ok (.iload_n 2, 1) := by decide +kernel
theorem dX12_isSeen_96 : decode cX12_isSeen 96 = .ok (.iadd, 1) := by decide +kernel
theorem dX12_isSeen_97 : decode cX12_isSeen 97 = .ok (.iaload, 1) := by decide +kernel
theorem dX12_isSeen_98 : decode cX12_isSeen 98 = .ok (.iastore, 1) := by decide +kernel
theorem dX12_isSeen_99 : decode cX12_isSeen 99 = .ok (.iinc 2 1, 3) := by decide +kernel
theorem dX12_isSeen_102 : decode cX12_isSeen 102 = .ok (.goto (-26), 3) := by decide +kernel
theorem dX12_isSeen_105 : decode cX12_isSeen 105 = .ok (.aload_n 0, 1) := by decide +kernel
theorem dX12_isSeen_106 : decode cX12_isSeen 106 = .ok (.bipush 49, 2) := by decide +kernel
theorem dX12_isSeen_108 : decode cX12_isSeen 108 = .ok (.invokevirtual 359, 3) := by decide +kernel
theorem dX12_isSeen_111 : decode cX12_isSeen 111 = .ok (.iinc 1 1, 3) := by decide +kernel
theorem dX12_isSeen_114 : decode cX12_isSeen 114 = .ok (.goto (-112), 3) := by decide +kernel
theorem dX12_isSeen_117 : decode cX12_isSeen 117 = .ok (.iconst 1, 1) := by decide +kernel
theorem dX12_isSeen_118 : decode cX12_isSeen 118 = .ok (.ireturn, 1) := by decide +kernel
theorem dX12_isGuess_0 : decode cX12_isGuess 0 = .ok (.iload_n 1, 1) := by decide +kernel
theorem dX12_isGuess_1 : decode cX12_isGuess 1 = .ok (.bipush 50, 2) := by decide +kernel
theorem dX12_isGuess_3 : decode cX12_isGuess 3 = .ok (.idiv, 1) := by decide +kernel
theorem dX12_isGuess_4 : decode cX12_isGuess 4 = .ok (.istore_n 2, 1) := by decide +kernel
theorem dX12_isGuess_5 : decode cX12_isGuess 5 = .ok (.aload_n 0, 1) := by decide +kernel
theorem dX12_isGuess_6 : decode cX12_isGuess 6 = .ok (.iconst 0, 1) := by decide +kernel
theorem dX12_isGuess_7 : decode cX12_isGuess 7 = .ok (.iload_n 2, 1) := by decide +kernel
theorem dX12_isGuess_8 : decode cX12_isGuess 8 = .ok (.invokevirtual 326, 3) := by decide +kernel
theorem dX12_isGuess_11 : decode cX12_isGuess 11 = .ok (.ifCond .eq 5, 3) := by decide +kernel
theorem dX12_isGuess_14 : decode cX12_isGuess 14 = .ok (.iconst 0, 1) := by decide +kernel
theorem dX12_isGuess_15 : decode cX12_isGuess 15 = .ok (.ireturn, 1) := by decide +kernel
theorem dX12_isGuess_16 : decode cX12_isGuess 16 = .ok (.aload_n 0, 1) := by decide +kernel
theorem dX12_isGuess_17 : decode cX12_isGuess 17 = .ok (.invokevirtual 390, 3) := by decide +kernel
theorem dX12_isGuess_20 : decode cX12_isGuess 20 = .ok (.aload_n 0, 1) := by decide +kernel
theorem dX12_isGuess_21 : decode cX12_isGuess 21 = .ok (.bipush 49, 2) := by decide +kernel
theorem dX12_isGuess_23 : decode cX12_isGuess 23 = .ok (.iload_n 2, 1) := by decide +kernel
theorem dX12_isGuess_24 : decode cX12_isGuess 24 = .ok (.iload_n 1, 1) := by decide +kernel
theorem dX12_isGuess_25 : decode cX12_isGuess 25 = .ok (.bipush 50, 2) := by decide +kernel
theorem dX12_isGuess_27 : decode cX12_isGuess 27 = .ok (.irem, 1) := by decide +kernel
theorem dX12_isGuess_28 : decode cX12_isGuess 28 = .ok (.iconst 1, 1) := by decide +kernel
theorem dX12_isGuess_29 : decode cX12_isGuess 29 = .ok (.iadd, 1) := by decide +kernel
theorem dX12_isGuess_30 : decode cX12_isGuess 30 = .ok (.invokevirtual 349, 3) := by decide +kernel
theorem dX12_isGuess_33 : decode cX12_isGuess 33 = .ok (.aload_n 0, 1) := by decide +kernel
theorem dX12_isGuess_34 : decode cX12_isGuess 34 = .ok (.invokevirtual 420, 3) := by decide +kernel
theorem dX12_isGuess_37 : decode cX12_isGuess 37 = .ok (.ireturn, 1) := by decide +kernel
theorem dX12_torn_0 : decode cX12_torn 0 = .ok (.aload_n 0, 1) := by decide +kernel
theorem dX12_torn_1 : decode cX12_torn 1 = .ok (.iconst 0, 1) := by decide +kernel
theorem dX12_torn_2 : decode cX12_torn 2 = .ok (.putfield 117, 3) := by decide +kernel
theorem dX12_torn_5 : decode cX12_torn 5 = .ok (.aload_n 0, 1) := by decide +kernel
theorem dX12_torn_6 : decode cX12_torn 6 = .ok (.iload_n 1, 1) := by decide +kernel
theorem dX12_torn_7 : decode cX12_torn 7 = .ok (.iconst 2, 1) := by decide +kernel
theorem dX12_torn_8 : decode cX12_torn 8 = .ok (.invokevirtual 378, 3) := by decide +kernel
theorem dX12_torn_11 : decode cX12_torn 11 = .ok (.ifCond .ne 5, 3) := by decide +kernel
theorem dX12_torn_14 : decode cX12_torn 14 = .ok (.iconst 0, 1) := by decide +kernel
theorem dX12_torn_15 : decode cX12_torn 15 = .ok (.ireturn, 1) := by decide +kernel
theorem dX12_torn_16 : decode cX12_torn 16 = .ok (.iload_n 1, 1) := by decide +kernel
theorem dX12_torn_17 : decode cX12_torn 17 = .ok (.iconst 2, 1) := by decide +kernel
theorem dX12_torn_18 : decode cX12_torn 18 = .ok (.if_icmp .ne 20, 3) := by decide +kernel
theorem dX12_torn_21 : decode cX12_torn 21 = .ok (.aload_n 0, 1) := by decide +kernel
theorem dX12_torn_22 : decode cX12_torn 22 = .ok (.invokevirtual 390, 3) := by decide +kernel
theorem dX12_torn_25 : decode cX12_torn 25 = .ok (.aload_n 0, 1) := by decide +kernel
theorem dX12_torn_26 : decode cX12_torn 26 = .ok (.invokevirtual 420, 3) := by decide +kernel
theorem dX12_torn_29 : decode cX12_torn 29 = .ok (.ifCond .eq 7, 3) := by decide +kernel
theorem dX12_torn_32 : decode cX12_torn 32 = .ok (.iconst 1, 1) := by decide +kernel
theorem dX12_torn_33 : decode cX12_torn 33 = .ok (.goto 4, 3) := by decide +kernel
theorem dX12_torn_36 : decode cX12_torn 36 = .ok (.iconst 0, 1) := by decide +kernel
theorem dX12_torn_37 : decode cX12_torn 37 = .ok (.ireturn, 1) := by decide +kernel
theorem dX12_torn_38 : decode cX12_torn 38 = .ok (.iconst 0, 1) := by decide +kernel
theorem dX12_torn_39 : decode cX12_torn 39 = .ok (.istore_n 2, 1) := by decide +kernel
theorem dX12_torn_40 : decode cX12_torn 40 = .ok (.iconst (-1), 1) := by decide +kernel
theorem dX12_torn_41 : decode cX12_torn 41 = .ok (.istore_n 3, 1) := by decide +kernel
theorem dX12_torn_42 : decode cX12_torn 42 = .ok (.iconst 0, 1) := by decide +kernel
theorem dX12_torn_43 : decode cX12_torn 43 = .ok (.istore 4, 2) := by decide +kernel
theorem dX12_torn_45 : decode cX12_torn 45 = .ok (.iload 4, 2) := by decide +kernel
theorem dX12_torn_47 : decode cX12_torn 47 = .ok (.bipush 50, 2) := by decide +kernel
theorem dX12_torn_49 : decode cX12_torn 49 = .ok (.aload_n 0, 1) := by decide +kernel
theorem dX12_torn_50 : decode cX12_torn 50 = .ok (.getfield 7, 3) := by decide +kernel
theorem dX12_torn_53 : decode cX12_torn 53 = .ok (.imul, 1) := by decide +kernel
theorem dX12_torn_54 : decode cX12_torn 54 = .ok (.if_icmp .ge 46, 3) := by decide +kernel
theorem dX12_torn_57 : decode cX12_torn 57 = .ok (.aload_n 0, 1) := by decide +kernel
theorem dX12_torn_58 : decode cX12_torn 58 = .ok (.iload 4, 2) := by decide +kernel
theorem dX12_torn_60 : decode cX12_torn 60 = .ok (.invokevirtual 423, 3) := by decide +kernel
theorem dX12_torn_63 : decode cX12_torn 63 = .ok (.ifCond .ne 6, 3) := by decide +kernel
theorem dX12_torn_66 : decode cX12_torn 66 = .ok (.goto 28, 3) := by decide +kernel
theorem dX12_torn_69 : decode cX12_torn 69 = .ok (.iinc 2 1, 3) := by decide +kernel
theorem dX12_torn_72 : decode cX12_torn 72 = .ok (.iload_n 3, 1) := by decide +kernel
theorem dX12_torn_73 : decode cX12_torn 73 = .ok (.iconst (-1), 1) := by decide +kernel
theorem dX12_torn_74 : decode cX12_torn 74 = .ok (.if_icmp .ne 20, 3) := by decide +kernel
theorem dX12_torn_77 : decode cX12_torn 77 = .ok (.iload 4, 2) := by decide +kernel
theorem dX12_torn_79 : decode cX12_torn 79 = .ok (.bipush 50, 2) := by decide +kernel
theorem dX12_torn_81 : decode cX12_torn 81 = .ok (.idiv, 1) := by decide +kernel
theorem dX12_torn_82 : decode cX12_torn 82 = .ok (.bipush 100, 2) := by decide +kernel
theorem dX12_torn_84 : decode cX12_torn 84 = .ok (.imul, 1) := by decide +kernel
theorem dX12_torn_85 : decode cX12_torn 85 = .ok (.iload 4, 2) := by decide +kernel
theorem dX12_torn_87 : decode cX12_torn 87 = .ok (.bipush 50, 2) := by decide +kernel
theorem dX12_torn_89 : decode cX12_torn 89 = .ok (.irem, 1) := by decide +kernel
theorem dX12_torn_90 : decode cX12_torn 90 = .ok (.iadd, 1) := by decide +kernel
theorem dX12_torn_91 : decode cX12_torn 91 = .ok (.iconst 1, 1) := by decide +kernel
theorem dX12_torn_92 : decode cX12_torn 92 = .ok (.iadd, 1) := by decide +kernel
theorem dX12_torn_93 : decode cX12_torn 93 = .ok (.istore_n 3, 1) := by decide +kernel
theorem dX12_torn_94 : decode cX12_torn 94 = .ok (.iinc 4 1, 3) := by decide +kernel
theorem dX12_torn_97 : decode cX12_torn 97 = .ok (.goto (-52), 3) := by decide +kernel
theorem dX12_torn_100 : decode cX12_torn 100 = .ok (.iload_n 1, 1) := by decide +kernel
theorem dX12_torn_101 : decode cX12_torn 101 = .ok (.ifCond .ne 7, 3) := by decide +kernel
theorem dX12_torn_104 : decode cX12_torn 104 = .ok (.iload_n 2, 1) := by decide +kernel
theorem dX12_torn_105 : decode cX12_torn 105 = .ok (.goto 4, 3) := by decide +kernel
theorem dX12_torn_108 : decode cX12_torn 108 = .ok (.iload_n 3, 1) := by decide +kernel
theorem dX12_torn_109 : decode cX12_torn 109 = .ok (.ireturn, 1) := by decide +kernel
theorem dX12_look_0 : decode cX12_look 0 = .ok (.aload_n 0, 1) := by decide +kernel
theorem dX12_look_1 : decode cX12_look 1 = .ok (.iconst 0, 1) := by decide +kernel
theorem dX12_look_2 : decode cX12_look 2 = .ok (.putfield 117, 3) := by decide +kernel
theorem dX12_look_5 : decode cX12_look 5 = .ok (.aload_n 0, 1) := by decide +kernel
theorem dX12_look_6 : decode cX12_look 6 = .ok (.iload_n 1, 1) := by decide +kernel
theorem dX12_look_7 : decode cX12_look 7 = .ok (.iconst 1, 1) := by decide +kernel
theorem dX12_look_8 : decode cX12_look 8 = .ok (.invokevirtual 378, 3) := by decide +kernel
theorem dX12_look_11 : decode cX12_look 11 = .ok (.ifCond .ne 5, 3) := by decide +kernel
theorem dX12_look_14 : decode cX12_look 14 = .ok (.iconst 0, 1) := by decide +kernel
theorem dX12_look_15 : decode cX12_look 15 = .ok (.ireturn, 1) := by decide +kernel
theorem dX12_look_16 : decode cX12_look 16 = .ok (.iconst 0, 1) := by decide +kernel
theorem dX12_look_17 : decode cX12_look 17 = .ok (.istore_n 2, 1) := by decide +kernel
theorem dX12_look_18 : decode cX12_look 18 = .ok (.iconst 0, 1) := by decide +kernel
theorem dX12_look_19 : decode cX12_look 19 = .ok (.istore_n 3, 1) := by decide +kernel
theorem dX12_look_20 : decode cX12_look 20 = .ok (.iload_n 3, 1) := by decide +kernel
theorem dX12_look_21 : decode cX12_look 21 = .ok (.bipush 50, 2) := by decide +kernel
theorem dX12_look_23 : decode cX12_look 23 = .ok (.aload_n 0, 1) := by decide +kernel
theorem dX12_look_24 : decode cX12_look 24 = .ok (.getfield 7, 3) := by decide +kernel
theorem dX12_look_27 : decode cX12_look 27 = .ok (.imul, 1) := by decide +kernel
theorem dX12_look_28 : decode cX12_look 28 = .ok (.if_icmp .ge 60, 3) := by decide +kernel
theorem dX12_look_31 : decode cX12_look 31 = .ok (.aload_n 0, 1) := by decide +kernel
theorem dX12_look_32 : decode cX12_look 32 = .ok (.iload_n 3, 1) := by decide +kernel
theorem dX12_look_33 : decode cX12_look 33 = .ok (.invokevirtual 423, 3) := by decide +kernel
theorem dX12_look_36 : decode cX12_look 36 = .ok (.ifCond .ne 6, 3) := by decide +kernel
theorem dX12_look_39 : decode cX12_look 39 = .ok (.goto 43, 3) := by decide +kernel
theorem dX12_look_42 : decode cX12_look 42 = .ok (.iconst 0, 1) := by decide +kernel
theorem dX12_look_43 : decode cX12_look 43 = .ok (.istore 4, 2) := by decide +kernel
theorem dX12_look_45 : decode cX12_look 45 = .ok (.iload 4, 2) := by decide +kernel
theorem dX12_look_47 : decode cX12_look 47 = .ok (.aload_n 0, 1) := by decide +kernel
theorem dX12_look_48 : decode cX12_look 48 = .ok (.getfield 7, 3) := by decide +kernel
theorem dX12_look_51 : decode cX12_look 51 = .ok (.if_icmp .ge 28, 3) := by decide +kernel
theorem dX12_look_54 : decode cX12_look 54 = .ok (.aload_n 0, 1) := by decide +kernel
theorem dX12_look_55 : decode cX12_look 55 = .ok (.getfield 102, 3) := by decide +kernel
theorem dX12_look_58 : decode cX12_look 58 = .ok (.bipush 12, 2) := by decide +kernel
theorem dX12_look_60 : decode cX12_look 60 = .ok (.iload_n 2, 1) := by decide +kernel
theorem dX12_look_61 : decode cX12_look 61 = .ok (.imul, 1) := by decide +kernel
theorem dX12_look_62 : decode cX12_look 62 = .ok (.iload 4, 2) := by decide +kernel
theorem dX12_look_64 : decode cX12_look 64 = .ok (.iadd, 1) := by decide +kernel
theorem dX12_look_65 : decode cX12_look 65 = .ok (.aload_n 0, 1) := by decide +kernel
theorem dX12_look_66 : decode cX12_look 66 = .ok (.getfield 99, 3) := by decide +kernel
theorem dX12_look_69 : decode cX12_look 69 = .ok (.iload 4, 2) := by decide +kernel
theorem dX12_look_71 : decode cX12_look 71 = .ok (.iaload, 1) := by decide +kernel
theorem dX12_look_72 : decode cX12_look 72 = .ok (.iastore, 1) := by decide +kernel
theorem dX12_look_73 : decode cX12_look 73 = .ok (.iinc 4 1, 3) := by decide +kernel
theorem dX12_look_76 : decode cX12_look 76 = .ok (.goto (-31), 3) := by decide +kernel
theorem dX12_look_79 : decode cX12_look 79 = .ok (.iinc 2 1, 3) := by decide +kernel
theorem dX12_look_82 : decode cX12_look 82 = .ok (.iinc 3 1, 3) := by decide +kernel
theorem dX12_look_85 : decode cX12_look 85 = .ok (.goto (-65), 3) := by decide +kernel
theorem dX12_look_88 : decode cX12_look 88 = .ok (.iconst (-1), 1) := by decide +kernel
theorem dX12_look_89 : decode cX12_look 89 = .ok (.istore_n 3, 1) := by decide +kernel
theorem dX12_look_90 : decode cX12_look 90 = .ok (.iconst 0, 1) := by decide +kernel
theorem dX12_look_91 : decode cX12_look 91 = .ok (.istore 4, 2) := by decide +kernel
theorem dX12_look_93 : decode cX12_look 93 = .ok (.iconst 0, 1) := by decide +kernel
theorem dX12_look_94 : decode cX12_look 94 = .ok (.istore 5, 2) := by decide +kernel
theorem dX12_look_96 : decode cX12_look 96 = .ok (.iload 5, 2) := by decide +kernel
theorem dX12_look_98 : decode cX12_look 98 = .ok (.aload_n 0, 1) := by decide +kernel
theorem dX12_look_99 : decode cX12_look 99 = .ok (.getfield 7, 3) := by decide +kernel
theorem dX12_look_102 : decode cX12_look 102 = .ok (.if_icmp .ge 119, 3) := by decide +kernel
theorem dX12_look_105 : decode cX12_look 105 = .ok (.iconst 0, 1) := by decide +kernel
theorem dX12_look_106 : decode cX12_look 106 = .ok (.istore 6, 2) := by decide +kernel
theorem dX12_look_108 : decode cX12_look 108 = .ok (.iconst 0, 1) := by decide +kernel
theorem dX12_look_109 : decode cX12_look 109 = .ok (.istore 7, 2) := by decide +kernel
theorem dX12_look_111 : decode cX12_look 111 = .ok (.iload 7, 2) := by decide +kernel
theorem dX12_look_113 : decode cX12_look 113 = .ok (.iload_n 2, 1) := by decide +kernel
theorem dX12_look_114 : decode cX12_look 114 = .ok (.if_icmp .ge 84, 3) := by decide +kernel
theorem dX12_look_117 : decode cX12_look 117 = .ok (.iconst 1, 1) := by decide +kernel
theorem dX12_look_118 : decode cX12_look 118 = .ok (.istore 8, 2) := by decide +kernel
theorem dX12_look_120 : decode cX12_look 120 = .ok (.iconst 0, 1) := by decide +kernel
theorem dX12_look_121 : decode cX12_look 121 = .ok (.istore 9, 2) := by decide +kernel
theorem dX12_look_123 : decode cX12_look 123 = .ok (.iload 9, 2) := by decide +kernel
theorem dX12_look_125 : decode cX12_look 125 = .ok (.iload 7, 2) := by decide +kernel
theorem dX12_look_127 : decode cX12_look 127 = .ok (.if_icmp .ge 50, 3) := by decide +kernel
theorem dX12_look_130 : decode cX12_look 130 = .ok (.iload 8, 2) := by decide +kernel
theorem dX12_look_132 : decode cX12_look 132 = .ok (.ifCond .eq 45, 3) := by decide +kernel
theorem dX12_look_135 : decode cX12_look 135 = .ok (.aload_n 0, 1) := by decide +kernel
theorem dX12_look_136 : decode cX12_look 136 = .ok (.getfield 102, 3) := by decide +kernel
theorem dX12_look_139 : decode cX12_look 139 = .ok (.bipush 12, 2) := by decide +kernel
theorem dX12_look_141 : decode cX12_look 141 = .ok (.iload 7, 2) := by decide +kernel
theorem dX12_look_143 : decode cX12_look 143 = .ok (.imul, 1) := by decide +kernel
theorem dX12_look_144 : decode cX12_look 144 = .ok (.iload 5, 2) := by decide +kernel
theorem dX12_look_146 : decode cX12_look 146 = .ok (.iadd, 1) := by decide +kernel
theorem dX12_look_147 : decode cX12_look 147 = .ok (.iaload, 1) := by decide +kernel
theorem dX12_look_148 : decode cX12_look 148 = .ok (.aload_n 0, 1) := by decide +kernel
theorem dX12_look_149 : decode cX12_look 149 = .ok (.getfield 102, 3) := by decide +kernel
theorem dX12_look_152 : decode cX12_look 152 = .ok (.bipush 12, 2) := by decide +kernel
theorem dX12_look_154 : decode cX12_look 154 = .ok (.iload 9, 2) := by decide +kernel
theorem dX12_look_156 : decode cX12_look 156 = .ok (.imul, 1) := by decide +kernel
theorem dX12_look_157 : decode cX12_look 157 = .ok (.iload 5, 2) := by decide +kernel
theorem dX12_look_159 : decode cX12_look 159 = .ok (.iadd, 1) := by decide +kernel
theorem dX12_look_160 : decode cX12_look 160 = .ok (.iaload, 1) := by decide +kernel
theorem dX12_look_161 : decode cX12_look 161 = .ok (.if_icmp .eq 7, 3) := by decide +kernel
theorem dX12_look_164 : decode cX12_look 164 = .ok (.iconst 1, 1) := by decide +kernel
theorem dX12_look_165 : decode cX12_look 165 = .ok (.goto 4, 3) := by decide +kernel
theorem dX12_look_168 : decode cX12_look 168 = .ok (.iconst 0, 1) := by decide +kernel
theorem dX12_look_169 : decode cX12_look 169 = .ok (.istore 8, 2) := by decide +kernel
theorem dX12_look_171 : decode cX12_look 171 = .ok (.iinc 9 1, 3) := by decide +kernel
theorem dX12_look_174 : decode cX12_look 174 = .ok (.goto (-51), 3) := by decide +kernel
theorem dX12_look_177 : decode cX12_look 177 = .ok (.iload 6, 2) := by decide +kernel
theorem dX12_look_179 : decode cX12_look 179 = .ok (.iload 8, 2) := by decide +kernel
theorem dX12_look_181 : decode cX12_look 181 = .ok (.ifCond .eq 7, 3) := by decide +kernel
theorem dX12_look_184 : decode cX12_look 184 = .ok (.iconst 1, 1) := by decide +kernel
theorem dX12_look_185 : decode cX12_look 185 = .ok (.goto 4, 3) := by decide +kernel
theorem dX12_look_188 : decode cX12_look 188 = .ok (.iconst 0, 1) := by decide +kernel
theorem dX12_look_189 : decode cX12_look 189 = .ok (.iadd, 1) := by decide +kernel
theorem dX12_look_190 : decode cX12_look 190 = .ok (.istore 6, 2) := by decide +kernel
theorem dX12_look_192 : decode cX12_look 192 = .ok (.iinc 7 1, 3) := by decide +kernel
theorem dX12_look_195 : decode cX12_look 195 = .ok (.goto (-84), 3) := by decide +kernel
theorem dX12_look_198 : decode cX12_look 198 = .ok (.iload 6, 2) := by decide +kernel
theorem dX12_look_200 : decode cX12_look 200 = .ok (.iload 4, 2) := by decide +kernel
theorem dX12_look_202 : decode cX12_look 202 = .ok (.if_icmp .gt 6, 3) := by decide +kernel
theorem dX12_look_205 : decode cX12_look 205 = .ok (.goto 10, 3) := by decide +kernel
theorem dX12_look_208 : decode cX12_look 208 = .ok (.iload 5, 2) := by decide +kernel
theorem dX12_look_210 : decode cX12_look 210 = .ok (.istore_n 3, 1) := by decide +kernel
theorem dX12_look_211 : decode cX12_look 211 = .ok (.iload 6, 2) := by decide +kernel
theorem dX12_look_213 : decode cX12_look 213 = .ok (.istore 4, 2) := by decide +kernel
theorem dX12_look_215 : decode cX12_look 215 = .ok (.iinc 5 1, 3) := by decide +kernel
theorem dX12_look_218 : decode cX12_look 218 = .ok (.goto (-122), 3) := by decide +kernel
theorem dX12_look_221 : decode cX12_look 221 = .ok (.iload_n 1, 1) := by decide +kernel
theorem dX12_look_222 : decode cX12_look 222 = .ok (.ifCond .ne 7, 3) := by decide +kernel
theorem dX12_look_225 : decode cX12_look 225 = .ok (.iload_n 3, 1) := by decide +kernel
theorem dX12_look_226 : decode cX12_look 226 = .ok (.goto 5, 3) := by decide +kernel
theorem dX12_look_229 : decode cX12_look 229 = .ok (.iload 4, 2) := by decide +kernel
theorem dX12_look_231 : decode cX12_look 231 = .ok (.ireturn, 1) := by decide +kernel
theorem dX12_gales_0 : decode cX12_gales 0 = .ok (.aload_n 0, 1) := by decide +kernel
theorem dX12_gales_1 : decode cX12_gales 1 = .ok (.iconst 0, 1) := by decide +kernel
theorem dX12_gales_2 : decode cX12_gales 2 = .ok (.putfield 117, 3) := by decide +kernel
theorem dX12_gales_5 : decode cX12_gales 5 = .ok (.aload_n 0, 1) := by decide +kernel
theorem dX12_gales_6 : decode cX12_gales 6 = .ok (.iload_n 1, 1) := by decide +kernel
theorem dX12_gales_7 : decode cX12_gales 7 = .ok (.iconst 1, 1) := by decide +kernel
theorem dX12_gales_8 : decode cX12_gales 8 = .ok (.iconst 5, 1) := by decide +kernel
theorem dX12_gales_9 : decode cX12_gales 9 = .ok (.invokestatic 362, 3) := by decide +kernel
theorem dX12_gales_12 : decode cX12_gales 12 = .ok (.ifCond .eq 17, 3) := by decide +kernel
theorem dX12_gales_15 : decode cX12_gales 15 = .ok (.iload_n 2, 1) := by decide +kernel
theorem dX12_gales_16 : decode cX12_gales 16 = .ok (.iconst 0, 1) := by decide +kernel
theorem dX12_gales_17 : decode cX12_gales 17 = .ok (.bipush 10, 2) := by decide +kernel
theorem dX12_gales_19 : decode cX12_gales 19 = .ok (.invokestatic 362, 3) := by decide +kernel
theorem dX12_gales_22 : decode cX12_gales 22 = .ok (.ifCond .eq 7, 3) := by decide +kernel
theorem dX12_gales_25 : decode cX12_gales 25 = .ok (.iconst 1, 1) := by decide +kernel
theorem dX12_gales_26 : decode cX12_gales 26 = .ok (.goto 4, 3) := by decide +kernel
theorem dX12_gales_29 : decode cX12_gales 29 = .ok (.iconst 0, 1) := by decide +kernel
theorem dX12_gales_30 : decode cX12_gales 30 = .ok (.iconst 1, 1) := by decide +kernel
theorem dX12_gales_31 : decode cX12_gales 31 = .ok (.invokevirtual 277, 3) := by decide +kernel
theorem dX12_gales_34 : decode cX12_gales 34 = .ok (.ifCond .ne 5, 3) := by decide +kernel
theorem dX12_gales_37 : decode cX12_gales 37 = .ok (.iconst 0, 1) := by decide +kernel
theorem dX12_gales_38 : decode cX12_gales 38 = .ok (.ireturn, 1) := by decide +kernel
theorem dX12_gales_39 : decode cX12_gales 39 = .ok (.iconst 0, 1) := by decide +kernel
theorem dX12_gales_40 : decode cX12_gales 40 = .ok (.istore_n 3, 1) := by decide +kernel
theorem dX12_gales_41 : decode cX12_gales 41 = .ok (.iconst 0, 1) := by decide +kernel
theorem dX12_gales_42 : decode cX12_gales 42 = .ok (.istore 4, 2) := by decide +kernel
theorem dX12_gales_44 : decode cX12_gales 44 = .ok (.iload 4, 2) := by decide +kernel
theorem dX12_gales_46 : decode cX12_gales 46 = .ok (.iconst 1, 1) := by decide +kernel
theorem dX12_gales_47 : decode cX12_gales 47 = .ok (.iload_n 1, 1) := by decide +kernel
theorem dX12_gales_48 : decode cX12_gales 48 = .ok (.ishl, 1) := by decide +kernel
theorem dX12_gales_49 : decode cX12_gales 49 = .ok (.if_icmp .ge 143, 3) := by decide +kernel
theorem dX12_gales_52 : decode cX12_gales 52 = .ok (.iconst 1, 1) := by decide +kernel
theorem dX12_gales_53 : decode cX12_gales 53 = .ok (.istore 5, 2) := by decide +kernel
theorem dX12_gales_55 : decode cX12_gales 55 = .ok (.aload_n 0, 1) := by decide +kernel
theorem dX12_gales_56 : decode cX12_gales 56 = .ok (.invokevirtual 390, 3) := by decide +kernel
theorem dX12_gales_59 : decode cX12_gales 59 = .ok (.iconst 0, 1) := by decide +kernel
theorem dX12_gales_60 : decode cX12_gales 60 = .ok (.istore 6, 2) := by decide +kernel
theorem dX12_gales_62 : decode cX12_gales 62 = .ok (.iload 6, 2) := by decide +kernel
theorem dX12_gales_64 : decode cX12_gales 64 = .ok (.iload_n 1, 1) := by decide +kernel
theorem dX12_gales_65 : decode cX12_gales 65 = .ok (.if_icmp .ge 95, 3) := by decide +kernel
theorem dX12_gales_68 : decode cX12_gales 68 = .ok (.iload 4, 2) := by decide +kernel
theorem dX12_gales_70 : decode cX12_gales 70 = .ok (.iload 6, 2) := by decide +kernel
theorem dX12_gales_72 : decode cX12_gales 72 = .ok (.ishr, 1) := by decide +kernel
theorem dX12_gales_73 : decode cX12_gales 73 = .ok (.iconst 1, 1) := by decide +kernel
theorem dX12_gales_74 : decode cX12_gales 74 = .ok (.iand, 1) := by decide +kernel
theorem dX12_gales_75 : decode cX12_gales 75 = .ok (.iconst 1, 1) := by decide +kernel
theorem dX12_gales_76 : decode cX12_gales 76 = .ok (.if_icmp .ne 7, 3) := by decide +kernel
theorem dX12_gales_79 : decode cX12_gales 79 = .ok (.iconst 1, 1) := by decide +kernel
theorem dX12_gales_80 : decode cX12_gales 80 = .ok (.goto 4, 3) := by decide +kernel
theorem dX12_gales_83 : decode cX12_gales 83 = .ok (.iconst 0, 1) := by decide +kernel
theorem dX12_gales_84 : decode cX12_gales 84 = .ok (.istore 7, 2) := by decide +kernel
theorem dX12_gales_86 : decode cX12_gales 86 = .ok (.iload 5, 2) := by decide +kernel
theorem dX12_gales_88 : decode cX12_gales 88 = .ok (.iload 7, 2) := by decide +kernel
theorem dX12_gales_90 : decode cX12_gales 90 = .ok (.ifCond .eq 7, 3) := by decide +kernel
theorem dX12_gales_93 : decode cX12_gales 93 = .ok (.iload_n 2, 1) := by decide +kernel
theorem dX12_gales_94 : decode cX12_gales 94 = .ok (.goto 7, 3) := by decide +kernel
theorem dX12_gales_97 : decode cX12_gales 97 = .ok (.bipush 10, 2) := by decide +kernel
theorem dX12_gales_99 : decode cX12_gales 99 = .ok (.iload_n 2, 1) := by decide +kernel
theorem dX12_gales_100 : decode cX12_gales 100 = .ok (.isub, 1) := by decide +kernel
theorem dX12_gales_101 : decode cX12_gales 101 = .ok (.imul, 1) := by decide +kernel
theorem dX12_gales_102 : decode cX12_gales 102 = .ok (.istore 5, 2) := by decide +kernel
theorem dX12_gales_104 : decode cX12_gales 104 = .ok (.iconst 0, 1) := by decide +kernel
theorem dX12_gales_105 : decode cX12_gales 105 = .ok (.istore 8, 2) := by decide +kernel
theorem dX12_gales_107 : decode cX12_gales 107 = .ok (.iload 8, 2) := by decide +kernel
theorem dX12_gales_109 : decode cX12_gales 109 = .ok (.aload_n 0, 1) := by decide +kernel
theorem dX12_gales_110 : decode cX12_gales 110 = .ok (.getfield 7, 3) := by decide +kernel
theorem dX12_gales_113 : decode cX12_gales 113 = .ok (.if_icmp .ge 35, 3) := by decide +kernel
theorem dX12_gales_116 : decode cX12_gales 116 = .ok (.iload 7, 2) := by decide +kernel
theorem dX12_gales_118 : decode cX12_gales 118 = .ok (.ifCond .eq 30, 3) := by decide +kernel
theorem dX12_gales_121 : decode cX12_gales 121 = .ok (.aload_n 0, 1) := by decide +kernel
theorem dX12_gales_122 : decode cX12_gales 122 = .ok (.bipush 49, 2) := by decide +kernel
theorem dX12_gales_124 : decode cX12_gales 124 = .ok (.iload 8, 2) := by decide +kernel
theorem dX12_gales_126 : decode cX12_gales 126 = .ok (.invokevirtual 326, 3) := by decide +kernel
theorem dX12_gales_129 : decode cX12_gales 129 = .ok (.ifCond .ne 13, 3) := by decide +kernel
theorem dX12_gales_132 : decode cX12_gales 132 = .ok (.aload_n 0, 1) := by decide +kernel
theorem dX12_gales_133 : decode cX12_gales 133 = .ok (.bipush 49, 2) := by decide +kernel
theorem dX12_gales_135 : decode cX12_gales 135 = .ok (.iload 8, 2) := by decide +kernel
theorem dX12_gales_137 : decode cX12_gales 137 = .ok (.bipush 15, 2) := by decide +kernel
theorem dX12_gales_139 : decode cX12_gales 139 = .ok (.invokevirtual 339, 3) := by decide +kernel
theorem dX12_gales_142 : decode cX12_gales 142 = .ok (.iinc 8 1, 3) := by decide +kernel
theorem dX12_gales_145 : decode cX12_gales 145 = .ok (.goto (-38), 3) := by decide +kernel
theorem dX12_gales_148 : decode cX12_gales 148 = .ok (.aload_n 0, 1) := by decide +kernel
theorem dX12_gales_149 : decode cX12_gales 149 = .ok (.bipush 49, 2) := by decide +kernel
theorem dX12_gales_151 : decode cX12_gales 151 = .ok (.invokevirtual 359, 3) := by decide +kernel
theorem dX12_gales_154 : decode cX12_gales 154 = .ok (.iinc 6 1, 3) := by decide +kernel
theorem dX12_gales_157 : decode cX12_gales 157 = .ok (.goto (-95), 3) := by decide +kernel
theorem dX12_gales_160 : decode cX12_gales 160 = .ok (.iload_n 3, 1) := by decide +kernel
theorem dX12_gales_161 : decode cX12_gales 161 = .ok (.aload_n 0, 1) := by decide +kernel
theorem dX12_gales_162 : decode cX12_gales 162 = .ok (.bipush 49, 2) := by decide +kernel
theorem dX12_gales_164 : decode cX12_gales 164 = .ok (.invokevirtual 366, 3) := by decide +kernel
theorem dX12_gales_167 : decode cX12_gales 167 = .ok (.aload_n 0, 1) := by decide +kernel
theorem dX12_gales_168 : decode cX12_gales 168 = .ok (.iconst 0, 1) := by decide +kernel
theorem dX12_gales_169 : decode cX12_gales 169 = .ok (.invokevirtual 366, 3) := by decide +kernel
theorem dX12_gales_172 : decode cX12_gales 172 = .ok (.iconst (-1), 1) := by decide +kernel
theorem dX12_gales_173 : decode cX12_gales 173 = .ok (.ixor, 1) := by decide +kernel
theorem dX12_gales_174 : decode cX12_gales 174 = .ok (.iand, 1) := by decide +kernel
theorem dX12_gales_175 : decode cX12_gales 175 = .ok (.ifCond .eq 8, 3) := by decide +kernel
theorem dX12_gales_178 : decode cX12_gales 178 = .ok (.iload 5, 2) := by decide +kernel
theorem dX12_gales_180 : decode cX12_gales 180 = .ok (.goto 4, 3) := by decide +kernel
theorem dX12_gales_183 : decode cX12_gales 183 = .ok (.iconst 0, 1) := by decide +kernel
theorem dX12_gales_184 : decode cX12_gales 184 = .ok (.iadd, 1) := by decide +kernel
theorem dX12_gales_185 : decode cX12_gales 185 = .ok (.istore_n 3, 1) := by decide +kernel
theorem dX12_gales_186 : decode cX12_gales 186 = .ok (.iinc 4 1, 3) := by decide +kernel
theorem dX12_gales_189 : decode cX12_gales 189 = .ok (.goto (-145), 3) := by decide +kernel
theorem dX12_gales_192 : decode cX12_gales 192 = .ok (.iload_n 3, 1) := by decide +kernel
theorem dX12_gales_193 : decode cX12_gales 193 = .ok (.ireturn, 1) := by decide +kernel
theorem dX12_plays_0 : decode cX12_plays 0 = .ok (.iload_n 2, 1) := by decide +kernel
theorem dX12_plays_1 : decode cX12_plays 1 = .ok (.iconst 1, 1) := by decide +kernel
theorem dX12_plays_2 : decode cX12_plays 2 = .ok (.if_icmp .ne 10, 3) := by decide +kernel
theorem dX12_plays_5 : decode cX12_plays 5 = .ok (.aload_n 0, 1) := by decide +kernel
theorem dX12_plays_6 : decode cX12_plays 6 = .ok (.bipush 49, 2) := by decide +kernel
theorem dX12_plays_8 : decode cX12_plays 8 = .ok (.iload_n 1, 1) := by decide +kernel
theorem dX12_plays_9 : decode cX12_plays 9 = .ok (.invokevirtual 356, 3) := by decide +kernel
theorem dX12_plays_12 : decode cX12_plays 12 = .ok (.aload_n 0, 1) := by decide +kernel
theorem dX12_plays_13 : decode cX12_plays 13 = .ok (.bipush 49, 2) := by decide +kernel
theorem dX12_plays_15 : decode cX12_plays 15 = .ok (.iload_n 1, 1) := by decide +kernel
theorem dX12_plays_16 : decode cX12_plays 16 = .ok (.invokevirtual 352, 3) := by decide +kernel
theorem dX12_plays_19 : decode cX12_plays 19 = .ok (.return_, 1) := by decide +kernel
theorem dX12_gains_0 : decode cX12_gains 0 = .ok (.aload_n 0, 1) := by decide +kernel
theorem dX12_gains_1 : decode cX12_gains 1 = .ok (.invokevirtual 390, 3) := by decide +kernel
theorem dX12_gains_4 : decode cX12_gains 4 = .ok (.iload_n 1, 1) := by decide +kernel
theorem dX12_gains_5 : decode cX12_gains 5 = .ok (.iload_n 2, 1) := by decide +kernel
theorem dX12_gains_6 : decode cX12_gains 6 = .ok (.if_icmp .ge 9, 3) := by decide +kernel
theorem dX12_gains_9 : decode cX12_gains 9 = .ok (.aload_n 0, 1) := by decide +kernel
theorem dX12_gains_10 : decode cX12_gains 10 = .ok (.iload_n 1, 1) := by decide +kernel
theorem dX12_gains_11 : decode cX12_gains 11 = .ok (.iload_n 3, 1) := by decide +kernel
theorem dX12_gains_12 : decode cX12_gains 12 = .ok (.invokevirtual 426, 3) := by decide +kernel
theorem dX12_gains_15 : decode cX12_gains 15 = .ok (.aload_n 0, 1) := by decide +kernel
theorem dX12_gains_16 : decode cX12_gains 16 = .ok (.iload_n 2, 1) := by decide +kernel
theorem dX12_gains_17 : decode cX12_gains 17 = .ok (.iload 4, 2) := by decide +kernel
theorem dX12_gains_19 : decode cX12_gains 19 = .ok (.invokevirtual 426, 3) := by decide +kernel
theorem dX12_gains_22 : decode cX12_gains 22 = .ok (.iload_n 1, 1) := by decide +kernel
theorem dX12_gains_23 : decode cX12_gains 23 = .ok (.iload_n 2, 1) := by decide +kernel
theorem dX12_gains_24 : decode cX12_gains 24 = .ok (.if_icmp .le 9, 3) := by decide +kernel
theorem dX12_gains_27 : decode cX12_gains 27 = .ok (.aload_n 0, 1) := by decide +kernel
theorem dX12_gains_28 : decode cX12_gains 28 = .ok (.iload_n 1, 1) := by decide +kernel
theorem dX12_gains_29 : decode cX12_gains 29 = .ok (.iload_n 3, 1) := by decide +kernel
theorem dX12_gains_30 : decode cX12_gains 30 = .ok (.invokevirtual 426, 3) := by decide +kernel
theorem dX12_gains_33 : decode cX12_gains 33 = .ok (.aload_n 0, 1) := by decide +kernel
theorem dX12_gains_34 : decode cX12_gains 34 = .ok (.iconst 5, 1) := by decide +kernel
theorem dX12_gains_35 : decode cX12_gains 35 = .ok (.invokevirtual 393, 3) := by decide +kernel
theorem dX12_gains_38 : decode cX12_gains 38 = .ok (.aload_n 0, 1) := by decide +kernel
theorem dX12_gains_39 : decode cX12_gains 39 = .ok (.getfield 66, 3) := by decide +kernel
theorem dX12_gains_42 : decode cX12_gains 42 = .ok (.bipush 62, 2) := by decide +kernel
theorem dX12_gains_44 : decode cX12_gains 44 = .ok (.aload_n 0, 1) := by decide +kernel
theorem dX12_gains_45 : decode cX12_gains 45 = .ok (.getfield 66, 3) := by decide +kernel
theorem dX12_gains_48 : decode cX12_gains 48 = .ok (.bipush 37, 2) := by decide +kernel
theorem dX12_gains_50 : decode cX12_gains 50 = .ok (.iload_n 1, 1) := by decide +kernel
theorem dX12_gains_51 : decode cX12_gains 51 = .ok (.iadd, 1) := by decide +kernel
theorem dX12_gains_52 : decode cX12_gains 52 = .ok (.iaload, 1) := by decide +kernel
theorem dX12_gains_53 : decode cX12_gains 53 = .ok (.iadd, 1) := by decide +kernel
theorem dX12_gains_54 : decode cX12_gains 54 = .ok (.iaload, 1) := by decide +kernel
theorem dX12_gains_55 : decode cX12_gains 55 = .ok (.bipush 10, 2) := by decide +kernel
theorem dX12_gains_57 : decode cX12_gains 57 = .ok (.idiv, 1) := by decide +kernel
theorem dX12_gains_58 : decode cX12_gains 58 = .ok (.iload_n 3, 1) := by decide +kernel
theorem dX12_gains_59 : decode cX12_gains 59 = .ok (.isub, 1) := by decide +kernel
theorem dX12_gains_60 : decode cX12_gains 60 = .ok (.ireturn, 1) := by decide +kernel
theorem dX12_game_0 : decode cX12_game 0 = .ok (.aload_n 0, 1) := by decide +kernel
theorem dX12_game_1 : decode cX12_game 1 = .ok (.iconst 0, 1) := by decide +kernel
theorem dX12_game_2 : decode cX12_game 2 = .ok (.putfield 117, 3) := by decide +kernel
theorem dX12_game_5 : decode cX12_game 5 = .ok (.aload_n 0, 1) := by decide +kernel
theorem dX12_game_6 : decode cX12_game 6 = .ok (.iload_n 1, 1) := by decide +kernel
theorem dX12_game_7 : decode cX12_game 7 = .ok (.invokevirtual 381, 3) := by decide +kernel
theorem dX12_game_10 : decode cX12_game 10 = .ok (.ifCond .eq 38, 3) := by decide +kernel
theorem dX12_game_13 : decode cX12_game 13 = .ok (.aload_n 0, 1) := by decide +kernel
theorem dX12_game_14 : decode cX12_game 14 = .ok (.iload_n 2, 1) := by decide +kernel
theorem dX12_game_15 : decode cX12_game 15 = .ok (.invokevirtual 381, 3) := by decide +kernel
theorem dX12_game_18 : decode cX12_game 18 = .ok (.ifCond .eq 30, 3) := by decide +kernel
theorem dX12_game_21 : decode cX12_game 21 = .ok (.aload_n 0, 1) := by decide +kernel
theorem dX12_game_22 : decode cX12_game 22 = .ok (.iload_n 3, 1) := by decide +kernel
theorem dX12_game_23 : decode cX12_game 23 = .ok (.iconst 1, 1) := by decide +kernel
theorem dX12_game_24 : decode cX12_game 24 = .ok (.invokevirtual 378, 3) := by decide +kernel
theorem dX12_game_27 : decode cX12_game 27 = .ok (.ifCond .eq 21, 3) := by decide +kernel
theorem dX12_game_30 : decode cX12_game 30 = .ok (.aload_n 0, 1) := by decide +kernel
theorem dX12_game_31 : decode cX12_game 31 = .ok (.iload_n 1, 1) := by decide +kernel
theorem dX12_game_32 : decode cX12_game 32 = .ok (.iload_n 2, 1) := by decide +kernel
theorem dX12_game_33 : decode cX12_game 33 = .ok (.if_icmp .eq 7, 3) := by decide +kernel
theorem dX12_game_36 : decode cX12_game 36 = .ok (.iconst 1, 1) := by decide +kernel
theorem dX12_game_37 : decode cX12_game 37 = .ok (.goto 4, 3) := by decide +kernel
theorem dX12_game_40 : decode cX12_game 40 = .ok (.iconst 0, 1) := by decide +kernel
theorem dX12_game_41 : decode cX12_game 41 = .ok (.iconst 2, 1) := by decide +kernel
theorem dX12_game_42 : decode cX12_game 42 = .ok (.invokevirtual 277, 3) := by decide +kernel
theorem dX12_game_45 : decode cX12_game 45 = .ok (.ifCond .ne 5, 3) := by decide +kernel
theorem dX12_game_48 : decode cX12_game 48 = .ok (.iconst 0, 1) := by decide +kernel
theorem dX12_game_49 : decode cX12_game 49 = .ok (.ireturn, 1) := by decide +kernel
theorem dX12_game_50 : decode cX12_game 50 = .ok (.iconst 0, 1) := by decide +kernel
theorem dX12_game_51 : decode cX12_game 51 = .ok (.istore 4, 2) := by decide +kernel
theorem dX12_game_53 : decode cX12_game 53 = .ok (.iconst (-1), 1) := by decide +kernel
theorem dX12_game_54 : decode cX12_game 54 = .ok (.istore 5, 2) := by decide +kernel
theorem dX12_game_56 : decode cX12_game 56 = .ok (.iconst 0, 1) := by decide +kernel
theorem dX12_game_57 : decode cX12_game 57 = .ok (.istore 6, 2) := by decide +kernel
theorem dX12_game_59 : decode cX12_game 59 = .ok (.iload 6, 2) := by decide +kernel
theorem dX12_game_61 : decode cX12_game 61 = .ok (.iconst 4, 1) := by decide +kernel
theorem dX12_game_62 : decode cX12_game 62 = .ok (.if_icmp .ge 93, 3) := by decide +kernel
theorem dX12_game_65 : decode cX12_game 65 = .ok (.iload 6, 2) := by decide +kernel
theorem dX12_game_67 : decode cX12_game 67 = .ok (.iconst 2, 1) := by decide +kernel
theorem dX12_game_68 : decode cX12_game 68 = .ok (.idiv, 1) := by decide +kernel
theorem dX12_game_69 : decode cX12_game 69 = .ok (.istore 7, 2) := by decide +kernel
theorem dX12_game_71 : decode cX12_game 71 = .ok (.iload 6, 2) := by decide +kernel
theorem dX12_game_73 : decode cX12_game 73 = .ok (.iconst 2, 1) := by decide +kernel
theorem dX12_game_74 : decode cX12_game 74 = .ok (.irem, 1) := by decide +kernel
theorem dX12_game_75 : decode cX12_game 75 = .ok (.istore 8, 2) := by decide +kernel
theorem dX12_game_77 : decode cX12_game 77 = .ok (.aload_n 0, 1) := by decide +kernel
theorem dX12_game_78 : decode cX12_game 78 = .ok (.iload_n 1, 1) := by decide +kernel
theorem dX12_game_79 : decode cX12_game 79 = .ok (.iload_n 2, 1) := by decide +kernel
theorem dX12_game_80 : decode cX12_game 80 = .ok (.iconst 1, 1) := by decide +kernel
theorem dX12_game_81 : decode cX12_game 81 = .ok (.iload 7, 2) := by decide +kernel
theorem dX12_game_83 : decode cX12_game 83 = .ok (.isub, 1) := by decide +kernel
theorem dX12_game_84 : decode cX12_game 84 = .ok (.iload 8, 2) := by decide +kernel
theorem dX12_game_86 : decode cX12_game 86 = .ok (.invokevirtual 429, 3) := by decide +kernel
theorem dX12_game_89 : decode cX12_game 89 = .ok (.aload_n 0, 1) := by decide +kernel
theorem dX12_game_90 : decode cX12_game 90 = .ok (.iload_n 1, 1) := by decide +kernel
theorem dX12_game_91 : decode cX12_game 91 = .ok (.iload_n 2, 1) := by decide +kernel
theorem dX12_game_92 : decode cX12_game 92 = .ok (.iload 7, 2) := by decide +kernel
theorem dX12_game_94 : decode cX12_game 94 = .ok (.iload 8, 2) := by decide +kernel
theorem dX12_game_96 : decode cX12_game 96 = .ok (.invokevirtual 429, 3) := by decide +kernel
theorem dX12_game_99 : decode cX12_game 99 = .ok (.if_icmp .gt 50, 3) := by decide +kernel
theorem dX12_game_102 : decode cX12_game 102 = .ok (.aload_n 0, 1) := by decide +kernel
theorem dX12_game_103 : decode cX12_game 103 = .ok (.iload_n 2, 1) := by decide +kernel
theorem dX12_game_104 : decode cX12_game 104 = .ok (.iload_n 1, 1) := by decide +kernel
theorem dX12_game_105 : decode cX12_game 105 = .ok (.iconst 1, 1) := by decide +kernel
theorem dX12_game_106 : decode cX12_game 106 = .ok (.iload 8, 2) := by decide +kernel
theorem dX12_game_108 : decode cX12_game 108 = .ok (.isub, 1) := by decide +kernel
theorem dX12_game_109 : decode cX12_game 109 = .ok (.iload 7, 2) := by decide +kernel
theorem dX12_game_111 : decode cX12_game 111 = .ok (.invokevirtual 429, 3) := by decide +kernel
theorem dX12_game_114 : decode cX12_game 114 = .ok (.aload_n 0, 1) := by decide +kernel
theorem dX12_game_115 : decode cX12_game 115 = .ok (.iload_n 2, 1) := by decide +kernel
theorem dX12_game_116 : decode cX12_game 116 = .ok (.iload_n 1, 1) := by decide +kernel
theorem dX12_game_117 : decode cX12_game 117 = .ok (.iload 8, 2) := by decide +kernel
theorem dX12_game_119 : decode cX12_game 119 = .ok (.iload 7, 2) := by decide +kernel
theorem dX12_game_121 : decode cX12_game 121 = .ok (.invokevirtual 429, 3) := by decide +kernel
theorem dX12_game_124 : decode cX12_game 124 = .ok (.if_icmp .le 6, 3) := by decide +kernel
theorem dX12_game_127 : decode cX12_game 127 = .ok (.goto 22, 3) := by decide +kernel
theorem dX12_game_130 : decode cX12_game 130 = .ok (.iinc 4 1, 3) := by decide +kernel
theorem dX12_game_133 : decode cX12_game 133 = .ok (.iload 5, 2) := by decide +kernel
theorem dX12_game_135 : decode cX12_game 135 = .ok (.iconst (-1), 1) := by decide +kernel
theorem dX12_game_136 : decode cX12_game 136 = .ok (.if_icmp .ne 13, 3) := by decide +kernel
theorem dX12_game_139 : decode cX12_game 139 = .ok (.bipush 10, 2) := by decide +kernel
theorem dX12_game_141 : decode cX12_game 141 = .ok (.iload 7, 2) := by decide +kernel
theorem dX12_game_143 : decode cX12_game 143 = .ok (.imul, 1) := by decide +kernel
theorem dX12_game_144 : decode cX12_game 144 = .ok (.iload 8, 2) := by decide +kernel
theorem dX12_game_146 : decode cX12_game 146 = .ok (.iadd, 1) := by decide +kernel
theorem dX12_game_147 : decode cX12_game 147 = .ok (.istore 5, 2) := by decide +kernel
theorem dX12_game_149 : decode cX12_game 149 = .ok (.iinc 6 1, 3) := by decide +kernel
theorem dX12_game_152 : decode cX12_game 152 = .ok (.goto (-93), 3) := by decide +kernel
theorem dX12_game_155 : decode cX12_game 155 = .ok (.iload_n 3, 1) := by decide +kernel
theorem dX12_game_156 : decode cX12_game 156 = .ok (.ifCond .ne 8, 3) := by decide +kernel
theorem dX12_game_159 : decode cX12_game 159 = .ok (.iload 4, 2) := by decide +kernel
theorem dX12_game_161 : decode cX12_game 161 = .ok (.goto 5, 3) := by decide +kernel
theorem dX12_game_164 : decode cX12_game 164 = .ok (.iload 5, 2) := by decide +kernel
theorem dX12_game_166 : decode cX12_game 166 = .ok (.ireturn, 1) := by decide +kernel
theorem dX12_draw_0 : decode cX12_draw 0 = .ok (.aload_n 0, 1) := by decide +kernel
theorem dX12_draw_1 : decode cX12_draw 1 = .ok (.aload_n 0, 1) := by decide +kernel
theorem dX12_draw_2 : decode cX12_draw 2 = .ok (.getfield 433, 3) := by decide +kernel
theorem dX12_draw_5 : decode cX12_draw 5 = .ok (.ldc_w 436, 3) := by decide +kernel
theorem dX12_draw_8 : decode cX12_draw 8 = .ok (.imul, 1) := by decide +kernel
theorem dX12_draw_9 : decode cX12_draw 9 = .ok (.sipush 12345, 3) := by decide +kernel
theorem dX12_draw_12 : decode cX12_draw 12 = .ok (.iadd, 1) := by decide +kernel
theorem dX12_draw_13 : decode cX12_draw 13 = .ok (.putfield 433, 3) := by decide +kernel
theorem dX12_draw_16 : decode cX12_draw 16 = .ok (.aload_n 0, 1) := by decide +kernel
theorem dX12_draw_17 : decode cX12_draw 17 = .ok (.getfield 433, 3) := by decide +kernel
theorem dX12_draw_20 : decode cX12_draw 20 = .ok (.bipush 16, 2) := by decide +kernel
theorem dX12_draw_22 : decode cX12_draw 22 = .ok (.ishr, 1) := by decide +kernel
theorem dX12_draw_23 : decode cX12_draw 23 = .ok (.sipush 32767, 3) := by decide +kernel
theorem dX12_draw_26 : decode cX12_draw 26 = .ok (.iand, 1) := by decide +kernel
theorem dX12_draw_27 : decode cX12_draw 27 = .ok (.iload_n 1, 1) := by decide +kernel
theorem dX12_draw_28 : decode cX12_draw 28 = .ok (.irem, 1) := by decide +kernel
theorem dX12_draw_29 : decode cX12_draw 29 = .ok (.ireturn, 1) := by decide +kernel
theorem dX12_happens_0 : decode cX12_happens 0 = .ok (.aload_n 0, 1) := by decide +kernel
theorem dX12_happens_1 : decode cX12_happens 1 = .ok (.bipush 6, 2) := by decide +kernel
theorem dX12_happens_3 : decode cX12_happens 3 = .ok (.invokevirtual 437, 3) := by decide +kernel
theorem dX12_happens_6 : decode cX12_happens 6 = .ok (.istore_n 1, 1) := by decide +kernel
theorem dX12_happens_7 : decode cX12_happens 7 = .ok (.iload_n 1, 1) := by decide +kernel
theorem dX12_happens_8 : decode cX12_happens 8 = .ok (.ifCond .ne 39, 3) := by decide +kernel
theorem dX12_happens_11 : decode cX12_happens 11 = .ok (.aload_n 0, 1) := by decide +kernel
theorem dX12_happens_12 : decode cX12_happens 12 = .ok (.aload_n 0, 1) := by decide +kernel
theorem dX12_happens_13 : decode cX12_happens 13 = .ok (.getfield 7, 3) := by decide +kernel
theorem dX12_happens_16 : decode cX12_happens 16 = .ok (.invokevirtual 437, 3) := by decide +kernel
theorem dX12_happens_19 : decode cX12_happens 19 = .ok (.istore_n 2, 1) := by decide +kernel
theorem dX12_happens_20 : decode cX12_happens 20 = .ok (.aload_n 0, 1) := by decide +kernel
theorem dX12_happens_21 : decode cX12_happens 21 = .ok (.bipush 20, 2) := by decide +kernel
theorem dX12_happens_23 : decode cX12_happens 23 = .ok (.invokevirtual 437, 3) := by decide +kernel
theorem dX12_happens_26 : decode cX12_happens 26 = .ok (.iconst 1, 1) := by decide +kernel
theorem dX12_happens_27 : decode cX12_happens 27 = .ok (.iadd, 1) := by decide +kernel
theorem dX12_happens_28 : decode cX12_happens 28 = .ok (.istore_n 3, 1) := by decide +kernel
theorem dX12_happens_29 : decode cX12_happens 29 = .ok (.aload_n 0, 1) := by decide +kernel
theorem dX12_happens_30 : decode cX12_happens 30 = .ok (.bipush 49, 2) := by decide +kernel
theorem dX12_happens_32 : decode cX12_happens 32 = .ok (.iload_n 2, 1) := by decide +kernel
theorem dX12_happens_33 : decode cX12_happens 33 = .ok (.invokevirtual 326, 3) := by decide +kernel
theorem dX12_happens_36 : decode cX12_happens 36 = .ok (.ifCond .ne 11, 3) := by decide +kernel
theorem dX12_happens_39 : decode cX12_happens 39 = .ok (.aload_n 0, 1) := by decide +kernel
theorem dX12_happens_40 : decode cX12_happens 40 = .ok (.bipush 49, 2) := by decide +kernel
theorem dX12_happens_42 : decode cX12_happens 42 = .ok (.iload_n 2, 1) := by decide +kernel
theorem dX12_happens_43 : decode cX12_happens 43 = .ok (.iload_n 3, 1) := by decide +kernel
theorem dX12_happens_44 : decode cX12_happens 44 = .ok (.invokevirtual 349, 3) := by decide +kernel
theorem dX12_happens_47 : decode cX12_happens 47 = .ok (.iload_n 1, 1) := by decide +kernel
theorem dX12_happens_48 : decode cX12_happens 48 = .ok (.iconst 1, 1) := by decide +kernel
theorem dX12_happens_49 : decode cX12_happens 49 = .ok (.if_icmp .ne 19, 3) := by decide +kernel
theorem dX12_happens_52 : decode cX12_happens 52 = .ok (.aload_n 0, 1) := by decide +kernel
theorem dX12_happens_53 : decode cX12_happens 53 = .ok (.bipush 49, 2) := by decide +kernel
theorem dX12_happens_55 : decode cX12_happens 55 = .ok (.aload_n 0, 1) := by decide +kernel
theorem dX12_happens_56 : decode cX12_happens 56 = .ok (.aload_n 0, 1) := by decide +kernel
theorem dX12_happens_57 : decode cX12_happens 57 = .ok (.getfield 7, 3) := by decide +kernel
theorem dX12_happens_60 : decode cX12_happens 60 = .ok (.invokevirtual 437, 3) := by decide +kernel
theorem dX12_happens_63 : decode cX12_happens 63 = .ok (.bipush 9, 2) := by decide +kernel
theorem dX12_happens_65 : decode cX12_happens 65 = .ok (.invokevirtual 339, 3) := by decide +kernel
theorem dX12_happens_68 : decode cX12_happens 68 = .ok (.iload_n 1, 1) := by decide +kernel
theorem dX12_happens_69 : decode cX12_happens 69 = .ok (.iconst 2, 1) := by decide +kernel
theorem dX12_happens_70 : decode cX12_happens 70 = .ok (.if_icmp .ne 10, 3) := by decide +kernel
theorem dX12_happens_73 : decode cX12_happens 73 = .ok (.aload_n 0, 1) := by decide +kernel
theorem dX12_happens_74 : decode cX12_happens 74 = .ok (.getfield 284, 3) := by decide +kernel
theorem dX12_happens_77 : decode cX12_happens 77 = .ok (.ifCond .ne 4, 3) := by decide +kernel
theorem dX12_happens_80 : decode cX12_happens 80 = .ok (.return_, 1) := by decide +kernel
theorem dX12_happens_81 : decode cX12_happens 81 = .ok (.aload_n 0, 1) := by decide +kernel
theorem dX12_happens_82 : decode cX12_happens 82 = .ok (.aload_n 0, 1) := by decide +kernel
theorem dX12_happens_83 : decode cX12_happens 83 = .ok (.getfield 284, 3) := by decide +kernel
theorem dX12_happens_86 : decode cX12_happens 86 = .ok (.invokevirtual 437, 3) := by decide +kernel
theorem dX12_happens_89 : decode cX12_happens 89 = .ok (.istore_n 2, 1) := by decide +kernel
theorem dX12_happens_90 : decode cX12_happens 90 = .ok (.aload_n 0, 1) := by decide +kernel
theorem dX12_happens_91 : decode cX12_happens 91 = .ok (.getfield 66, 3) := by decide +kernel
theorem dX12_happens_94 : decode cX12_happens 94 = .ok (.bipush 92, 2) := by decide +kernel
theorem dX12_happens_96 : decode cX12_happens 96 = .ok (.iload_n 2, 1) := by decide +kernel
theorem dX12_happens_97 : decode cX12_happens 97 = .ok (.iadd, 1) := by decide +kernel
theorem dX12_happens_98 : decode cX12_happens 98 = .ok (.bipush 99, 2) := by decide +kernel
theorem dX12_happens_100 : decode cX12_happens 100 = .ok (.aload_n 0, 1) := by decide +kernel
theorem dX12_happens_101 : decode cX12_happens 101 = .ok (.getfield 66, 3) := by decide +kernel
theorem dX12_happens_104 : decode cX12_happens 104 = .ok (.bipush 92, 2) := by decide +kernel
theorem dX12_happens_106 : decode cX12_happens 106 = .ok (.iload_n 2, 1) := by decide +kernel
theorem dX12_happens_107 : decode cX12_happens 107 = .ok (.iadd, 1) := by decide +kernel
theorem dX12_happens_108 : decode cX12_happens 108 = .ok (.iaload, 1) := by decide +kernel
theorem dX12_happens_109 : decode cX12_happens 109 = .ok (.iconst 5, 1) := by decide +kernel
theorem dX12_happens_110 : decode cX12_happens 110 = .ok (.iadd, 1) := by decide +kernel
theorem dX12_happens_111 : decode cX12_happens 111 = .ok (.invokestatic 336, 3) := by decide +kernel
theorem dX12_happens_114 : decode cX12_happens 114 = .ok (.iastore, 1) := by decide +kernel
theorem dX12_happens_115 : decode cX12_happens 115 = .ok (.return_, 1) := by decide +kernel
theorem dX12_years_0 : decode cX12_years 0 = .ok (.aload_n 0, 1) := by decide +kernel
theorem dX12_years_1 : decode cX12_years 1 = .ok (.iconst 0, 1) := by decide +kernel
theorem dX12_years_2 : decode cX12_years 2 = .ok (.putfield 117, 3) := by decide +kernel
theorem dX12_years_5 : decode cX12_years 5 = .ok (.aload_n 0, 1) := by decide +kernel
theorem dX12_years_6 : decode cX12_years 6 = .ok (.iload_n 3, 1) := by decide +kernel
theorem dX12_years_7 : decode cX12_years 7 = .ok (.iconst 2, 1) := by decide +kernel
theorem dX12_years_8 : decode cX12_years 8 = .ok (.invokevirtual 378, 3) := by decide +kernel
theorem dX12_years_11 : decode cX12_years 11 = .ok (.ifCond .eq 13, 3) := by decide +kernel
theorem dX12_years_14 : decode cX12_years 14 = .ok (.aload_n 0, 1) := by decide +kernel
theorem dX12_years_15 : decode cX12_years 15 = .ok (.iload_n 2, 1) := by decide +kernel
theorem dX12_years_16 : decode cX12_years 16 = .ok (.iconst 0, 1) := by decide +kernel
theorem dX12_years_17 : decode cX12_years 17 = .ok (.iconst 2, 1) := by decide +kernel
theorem dX12_years_18 : decode cX12_years 18 = .ok (.invokevirtual 396, 3) := by decide +kernel
theorem dX12_years_21 : decode cX12_years 21 = .ok (.ifCond .ne 5, 3) := by decide +kernel
theorem dX12_years_24 : decode cX12_years 24 = .ok (.iconst 0, 1) := by decide +kernel
theorem dX12_years_25 : decode cX12_years 25 = .ok (.ireturn, 1) := by decide +kernel
theorem dX12_years_26 : decode cX12_years 26 = .ok (.aload_n 0, 1) := by decide +kernel
theorem dX12_years_27 : decode cX12_years 27 = .ok (.invokevirtual 390, 3) := by decide +kernel
theorem dX12_years_30 : decode cX12_years 30 = .ok (.aload_n 0, 1) := by decide +kernel
theorem dX12_years_31 : decode cX12_years 31 = .ok (.iload_n 1, 1) := by decide +kernel
theorem dX12_years_32 : decode cX12_years 32 = .ok (.putfield 433, 3) := by decide +kernel
theorem dX12_years_35 : decode cX12_years 35 = .ok (.iconst 0, 1) := by decide +kernel
theorem dX12_years_36 : decode cX12_years 36 = .ok (.istore 4, 2) := by decide +kernel
theorem dX12_years_38 : decode cX12_years 38 = .ok (.iload 4, 2) := by decide +kernel
theorem dX12_years_40 : decode cX12_years 40 = .ok (.iload_n 2, 1) := by decide +kernel
theorem dX12_years_41 : decode cX12_years 41 = .ok (.if_icmp .ge 19, 3) := by decide +kernel
theorem dX12_years_44 : decode cX12_years 44 = .ok (.aload_n 0, 1) := by decide +kernel
theorem dX12_years_45 : decode cX12_years 45 = .ok (.invokevirtual 440, 3) := by decide +kernel
theorem dX12_years_48 : decode cX12_years 48 = .ok (.aload_n 0, 1) := by decide +kernel
theorem dX12_years_49 : decode cX12_years 49 = .ok (.bipush 49, 2) := by decide +kernel
theorem dX12_years_51 : decode cX12_years 51 = .ok (.invokevirtual 359, 3) := by decide +kernel
theorem dX12_years_54 : decode cX12_years 54 = .ok (.iinc 4 1, 3) := by decide +kernel
theorem dX12_years_57 : decode cX12_years 57 = .ok (.goto (-19), 3) := by decide +kernel
theorem dX12_years_60 : decode cX12_years 60 = .ok (.iload_n 3, 1) := by decide +kernel
theorem dX12_years_61 : decode cX12_years 61 = .ok (.ifCond .ne 15, 3) := by decide +kernel
theorem dX12_years_64 : decode cX12_years 64 = .ok (.aload_n 0, 1) := by decide +kernel
theorem dX12_years_65 : decode cX12_years 65 = .ok (.bipush 49, 2) := by decide +kernel
theorem dX12_years_67 : decode cX12_years 67 = .ok (.invokevirtual 366, 3) := by decide +kernel
theorem dX12_years_70 : decode cX12_years 70 = .ok (.invokestatic 320, 3) := by decide +kernel
theorem dX12_years_73 : decode cX12_years 73 = .ok (.goto 35, 3) := by decide +kernel
theorem dX12_years_76 : decode cX12_years 76 = .ok (.iload_n 3, 1) := by decide +kernel
theorem dX12_years_77 : decode cX12_years 77 = .ok (.iconst 1, 1) := by decide +kernel
theorem dX12_years_78 : decode cX12_years 78 = .ok (.if_icmp .ne 18, 3) := by decide +kernel
theorem dX12_years_81 : decode cX12_years 81 = .ok (.aload_n 0, 1) := by decide +kernel
theorem dX12_years_82 : decode cX12_years 82 = .ok (.bipush 49, 2) := by decide +kernel
theorem dX12_years_84 : decode cX12_years 84 = .ok (.bipush 13, 2) := by decide +kernel
theorem dX12_years_86 : decode cX12_years 86 = .ok (.aload_n 0, 1) := by decide +kernel
theorem dX12_years_87 : decode cX12_years 87 = .ok (.getfield 7, 3) := by decide +kernel
theorem dX12_years_90 : decode cX12_years 90 = .ok (.invokevirtual 369, 3) := by decide +kernel
theorem dX12_years_93 : decode cX12_years 93 = .ok (.goto 15, 3) := by decide +kernel
theorem dX12_years_96 : decode cX12_years 96 = .ok (.aload_n 0, 1) := by decide +kernel
theorem dX12_years_97 : decode cX12_years 97 = .ok (.bipush 49, 2) := by decide +kernel
theorem dX12_years_99 : decode cX12_years 99 = .ok (.bipush 43, 2) := by decide +kernel
theorem dX12_years_101 : decode cX12_years 101 = .ok (.aload_n 0, 1) := by decide +kernel
theorem dX12_years_102 : decode cX12_years 102 = .ok (.getfield 284, 3) := by decide +kernel
theorem dX12_years_105 : decode cX12_years 105 = .ok (.invokevirtual 369, 3) := by decide +kernel
theorem dX12_years_108 : decode cX12_years 108 = .ok (.ireturn, 1) := by decide +kernel
theorem dX12_steady_0 : decode cX12_steady 0 = .ok (.aload_n 0, 1) := by decide +kernel
theorem dX12_steady_1 : decode cX12_steady 1 = .ok (.iconst 0, 1) := by decide +kernel
theorem dX12_steady_2 : decode cX12_steady 2 = .ok (.putfield 117, 3) := by decide +kernel
theorem dX12_steady_5 : decode cX12_steady 5 = .ok (.aload_n 0, 1) := by decide +kernel
theorem dX12_steady_6 : decode cX12_steady 6 = .ok (.invokevirtual 390, 3) := by decide +kernel
theorem dX12_steady_9 : decode cX12_steady 9 = .ok (.iconst 1, 1) := by decide +kernel
theorem dX12_steady_10 : decode cX12_steady 10 = .ok (.istore_n 1, 1) := by decide +kernel
theorem dX12_steady_11 : decode cX12_steady 11 = .ok (.iload_n 1, 1) := by decide +kernel
theorem dX12_steady_12 : decode cX12_steady 12 = .ok (.bipush 60, 2) := by decide +kernel
theorem dX12_steady_14 : decode cX12_steady 14 = .ok (.if_icmp .gt 94, 3) := by decide +kernel
theorem dX12_steady_17 : decode cX12_steady 17 = .ok (.iconst 0, 1) := by decide +kernel
theorem dX12_steady_18 : decode cX12_steady 18 = .ok (.istore_n 2, 1) := by decide +kernel
theorem dX12_steady_19 : decode cX12_steady 19 = .ok (.iload_n 2, 1) := by decide +kernel
theorem dX12_steady_20 : decode cX12_steady 20 = .ok (.bipush 24, 2) := by decide +kernel
theorem dX12_steady_22 : decode cX12_steady 22 = .ok (.if_icmp .ge 24, 3) := by decide +kernel
theorem dX12_steady_25 : decode cX12_steady 25 = .ok (.aload_n 0, 1) := by decide +kernel
theorem dX12_steady_26 : decode cX12_steady 26 = .ok (.getfield 105, 3) := by decide +kernel
theorem dX12_steady_29 : decode cX12_steady 29 = .ok (.iload_n 2, 1) := by decide +kernel
theorem dX12_steady_30 : decode cX12_steady 30 = .ok (.aload_n 0, 1) := by decide +kernel
theorem dX12_steady_31 : decode cX12_steady 31 = .ok (.getfield 66, 3) := by decide +kernel
theorem dX12_steady_34 : decode cX12_steady 34 = .ok (.bipush 50, 2) := by decide +kernel
theorem dX12_steady_36 : decode cX12_steady 36 = .ok (.iload_n 2, 1) := by decide +kernel
theorem dX12_steady_37 : decode cX12_steady 37 = .ok (.iadd, 1) := by decide +kernel
theorem dX12_steady_38 : decode cX12_steady 38 = .ok (.iaload, 1) := by decide +kernel
theorem dX12_steady_39 : decode cX12_steady 39 = .ok (.iastore, 1) := by decide +kernel
theorem dX12_steady_40 : decode cX12_steady 40 = .ok (.iinc 2 1, 3) := by decide +kernel
theorem dX12_steady_43 : decode cX12_steady 43 = .ok (.goto (-24), 3) := by decide +kernel
theorem dX12_steady_46 : decode cX12_steady 46 = .ok (.aload_n 0, 1) := by decide +kernel
theorem dX12_steady_47 : decode cX12_steady 47 = .ok (.bipush 49, 2) := by decide +kernel
theorem dX12_steady_49 : decode cX12_steady 49 = .ok (.invokevirtual 359, 3) := by decide +kernel
theorem dX12_steady_52 : decode cX12_steady 52 = .ok (.iconst 1, 1) := by decide +kernel
theorem dX12_steady_53 : decode cX12_steady 53 = .ok (.istore_n 2, 1) := by decide +kernel
theorem dX12_steady_54 : decode cX12_steady 54 = .ok (.iconst 0, 1) := by decide +kernel
theorem dX12_steady_55 : decode cX12_steady 55 = .ok (.istore_n 3, 1) := by decide +kernel
theorem dX12_steady_56 : decode cX12_steady 56 = .ok (.iload_n 3, 1) := by decide +kernel
theorem dX12_steady_57 : decode cX12_steady 57 = .ok (.bipush 24, 2) := by decide +kernel
theorem dX12_steady_59 : decode cX12_steady 59 = .ok (.if_icmp .ge 37, 3) := by decide +kernel
theorem dX12_steady_62 : decode cX12_steady 62 = .ok (.iload_n 2, 1) := by decide +kernel
theorem dX12_steady_63 : decode cX12_steady 63 = .ok (.ifCond .eq 25, 3) := by decide +kernel
theorem dX12_steady_66 : decode cX12_steady 66 = .ok (.aload_n 0, 1) := by decide +kernel
theorem dX12_steady_67 : decode cX12_steady 67 = .ok (.getfield 105, 3) := by decide +kernel
theorem dX12_steady_70 : decode cX12_steady 70 = .ok (.iload_n 3, 1) := by decide +kernel
theorem dX12_steady_71 : decode cX12_steady 71 = .ok (.iaload, 1) := by decide +kernel
theorem dX12_steady_72 : decode cX12_steady 72 = .ok (.aload_n 0, 1) := by decide +kernel
theorem dX12_steady_73 : decode cX12_steady 73 = .ok (.getfield 66, 3) := by decide +kernel
theorem dX12_steady_76 : decode cX12_steady 76 = .ok (.bipush 50, 2) := by decide +kernel
theorem dX12_steady_78 : decode cX12_steady 78 = .ok (.iload_n 3, 1) := by decide +kernel
theorem dX12_steady_79 : decode cX12_steady 79 = .ok (.iadd, 1) := by decide +kernel
theorem dX12_steady_80 : decode cX12_steady 80 = .ok (.iaload, 1) := by decide +kernel
theorem dX12_steady_81 : decode cX12_steady 81 = .ok (.if_icmp .ne 7, 3) := by decide +kernel
theorem dX12_steady_84 : decode cX12_steady 84 = .ok (.iconst 1, 1) := by decide +kernel
theorem dX12_steady_85 : decode cX12_steady 85 = .ok (.goto 4, 3) := by decide +kernel
theorem dX12_steady_88 : decode cX12_steady 88 = .ok (.iconst 0, 1) := by decide +kernel
theorem dX12_steady_89 : decode cX12_steady 89 = .ok (.istore_n 2, 1) := by decide +kernel
theorem dX12_steady_90 : decode cX12_steady 90 = .ok (.iinc 3 1, 3) := by decide +kernel
theorem dX12_steady_93 : decode cX12_steady 93 = .ok (.goto (-37), 3) := by decide +kernel
theorem dX12_steady_96 : decode cX12_steady 96 = .ok (.iload_n 2, 1) := by decide +kernel
theorem dX12_steady_97 : decode cX12_steady 97 = .ok (.ifCond .eq 5, 3) := by decide +kernel
theorem dX12_steady_100 : decode cX12_steady 100 = .ok (.iload_n 1, 1) := by decide +kernel
theorem dX12_steady_101 : decode cX12_steady 101 = .ok (.ireturn, 1) := by decide +kernel
theorem dX12_steady_102 : decode cX12_steady 102 = .ok (.iinc 1 1, 3) := by decide +kernel
theorem dX12_steady_105 : decode cX12_steady 105 = .ok (.goto (-94), 3) := by decide +kernel
theorem dX12_steady_108 : decode cX12_steady 108 = .ok (.iconst (-1), 1) := by decide +kernel
theorem dX12_steady_109 : decode cX12_steady 109 = .ok (.ireturn, 1) := by decide +kernel
theorem dX12_nearest_0 : decode cX12_nearest 0 = .ok (.aload_n 0, 1) := by decide +kernel
theorem dX12_nearest_1 : decode cX12_nearest 1 = .ok (.iconst 0, 1) := by decide +kernel
theorem dX12_nearest_2 : decode cX12_nearest 2 = .ok (.putfield 117, 3) := by decide +kernel
theorem dX12_nearest_5 : decode cX12_nearest 5 = .ok (.aload_n 0, 1) := by decide +kernel
theorem dX12_nearest_6 : decode cX12_nearest 6 = .ok (.iload_n 1, 1) := by decide +kernel
theorem dX12_nearest_7 : decode cX12_nearest 7 = .ok (.invokevirtual 375, 3) := by decide +kernel
theorem dX12_nearest_10 : decode cX12_nearest 10 = .ok (.ifCond .ne 5, 3) := by decide +kernel
theorem dX12_nearest_13 : decode cX12_nearest 13 = .ok (.iconst 0, 1) := by decide +kernel
theorem dX12_nearest_14 : decode cX12_nearest 14 = .ok (.ireturn, 1) := by decide +kernel
theorem dX12_nearest_15 : decode cX12_nearest 15 = .ok (.iconst (-1), 1) := by decide +kernel
theorem dX12_nearest_16 : decode cX12_nearest 16 = .ok (.istore_n 2, 1) := by decide +kernel
theorem dX12_nearest_17 : decode cX12_nearest 17 = .ok (.iconst 0, 1) := by decide +kernel
theorem dX12_nearest_18 : decode cX12_nearest 18 = .ok (.istore_n 3, 1) := by decide +kernel
theorem dX12_nearest_19 : decode cX12_nearest 19 = .ok (.iload_n 3, 1) := by decide +kernel
theorem dX12_nearest_20 : decode cX12_nearest 20 = .ok (.aload_n 0, 1) := by decide +kernel
theorem dX12_nearest_21 : decode cX12_nearest 21 = .ok (.getfield 284, 3) := by decide +kernel
theorem dX12_nearest_24 : decode cX12_nearest 24 = .ok (.if_icmp .ge 47, 3) := by decide +kernel
theorem dX12_nearest_27 : decode cX12_nearest 27 = .ok (.iload_n 2, 1) := by decide +kernel
theorem dX12_nearest_28 : decode cX12_nearest 28 = .ok (.iconst (-1), 1) := by decide +kernel
theorem dX12_nearest_29 : decode cX12_nearest 29 = .ok (.if_icmp .eq 34, 3) := by decide +kernel
theorem dX12_nearest_32 : decode cX12_nearest 32 = .ok (.aload_n 0, 1) := by decide +kernel
theorem dX12_nearest_33 : decode cX12_nearest 33 = .ok (.aload_n 0, 1) := by decide +kernel
theorem dX12_nearest_34 : decode cX12_nearest 34 = .ok (.getfield 66, 3) := by decide +kernel
theorem dX12_nearest_37 : decode cX12_nearest 37 = .ok (.bipush 37, 2) := by decide +kernel
theorem dX12_nearest_39 : decode cX12_nearest 39 = .ok (.iload_n 3, 1) := by decide +kernel
theorem dX12_nearest_40 : decode cX12_nearest 40 = .ok (.iadd, 1) := by decide +kernel
theorem dX12_nearest_41 : decode cX12_nearest 41 = .ok (.iaload, 1) := by decide +kernel
theorem dX12_nearest_42 : decode cX12_nearest 42 = .ok (.iload_n 1, 1) := by decide +kernel
theorem dX12_nearest_43 : decode cX12_nearest 43 = .ok (.invokevirtual 410, 3) := by decide +kernel
theorem dX12_nearest_46 : decode cX12_nearest 46 = .ok (.aload_n 0, 1) := by decide +kernel
theorem dX12_nearest_47 : decode cX12_nearest 47 = .ok (.aload_n 0, 1) := by decide +kernel
theorem dX12_nearest_48 : decode cX12_nearest 48 = .ok (.getfield 66, 3) := by decide +kernel
theorem dX12_nearest_51 : decode cX12_nearest 51 = .ok (.bipush 37, 2) := by decide +kernel
theorem dX12_nearest_53 : decode cX12_nearest 53 = .ok (.iload_n 2, 1) := by decide +kernel
theorem dX12_nearest_54 : decode cX12_nearest 54 = .ok (.iadd, 1) := by decide +kernel
theorem dX12_nearest_55 : decode cX12_nearest 55 = .ok (.iaload, 1) := by decide +kernel
theorem dX12_nearest_56 : decode cX12_nearest 56 = .ok (.iload_n 1, 1) := by decide +kernel
theorem dX12_nearest_57 : decode cX12_nearest 57 = .ok (.invokevirtual 410, 3) := by decide +kernel
theorem dX12_nearest_60 : decode cX12_nearest 60 = .ok (.if_icmp .ge 5, 3) := by decide +kernel
theorem dX12_nearest_63 : decode cX12_nearest 63 = .ok (.iload_n 3, 1) := by decide +kernel
theorem dX12_nearest_64 : decode cX12_nearest 64 = .ok (.istore_n 2, 1) := by decide +kernel
theorem dX12_nearest_65 : decode cX12_nearest 65 = .ok (.iinc 3 1, 3) := by decide +kernel
theorem dX12_nearest_68 : decode cX12_nearest 68 = .ok (.goto (-49), 3) := by decide +kernel
theorem dX12_nearest_71 : decode cX12_nearest 71 = .ok (.iload_n 2, 1) := by decide +kernel
theorem dX12_nearest_72 : decode cX12_nearest 72 = .ok (.ireturn, 1) := by decide +kernel
theorem dX12_far_0 : decode cX12_far 0 = .ok (.aload_n 0, 1) := by decide +kernel
theorem dX12_far_1 : decode cX12_far 1 = .ok (.iconst 0, 1) := by decide +kernel
theorem dX12_far_2 : decode cX12_far 2 = .ok (.putfield 117, 3) := by decide +kernel
theorem dX12_far_5 : decode cX12_far 5 = .ok (.aload_n 0, 1) := by decide +kernel
theorem dX12_far_6 : decode cX12_far 6 = .ok (.iload_n 1, 1) := by decide +kernel
theorem dX12_far_7 : decode cX12_far 7 = .ok (.invokevirtual 375, 3) := by decide +kernel
theorem dX12_far_10 : decode cX12_far 10 = .ok (.ifCond .eq 20, 3) := by decide +kernel
theorem dX12_far_13 : decode cX12_far 13 = .ok (.aload_n 0, 1) := by decide +kernel
theorem dX12_far_14 : decode cX12_far 14 = .ok (.iload_n 2, 1) := by decide +kernel
theorem dX12_far_15 : decode cX12_far 15 = .ok (.invokevirtual 375, 3) := by decide +kernel
theorem dX12_far_18 : decode cX12_far 18 = .ok (.ifCond .eq 12, 3) := by decide +kernel
theorem dX12_far_21 : decode cX12_far 21 = .ok (.aload_n 0, 1) := by decide +kernel
theorem dX12_far_22 : decode cX12_far 22 = .ok (.iload_n 1, 1) := by decide +kernel
theorem dX12_far_23 : decode cX12_far 23 = .ok (.iload_n 2, 1) := by decide +kernel
theorem dX12_far_24 : decode cX12_far 24 = .ok (.invokevirtual 410, 3) := by decide +kernel
theorem dX12_far_27 : decode cX12_far 27 = .ok (.goto 4, 3) := by decide +kernel
theorem dX12_far_30 : decode cX12_far 30 = .ok (.iconst 0, 1) := by decide +kernel
theorem dX12_far_31 : decode cX12_far 31 = .ok (.ireturn, 1) := by decide +kernel
theorem dX12_worst_0 : decode cX12_worst 0 = .ok (.aload_n 0, 1) := by decide +kernel
theorem dX12_worst_1 : decode cX12_worst 1 = .ok (.iconst 0, 1) := by decide +kernel
theorem dX12_worst_2 : decode cX12_worst 2 = .ok (.putfield 117, 3) := by decide +kernel
theorem dX12_worst_5 : decode cX12_worst 5 = .ok (.aload_n 0, 1) := by decide +kernel
theorem dX12_worst_6 : decode cX12_worst 6 = .ok (.iload_n 1, 1) := by decide +kernel
theorem dX12_worst_7 : decode cX12_worst 7 = .ok (.iconst 1, 1) := by decide +kernel
theorem dX12_worst_8 : decode cX12_worst 8 = .ok (.bipush 50, 2) := by decide +kernel
theorem dX12_worst_10 : decode cX12_worst 10 = .ok (.invokestatic 362, 3) := by decide +kernel
theorem dX12_worst_13 : decode cX12_worst 13 = .ok (.iconst 1, 1) := by decide +kernel
theorem dX12_worst_14 : decode cX12_worst 14 = .ok (.invokevirtual 277, 3) := by decide +kernel
theorem dX12_worst_17 : decode cX12_worst 17 = .ok (.ifCond .ne 5, 3) := by decide +kernel
theorem dX12_worst_20 : decode cX12_worst 20 = .ok (.iconst 0, 1) := by decide +kernel
theorem dX12_worst_21 : decode cX12_worst 21 = .ok (.ireturn, 1) := by decide +kernel
theorem dX12_worst_22 : decode cX12_worst 22 = .ok (.iconst (-1), 1) := by decide +kernel
theorem dX12_worst_23 : decode cX12_worst 23 = .ok (.istore_n 2, 1) := by decide +kernel
theorem dX12_worst_24 : decode cX12_worst 24 = .ok (.iconst (-1), 1) := by decide +kernel
theorem dX12_worst_25 : decode cX12_worst 25 = .ok (.istore_n 3, 1) := by decide +kernel
theorem dX12_worst_26 : decode cX12_worst 26 = .ok (.iconst 0, 1) := by decide +kernel
theorem dX12_worst_27 : decode cX12_worst 27 = .ok (.istore 4, 2) := by decide +kernel
theorem dX12_worst_29 : decode cX12_worst 29 = .ok (.iload 4, 2) := by decide +kernel
theorem dX12_worst_31 : decode cX12_worst 31 = .ok (.aload_n 0, 1) := by decide +kernel
theorem dX12_worst_32 : decode cX12_worst 32 = .ok (.getfield 7, 3) := by decide +kernel
theorem dX12_worst_35 : decode cX12_worst 35 = .ok (.if_icmp .ge 67, 3) := by decide +kernel
theorem dX12_worst_38 : decode cX12_worst 38 = .ok (.aload_n 0, 1) := by decide +kernel
theorem dX12_worst_39 : decode cX12_worst 39 = .ok (.iconst 0, 1) := by decide +kernel
theorem dX12_worst_40 : decode cX12_worst 40 = .ok (.iload 4, 2) := by decide +kernel
theorem dX12_worst_42 : decode cX12_worst 42 = .ok (.invokevirtual 326, 3) := by decide +kernel
theorem dX12_worst_45 : decode cX12_worst 45 = .ok (.ifCond .eq 6, 3) := by decide +kernel
theorem dX12_worst_48 : decode cX12_worst 48 = .ok (.goto 48, 3) := by decide +kernel
theorem dX12_worst_51 : decode cX12_worst 51 = .ok (.aload_n 0, 1) := by decide +kernel
theorem dX12_worst_52 : decode cX12_worst 52 = .ok (.invokevirtual 390, 3) := by decide +kernel
theorem dX12_worst_55 : decode cX12_worst 55 = .ok (.aload_n 0, 1) := by decide +kernel
theorem dX12_worst_56 : decode cX12_worst 56 = .ok (.bipush 49, 2) := by decide +kernel
theorem dX12_worst_58 : decode cX12_worst 58 = .ok (.iload 4, 2) := by decide +kernel
theorem dX12_worst_60 : decode cX12_worst 60 = .ok (.iload_n 1, 1) := by decide +kernel
theorem dX12_worst_61 : decode cX12_worst 61 = .ok (.invokevirtual 349, 3) := by decide +kernel
theorem dX12_worst_64 : decode cX12_worst 64 = .ok (.aload_n 0, 1) := by decide +kernel
theorem dX12_worst_65 : decode cX12_worst 65 = .ok (.bipush 7, 2) := by decide +kernel
theorem dX12_worst_67 : decode cX12_worst 67 = .ok (.invokevirtual 393, 3) := by decide +kernel
theorem dX12_worst_70 : decode cX12_worst 70 = .ok (.aload_n 0, 1) := by decide +kernel
theorem dX12_worst_71 : decode cX12_worst 71 = .ok (.bipush 49, 2) := by decide +kernel
theorem dX12_worst_73 : decode cX12_worst 73 = .ok (.invokevirtual 366, 3) := by decide +kernel
theorem dX12_worst_76 : decode cX12_worst 76 = .ok (.invokestatic 320, 3) := by decide +kernel
theorem dX12_worst_79 : decode cX12_worst 79 = .ok (.istore 5, 2) := by decide +kernel
theorem dX12_worst_81 : decode cX12_worst 81 = .ok (.iload 5, 2) := by decide +kernel
theorem dX12_worst_83 : decode cX12_worst 83 = .ok (.iload_n 3, 1) := by decide +kernel
theorem dX12_worst_84 : decode cX12_worst 84 = .ok (.if_icmp .gt 6, 3) := by decide +kernel
theorem dX12_worst_87 : decode cX12_worst 87 = .ok (.goto 9, 3) := by decide +kernel
theorem dX12_worst_90 : decode cX12_worst 90 = .ok (.iload 4, 2) := by decide +kernel
theorem dX12_worst_92 : decode cX12_worst 92 = .ok (.istore_n 2, 1) := by decide +kernel
theorem dX12_worst_93 : decode cX12_worst 93 = .ok (.iload 5, 2) := by decide +kernel
theorem dX12_worst_95 : decode cX12_worst 95 = .ok (.istore_n 3, 1) := by decide +kernel
theorem dX12_worst_96 : decode cX12_worst 96 = .ok (.iinc 4 1, 3) := by decide +kernel
theorem dX12_worst_99 : decode cX12_worst 99 = .ok (.goto (-70), 3) := by decide +kernel
theorem dX12_worst_102 : decode cX12_worst 102 = .ok (.iload_n 2, 1) := by decide +kernel
theorem dX12_worst_103 : decode cX12_worst 103 = .ok (.ireturn, 1) := by decide +kernel
theorem dX12_meet_0 : decode cX12_meet 0 = .ok (.aload_n 0, 1) := by decide +kernel
theorem dX12_meet_1 : decode cX12_meet 1 = .ok (.iconst 0, 1) := by decide +kernel
theorem dX12_meet_2 : decode cX12_meet 2 = .ok (.putfield 117, 3) := by decide +kernel
theorem dX12_meet_5 : decode cX12_meet 5 = .ok (.aload_n 0, 1) := by decide +kernel
theorem dX12_meet_6 : decode cX12_meet 6 = .ok (.iload_n 1, 1) := by decide +kernel
theorem dX12_meet_7 : decode cX12_meet 7 = .ok (.invokevirtual 381, 3) := by decide +kernel
theorem dX12_meet_10 : decode cX12_meet 10 = .ok (.ifCond .eq 11, 3) := by decide +kernel
theorem dX12_meet_13 : decode cX12_meet 13 = .ok (.aload_n 0, 1) := by decide +kernel
theorem dX12_meet_14 : decode cX12_meet 14 = .ok (.iload_n 2, 1) := by decide +kernel
theorem dX12_meet_15 : decode cX12_meet 15 = .ok (.invokevirtual 381, 3) := by decide +kernel
theorem dX12_meet_18 : decode cX12_meet 18 = .ok (.ifCond .ne 5, 3) := by decide +kernel
theorem dX12_meet_21 : decode cX12_meet 21 = .ok (.iconst 0, 1) := by decide +kernel
theorem dX12_meet_22 : decode cX12_meet 22 = .ok (.ireturn, 1) := by decide +kernel
theorem dX12_meet_23 : decode cX12_meet 23 = .ok (.aload_n 0, 1) := by decide +kernel
theorem dX12_meet_24 : decode cX12_meet 24 = .ok (.invokevirtual 390, 3) := by decide +kernel
theorem dX12_meet_27 : decode cX12_meet 27 = .ok (.iconst 0, 1) := by decide +kernel
theorem dX12_meet_28 : decode cX12_meet 28 = .ok (.istore_n 3, 1) := by decide +kernel
theorem dX12_meet_29 : decode cX12_meet 29 = .ok (.iload_n 3, 1) := by decide +kernel
theorem dX12_meet_30 : decode cX12_meet 30 = .ok (.bipush 60, 2) := by decide +kernel
theorem dX12_meet_32 : decode cX12_meet 32 = .ok (.if_icmp .gt 43, 3) := by decide +kernel
theorem dX12_meet_35 : decode cX12_meet 35 = .ok (.iload_n 1, 1) := by decide +kernel
theorem dX12_meet_36 : decode cX12_meet 36 = .ok (.iload_n 2, 1) := by decide +kernel
theorem dX12_meet_37 : decode cX12_meet 37 = .ok (.if_icmp .eq 38, 3) := by decide +kernel
theorem dX12_meet_40 : decode cX12_meet 40 = .ok (.aload_n 0, 1) := by decide +kernel
theorem dX12_meet_41 : decode cX12_meet 41 = .ok (.getfield 66, 3) := by decide +kernel
theorem dX12_meet_44 : decode cX12_meet 44 = .ok (.bipush 86, 2) := by decide +kernel
theorem dX12_meet_46 : decode cX12_meet 46 = .ok (.iload_n 1, 1) := by decide +kernel
theorem dX12_meet_47 : decode cX12_meet 47 = .ok (.iadd, 1) := by decide +kernel
theorem dX12_meet_48 : decode cX12_meet 48 = .ok (.iaload, 1) := by decide +kernel
theorem dX12_meet_49 : decode cX12_meet 49 = .ok (.aload_n 0, 1) := by decide +kernel
theorem dX12_meet_50 : decode cX12_meet 50 = .ok (.getfield 66, 3) := by decide +kernel
theorem dX12_meet_53 : decode cX12_meet 53 = .ok (.bipush 86, 2) := by decide +kernel
theorem dX12_meet_55 : decode cX12_meet 55 = .ok (.iload_n 2, 1) := by decide +kernel
theorem dX12_meet_56 : decode cX12_meet 56 = .ok (.iadd, 1) := by decide +kernel
theorem dX12_meet_57 : decode cX12_meet 57 = .ok (.iaload, 1) := by decide +kernel
theorem dX12_meet_58 : decode cX12_meet 58 = .ok (.if_icmp .ne 5, 3) := by decide +kernel
theorem dX12_meet_61 : decode cX12_meet 61 = .ok (.iload_n 3, 1) := by decide +kernel
theorem dX12_meet_62 : decode cX12_meet 62 = .ok (.ireturn, 1) := by decide +kernel
theorem dX12_meet_63 : decode cX12_meet 63 = .ok (.aload_n 0, 1) := by decide +kernel
theorem dX12_meet_64 : decode cX12_meet 64 = .ok (.bipush 49, 2) := by decide +kernel
theorem dX12_meet_66 : decode cX12_meet 66 = .ok (.invokevirtual 359, 3) := by decide +kernel
theorem dX12_meet_69 : decode cX12_meet 69 = .ok (.iinc 3 1, 3) := by decide +kernel
theorem dX12_meet_72 : decode cX12_meet 72 = .ok (.goto (-43), 3) := by decide +kernel
theorem dX12_meet_75 : decode cX12_meet 75 = .ok (.iconst (-1), 1) := by decide +kernel
theorem dX12_meet_76 : decode cX12_meet 76 = .ok (.ireturn, 1) := by decide +kernel
theorem dX12_bare_0 : decode cX12_bare 0 = .ok (.aload_n 0, 1) := by decide +kernel
theorem dX12_bare_1 : decode cX12_bare 1 = .ok (.iconst 0, 1) := by decide +kernel
theorem dX12_bare_2 : decode cX12_bare 2 = .ok (.putfield 117, 3) := by decide +kernel
theorem dX12_bare_5 : decode cX12_bare 5 = .ok (.aload_n 0, 1) := by decide +kernel
theorem dX12_bare_6 : decode cX12_bare 6 = .ok (.iload_n 1, 1) := by decide +kernel
theorem dX12_bare_7 : decode cX12_bare 7 = .ok (.iconst 0, 1) := by decide +kernel
theorem dX12_bare_8 : decode cX12_bare 8 = .ok (.iconst 1, 1) := by decide +kernel
theorem dX12_bare_9 : decode cX12_bare 9 = .ok (.invokevirtual 396, 3) := by decide +kernel
theorem dX12_bare_12 : decode cX12_bare 12 = .ok (.ifCond .ne 5, 3) := by decide +kernel
theorem dX12_bare_15 : decode cX12_bare 15 = .ok (.iconst 0, 1) := by decide +kernel
theorem dX12_bare_16 : decode cX12_bare 16 = .ok (.ireturn, 1) := by decide +kernel
theorem dX12_bare_17 : decode cX12_bare 17 = .ok (.aload_n 0, 1) := by decide +kernel
theorem dX12_bare_18 : decode cX12_bare 18 = .ok (.iload_n 1, 1) := by decide +kernel
theorem dX12_bare_19 : decode cX12_bare 19 = .ok (.invokevirtual 399, 3) := by decide +kernel
theorem dX12_bare_22 : decode cX12_bare 22 = .ok (.iconst 0, 1) := by decide +kernel
theorem dX12_bare_23 : decode cX12_bare 23 = .ok (.istore_n 2, 1) := by decide +kernel
theorem dX12_bare_24 : decode cX12_bare 24 = .ok (.iconst 0, 1) := by decide +kernel
theorem dX12_bare_25 : decode cX12_bare 25 = .ok (.istore_n 3, 1) := by decide +kernel
theorem dX12_bare_26 : decode cX12_bare 26 = .ok (.iload_n 3, 1) := by decide +kernel
theorem dX12_bare_27 : decode cX12_bare 27 = .ok (.aload_n 0, 1) := by decide +kernel
theorem dX12_bare_28 : decode cX12_bare 28 = .ok (.getfield 284, 3) := by decide +kernel
theorem dX12_bare_31 : decode cX12_bare 31 = .ok (.if_icmp .ge 31, 3) := by decide +kernel
theorem dX12_bare_34 : decode cX12_bare 34 = .ok (.iload_n 2, 1) := by decide +kernel
theorem dX12_bare_35 : decode cX12_bare 35 = .ok (.aload_n 0, 1) := by decide +kernel
theorem dX12_bare_36 : decode cX12_bare 36 = .ok (.getfield 66, 3) := by decide +kernel
theorem dX12_bare_39 : decode cX12_bare 39 = .ok (.bipush 92, 2) := by decide +kernel
theorem dX12_bare_41 : decode cX12_bare 41 = .ok (.iload_n 3, 1) := by decide +kernel
theorem dX12_bare_42 : decode cX12_bare 42 = .ok (.iadd, 1) := by decide +kernel
theorem dX12_bare_43 : decode cX12_bare 43 = .ok (.iaload, 1) := by decide +kernel
theorem dX12_bare_44 : decode cX12_bare 44 = .ok (.ifCond .ne 9, 3) := by decide +kernel
theorem dX12_bare_47 : decode cX12_bare 47 = .ok (.iconst 1, 1) := by decide +kernel
theorem dX12_bare_48 : decode cX12_bare 48 = .ok (.iload_n 3, 1) := by decide +kernel
theorem dX12_bare_49 : decode cX12_bare 49 = .ok (.ishl, 1) := by decide +kernel
theorem dX12_bare_50 : decode cX12_bare 50 = .ok (.goto 4, 3) := by decide +kernel
theorem dX12_bare_53 : decode cX12_bare 53 = .ok (.iconst 0, 1) := by decide +kernel
theorem dX12_bare_54 : decode cX12_bare 54 = .ok (.ior, 1) := by decide +kernel
theorem dX12_bare_55 : decode cX12_bare 55 = .ok (.istore_n 2, 1) := by decide +kernel
theorem dX12_bare_56 : decode cX12_bare 56 = .ok (.iinc 3 1, 3) := by decide +kernel
theorem dX12_bare_59 : decode cX12_bare 59 = .ok (.goto (-33), 3) := by decide +kernel
theorem dX12_bare_62 : decode cX12_bare 62 = .ok (.iload_n 2, 1) := by decide +kernel
theorem dX12_bare_63 : decode cX12_bare 63 = .ok (.ireturn, 1) := by decide +kernel
theorem dX12_load_0 : decode cX12_load 0 = .ok (.aload_n 0, 1) := by decide +kernel
theorem dX12_load_1 : decode cX12_load 1 = .ok (.iconst 0, 1) := by decide +kernel
theorem dX12_load_2 : decode cX12_load 2 = .ok (.putfield 117, 3) := by decide +kernel
theorem dX12_load_5 : decode cX12_load 5 = .ok (.aload_n 0, 1) := by decide +kernel
theorem dX12_load_6 : decode cX12_load 6 = .ok (.iload_n 1, 1) := by decide +kernel
theorem dX12_load_7 : decode cX12_load 7 = .ok (.iconst 0, 1) := by decide +kernel
theorem dX12_load_8 : decode cX12_load 8 = .ok (.bipush 99, 2) := by decide +kernel
theorem dX12_load_10 : decode cX12_load 10 = .ok (.invokestatic 362, 3) := by decide +kernel
theorem dX12_load_13 : decode cX12_load 13 = .ok (.iconst 1, 1) := by decide +kernel
theorem dX12_load_14 : decode cX12_load 14 = .ok (.invokevirtual 277, 3) := by decide +kernel
theorem dX12_load_17 : decode cX12_load 17 = .ok (.ifCond .ne 5, 3) := by decide +kernel
theorem dX12_load_20 : decode cX12_load 20 = .ok (.iconst 0, 1) := by decide +kernel
theorem dX12_load_21 : decode cX12_load 21 = .ok (.ireturn, 1) := by decide +kernel
theorem dX12_load_22 : decode cX12_load 22 = .ok (.iconst 0, 1) := by decide +kernel
theorem dX12_load_23 : decode cX12_load 23 = .ok (.istore_n 2, 1) := by decide +kernel
theorem dX12_load_24 : decode cX12_load 24 = .ok (.iconst 0, 1) := by decide +kernel
theorem dX12_load_25 : decode cX12_load 25 = .ok (.istore_n 3, 1) := by decide +kernel
theorem dX12_load_26 : decode cX12_load 26 = .ok (.iload_n 3, 1) := by decide +kernel
theorem dX12_load_27 : decode cX12_load 27 = .ok (.aload_n 0, 1) := by decide +kernel
theorem dX12_load_28 : decode cX12_load 28 = .ok (.getfield 7, 3) := by decide +kernel
theorem dX12_load_31 : decode cX12_load 31 = .ok (.if_icmp .ge 45, 3) := by decide +kernel
theorem dX12_load_34 : decode cX12_load 34 = .ok (.iload_n 2, 1) := by decide +kernel
theorem dX12_load_35 : decode cX12_load 35 = .ok (.aload_n 0, 1) := by decide +kernel
theorem dX12_load_36 : decode cX12_load 36 = .ok (.getfield 66, 3) := by decide +kernel
theorem dX12_load_39 : decode cX12_load 39 = .ok (.iconst 1, 1) := by decide +kernel
theorem dX12_load_40 : decode cX12_load 40 = .ok (.iload_n 3, 1) := by decide +kernel
theorem dX12_load_41 : decode cX12_load 41 = .ok (.iadd, 1) := by decide +kernel
theorem dX12_load_42 : decode cX12_load 42 = .ok (.iaload, 1) := by decide +kernel
theorem dX12_load_43 : decode cX12_load 43 = .ok (.iload_n 1, 1) := by decide +kernel
theorem dX12_load_44 : decode cX12_load 44 = .ok (.if_icmp .lt 23, 3) := by decide +kernel
theorem dX12_load_47 : decode cX12_load 47 = .ok (.aload_n 0, 1) := by decide +kernel
theorem dX12_load_48 : decode cX12_load 48 = .ok (.getfield 66, 3) := by decide +kernel
theorem dX12_load_51 : decode cX12_load 51 = .ok (.iconst 1, 1) := by decide +kernel
theorem dX12_load_52 : decode cX12_load 52 = .ok (.aload_n 0, 1) := by decide +kernel
theorem dX12_load_53 : decode cX12_load 53 = .ok (.iload_n 3, 1) := by decide +kernel
theorem dX12_load_54 : decode cX12_load 54 = .ok (.invokevirtual 308, 3) := by decide +kernel
theorem dX12_load_57 : decode cX12_load 57 = .ok (.iadd, 1) := by decide +kernel
theorem dX12_load_58 : decode cX12_load 58 = .ok (.iaload, 1) := by decide +kernel
theorem dX12_load_59 : decode cX12_load 59 = .ok (.iload_n 1, 1) := by decide +kernel
theorem dX12_load_60 : decode cX12_load 60 = .ok (.if_icmp .ge 7, 3) := by decide +kernel
theorem dX12_load_63 : decode cX12_load 63 = .ok (.iconst 1, 1) := by decide +kernel
theorem dX12_load_64 : decode cX12_load 64 = .ok (.goto 4, 3) := by decide +kernel
theorem dX12_load_67 : decode cX12_load 67 = .ok (.iconst 0, 1) := by decide +kernel
theorem dX12_load_68 : decode cX12_load 68 = .ok (.iadd, 1) := by decide +kernel
theorem dX12_load_69 : decode cX12_load 69 = .ok (.istore_n 2, 1) := by decide +kernel
theorem dX12_load_70 : decode cX12_load 70 = .ok (.iinc 3 1, 3) := by decide +kernel
theorem dX12_load_73 : decode cX12_load 73 = .ok (.goto (-47), 3) := by decide +kernel
theorem dX12_load_76 : decode cX12_load 76 = .ok (.iload_n 2, 1) := by decide +kernel
theorem dX12_load_77 : decode cX12_load 77 = .ok (.ifCond .ne 17, 3) := by decide +kernel
theorem dX12_load_80 : decode cX12_load 80 = .ok (.aload_n 0, 1) := by decide +kernel
theorem dX12_load_81 : decode cX12_load 81 = .ok (.getfield 66, 3) := by decide +kernel
theorem dX12_load_84 : decode cX12_load 84 = .ok (.iconst 1, 1) := by decide +kernel
theorem dX12_load_85 : decode cX12_load 85 = .ok (.iaload, 1) := by decide +kernel
theorem dX12_load_86 : decode cX12_load 86 = .ok (.iload_n 1, 1) := by decide +kernel
theorem dX12_load_87 : decode cX12_load 87 = .ok (.if_icmp .lt 7, 3) := by decide +kernel
theorem dX12_load_90 : decode cX12_load 90 = .ok (.iconst 1, 1) := by decide +kernel
theorem dX12_load_91 : decode cX12_load 91 = .ok (.goto 4, 3) := by decide +kernel
theorem dX12_load_94 : decode cX12_load 94 = .ok (.iload_n 2, 1) := by decide +kernel
theorem dX12_load_95 : decode cX12_load 95 = .ok (.ireturn, 1) := by decide +kernel
theorem dX12_image_0 : decode cX12_image 0 = .ok (.aload_n 0, 1) := by decide +kernel
theorem dX12_image_1 : decode cX12_image 1 = .ok (.iconst 0, 1) := by decide +kernel
theorem dX12_image_2 : decode cX12_image 2 = .ok (.putfield 117, 3) := by decide +kernel
theorem dX12_image_5 : decode cX12_image 5 = .ok (.aload_n 0, 1) := by decide +kernel
theorem dX12_image_6 : decode cX12_image 6 = .ok (.iconst 1, 1) := by decide +kernel
theorem dX12_image_7 : decode cX12_image 7 = .ok (.putfield 300, 3) := by decide +kernel
theorem dX12_image_10 : decode cX12_image 10 = .ok (.aload_n 0, 1) := by decide +kernel
theorem dX12_image_11 : decode cX12_image 11 = .ok (.aload_n 0, 1) := by decide +kernel
theorem dX12_image_12 : decode cX12_image 12 = .ok (.getfield 294, 3) := by decide +kernel
theorem dX12_image_15 : decode cX12_image 15 = .ok (.putfield 443, 3) := by decide +kernel
theorem dX12_image_18 : decode cX12_image 18 = .ok (.aload_n 0, 1) := by decide +kernel
theorem dX12_image_19 : decode cX12_image 19 = .ok (.aload_n 0, 1) := by decide +kernel
theorem dX12_image_20 : decode cX12_image 20 = .ok (.getfield 297, 3) := by decide +kernel
theorem dX12_image_23 : decode cX12_image 23 = .ok (.putfield 446, 3) := by decide +kernel
theorem dX12_image_26 : decode cX12_image 26 = .ok (.iconst 0, 1) := by decide +kernel
theorem dX12_image_27 : decode cX12_image 27 = .ok (.istore_n 1, 1) := by decide +kernel
theorem dX12_image_28 : decode cX12_image 28 = .ok (.iload_n 1, 1) := by decide +kernel
theorem dX12_image_29 : decode cX12_image 29 = .ok (.bipush 49, 2) := by decide +kernel
theorem dX12_image_31 : decode cX12_image 31 = .ok (.if_icmp .ge 21, 3) := by decide +kernel
theorem dX12_image_34 : decode cX12_image 34 = .ok (.aload_n 0, 1) := by decide +kernel
theorem dX12_image_35 : decode cX12_image 35 = .ok (.getfield 108, 3) := by decide +kernel
theorem dX12_image_38 : decode cX12_image 38 = .ok (.iload_n 1, 1) := by decide +kernel
theorem dX12_image_39 : decode cX12_image 39 = .ok (.aload_n 0, 1) := by decide +kernel
theorem dX12_image_40 : decode cX12_image 40 = .ok (.getfield 66, 3) := by decide +kernel
theorem dX12_image_43 : decode cX12_image 43 = .ok (.iload_n 1, 1) := by decide +kernel
theorem dX12_image_44 : decode cX12_image 44 = .ok (.iaload, 1) := by decide +kernel
theorem dX12_image_45 : decode cX12_image 45 = .ok (.iastore, 1) := by decide +kernel
theorem dX12_image_46 : decode cX12_image 46 = .ok (.iinc 1 1, 3) := by decide +kernel
theorem dX12_image_49 : decode cX12_image 49 = .ok (.goto (-21), 3) := by decide +kernel
theorem dX12_image_52 : decode cX12_image 52 = .ok (.aload_n 0, 1) := by decide +kernel
theorem dX12_image_53 : decode cX12_image 53 = .ok (.aload_n 0, 1) := by decide +kernel
theorem dX12_image_54 : decode cX12_image 54 = .ok (.getfield 69, 3) := by decide +kernel
theorem dX12_image_57 : decode cX12_image 57 = .ok (.aload_n 0, 1) := by decide +kernel
theorem dX12_image_58 : decode cX12_image 58 = .ok (.getfield 111, 3) := by decide +kernel
theorem dX12_image_61 : decode cX12_image 61 = .ok (.invokevirtual 290, 3) := by decide +kernel
theorem dX12_image_64 : decode cX12_image 64 = .ok (.aload_n 0, 1) := by decide +kernel
theorem dX12_image_65 : decode cX12_image 65 = .ok (.aload_n 0, 1) := by decide +kernel
theorem dX12_image_66 : decode cX12_image 66 = .ok (.getfield 96, 3) := by decide +kernel
theorem dX12_image_69 : decode cX12_image 69 = .ok (.aload_n 0, 1) := by decide +kernel
theorem dX12_image_70 : decode cX12_image 70 = .ok (.getfield 114, 3) := by decide +kernel
theorem dX12_image_73 : decode cX12_image 73 = .ok (.invokevirtual 290, 3) := by decide +kernel
theorem dX12_image_76 : decode cX12_image 76 = .ok (.return_, 1) := by decide +kernel
theorem dX12_restore_0 : decode cX12_restore 0 = .ok (.aload_n 0, 1) := by decide +kernel
theorem dX12_restore_1 : decode cX12_restore 1 = .ok (.iconst 0, 1) := by decide +kernel
theorem dX12_restore_2 : decode cX12_restore 2 = .ok (.putfield 117, 3) := by decide +kernel
theorem dX12_restore_5 : decode cX12_restore 5 = .ok (.aload_n 0, 1) := by decide +kernel
theorem dX12_restore_6 : decode cX12_restore 6 = .ok (.getfield 300, 3) := by decide +kernel
theorem dX12_restore_9 : decode cX12_restore 9 = .ok (.ifCond .ne 5, 3) := by decide +kernel
theorem dX12_restore_12 : decode cX12_restore 12 = .ok (.iconst 0, 1) := by decide +kernel
theorem dX12_restore_13 : decode cX12_restore 13 = .ok (.ireturn, 1) := by decide +kernel
theorem dX12_restore_14 : decode cX12_restore 14 = .ok (.aload_n 0, 1) := by decide +kernel
theorem dX12_restore_15 : decode cX12_restore 15 = .ok (.aload_n 0, 1) := by decide +kernel
theorem dX12_restore_16 : decode cX12_restore 16 = .ok (.getfield 443, 3) := by decide +kernel
theorem dX12_restore_19 : decode cX12_restore 19 = .ok (.putfield 294, 3) := by decide +kernel
theorem dX12_restore_22 : decode cX12_restore 22 = .ok (.aload_n 0, 1) := by decide +kernel
theorem dX12_restore_23 : decode cX12_restore 23 = .ok (.aload_n 0, 1) := by decide +kernel
theorem dX12_restore_24 : decode cX12_restore 24 = .ok (.getfield 446, 3) := by decide +kernel
theorem dX12_restore_27 : decode cX12_restore 27 = .ok (.putfield 297, 3) := by decide +kernel
theorem dX12_restore_30 : decode cX12_restore 30 = .ok (.iconst 0, 1) := by decide +kernel
theorem dX12_restore_31 : decode cX12_restore 31 = .ok (.istore_n 1, 1) := by decide +kernel
theorem dX12_restore_32 : decode cX12_restore 32 = .ok (.iload_n 1, 1) := by decide +kernel
theorem dX12_restore_33 : decode cX12_restore 33 = .ok (.bipush 49, 2) := by decide +kernel
theorem dX12_restore_35 : decode cX12_restore 35 = .ok (.if_icmp .ge 21, 3) := by decide +kernel
theorem dX12_restore_38 : decode cX12_restore 38 = .ok (.aload_n 0, 1) := by decide +kernel
theorem dX12_restore_39 : decode cX12_restore 39 = .ok (.getfield 66, 3) := by decide +kernel
theorem dX12_restore_42 : decode cX12_restore 42 = .ok (.iload_n 1, 1) := by decide +kernel
theorem dX12_restore_43 : decode cX12_restore 43 = .ok (.aload_n 0, 1) := by decide +kernel
theorem dX12_restore_44 : decode cX12_restore 44 = .ok (.getfield 108, 3) := by decide +kernel
theorem dX12_restore_47 : decode cX12_restore 47 = .ok (.iload_n 1, 1) := by decide +kernel
theorem dX12_restore_48 : decode cX12_restore 48 = .ok (.iaload, 1) := by decide +kernel
theorem dX12_restore_49 : decode cX12_restore 49 = .ok (.iastore, 1) := by decide +kernel
theorem dX12_restore_50 : decode cX12_restore 50 = .ok (.iinc 1 1, 3) := by decide +kernel
theorem dX12_restore_53 : decode cX12_restore 53 = .ok (.goto (-21), 3) := by decide +kernel
theorem dX12_restore_56 : decode cX12_restore 56 = .ok (.aload_n 0, 1) := by decide +kernel
theorem dX12_restore_57 : decode cX12_restore 57 = .ok (.aload_n 0, 1) := by decide +kernel
theorem dX12_restore_58 : decode cX12_restore 58 = .ok (.getfield 111, 3) := by decide +kernel
theorem dX12_restore_61 : decode cX12_restore 61 = .ok (.aload_n 0, 1) := by decide +kernel
theorem dX12_restore_62 : decode cX12_restore 62 = .ok (.getfield 69, 3) := by decide +kernel
theorem dX12_restore_65 : decode cX12_restore 65 = .ok (.invokevirtual 290, 3) := by decide +kernel
theorem dX12_restore_68 : decode cX12_restore 68 = .ok (.aload_n 0, 1) := by decide +kernel
theorem dX12_restore_69 : decode cX12_restore 69 = .ok (.aload_n 0, 1) := by decide +kernel
theorem dX12_restore_70 : decode cX12_restore 70 = .ok (.getfield 114, 3) := by decide +kernel
theorem dX12_restore_73 : decode cX12_restore 73 = .ok (.aload_n 0, 1) := by decide +kernel
theorem dX12_restore_74 : decode cX12_restore 74 = .ok (.getfield 96, 3) := by decide +kernel
theorem dX12_restore_77 : decode cX12_restore 77 = .ok (.invokevirtual 290, 3) := by decide +kernel
theorem dX12_restore_80 : decode cX12_restore 80 = .ok (.iconst 1, 1) := by decide +kernel
theorem dX12_restore_81 : decode cX12_restore 81 = .ok (.ireturn, 1) := by decide +kernel
