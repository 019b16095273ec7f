theorem dX10_thrown_0 : decode cX10_thrown 0 = .ok (.aload_n 0, 1) := by decide +kernel
theorem dX10_thrown_1 : decode cX10_thrown 1 = .ok (.getfield 3, 3) := by decide +kernel
theorem dX10_thrown_4 : decode cX10_thrown 4 = .ok (.ireturn, 1) := by decide +kernel
theorem dX10_may_0 : decode cX10_may 0 = .ok (.iload_n 1, 1) := by decide +kernel
theorem dX10_may_1 : decode cX10_may 1 = .ok (.ifCond .ne 25, 3) := by decide +kernel
theorem dX10_may_4 : decode cX10_may 4 = .ok (.aload_n 0, 1) := by decide +kernel
theorem dX10_may_5 : decode cX10_may 5 = .ok (.getfield 3, 3) := by decide +kernel
theorem dX10_may_8 : decode cX10_may 8 = .ok (.ifCond .ne 18, 3) := by decide +kernel
theorem dX10_may_11 : decode cX10_may 11 = .ok (.aload_n 0, 1) := by decide +kernel
theorem dX10_may_12 : decode cX10_may 12 = .ok (.iload_n 2, 1) := by decide +kernel
theorem dX10_may_13 : decode cX10_may 13 = .ok (.putfield 3, 3) := by decide +kernel
theorem dX10_may_16 : decode cX10_may 16 = .ok (.aload_n 0, 1) := by decide +kernel
theorem dX10_may_17 : decode cX10_may 17 = .ok (.getfield 7, 3) := by decide +kernel
theorem dX10_may_20 : decode cX10_may 20 = .ok (.iload_n 3, 1) := by decide +kernel
theorem dX10_may_21 : decode cX10_may 21 = .ok (.dup2, 1) := by decide +kernel
theorem dX10_may_22 : decode cX10_may 22 = .ok (.iaload, 1) := by decide +kernel
theorem dX10_may_23 : decode cX10_may 23 = .ok (.iconst 1, 1) := by decide +kernel
theorem dX10_may_24 : decode cX10_may 24 = .ok (.iadd, 1) := by decide +kernel
theorem dX10_may_25 : decode cX10_may 25 = .ok (.iastore, 1) := by decide +kernel
theorem dX10_may_26 : decode cX10_may 26 = .ok (.aload_n 0, 1) := by decide +kernel
theorem dX10_may_27 : decode cX10_may 27 = .ok (.getfield 3, 3) := by decide +kernel
theorem dX10_may_30 : decode cX10_may 30 = .ok (.ifCond .ne 7, 3) := by decide +kernel
theorem dX10_may_33 : decode cX10_may 33 = .ok (.iconst 1, 1) := by decide +kernel
theorem dX10_may_34 : decode cX10_may 34 = .ok (.goto 4, 3) := by decide +kernel
theorem dX10_may_37 : decode cX10_may 37 = .ok (.iconst 0, 1) := by decide +kernel
theorem dX10_may_38 : decode cX10_may 38 = .ok (.ireturn, 1) := by decide +kernel
theorem dX10_within_0 : decode cX10_within 0 = .ok (.iload_n 0, 1) := by decide +kernel
theorem dX10_within_1 : decode cX10_within 1 = .ok (.iload_n 1, 1) := by decide +kernel
theorem dX10_within_2 : decode cX10_within 2 = .ok (.if_icmp .lt 12, 3) := by decide +kernel
theorem dX10_within_5 : decode cX10_within 5 = .ok (.iload_n 0, 1) := by decide +kernel
theorem dX10_within_6 : decode cX10_within 6 = .ok (.iload_n 2, 1) := by decide +kernel
theorem dX10_within_7 : decode cX10_within 7 = .ok (.if_icmp .gt 7, 3) := by decide +kernel
theorem dX10_within_10 : decode cX10_within 10 = .ok (.iconst 1, 1) := by decide +kernel
theorem dX10_within_11 : decode cX10_within 11 = .ok (.goto 4, 3) := by decide +kernel
theorem dX10_within_14 : decode cX10_within 14 = .ok (.iconst 0, 1) := by decide +kernel
theorem dX10_within_15 : decode cX10_within 15 = .ok (.ireturn, 1) := by decide +kernel
theorem dX10_init_0 : decode cX10_init 0 = .ok (.aload_n 0, 1) := by decide +kernel
theorem dX10_init_1 : decode cX10_init 1 = .ok (.invokespecial 11, 3) := by decide +kernel
theorem dX10_init_4 : decode cX10_init 4 = .ok (.aload_n 0, 1) := by decide +kernel
theorem dX10_init_5 : decode cX10_init 5 = .ok (.iconst 4, 1) := by decide +kernel
theorem dX10_init_6 : decode cX10_init 6 = .ok (.newarray .int, 2) := by decide +kernel
theorem dX10_init_8 : decode cX10_init 8 = .ok (.putfield 7, 3) := by decide +kernel
theorem dX10_init_11 : decode cX10_init 11 = .ok (.aload_n 0, 1) := by decide +kernel
theorem dX10_init_12 : decode cX10_init 12 = .ok (.iconst (-1), 1) := by decide +kernel
theorem dX10_init_13 : decode cX10_init 13 = .ok (.putfield 17, 3) := by decide +kernel
theorem dX10_init_16 : decode cX10_init 16 = .ok (.aload_n 0, 1) := by decide +kernel
theorem dX10_init_17 : decode cX10_init 17 = .ok (.sipush 600, 3) := by decide +kernel
theorem dX10_init_20 : decode cX10_init 20 = .ok (.newarray .int, 2) := by decide +kernel
theorem dX10_init_22 : decode cX10_init 22 = .ok (.putfield 20, 3) := by decide +kernel
theorem dX10_init_25 : decode cX10_init 25 = .ok (.aload_n 0, 1) := by decide +kernel
theorem dX10_init_26 : decode cX10_init 26 = .ok (.bipush 8, 2) := by decide +kernel
theorem dX10_init_28 : decode cX10_init 28 = .ok (.newarray .int, 2) := by decide +kernel
theorem dX10_init_30 : decode cX10_init 30 = .ok (.putfield 23, 3) := by decide +kernel
theorem dX10_init_33 : decode cX10_init 33 = .ok (.aload_n 0, 1) := by decide +kernel
theorem dX10_init_34 : decode cX10_init 34 = .ok (.bipush 72, 2) := by decide +kernel
theorem dX10_init_36 : decode cX10_init 36 = .ok (.newarray .int, 2) := by decide +kernel
theorem dX10_init_38 : decode cX10_init 38 = .ok (.putfield 26, 3) := by decide +kernel
theorem dX10_init_41 : decode cX10_init 41 = .ok (.aload_n 0, 1) := by decide +kernel
theorem dX10_init_42 : decode cX10_init 42 = .ok (.bipush 36, 2) := by decide +kernel
theorem dX10_init_44 : decode cX10_init 44 = .ok (.newarray .int, 2) := by decide +kernel
theorem dX10_init_46 : decode cX10_init 46 = .ok (.putfield 29, 3) := by decide +kernel
theorem dX10_init_49 : decode cX10_init 49 = .ok (.aload_n 0, 1) := by decide +kernel
theorem dX10_init_50 : decode cX10_init 50 = .ok (.bipush 9, 2) := by decide +kernel
theorem dX10_init_52 : decode cX10_init 52 = .ok (.newarray .int, 2) := by decide +kernel
theorem dX10_init_54 : decode cX10_init 54 = .ok (.putfield 32, 3) := by decide +kernel
theorem dX10_init_57 : decode cX10_init 57 = .ok (.aload_n 0, 1) := by decide +kernel
theorem dX10_init_58 : decode cX10_init 58 = .ok (.iconst 4, 1) := by decide +kernel
theorem dX10_init_59 : decode cX10_init 59 = .ok (.newarray .int, 2) := by decide +kernel
theorem dX10_init_61 : decode cX10_init 61 = .ok (.putfield 35, 3) := by decide +kernel
theorem dX10_init_64 : decode cX10_init 64 = .ok (.aload_n 0, 1) := by decide +kernel
theorem dX10_init_65 : decode cX10_init 65 = .ok (.bipush 24, 2) := by decide +kernel
theorem dX10_init_67 : decode cX10_init 67 = .ok (.newarray .int, 2) := by decide +kernel
theorem dX10_init_69 : decode cX10_init 69 = .ok (.putfield 38, 3) := by decide +kernel
theorem dX10_init_72 : decode cX10_init 72 = .ok (.aload_n 0, 1) := by decide +kernel
theorem dX10_init_73 : decode cX10_init 73 = .ok (.bipush 24, 2) := by decide +kernel
theorem dX10_init_75 : decode cX10_init 75 = .ok (.newarray .int, 2) := by decide +kernel
theorem dX10_init_77 : decode cX10_init 77 = .ok (.putfield 41, 3) := by decide +kernel
theorem dX10_init_80 : decode cX10_init 80 = .ok (.aload_n 0, 1) := by decide +kernel
theorem dX10_init_81 : decode cX10_init 81 = .ok (.bipush 8, 2) := by decide +kernel
theorem dX10_init_83 : decode cX10_init 83 = .ok (.newarray .int, 2) := by decide +kernel
theorem dX10_init_85 : decode cX10_init 85 = .ok (.putfield 44, 3) := by decide +kernel
theorem dX10_init_88 : decode cX10_init 88 = .ok (.aload_n 0, 1) := by decide +kernel
theorem dX10_init_89 : decode cX10_init 89 = .ok (.bipush 72, 2) := by decide +kernel
theorem dX10_init_91 : decode cX10_init 91 = .ok (.newarray .int, 2) := by decide +kernel
theorem dX10_init_93 : decode cX10_init 93 = .ok (.putfield 47, 3) := by decide +kernel
theorem dX10_init_96 : decode cX10_init 96 = .ok (.aload_n 0, 1) := by decide +kernel
theorem dX10_init_97 : decode cX10_init 97 = .ok (.bipush 36, 2) := by decide +kernel
theorem dX10_init_99 : decode cX10_init 99 = .ok (.newarray .int, 2) := by decide +kernel
theorem dX10_init_101 : decode cX10_init 101 = .ok (.putfield 50, 3) := by decide +kernel
theorem dX10_init_104 : decode cX10_init 104 = .ok (.aload_n 0, 1) := by decide +kernel
theorem dX10_init_105 : decode cX10_init 105 = .ok (.bipush 9, 2) := by decide +kernel
theorem dX10_init_107 : decode cX10_init 107 = .ok (.newarray .int, 2) := by decide +kernel
theorem dX10_init_109 : decode cX10_init 109 = .ok (.putfield 53, 3) := by decide +kernel
theorem dX10_init_112 : decode cX10_init 112 = .ok (.aload_n 0, 1) := by decide +kernel
theorem dX10_init_113 : decode cX10_init 113 = .ok (.iconst 4, 1) := by decide +kernel
theorem dX10_init_114 : decode cX10_init 114 = .ok (.newarray .int, 2) := by decide +kernel
theorem dX10_init_116 : decode cX10_init 116 = .ok (.putfield 56, 3) := by decide +kernel
theorem dX10_init_119 : decode cX10_init 119 = .ok (.aload_n 0, 1) := by decide +kernel
theorem dX10_init_120 : decode cX10_init 120 = .ok (.bipush 24, 2) := by decide +kernel
theorem dX10_init_122 : decode cX10_init 122 = .ok (.newarray .int, 2) := by decide +kernel
theorem dX10_init_124 : decode cX10_init 124 = .ok (.putfield 59, 3) := by decide +kernel
theorem dX10_init_127 : decode cX10_init 127 = .ok (.aload_n 0, 1) := by decide +kernel
theorem dX10_init_128 : decode cX10_init 128 = .ok (.bipush 24, 2) := by decide +kernel
theorem dX10_init_130 : decode cX10_init 130 = .ok (.newarray .int, 2) := by decide +kernel
theorem dX10_init_132 : decode cX10_init 132 = .ok (.putfield 62, 3) := by decide +kernel
theorem dX10_init_135 : decode cX10_init 135 = .ok (.aload_n 0, 1) := by decide +kernel
theorem dX10_init_136 : decode cX10_init 136 = .ok (.iconst 5, 1) := by decide +kernel
theorem dX10_init_137 : decode cX10_init 137 = .ok (.putfield 65, 3) := by decide +kernel
theorem dX10_init_140 : decode cX10_init 140 = .ok (.aload_n 0, 1) := by decide +kernel
theorem dX10_init_141 : decode cX10_init 141 = .ok (.bipush 8, 2) := by decide +kernel
theorem dX10_init_143 : decode cX10_init 143 = .ok (.newarray .int, 2) := by decide +kernel
theorem dX10_init_145 : decode cX10_init 145 = .ok (.putfield 68, 3) := by decide +kernel
theorem dX10_init_148 : decode cX10_init 148 = .ok (.aload_n 0, 1) := by decide +kernel
theorem dX10_init_149 : decode cX10_init 149 = .ok (.sipush 192, 3) := by decide +kernel
theorem dX10_init_152 : decode cX10_init 152 = .ok (.newarray .int, 2) := by decide +kernel
theorem dX10_init_154 : decode cX10_init 154 = .ok (.putfield 71, 3) := by decide +kernel
theorem dX10_init_157 : decode cX10_init 157 = .ok (.aload_n 0, 1) := by decide +kernel
theorem dX10_init_158 : decode cX10_init 158 = .ok (.bipush 8, 2) := by decide +kernel
theorem dX10_init_160 : decode cX10_init 160 = .ok (.newarray .int, 2) := by decide +kernel
theorem dX10_init_162 : decode cX10_init 162 = .ok (.putfield 74, 3) := by decide +kernel
theorem dX10_init_165 : decode cX10_init 165 = .ok (.aload_n 0, 1) := by decide +kernel
theorem dX10_init_166 : decode cX10_init 166 = .ok (.bipush 6, 2) := by decide +kernel
theorem dX10_init_168 : decode cX10_init 168 = .ok (.newarray .int, 2) := by decide +kernel
theorem dX10_init_170 : decode cX10_init 170 = .ok (.putfield 77, 3) := by decide +kernel
theorem dX10_init_173 : decode cX10_init 173 = .ok (.aload_n 0, 1) := by decide +kernel
theorem dX10_init_174 : decode cX10_init 174 = .ok (.bipush 6, 2) := by decide +kernel
theorem dX10_init_176 : decode cX10_init 176 = .ok (.newarray .int, 2) := by decide +kernel
theorem dX10_init_178 : decode cX10_init 178 = .ok (.putfield 80, 3) := by decide +kernel
theorem dX10_init_181 : decode cX10_init 181 = .ok (.aload_n 0, 1) := by decide +kernel
theorem dX10_init_182 : decode cX10_init 182 = .ok (.bipush 6, 2) := by decide +kernel
theorem dX10_init_184 : decode cX10_init 184 = .ok (.newarray .int, 2) := by decide +kernel
theorem dX10_init_186 : decode cX10_init 186 = .ok (.putfield 83, 3) := by decide +kernel
theorem dX10_init_189 : decode cX10_init 189 = .ok (.aload_n 0, 1) := by decide +kernel
theorem dX10_init_190 : decode cX10_init 190 = .ok (.bipush 6, 2) := by decide +kernel
theorem dX10_init_192 : decode cX10_init 192 = .ok (.newarray .int, 2) := by decide +kernel
theorem dX10_init_194 : decode cX10_init 194 = .ok (.putfield 86, 3) := by decide +kernel
theorem dX10_init_197 : decode cX10_init 197 = .ok (.aload_n 0, 1) := by decide +kernel
theorem dX10_init_198 : decode cX10_init 198 = .ok (.bipush 6, 2) := by decide +kernel
theorem dX10_init_200 : decode cX10_init 200 = .ok (.newarray .int, 2) := by decide +kernel
theorem dX10_init_202 : decode cX10_init 202 = .ok (.putfield 89, 3) := by decide +kernel
theorem dX10_init_205 : decode cX10_init 205 = .ok (.aload_n 0, 1) := by decide +kernel
theorem dX10_init_206 : decode cX10_init 206 = .ok (.bipush 6, 2) := by decide +kernel
theorem dX10_init_208 : decode cX10_init 208 = .ok (.newarray .int, 2) := by decide +kernel
theorem dX10_init_210 : decode cX10_init 210 = .ok (.putfield 92, 3) := by decide +kernel
theorem dX10_init_213 : decode cX10_init 213 = .ok (.aload_n 0, 1) := by decide +kernel
theorem dX10_init_214 : decode cX10_init 214 = .ok (.bipush 6, 2) := by decide +kernel
theorem dX10_init_216 : decode cX10_init 216 = .ok (.newarray .int, 2) := by decide +kernel
theorem dX10_init_218 : decode cX10_init 218 = .ok (.putfield 95, 3) := by decide +kernel
theorem dX10_init_221 : decode cX10_init 221 = .ok (.aload_n 0, 1) := by decide +kernel
theorem dX10_init_222 : decode cX10_init 222 = .ok (.bipush 6, 2) := by decide +kernel
theorem dX10_init_224 : decode cX10_init 224 = .ok (.newarray .int, 2) := by decide +kernel
theorem dX10_init_226 : decode cX10_init 226 = .ok (.putfield 98, 3) := by decide +kernel
theorem dX10_init_229 : decode cX10_init 229 = .ok (.aload_n 0, 1) := by decide +kernel
theorem dX10_init_230 : decode cX10_init 230 = .ok (.bipush 24, 2) := by decide +kernel
theorem dX10_init_232 : decode cX10_init 232 = .ok (.newarray .int, 2) := by decide +kernel
theorem dX10_init_234 : decode cX10_init 234 = .ok (.putfield 101, 3) := by decide +kernel
theorem dX10_init_237 : decode cX10_init 237 = .ok (.aload_n 0, 1) := by decide +kernel
theorem dX10_init_238 : decode cX10_init 238 = .ok (.sipush 192, 3) := by decide +kernel
theorem dX10_init_241 : decode cX10_init 241 = .ok (.newarray .int, 2) := by decide +kernel
theorem dX10_init_243 : decode cX10_init 243 = .ok (.putfield 104, 3) := by decide +kernel
theorem dX10_init_246 : decode cX10_init 246 = .ok (.aload_n 0, 1) := by decide +kernel
theorem dX10_init_247 : decode cX10_init 247 = .ok (.bipush 8, 2) := by decide +kernel
theorem dX10_init_249 : decode cX10_init 249 = .ok (.newarray .int, 2) := by decide +kernel
theorem dX10_init_251 : decode cX10_init 251 = .ok (.putfield 107, 3) := by decide +kernel
theorem dX10_init_254 : decode cX10_init 254 = .ok (.aload_n 0, 1) := by decide +kernel
theorem dX10_init_255 : decode cX10_init 255 = .ok (.bipush 24, 2) := by decide +kernel
theorem dX10_init_257 : decode cX10_init 257 = .ok (.newarray .int, 2) := by decide +kernel
theorem dX10_init_259 : decode cX10_init 259 = .ok (.putfield 110, 3) := by decide +kernel
theorem dX10_init_262 : decode cX10_init 262 = .ok (.aload_n 0, 1) := by decide +kernel
theorem dX10_init_263 : decode cX10_init 263 = .ok (.bipush 8, 2) := by decide +kernel
theorem dX10_init_265 : decode cX10_init 265 = .ok (.newarray .long, 2) := by decide +kernel
theorem dX10_init_267 : decode cX10_init 267 = .ok (.putfield 113, 3) := by decide +kernel
theorem dX10_init_270 : decode cX10_init 270 = .ok (.aload_n 0, 1) := by decide +kernel
theorem dX10_init_271 : decode cX10_init 271 = .ok (.bipush 8, 2) := by decide +kernel
theorem dX10_init_273 : decode cX10_init 273 = .ok (.newarray .long, 2) := by decide +kernel
theorem dX10_init_275 : decode cX10_init 275 = .ok (.putfield 117, 3) := by decide +kernel
theorem dX10_init_278 : decode cX10_init 278 = .ok (.aload_n 0, 1) := by decide +kernel
theorem dX10_init_279 : decode cX10_init 279 = .ok (.bipush 8, 2) := by decide +kernel
theorem dX10_init_281 : decode cX10_init 281 = .ok (.newarray .int, 2) := by decide +kernel
theorem dX10_init_283 : decode cX10_init 283 = .ok (.putfield 120, 3) := by decide +kernel
theorem dX10_init_286 : decode cX10_init 286 = .ok (.aload_n 0, 1) := by decide +kernel
theorem dX10_init_287 : decode cX10_init 287 = .ok (.sipush 1000, 3) := by decide +kernel
theorem dX10_init_290 : decode cX10_init 290 = .ok (.newarray .long, 2) := by decide +kernel
theorem dX10_init_292 : decode cX10_init 292 = .ok (.putfield 123, 3) := by decide +kernel
theorem dX10_init_295 : decode cX10_init 295 = .ok (.aload_n 0, 1) := by decide +kernel
theorem dX10_init_296 : decode cX10_init 296 = .ok (.bipush 24, 2) := by decide +kernel
theorem dX10_init_298 : decode cX10_init 298 = .ok (.newarray .int, 2) := by decide +kernel
theorem dX10_init_300 : decode cX10_init 300 = .ok (.putfield 126, 3) := by decide +kernel
theorem dX10_init_303 : decode cX10_init 303 = .ok (.aload_n 0, 1) := by decide +kernel
theorem dX10_init_304 : decode cX10_init 304 = .ok (.bipush 24, 2) := by decide +kernel
theorem dX10_init_306 : decode cX10_init 306 = .ok (.newarray .int, 2) := by decide +kernel
theorem dX10_init_308 : decode cX10_init 308 = .ok (.putfield 129, 3) := by decide +kernel
theorem dX10_init_311 : decode cX10_init 311 = .ok (.aload_n 0, 1) := by decide +kernel
theorem dX10_init_312 : decode cX10_init 312 = .ok (.iconst 4, 1) := by decide +kernel
theorem dX10_init_313 : decode cX10_init 313 = .ok (.newarray .int, 2) := by decide +kernel
theorem dX10_init_315 : decode cX10_init 315 = .ok (.putfield 132, 3) := by decide +kernel
theorem dX10_init_318 : decode cX10_init 318 = .ok (.aload_n 0, 1) := by decide +kernel
theorem dX10_init_319 : decode cX10_init 319 = .ok (.sipush 768, 3) := by decide +kernel
theorem dX10_init_322 : decode cX10_init 322 = .ok (.newarray .int, 2) := by decide +kernel
theorem dX10_init_324 : decode cX10_init 324 = .ok (.putfield 135, 3) := by decide +kernel
theorem dX10_init_327 : decode cX10_init 327 = .ok (.aload_n 0, 1) := by decide +kernel
theorem dX10_init_328 : decode cX10_init 328 = .ok (.invokevirtual 138, 3) := by decide +kernel
theorem dX10_init_331 : decode cX10_init 331 = .ok (.aload_n 0, 1) := by decide +kernel
theorem dX10_init_332 : decode cX10_init 332 = .ok (.invokevirtual 141, 3) := by decide +kernel
theorem dX10_init_335 : decode cX10_init 335 = .ok (.return_, 1) := by decide +kernel
theorem dX10_feed_0 : decode cX10_feed 0 = .ok (.aload_n 0, 1) := by decide +kernel
theorem dX10_feed_1 : decode cX10_feed 1 = .ok (.iconst 0, 1) := by decide +kernel
theorem dX10_feed_2 : decode cX10_feed 2 = .ok (.putfield 3, 3) := by decide +kernel
theorem dX10_feed_5 : decode cX10_feed 5 = .ok (.aload_n 0, 1) := by decide +kernel
theorem dX10_feed_6 : decode cX10_feed 6 = .ok (.getfield 144, 3) := by decide +kernel
theorem dX10_feed_9 : decode cX10_feed 9 = .ok (.bipush 20, 2) := by decide +kernel
theorem dX10_feed_11 : decode cX10_feed 11 = .ok (.iadd, 1) := by decide +kernel
theorem dX10_feed_12 : decode cX10_feed 12 = .ok (.sipush 600, 3) := by decide +kernel
theorem dX10_feed_15 : decode cX10_feed 15 = .ok (.if_icmp .le 5, 3) := by decide +kernel
theorem dX10_feed_18 : decode cX10_feed 18 = .ok (.iconst (-1), 1) := by decide +kernel
theorem dX10_feed_19 : decode cX10_feed 19 = .ok (.ireturn, 1) := by decide +kernel
theorem dX10_feed_20 : decode cX10_feed 20 = .ok (.iconst 0, 1) := by decide +kernel
theorem dX10_feed_21 : decode cX10_feed 21 = .ok (.istore 6, 2) := by decide +kernel
theorem dX10_feed_23 : decode cX10_feed 23 = .ok (.iload 6, 2) := by decide +kernel
theorem dX10_feed_25 : decode cX10_feed 25 = .ok (.bipush 20, 2) := by decide +kernel
theorem dX10_feed_27 : decode cX10_feed 27 = .ok (.if_icmp .ge 93, 3) := by decide +kernel
theorem dX10_feed_30 : decode cX10_feed 30 = .ok (.iload 6, 2) := by decide +kernel
theorem dX10_feed_32 : decode cX10_feed 32 = .ok (.iconst 4, 1) := by decide +kernel
theorem dX10_feed_33 : decode cX10_feed 33 = .ok (.if_icmp .ge 7, 3) := by decide +kernel
theorem dX10_feed_36 : decode cX10_feed 36 = .ok (.iload_n 1, 1) := by decide +kernel
theorem dX10_feed_37 : decode cX10_feed 37 = .ok (.goto 39, 3) := by decide +kernel
theorem dX10_feed_40 : decode cX10_feed 40 = .ok (.iload 6, 2) := by decide +kernel
theorem dX10_feed_42 : decode cX10_feed 42 = .ok (.bipush 8, 2) := by decide +kernel
theorem dX10_feed_44 : decode cX10_feed 44 = .ok (.if_icmp .ge 7, 3) := by decide +kernel
theorem dX10_feed_47 : decode cX10_feed 47 = .ok (.iload_n 2, 1) := by decide +kernel
theorem dX10_feed_48 : decode cX10_feed 48 = .ok (.goto 28, 3) := by decide +kernel
theorem dX10_feed_51 : decode cX10_feed 51 = .ok (.iload 6, 2) := by decide +kernel
theorem dX10_feed_53 : decode cX10_feed 53 = .ok (.bipush 12, 2) := by decide +kernel
theorem dX10_feed_55 : decode cX10_feed 55 = .ok (.if_icmp .ge 7, 3) := by decide +kernel
theorem dX10_feed_58 : decode cX10_feed 58 = .ok (.iload_n 3, 1) := by decide +kernel
theorem dX10_feed_59 : decode cX10_feed 59 = .ok (.goto 17, 3) := by decide +kernel
theorem dX10_feed_62 : decode cX10_feed 62 = .ok (.iload 6, 2) := by decide +kernel
theorem dX10_feed_64 : decode cX10_feed 64 = .ok (.bipush 16, 2) := by decide +kernel
theorem dX10_feed_66 : decode cX10_feed 66 = .ok (.if_icmp .ge 8, 3) := by decide +kernel
theorem dX10_feed_69 : decode cX10_feed 69 = .ok (.iload 4, 2) := by decide +kernel
theorem dX10_feed_71 : decode cX10_feed 71 = .ok (.goto 5, 3) := by decide +kernel
theorem dX10_feed_74 : decode cX10_feed 74 = .ok (.iload 5, 2) := by decide +kernel
theorem dX10_feed_76 : decode cX10_feed 76 = .ok (.istore 7, 2) := by decide +kernel
theorem dX10_feed_78 : decode cX10_feed 78 = .ok (.aload_n 0, 1) := by decide +kernel
theorem dX10_feed_79 : decode cX10_feed 79 = .ok (.getfield 20, 3) := by decide +kernel
theorem dX10_feed_82 : decode cX10_feed 82 = .ok (.aload_n 0, 1) := by decide +kernel
theorem dX10_feed_83 : decode cX10_feed 83 = .ok (.getfield 144, 3) := by decide +kernel
theorem dX10_feed_86 : decode cX10_feed 86 = .ok (.iload 7, 2) := by decide +kernel
theorem dX10_feed_88 : decode cX10_feed 88 = .ok (.bipush 24, 2) := by decide +kernel
theorem dX10_feed_90 : decode cX10_feed 90 = .ok (.bipush 8, 2) := by decide +kernel
theorem dX10_feed_92 : decode cX10_feed 92 = .ok (.iload 6, 2) := by decide +kernel
theorem dX10_feed_94 : decode cX10_feed 94 = .ok (.iconst 4, 1) := by decide +kernel
theorem dX10_feed_95 : decode cX10_feed 95 = .ok (.irem, 1) := by decide +kernel
theorem dX10_feed_96 : decode cX10_feed 96 = .ok (.imul, 1) := by decide +kernel
theorem dX10_feed_97 : decode cX10_feed 97 = .ok (.isub, 1) := by decide +kernel
theorem dX10_feed_98 : decode cX10_feed 98 = .ok (.ishr, 1) := by decide +kernel
theorem dX10_feed_99 : decode cX10_feed 99 = .ok (.sipush 255, 3) := by decide +kernel
theorem dX10_feed_102 : decode cX10_feed 102 = .ok (.iand, 1) := by decide +kernel
theorem dX10_feed_103 : decode cX10_feed 103 = .ok (.iastore, 1) := by decide +kernel
theorem dX10_feed_104 : decode cX10_feed 104 = .ok (.aload_n 0, 1) := by decide +kernel
theorem dX10_feed_105 : decode cX10_feed 105 = .ok (.dup, 1) := by decide +kernel
theorem dX10_feed_106 : decode cX10_feed 106 = .ok (.getfield 144, 3) := by decide +kernel
theorem dX10_feed_109 : decode cX10_feed 109 = .ok (.iconst 1, 1) := by decide +kernel
theorem dX10_feed_110 : decode cX10_feed 110 = .ok (.iadd, 1) := by decide +kernel
theorem dX10_feed_111 : decode cX10_feed 111 = .ok (.putfield 144, 3) := by decide +kernel
theorem dX10_feed_114 : decode cX10_feed 114 = .ok (.iinc 6 1, 3) := by decide +kernel
theorem dX10_feed_117 : decode cX10_feed 117 = .ok (.goto (-94), 3) := by decide +kernel
theorem dX10_feed_120 : decode cX10_feed 120 = .ok (.aload_n 0, 1) := by decide +kernel
theorem dX10_feed_121 : decode cX10_feed 121 = .ok (.getfield 144, 3) := by decide +kernel
theorem dX10_feed_124 : decode cX10_feed 124 = .ok (.ireturn, 1) := by decide +kernel
theorem dX10_fine_0 : decode cX10_fine 0 = .ok (.aload_n 0, 1) := by decide +kernel
theorem dX10_fine_1 : decode cX10_fine 1 = .ok (.getfield 147, 3) := by decide +kernel
theorem dX10_fine_4 : decode cX10_fine 4 = .ok (.iconst (-1), 1) := by decide +kernel
theorem dX10_fine_5 : decode cX10_fine 5 = .ok (.if_icmp .ne 7, 3) := by decide +kernel
theorem dX10_fine_8 : decode cX10_fine 8 = .ok (.iconst 1, 1) := by decide +kernel
theorem dX10_fine_9 : decode cX10_fine 9 = .ok (.goto 4, 3) := by decide +kernel
theorem dX10_fine_12 : decode cX10_fine 12 = .ok (.iconst 0, 1) := by decide +kernel
theorem dX10_fine_13 : decode cX10_fine 13 = .ok (.ireturn, 1) := by decide +kernel
theorem dX10_wrong_0 : decode cX10_wrong 0 = .ok (.aload_n 0, 1) := by decide +kernel
theorem dX10_wrong_1 : decode cX10_wrong 1 = .ok (.getfield 147, 3) := by decide +kernel
theorem dX10_wrong_4 : decode cX10_wrong 4 = .ok (.iconst (-1), 1) := by decide +kernel
theorem dX10_wrong_5 : decode cX10_wrong 5 = .ok (.if_icmp .eq 4, 3) := by decide +kernel
theorem dX10_wrong_8 : decode cX10_wrong 8 = .ok (.return_, 1) := by decide +kernel
theorem dX10_wrong_9 : decode cX10_wrong 9 = .ok (.aload_n 0, 1) := by decide +kernel
theorem dX10_wrong_10 : decode cX10_wrong 10 = .ok (.iload_n 2, 1) := by decide +kernel
theorem dX10_wrong_11 : decode cX10_wrong 11 = .ok (.putfield 147, 3) := by decide +kernel
theorem dX10_wrong_14 : decode cX10_wrong 14 = .ok (.aload_n 0, 1) := by decide +kernel
theorem dX10_wrong_15 : decode cX10_wrong 15 = .ok (.iload_n 1, 1) := by decide +kernel
theorem dX10_wrong_16 : decode cX10_wrong 16 = .ok (.putfield 150, 3) := by decide +kernel
theorem dX10_wrong_19 : decode cX10_wrong 19 = .ok (.return_, 1) := by decide +kernel
theorem dX10_here_0 : decode cX10_here 0 = .ok (.aload_n 0, 1) := by decide +kernel
theorem dX10_here_1 : decode cX10_here 1 = .ok (.getfield 153, 3) := by decide +kernel
theorem dX10_here_4 : decode cX10_here 4 = .ok (.aload_n 0, 1) := by decide +kernel
theorem dX10_here_5 : decode cX10_here 5 = .ok (.getfield 156, 3) := by decide +kernel
theorem dX10_here_8 : decode cX10_here 8 = .ok (.if_icmp .ge 30, 3) := by decide +kernel
theorem dX10_here_11 : decode cX10_here 11 = .ok (.aload_n 0, 1) := by decide +kernel
theorem dX10_here_12 : decode cX10_here 12 = .ok (.getfield 20, 3) := by decide +kernel
theorem dX10_here_15 : decode cX10_here 15 = .ok (.aload_n 0, 1) := by decide +kernel
theorem dX10_here_16 : decode cX10_here 16 = .ok (.getfield 153, 3) := by decide +kernel
theorem dX10_here_19 : decode cX10_here 19 = .ok (.iaload, 1) := by decide +kernel
theorem dX10_here_20 : decode cX10_here 20 = .ok (.bipush 32, 2) := by decide +kernel
theorem dX10_here_22 : decode cX10_here 22 = .ok (.if_icmp .ne 16, 3) := by decide +kernel
theorem dX10_here_25 : decode cX10_here 25 = .ok (.aload_n 0, 1) := by decide +kernel
theorem dX10_here_26 : decode cX10_here 26 = .ok (.dup, 1) := by decide +kernel
theorem dX10_here_27 : decode cX10_here 27 = .ok (.getfield 153, 3) := by decide +kernel
theorem dX10_here_30 : decode cX10_here 30 = .ok (.iconst 1, 1) := by decide +kernel
theorem dX10_here_31 : decode cX10_here 31 = .ok (.iadd, 1) := by decide +kernel
theorem dX10_here_32 : decode cX10_here 32 = .ok (.putfield 153, 3) := by decide +kernel
theorem dX10_here_35 : decode cX10_here 35 = .ok (.goto (-35), 3) := by decide +kernel
theorem dX10_here_38 : decode cX10_here 38 = .ok (.aload_n 0, 1) := by decide +kernel
theorem dX10_here_39 : decode cX10_here 39 = .ok (.getfield 153, 3) := by decide +kernel
theorem dX10_here_42 : decode cX10_here 42 = .ok (.aload_n 0, 1) := by decide +kernel
theorem dX10_here_43 : decode cX10_here 43 = .ok (.getfield 156, 3) := by decide +kernel
theorem dX10_here_46 : decode cX10_here 46 = .ok (.if_icmp .ge 15, 3) := by decide +kernel
theorem dX10_here_49 : decode cX10_here 49 = .ok (.aload_n 0, 1) := by decide +kernel
theorem dX10_here_50 : decode cX10_here 50 = .ok (.getfield 20, 3) := by decide +kernel
theorem dX10_here_53 : decode cX10_here 53 = .ok (.aload_n 0, 1) := by decide +kernel
theorem dX10_here_54 : decode cX10_here 54 = .ok (.getfield 153, 3) := by decide +kernel
theorem dX10_here_57 : decode cX10_here 57 = .ok (.iaload, 1) := by decide +kernel
theorem dX10_here_58 : decode cX10_here 58 = .ok (.goto 4, 3) := by decide +kernel
theorem dX10_here_61 : decode cX10_here 61 = .ok (.iconst 0, 1) := by decide +kernel
theorem dX10_here_62 : decode cX10_here 62 = .ok (.ireturn, 1) := by decide +kernel
theorem dX10_isSmall_0 : decode cX10_isSmall 0 = .ok (.iload_n 0, 1) := by decide +kernel
theorem dX10_isSmall_1 : decode cX10_isSmall 1 = .ok (.bipush 97, 2) := by decide +kernel
theorem dX10_isSmall_3 : decode cX10_isSmall 3 = .ok (.if_icmp .lt 13, 3) := by decide +kernel
theorem dX10_isSmall_6 : decode cX10_isSmall 6 = .ok (.iload_n 0, 1) := by decide +kernel
theorem dX10_isSmall_7 : decode cX10_isSmall 7 = .ok (.bipush 122, 2) := by decide +kernel
theorem dX10_isSmall_9 : decode cX10_isSmall 9 = .ok (.if_icmp .gt 7, 3) := by decide +kernel
theorem dX10_isSmall_12 : decode cX10_isSmall 12 = .ok (.iconst 1, 1) := by decide +kernel
theorem dX10_isSmall_13 : decode cX10_isSmall 13 = .ok (.goto 4, 3) := by decide +kernel
theorem dX10_isSmall_16 : decode cX10_isSmall 16 = .ok (.iconst 0, 1) := by decide +kernel
theorem dX10_isSmall_17 : decode cX10_isSmall 17 = .ok (.ireturn, 1) := by decide +kernel
theorem dX10_isDigit_0 : decode cX10_isDigit 0 = .ok (.iload_n 0, 1) := by decide +kernel
theorem dX10_isDigit_1 : decode cX10_isDigit 1 = .ok (.bipush 48, 2) := by decide +kernel
theorem dX10_isDigit_3 : decode cX10_isDigit 3 = .ok (.if_icmp .lt 13, 3) := by decide +kernel
theorem dX10_isDigit_6 : decode cX10_isDigit 6 = .ok (.iload_n 0, 1) := by decide +kernel
theorem dX10_isDigit_7 : decode cX10_isDigit 7 = .ok (.bipush 57, 2) := by decide +kernel
theorem dX10_isDigit_9 : decode cX10_isDigit 9 = .ok (.if_icmp .gt 7, 3) := by decide +kernel
theorem dX10_isDigit_12 : decode cX10_isDigit 12 = .ok (.iconst 1, 1) := by decide +kernel
theorem dX10_isDigit_13 : decode cX10_isDigit 13 = .ok (.goto 4, 3) := by decide +kernel
theorem dX10_isDigit_16 : decode cX10_isDigit 16 = .ok (.iconst 0, 1) := by decide +kernel
theorem dX10_isDigit_17 : decode cX10_isDigit 17 = .ok (.ireturn, 1) := by decide +kernel
theorem dX10_word_0 : decode cX10_word 0 = .ok (.aload_n 0, 1) := by decide +kernel
theorem dX10_word_1 : decode cX10_word 1 = .ok (.invokevirtual 159, 3) := by decide +kernel
theorem dX10_word_4 : decode cX10_word 4 = .ok (.pop, 1) := by decide +kernel
theorem dX10_word_5 : decode cX10_word 5 = .ok (.iconst 0, 1) := by decide +kernel
theorem dX10_word_6 : decode cX10_word 6 = .ok (.istore_n 1, 1) := by decide +kernel
theorem dX10_word_7 : decode cX10_word 7 = .ok (.iconst 0, 1) := by decide +kernel
theorem dX10_word_8 : decode cX10_word 8 = .ok (.istore_n 2, 1) := by decide +kernel
theorem dX10_word_9 : decode cX10_word 9 = .ok (.aload_n 0, 1) := by decide +kernel
theorem dX10_word_10 : decode cX10_word 10 = .ok (.getfield 153, 3) := by decide +kernel
theorem dX10_word_13 : decode cX10_word 13 = .ok (.istore_n 3, 1) := by decide +kernel
theorem dX10_word_14 : decode cX10_word 14 = .ok (.iload_n 3, 1) := by decide +kernel
theorem dX10_word_15 : decode cX10_word 15 = .ok (.aload_n 0, 1) := by decide +kernel
theorem dX10_word_16 : decode cX10_word 16 = .ok (.getfield 156, 3) := by decide +kernel
theorem dX10_word_19 : decode cX10_word 19 = .ok (.if_icmp .ge 48, 3) := by decide +kernel
theorem dX10_word_22 : decode cX10_word 22 = .ok (.aload_n 0, 1) := by decide +kernel
theorem dX10_word_23 : decode cX10_word 23 = .ok (.getfield 20, 3) := by decide +kernel
theorem dX10_word_26 : decode cX10_word 26 = .ok (.iload_n 3, 1) := by decide +kernel
theorem dX10_word_27 : decode cX10_word 27 = .ok (.iaload, 1) := by decide +kernel
theorem dX10_word_28 : decode cX10_word 28 = .ok (.invokestatic 163, 3) := by decide +kernel
theorem dX10_word_31 : decode cX10_word 31 = .ok (.ifCond .eq 36, 3) := by decide +kernel
theorem dX10_word_34 : decode cX10_word 34 = .ok (.iload_n 2, 1) := by decide +kernel
theorem dX10_word_35 : decode cX10_word 35 = .ok (.bipush 6, 2) := by decide +kernel
theorem dX10_word_37 : decode cX10_word 37 = .ok (.if_icmp .ge 19, 3) := by decide +kernel
theorem dX10_word_40 : decode cX10_word 40 = .ok (.iload_n 1, 1) := by decide +kernel
theorem dX10_word_41 : decode cX10_word 41 = .ok (.iconst 5, 1) := by decide +kernel
theorem dX10_word_42 : decode cX10_word 42 = .ok (.ishl, 1) := by decide +kernel
theorem dX10_word_43 : decode cX10_word 43 = .ok (.aload_n 0, 1) := by decide +kernel
theorem dX10_word_44 : decode cX10_word 44 = .ok (.getfield 20, 3) := by decide +kernel
theorem dX10_word_47 : decode cX10_word 47 = .ok (.iload_n 3, 1) := by decide +kernel
theorem dX10_word_48 : decode cX10_word 48 = .ok (.iaload, 1) := by decide +kernel
theorem dX10_word_49 : decode cX10_word 49 = .ok (.bipush 96, 2) := by decide +kernel
theorem dX10_word_51 : decode cX10_word 51 = .ok (.isub, 1) := by decide +kernel
theorem dX10_word_52 : decode cX10_word 52 = .ok (.ior, 1) := by decide +kernel
theorem dX10_word_53 : decode cX10_word 53 = .ok (.goto 4, 3) := by decide +kernel
theorem dX10_word_56 : decode cX10_word 56 = .ok (.iconst 0, 1) := by decide +kernel
theorem dX10_word_57 : decode cX10_word 57 = .ok (.istore_n 1, 1) := by decide +kernel
theorem dX10_word_58 : decode cX10_word 58 = .ok (.iinc 2 1, 3) := by decide +kernel
theorem dX10_word_61 : decode cX10_word 61 = .ok (.iinc 3 1, 3) := by decide +kernel
theorem dX10_word_64 : decode cX10_word 64 = .ok (.goto (-50), 3) := by decide +kernel
theorem dX10_word_67 : decode cX10_word 67 = .ok (.iload_n 2, 1) := by decide +kernel
theorem dX10_word_68 : decode cX10_word 68 = .ok (.bipush 6, 2) := by decide +kernel
theorem dX10_word_70 : decode cX10_word 70 = .ok (.if_icmp .le 7, 3) := by decide +kernel
theorem dX10_word_73 : decode cX10_word 73 = .ok (.iconst 0, 1) := by decide +kernel
theorem dX10_word_74 : decode cX10_word 74 = .ok (.goto 4, 3) := by decide +kernel
theorem dX10_word_77 : decode cX10_word 77 = .ok (.iload_n 1, 1) := by decide +kernel
theorem dX10_word_78 : decode cX10_word 78 = .ok (.ireturn, 1) := by decide +kernel
theorem dX10_of_0 : decode cX10_of 0 = .ok (.iconst 0, 1) := by decide +kernel
theorem dX10_of_1 : decode cX10_of 1 = .ok (.istore_n 1, 1) := by decide +kernel
theorem dX10_of_2 : decode cX10_of 2 = .ok (.iconst 0, 1) := by decide +kernel
theorem dX10_of_3 : decode cX10_of 3 = .ok (.istore_n 2, 1) := by decide +kernel
theorem dX10_of_4 : decode cX10_of 4 = .ok (.iload_n 2, 1) := by decide +kernel
theorem dX10_of_5 : decode cX10_of 5 = .ok (.aload_n 0, 1) := by decide +kernel
theorem dX10_of_6 : decode cX10_of 6 = .ok (.invokevirtual 167, 3) := by decide +kernel
theorem dX10_of_9 : decode cX10_of 9 = .ok (.if_icmp .ge 22, 3) := by decide +kernel
theorem dX10_of_12 : decode cX10_of 12 = .ok (.iload_n 1, 1) := by decide +kernel
theorem dX10_of_13 : decode cX10_of 13 = .ok (.iconst 5, 1) := by decide +kernel
theorem dX10_of_14 : decode cX10_of 14 = .ok (.ishl, 1) := by decide +kernel
theorem dX10_of_15 : decode cX10_of 15 = .ok (.aload_n 0, 1) := by decide +kernel
theorem dX10_of_16 : decode cX10_of 16 = .ok (.iload_n 2, 1) := by decide +kernel
theorem dX10_of_17 : decode cX10_of 17 = .ok (.invokevirtual 172, 3) := by decide +kernel
theorem dX10_of_20 : decode cX10_of 20 = .ok (.bipush 96, 2) := by decide +kernel
theorem dX10_of_22 : decode cX10_of 22 = .ok (.isub, 1) := by decide +kernel
theorem dX10_of_23 : decode cX10_of 23 = .ok (.ior, 1) := by decide +kernel
theorem dX10_of_24 : decode cX10_of 24 = .ok (.istore_n 1, 1) := by decide +kernel
theorem dX10_of_25 : decode cX10_of 25 = .ok (.iinc 2 1, 3) := by decide +kernel
theorem dX10_of_28 : decode cX10_of 28 = .ok (.goto (-24), 3) := by decide +kernel
theorem dX10_of_31 : decode cX10_of 31 = .ok (.iload_n 1, 1) := by decide +kernel
theorem dX10_of_32 : decode cX10_of 32 = .ok (.ireturn, 1) := by decide +kernel
theorem dX10_pass_0 : decode cX10_pass 0 = .ok (.aload_n 0, 1) := by decide +kernel
theorem dX10_pass_1 : decode cX10_pass 1 = .ok (.getfield 153, 3) := by decide +kernel
theorem dX10_pass_4 : decode cX10_pass 4 = .ok (.aload_n 0, 1) := by decide +kernel
theorem dX10_pass_5 : decode cX10_pass 5 = .ok (.getfield 156, 3) := by decide +kernel
theorem dX10_pass_8 : decode cX10_pass 8 = .ok (.if_icmp .ge 31, 3) := by decide +kernel
theorem dX10_pass_11 : decode cX10_pass 11 = .ok (.aload_n 0, 1) := by decide +kernel
theorem dX10_pass_12 : decode cX10_pass 12 = .ok (.getfield 20, 3) := by decide +kernel
theorem dX10_pass_15 : decode cX10_pass 15 = .ok (.aload_n 0, 1) := by decide +kernel
theorem dX10_pass_16 : decode cX10_pass 16 = .ok (.getfield 153, 3) := by decide +kernel
theorem dX10_pass_19 : decode cX10_pass 19 = .ok (.iaload, 1) := by decide +kernel
theorem dX10_pass_20 : decode cX10_pass 20 = .ok (.invokestatic 163, 3) := by decide +kernel
theorem dX10_pass_23 : decode cX10_pass 23 = .ok (.ifCond .eq 16, 3) := by decide +kernel
theorem dX10_pass_26 : decode cX10_pass 26 = .ok (.aload_n 0, 1) := by decide +kernel
theorem dX10_pass_27 : decode cX10_pass 27 = .ok (.dup, 1) := by decide +kernel
theorem dX10_pass_28 : decode cX10_pass 28 = .ok (.getfield 153, 3) := by decide +kernel
theorem dX10_pass_31 : decode cX10_pass 31 = .ok (.iconst 1, 1) := by decide +kernel
theorem dX10_pass_32 : decode cX10_pass 32 = .ok (.iadd, 1) := by decide +kernel
theorem dX10_pass_33 : decode cX10_pass 33 = .ok (.putfield 153, 3) := by decide +kernel
theorem dX10_pass_36 : decode cX10_pass 36 = .ok (.goto (-36), 3) := by decide +kernel
theorem dX10_pass_39 : decode cX10_pass 39 = .ok (.return_, 1) := by decide +kernel
theorem dX10_readNumber_0 : decode cX10_readNumber 0 = .ok (.aload_n 0, 1) := by decide +kernel
theorem dX10_readNumber_1 : decode cX10_readNumber 1 = .ok (.invokevirtual 176, 3) := by decide +kernel
theorem dX10_readNumber_4 : decode cX10_readNumber 4 = .ok (.ifCond .ne 5, 3) := by decide +kernel
theorem dX10_readNumber_7 : decode cX10_readNumber 7 = .ok (.iconst 0, 1) := by decide +kernel
theorem dX10_readNumber_8 : decode cX10_readNumber 8 = .ok (.ireturn, 1) := by decide +kernel
theorem dX10_readNumber_9 : decode cX10_readNumber 9 = .ok (.aload_n 0, 1) := by decide +kernel
theorem dX10_readNumber_10 : decode cX10_readNumber 10 = .ok (.invokevirtual 159, 3) := by decide +kernel
theorem dX10_readNumber_13 : decode cX10_readNumber 13 = .ok (.istore_n 3, 1) := by decide +kernel
theorem dX10_readNumber_14 : decode cX10_readNumber 14 = .ok (.aload_n 0, 1) := by decide +kernel
theorem dX10_readNumber_15 : decode cX10_readNumber 15 = .ok (.getfield 153, 3) := by decide +kernel
theorem dX10_readNumber_18 : decode cX10_readNumber 18 = .ok (.istore 4, 2) := by decide +kernel
theorem dX10_readNumber_20 : decode cX10_readNumber 20 = .ok (.iconst 0, 1) := by decide +kernel
theorem dX10_readNumber_21 : decode cX10_readNumber 21 = .ok (.istore 5, 2) := by decide +kernel
theorem dX10_readNumber_23 : decode cX10_readNumber 23 = .ok (.iload_n 3, 1) := by decide +kernel
theorem dX10_readNumber_24 : decode cX10_readNumber 24 = .ok (.invokestatic 180, 3) := by decide +kernel
theorem dX10_readNumber_27 : decode cX10_readNumber 27 = .ok (.ifCond .ne 14, 3) := by decide +kernel
theorem dX10_readNumber_30 : decode cX10_readNumber 30 = .ok (.aload_n 0, 1) := by decide +kernel
theorem dX10_readNumber_31 : decode cX10_readNumber 31 = .ok (.iconst 1, 1) := by decide +kernel
theorem dX10_readNumber_32 : decode cX10_readNumber 32 = .ok (.aload_n 0, 1) := by decide +kernel
theorem dX10_readNumber_33 : decode cX10_readNumber 33 = .ok (.getfield 153, 3) := by decide +kernel
theorem dX10_readNumber_36 : decode cX10_readNumber 36 = .ok (.invokevirtual 183, 3) := by decide +kernel
theorem dX10_readNumber_39 : decode cX10_readNumber 39 = .ok (.iconst 0, 1) := by decide +kernel
theorem dX10_readNumber_40 : decode cX10_readNumber 40 = .ok (.ireturn, 1) := by decide +kernel
theorem dX10_readNumber_41 : decode cX10_readNumber 41 = .ok (.aload_n 0, 1) := by decide +kernel
theorem dX10_readNumber_42 : decode cX10_readNumber 42 = .ok (.getfield 153, 3) := by decide +kernel
theorem dX10_readNumber_45 : decode cX10_readNumber 45 = .ok (.aload_n 0, 1) := by decide +kernel
theorem dX10_readNumber_46 : decode cX10_readNumber 46 = .ok (.getfield 156, 3) := by decide +kernel
theorem dX10_readNumber_49 : decode cX10_readNumber 49 = .ok (.if_icmp .ge 65, 3) := by decide +kernel
theorem dX10_readNumber_52 : decode cX10_readNumber 52 = .ok (.aload_n 0, 1) := by decide +kernel
theorem dX10_readNumber_53 : decode cX10_readNumber 53 = .ok (.getfield 20, 3) := by decide +kernel
theorem dX10_readNumber_56 : decode cX10_readNumber 56 = .ok (.aload_n 0, 1) := by decide +kernel
theorem dX10_readNumber_57 : decode cX10_readNumber 57 = .ok (.getfield 153, 3) := by decide +kernel
theorem dX10_readNumber_60 : decode cX10_readNumber 60 = .ok (.iaload, 1) := by decide +kernel
theorem dX10_readNumber_61 : decode cX10_readNumber 61 = .ok (.invokestatic 180, 3) := by decide +kernel
theorem dX10_readNumber_64 : decode cX10_readNumber 64 = .ok (.ifCond .eq 50, 3) := by decide +kernel
theorem dX10_readNumber_67 : decode cX10_readNumber 67 = .ok (.iload 5, 2) := by decide +kernel
theorem dX10_readNumber_69 : decode cX10_readNumber 69 = .ok (.sipush 9999, 3) := by decide +kernel
theorem dX10_readNumber_72 : decode cX10_readNumber 72 = .ok (.if_icmp .le 9, 3) := by decide +kernel
theorem dX10_readNumber_75 : decode cX10_readNumber 75 = .ok (.sipush 10000, 3) := by decide +kernel
theorem dX10_readNumber_78 : decode cX10_readNumber 78 = .ok (.goto 21, 3) := by decide +kernel
theorem dX10_readNumber_81 : decode cX10_readNumber 81 = .ok (.bipush 10, 2) := by decide +kernel
theorem dX10_readNumber_83 : decode cX10_readNumber 83 = .ok (.iload 5, 2) := by decide +kernel
theorem dX10_readNumber_85 : decode cX10_readNumber 85 = .ok (.imul, 1) := by decide +kernel
theorem dX10_readNumber_86 : decode cX10_readNumber 86 = .ok (.aload_n 0, 1) := by decide +kernel
theorem dX10_readNumber_87 : decode cX10_readNumber 87 = .ok (.getfield 20, 3) := by decide +kernel
theorem dX10_readNumber_90 : decode cX10_readNumber 90 = .ok (.aload_n 0, 1) := by decide +kernel
theorem dX10_readNumber_91 : decode cX10_readNumber 91 = .ok (.getfield 153, 3) := by decide +kernel
theorem dX10_readNumber_94 : decode cX10_readNumber 94 = .ok (.iaload, 1) := by decide +kernel
theorem dX10_readNumber_95 : decode cX10_readNumber 95 = .ok (.iadd, 1) := by decide +kernel
theorem dX10_readNumber_96 : decode cX10_readNumber 96 = .ok (.bipush 48, 2) := by decide +kernel
theorem dX10_readNumber_98 : decode cX10_readNumber 98 = .ok (.isub, 1) := by decide +kernel
theorem dX10_readNumber_99 : decode cX10_readNumber 99 = .ok (.istore 5, 2) := by decide +kernel
theorem dX10_readNumber_101 : decode cX10_readNumber 101 = .ok (.aload_n 0, 1) := by decide +kernel
theorem dX10_readNumber_102 : decode cX10_readNumber 102 = .ok (.dup, 1) := by decide +kernel
theorem dX10_readNumber_103 : decode cX10_readNumber 103 = .ok (.getfield 153, 3) := by decide +kernel
theorem dX10_readNumber_106 : decode cX10_readNumber 106 = .ok (.iconst 1, 1) := by decide +kernel
theorem dX10_readNumber_107 : decode cX10_readNumber 107 = .ok (.iadd, 1) := by decide +kernel
theorem dX10_readNumber_108 : decode cX10_readNumber 108 = .ok (.putfield 153, 3) := by decide +kernel
theorem dX10_readNumber_111 : decode cX10_readNumber 111 = .ok (.goto (-70), 3) := by decide +kernel
theorem dX10_readNumber_114 : decode cX10_readNumber 114 = .ok (.iload 5, 2) := by decide +kernel
theorem dX10_readNumber_116 : decode cX10_readNumber 116 = .ok (.iload_n 1, 1) := by decide +kernel
theorem dX10_readNumber_117 : decode cX10_readNumber 117 = .ok (.if_icmp .lt 9, 3) := by decide +kernel
theorem dX10_readNumber_120 : decode cX10_readNumber 120 = .ok (.iload 5, 2) := by decide +kernel
theorem dX10_readNumber_122 : decode cX10_readNumber 122 = .ok (.iload_n 2, 1) := by decide +kernel
theorem dX10_readNumber_123 : decode cX10_readNumber 123 = .ok (.if_icmp .le 12, 3) := by decide +kernel
theorem dX10_readNumber_126 : decode cX10_readNumber 126 = .ok (.aload_n 0, 1) := by decide +kernel
theorem dX10_readNumber_127 : decode cX10_readNumber 127 = .ok (.iconst 2, 1) := by decide +kernel
theorem dX10_readNumber_128 : decode cX10_readNumber 128 = .ok (.iload 4, 2) := by decide +kernel
theorem dX10_readNumber_130 : decode cX10_readNumber 130 = .ok (.invokevirtual 183, 3) := by decide +kernel
theorem dX10_readNumber_133 : decode cX10_readNumber 133 = .ok (.iconst 0, 1) := by decide +kernel
theorem dX10_readNumber_134 : decode cX10_readNumber 134 = .ok (.ireturn, 1) := by decide +kernel
theorem dX10_readNumber_135 : decode cX10_readNumber 135 = .ok (.iload 5, 2) := by decide +kernel
theorem dX10_readNumber_137 : decode cX10_readNumber 137 = .ok (.ireturn, 1) := by decide +kernel
theorem dX10_sign_0 : decode cX10_sign 0 = .ok (.aload_n 0, 1) := by decide +kernel
theorem dX10_sign_1 : decode cX10_sign 1 = .ok (.invokevirtual 176, 3) := by decide +kernel
theorem dX10_sign_4 : decode cX10_sign 4 = .ok (.ifCond .eq 20, 3) := by decide +kernel
theorem dX10_sign_7 : decode cX10_sign 7 = .ok (.aload_n 0, 1) := by decide +kernel
theorem dX10_sign_8 : decode cX10_sign 8 = .ok (.invokevirtual 159, 3) := by decide +kernel
theorem dX10_sign_11 : decode cX10_sign 11 = .ok (.iload_n 1, 1) := by decide +kernel
theorem dX10_sign_12 : decode cX10_sign 12 = .ok (.if_icmp .eq 12, 3) := by decide +kernel
theorem dX10_sign_15 : decode cX10_sign 15 = .ok (.aload_n 0, 1) := by decide +kernel
theorem dX10_sign_16 : decode cX10_sign 16 = .ok (.iconst 1, 1) := by decide +kernel
theorem dX10_sign_17 : decode cX10_sign 17 = .ok (.aload_n 0, 1) := by decide +kernel
theorem dX10_sign_18 : decode cX10_sign 18 = .ok (.getfield 153, 3) := by decide +kernel
theorem dX10_sign_21 : decode cX10_sign 21 = .ok (.invokevirtual 183, 3) := by decide +kernel
theorem dX10_sign_24 : decode cX10_sign 24 = .ok (.aload_n 0, 1) := by decide +kernel
theorem dX10_sign_25 : decode cX10_sign 25 = .ok (.invokevirtual 176, 3) := by decide +kernel
theorem dX10_sign_28 : decode cX10_sign 28 = .ok (.ifCond .eq 13, 3) := by decide +kernel
theorem dX10_sign_31 : decode cX10_sign 31 = .ok (.aload_n 0, 1) := by decide +kernel
theorem dX10_sign_32 : decode cX10_sign 32 = .ok (.dup, 1) := by decide +kernel
theorem dX10_sign_33 : decode cX10_sign 33 = .ok (.getfield 153, 3) := by decide +kernel
theorem dX10_sign_36 : decode cX10_sign 36 = .ok (.iconst 1, 1) := by decide +kernel
theorem dX10_sign_37 : decode cX10_sign 37 = .ok (.iadd, 1) := by decide +kernel
theorem dX10_sign_38 : decode cX10_sign 38 = .ok (.putfield 153, 3) := by decide +kernel
theorem dX10_sign_41 : decode cX10_sign 41 = .ok (.return_, 1) := by decide +kernel
theorem dX10_isMore_0 : decode cX10_isMore 0 = .ok (.aload_n 0, 1) := by decide +kernel
theorem dX10_isMore_1 : decode cX10_isMore 1 = .ok (.invokevirtual 159, 3) := by decide +kernel
theorem dX10_isMore_4 : decode cX10_isMore 4 = .ok (.pop, 1) := by decide +kernel
theorem dX10_isMore_5 : decode cX10_isMore 5 = .ok (.aload_n 0, 1) := by decide +kernel
theorem dX10_isMore_6 : decode cX10_isMore 6 = .ok (.getfield 153, 3) := by decide +kernel
theorem dX10_isMore_9 : decode cX10_isMore 9 = .ok (.aload_n 0, 1) := by decide +kernel
theorem dX10_isMore_10 : decode cX10_isMore 10 = .ok (.getfield 156, 3) := by decide +kernel
theorem dX10_isMore_13 : decode cX10_isMore 13 = .ok (.if_icmp .ge 7, 3) := by decide +kernel
theorem dX10_isMore_16 : decode cX10_isMore 16 = .ok (.iconst 1, 1) := by decide +kernel
theorem dX10_isMore_17 : decode cX10_isMore 17 = .ok (.goto 4, 3) := by decide +kernel
theorem dX10_isMore_20 : decode cX10_isMore 20 = .ok (.iconst 0, 1) := by decide +kernel
theorem dX10_isMore_21 : decode cX10_isMore 21 = .ok (.ireturn, 1) := by decide +kernel
theorem dX10_begins_0 : decode cX10_begins 0 = .ok (.aload_n 0, 1) := by decide +kernel
theorem dX10_begins_1 : decode cX10_begins 1 = .ok (.iconst 0, 1) := by decide +kernel
theorem dX10_begins_2 : decode cX10_begins 2 = .ok (.putfield 144, 3) := by decide +kernel
theorem dX10_begins_5 : decode cX10_begins 5 = .ok (.aload_n 0, 1) := by decide +kernel
theorem dX10_begins_6 : decode cX10_begins 6 = .ok (.iconst (-1), 1) := by decide +kernel
theorem dX10_begins_7 : decode cX10_begins 7 = .ok (.putfield 17, 3) := by decide +kernel
theorem dX10_begins_10 : decode cX10_begins 10 = .ok (.aload_n 0, 1) := by decide +kernel
theorem dX10_begins_11 : decode cX10_begins 11 = .ok (.iload_n 1, 1) := by decide +kernel
theorem dX10_begins_12 : decode cX10_begins 12 = .ok (.putfield 156, 3) := by decide +kernel
theorem dX10_begins_15 : decode cX10_begins 15 = .ok (.aload_n 0, 1) := by decide +kernel
theorem dX10_begins_16 : decode cX10_begins 16 = .ok (.iconst 0, 1) := by decide +kernel
theorem dX10_begins_17 : decode cX10_begins 17 = .ok (.putfield 153, 3) := by decide +kernel
theorem dX10_begins_20 : decode cX10_begins 20 = .ok (.aload_n 0, 1) := by decide +kernel
theorem dX10_begins_21 : decode cX10_begins 21 = .ok (.iconst (-1), 1) := by decide +kernel
theorem dX10_begins_22 : decode cX10_begins 22 = .ok (.putfield 147, 3) := by decide +kernel
theorem dX10_begins_25 : decode cX10_begins 25 = .ok (.aload_n 0, 1) := by decide +kernel
theorem dX10_begins_26 : decode cX10_begins 26 = .ok (.iconst 0, 1) := by decide +kernel
theorem dX10_begins_27 : decode cX10_begins 27 = .ok (.putfield 187, 3) := by decide +kernel
theorem dX10_begins_30 : decode cX10_begins 30 = .ok (.return_, 1) := by decide +kernel
theorem dX10_result_0 : decode cX10_result 0 = .ok (.aload_n 0, 1) := by decide +kernel
theorem dX10_result_1 : decode cX10_result 1 = .ok (.aload_n 0, 1) := by decide +kernel
theorem dX10_result_2 : decode cX10_result 2 = .ok (.getfield 147, 3) := by decide +kernel
theorem dX10_result_5 : decode cX10_result 5 = .ok (.putfield 17, 3) := by decide +kernel
theorem dX10_result_8 : decode cX10_result 8 = .ok (.aload_n 0, 1) := by decide +kernel
theorem dX10_result_9 : decode cX10_result 9 = .ok (.invokevirtual 176, 3) := by decide +kernel
theorem dX10_result_12 : decode cX10_result 12 = .ok (.ifCond .eq 7, 3) := by decide +kernel
theorem dX10_result_15 : decode cX10_result 15 = .ok (.iload_n 1, 1) := by decide +kernel
theorem dX10_result_16 : decode cX10_result 16 = .ok (.goto 10, 3) := by decide +kernel
theorem dX10_result_19 : decode cX10_result 19 = .ok (.aload_n 0, 1) := by decide +kernel
theorem dX10_result_20 : decode cX10_result 20 = .ok (.getfield 150, 3) := by decide +kernel
theorem dX10_result_23 : decode cX10_result 23 = .ok (.bipush 10, 2) := by decide +kernel
theorem dX10_result_25 : decode cX10_result 25 = .ok (.isub, 1) := by decide +kernel
theorem dX10_result_26 : decode cX10_result 26 = .ok (.ireturn, 1) := by decide +kernel
theorem dX10_fault_0 : decode cX10_fault 0 = .ok (.aload_n 0, 1) := by decide +kernel
theorem dX10_fault_1 : decode cX10_fault 1 = .ok (.iconst 0, 1) := by decide +kernel
theorem dX10_fault_2 : decode cX10_fault 2 = .ok (.putfield 3, 3) := by decide +kernel
theorem dX10_fault_5 : decode cX10_fault 5 = .ok (.aload_n 0, 1) := by decide +kernel
theorem dX10_fault_6 : decode cX10_fault 6 = .ok (.getfield 17, 3) := by decide +kernel
theorem dX10_fault_9 : decode cX10_fault 9 = .ok (.ireturn, 1) := by decide +kernel
theorem dX10_clears_0 : decode cX10_clears 0 = .ok (.aload_n 0, 1) := by decide +kernel
theorem dX10_clears_1 : decode cX10_clears 1 = .ok (.iconst 0, 1) := by decide +kernel
theorem dX10_clears_2 : decode cX10_clears 2 = .ok (.putfield 190, 3) := by decide +kernel
theorem dX10_clears_5 : decode cX10_clears 5 = .ok (.aload_n 0, 1) := by decide +kernel
theorem dX10_clears_6 : decode cX10_clears 6 = .ok (.iconst 0, 1) := by decide +kernel
theorem dX10_clears_7 : decode cX10_clears 7 = .ok (.putfield 193, 3) := by decide +kernel
theorem dX10_clears_10 : decode cX10_clears 10 = .ok (.aload_n 0, 1) := by decide +kernel
theorem dX10_clears_11 : decode cX10_clears 11 = .ok (.iconst 0, 1) := by decide +kernel
theorem dX10_clears_12 : decode cX10_clears 12 = .ok (.putfield 196, 3) := by decide +kernel
theorem dX10_clears_15 : decode cX10_clears 15 = .ok (.aload_n 0, 1) := by decide +kernel
theorem dX10_clears_16 : decode cX10_clears 16 = .ok (.iconst 5, 1) := by decide +kernel
theorem dX10_clears_17 : decode cX10_clears 17 = .ok (.putfield 199, 3) := by decide +kernel
theorem dX10_clears_20 : decode cX10_clears 20 = .ok (.iconst 0, 1) := by decide +kernel
theorem dX10_clears_21 : decode cX10_clears 21 = .ok (.istore_n 1, 1) := by decide +kernel
theorem dX10_clears_22 : decode cX10_clears 22 = .ok (.iload_n 1, 1) := by decide +kernel
theorem dX10_clears_23 : decode cX10_clears 23 = .ok (.bipush 24, 2) := by decide +kernel
theorem dX10_clears_25 : decode cX10_clears 25 = .ok (.if_icmp .ge 16, 3) := by decide +kernel
theorem dX10_clears_28 : decode cX10_clears 28 = .ok (.aload_n 0, 1) := by decide +kernel
theorem dX10_clears_29 : decode cX10_clears 29 = .ok (.getfield 62, 3) := by decide +kernel
theorem dX10_clears_32 : decode cX10_clears 32 = .ok (.iload_n 1, 1) := by decide +kernel
theorem dX10_clears_33 : decode cX10_clears 33 = .ok (.iload_n 1, 1) := by decide +kernel
theorem dX10_clears_34 : decode cX10_clears 34 = .ok (.iastore, 1) := by decide +kernel
theorem dX10_clears_35 : decode cX10_clears 35 = .ok (.iinc 1 1, 3) := by decide +kernel
theorem dX10_clears_38 : decode cX10_clears 38 = .ok (.goto (-16), 3) := by decide +kernel
theorem dX10_clears_41 : decode cX10_clears 41 = .ok (.iconst 0, 1) := by decide +kernel
theorem dX10_clears_42 : decode cX10_clears 42 = .ok (.istore_n 1, 1) := by decide +kernel
theorem dX10_clears_43 : decode cX10_clears 43 = .ok (.iload_n 1, 1) := by decide +kernel
theorem dX10_clears_44 : decode cX10_clears 44 = .ok (.bipush 9, 2) := by decide +kernel
theorem dX10_clears_46 : decode cX10_clears 46 = .ok (.if_icmp .ge 26, 3) := by decide +kernel
theorem dX10_clears_49 : decode cX10_clears 49 = .ok (.aload_n 0, 1) := by decide +kernel
theorem dX10_clears_50 : decode cX10_clears 50 = .ok (.getfield 53, 3) := by decide +kernel
theorem dX10_clears_53 : decode cX10_clears 53 = .ok (.iload_n 1, 1) := by decide +kernel
theorem dX10_clears_54 : decode cX10_clears 54 = .ok (.iload_n 1, 1) := by decide +kernel
theorem dX10_clears_55 : decode cX10_clears 55 = .ok (.ifCond .ne 7, 3) := by decide +kernel
theorem dX10_clears_58 : decode cX10_clears 58 = .ok (.iconst 0, 1) := by decide +kernel
theorem dX10_clears_59 : decode cX10_clears 59 = .ok (.goto 6, 3) := by decide +kernel
theorem dX10_clears_62 : decode cX10_clears 62 = .ok (.iload_n 1, 1) := by decide +kernel
theorem dX10_clears_63 : decode cX10_clears 63 = .ok (.iconst 1, 1) := by decide +kernel
theorem dX10_clears_64 : decode cX10_clears 64 = .ok (.isub, 1) := by decide +kernel
theorem dX10_clears_65 : decode cX10_clears 65 = .ok (.iastore, 1) := by decide +kernel
theorem dX10_clears_66 : decode cX10_clears 66 = .ok (.iinc 1 1, 3) := by decide +kernel
theorem dX10_clears_69 : decode cX10_clears 69 = .ok (.goto (-26), 3) := by decide +kernel
theorem dX10_clears_72 : decode cX10_clears 72 = .ok (.iconst 0, 1) := by decide +kernel
theorem dX10_clears_73 : decode cX10_clears 73 = .ok (.istore_n 1, 1) := by decide +kernel
theorem dX10_clears_74 : decode cX10_clears 74 = .ok (.iload_n 1, 1) := by decide +kernel
theorem dX10_clears_75 : decode cX10_clears 75 = .ok (.iconst 4, 1) := by decide +kernel
theorem dX10_clears_76 : decode cX10_clears 76 = .ok (.if_icmp .ge 24, 3) := by decide +kernel
theorem dX10_clears_79 : decode cX10_clears 79 = .ok (.aload_n 0, 1) := by decide +kernel
theorem dX10_clears_80 : decode cX10_clears 80 = .ok (.getfield 56, 3) := by decide +kernel
theorem dX10_clears_83 : decode cX10_clears 83 = .ok (.iload_n 1, 1) := by decide +kernel
theorem dX10_clears_84 : decode cX10_clears 84 = .ok (.iload_n 1, 1) := by decide +kernel
theorem dX10_clears_85 : decode cX10_clears 85 = .ok (.ifCond .ne 7, 3) := by decide +kernel
theorem dX10_clears_88 : decode cX10_clears 88 = .ok (.iconst 1, 1) := by decide +kernel
theorem dX10_clears_89 : decode cX10_clears 89 = .ok (.goto 4, 3) := by decide +kernel
theorem dX10_clears_92 : decode cX10_clears 92 = .ok (.iconst 0, 1) := by decide +kernel
theorem dX10_clears_93 : decode cX10_clears 93 = .ok (.iastore, 1) := by decide +kernel
theorem dX10_clears_94 : decode cX10_clears 94 = .ok (.iinc 1 1, 3) := by decide +kernel
theorem dX10_clears_97 : decode cX10_clears 97 = .ok (.goto (-23), 3) := by decide +kernel
theorem dX10_clears_100 : decode cX10_clears 100 = .ok (.return_, 1) := by decide +kernel
theorem dX10_sets_0 : decode cX10_sets 0 = .ok (.aload_n 0, 1) := by decide +kernel
theorem dX10_sets_1 : decode cX10_sets 1 = .ok (.aload_n 0, 1) := by decide +kernel
theorem dX10_sets_2 : decode cX10_sets 2 = .ok (.getfield 190, 3) := by decide +kernel
theorem dX10_sets_5 : decode cX10_sets 5 = .ok (.putfield 202, 3) := by decide +kernel
theorem dX10_sets_8 : decode cX10_sets 8 = .ok (.aload_n 0, 1) := by decide +kernel
theorem dX10_sets_9 : decode cX10_sets 9 = .ok (.aload_n 0, 1) := by decide +kernel
theorem dX10_sets_10 : decode cX10_sets 10 = .ok (.getfield 193, 3) := by decide +kernel
theorem dX10_sets_13 : decode cX10_sets 13 = .ok (.putfield 205, 3) := by decide +kernel
theorem dX10_sets_16 : decode cX10_sets 16 = .ok (.aload_n 0, 1) := by decide +kernel
theorem dX10_sets_17 : decode cX10_sets 17 = .ok (.aload_n 0, 1) := by decide +kernel
theorem dX10_sets_18 : decode cX10_sets 18 = .ok (.getfield 196, 3) := by decide +kernel
theorem dX10_sets_21 : decode cX10_sets 21 = .ok (.putfield 208, 3) := by decide +kernel
theorem dX10_sets_24 : decode cX10_sets 24 = .ok (.aload_n 0, 1) := by decide +kernel
theorem dX10_sets_25 : decode cX10_sets 25 = .ok (.aload_n 0, 1) := by decide +kernel
theorem dX10_sets_26 : decode cX10_sets 26 = .ok (.getfield 199, 3) := by decide +kernel
theorem dX10_sets_29 : decode cX10_sets 29 = .ok (.putfield 65, 3) := by decide +kernel
theorem dX10_sets_32 : decode cX10_sets 32 = .ok (.iconst 0, 1) := by decide +kernel
theorem dX10_sets_33 : decode cX10_sets 33 = .ok (.istore_n 1, 1) := by decide +kernel
theorem dX10_sets_34 : decode cX10_sets 34 = .ok (.iload_n 1, 1) := by decide +kernel
theorem dX10_sets_35 : decode cX10_sets 35 = .ok (.bipush 8, 2) := by decide +kernel
theorem dX10_sets_37 : decode cX10_sets 37 = .ok (.if_icmp .ge 21, 3) := by decide +kernel
theorem dX10_sets_40 : decode cX10_sets 40 = .ok (.aload_n 0, 1) := by decide +kernel
theorem dX10_sets_41 : decode cX10_sets 41 = .ok (.getfield 23, 3) := by decide +kernel
theorem dX10_sets_44 : decode cX10_sets 44 = .ok (.iload_n 1, 1) := by decide +kernel
theorem dX10_sets_45 : decode cX10_sets 45 = .ok (.aload_n 0, 1) := by decide +kernel
theorem dX10_sets_46 : decode cX10_sets 46 = .ok (.getfield 44, 3) := by decide +kernel
theorem dX10_sets_49 : decode cX10_sets 49 = .ok (.iload_n 1, 1) := by decide +kernel
theorem dX10_sets_50 : decode cX10_sets 50 = .ok (.iaload, 1) := by decide +kernel
theorem dX10_sets_51 : decode cX10_sets 51 = .ok (.iastore, 1) := by decide +kernel
theorem dX10_sets_52 : decode cX10_sets 52 = .ok (.iinc 1 1, 3) := by decide +kernel
theorem dX10_sets_55 : decode cX10_sets 55 = .ok (.goto (-21), 3) := by decide +kernel
theorem dX10_sets_58 : decode cX10_sets 58 = .ok (.iconst 0, 1) := by decide +kernel
theorem dX10_sets_59 : decode cX10_sets 59 = .ok (.istore_n 1, 1) := by decide +kernel
theorem dX10_sets_60 : decode cX10_sets 60 = .ok (.iload_n 1, 1) := by decide +kernel
theorem dX10_sets_61 : decode cX10_sets 61 = .ok (.bipush 72, 2) := by decide +kernel
theorem dX10_sets_63 : decode cX10_sets 63 = .ok (.if_icmp .ge 21, 3) := by decide +kernel
theorem dX10_sets_66 : decode cX10_sets 66 = .ok (.aload_n 0, 1) := by decide +kernel
theorem dX10_sets_67 : decode cX10_sets 67 = .ok (.getfield 26, 3) := by decide +kernel
theorem dX10_sets_70 : decode cX10_sets 70 = .ok (.iload_n 1, 1) := by decide +kernel
theorem dX10_sets_71 : decode cX10_sets 71 = .ok (.aload_n 0, 1) := by decide +kernel
theorem dX10_sets_72 : decode cX10_sets 72 = .ok (.getfield 47, 3) := by decide +kernel
theorem dX10_sets_75 : decode cX10_sets 75 = .ok (.iload_n 1, 1) := by decide +kernel
theorem dX10_sets_76 : decode cX10_sets 76 = .ok (.iaload, 1) := by decide +kernel
theorem dX10_sets_77 : decode cX10_sets 77 = .ok (.iastore, 1) := by decide +kernel
theorem dX10_sets_78 : decode cX10_sets 78 = .ok (.iinc 1 1, 3) := by decide +kernel
theorem dX10_sets_81 : decode cX10_sets 81 = .ok (.goto (-21), 3) := by decide +kernel
theorem dX10_sets_84 : decode cX10_sets 84 = .ok (.iconst 0, 1) := by decide +kernel
theorem dX10_sets_85 : decode cX10_sets 85 = .ok (.istore_n 1, 1) := by decide +kernel
theorem dX10_sets_86 : decode cX10_sets 86 = .ok (.iload_n 1, 1) := by decide +kernel
theorem dX10_sets_87 : decode cX10_sets 87 = .ok (.bipush 36, 2) := by decide +kernel
theorem dX10_sets_89 : decode cX10_sets 89 = .ok (.if_icmp .ge 21, 3) := by decide +kernel
theorem dX10_sets_92 : decode cX10_sets 92 = .ok (.aload_n 0, 1) := by decide +kernel
theorem dX10_sets_93 : decode cX10_sets 93 = .ok (.getfield 29, 3) := by decide +kernel
theorem dX10_sets_96 : decode cX10_sets 96 = .ok (.iload_n 1, 1) := by decide +kernel
theorem dX10_sets_97 : decode cX10_sets 97 = .ok (.aload_n 0, 1) := by decide +kernel
theorem dX10_sets_98 : decode cX10_sets 98 = .ok (.getfield 50, 3) := by decide +kernel
theorem dX10_sets_101 : decode cX10_sets 101 = .ok (.iload_n 1, 1) := by decide +kernel
theorem dX10_sets_102 : decode cX10_sets 102 = .ok (.iaload, 1) := by decide +kernel
theorem dX10_sets_103 : decode cX10_sets 103 = .ok (.iastore, 1) := by decide +kernel
theorem dX10_sets_104 : decode cX10_sets 104 = .ok (.iinc 1 1, 3) := by decide +kernel
theorem dX10_sets_107 : decode cX10_sets 107 = .ok (.goto (-21), 3) := by decide +kernel
theorem dX10_sets_110 : decode cX10_sets 110 = .ok (.iconst 0, 1) := by decide +kernel
theorem dX10_sets_111 : decode cX10_sets 111 = .ok (.istore_n 1, 1) := by decide +kernel
theorem dX10_sets_112 : decode cX10_sets 112 = .ok (.iload_n 1, 1) := by decide +kernel
theorem dX10_sets_113 : decode cX10_sets 113 = .ok (.bipush 9, 2) := by decide +kernel
theorem dX10_sets_115 : decode cX10_sets 115 = .ok (.if_icmp .ge 21, 3) := by decide +kernel
theorem dX10_sets_118 : decode cX10_sets 118 = .ok (.aload_n 0, 1) := by decide +kernel
theorem dX10_sets_119 : decode cX10_sets 119 = .ok (.getfield 32, 3) := by decide +kernel
theorem dX10_sets_122 : decode cX10_sets 122 = .ok (.iload_n 1, 1) := by decide +kernel
theorem dX10_sets_123 : decode cX10_sets 123 = .ok (.aload_n 0, 1) := by decide +kernel
theorem dX10_sets_124 : decode cX10_sets 124 = .ok (.getfield 53, 3) := by decide +kernel
theorem dX10_sets_127 : decode cX10_sets 127 = .ok (.iload_n 1, 1) := by decide +kernel
theorem dX10_sets_128 : decode cX10_sets 128 = .ok (.iaload, 1) := by decide +kernel
theorem dX10_sets_129 : decode cX10_sets 129 = .ok (.iastore, 1) := by decide +kernel
theorem dX10_sets_130 : decode cX10_sets 130 = .ok (.iinc 1 1, 3) := by decide +kernel
theorem dX10_sets_133 : decode cX10_sets 133 = .ok (.goto (-21), 3) := by decide +kernel
theorem dX10_sets_136 : decode cX10_sets 136 = .ok (.iconst 0, 1) := by decide +kernel
theorem dX10_sets_137 : decode cX10_sets 137 = .ok (.istore_n 1, 1) := by decide +kernel
theorem dX10_sets_138 : decode cX10_sets 138 = .ok (.iload_n 1, 1) := by decide +kernel
theorem dX10_sets_139 : decode cX10_sets 139 = .ok (.iconst 4, 1) := by decide +kernel
theorem dX10_sets_140 : decode cX10_sets 140 = .ok (.if_icmp .ge 21, 3) := by decide +kernel
theorem dX10_sets_143 : decode cX10_sets 143 = .ok (.aload_n 0, 1) := by decide +kernel
theorem dX10_sets_144 : decode cX10_sets 144 = .ok (.getfield 35, 3) := by decide +kernel
theorem dX10_sets_147 : decode cX10_sets 147 = .ok (.iload_n 1, 1) := by decide +kernel
theorem dX10_sets_148 : decode cX10_sets 148 = .ok (.aload_n 0, 1) := by decide +kernel
theorem dX10_sets_149 : decode cX10_sets 149 = .ok (.getfield 56, 3) := by decide +kernel
theorem dX10_sets_152 : decode cX10_sets 152 = .ok (.iload_n 1, 1) := by decide +kernel
theorem dX10_sets_153 : decode cX10_sets 153 = .ok (.iaload, 1) := by decide +kernel
theorem dX10_sets_154 : decode cX10_sets 154 = .ok (.iastore, 1) := by decide +kernel
theorem dX10_sets_155 : decode cX10_sets 155 = .ok (.iinc 1 1, 3) := by decide +kernel
theorem dX10_sets_158 : decode cX10_sets 158 = .ok (.goto (-20), 3) := by decide +kernel
theorem dX10_sets_161 : decode cX10_sets 161 = .ok (.iconst 0, 1) := by decide +kernel
theorem dX10_sets_162 : decode cX10_sets 162 = .ok (.istore_n 1, 1) := by decide +kernel
theorem dX10_sets_163 : decode cX10_sets 163 = .ok (.iload_n 1, 1) := by decide +kernel
theorem dX10_sets_164 : decode cX10_sets 164 = .ok (.bipush 24, 2) := by decide +kernel
theorem dX10_sets_166 : decode cX10_sets 166 = .ok (.if_icmp .ge 33, 3) := by decide +kernel
theorem dX10_sets_169 : decode cX10_sets 169 = .ok (.aload_n 0, 1) := by decide +kernel
theorem dX10_sets_170 : decode cX10_sets 170 = .ok (.getfield 38, 3) := by decide +kernel
theorem dX10_sets_173 : decode cX10_sets 173 = .ok (.iload_n 1, 1) := by decide +kernel
theorem dX10_sets_174 : decode cX10_sets 174 = .ok (.aload_n 0, 1) := by decide +kernel
theorem dX10_sets_175 : decode cX10_sets 175 = .ok (.getfield 59, 3) := by decide +kernel
theorem dX10_sets_178 : decode cX10_sets 178 = .ok (.iload_n 1, 1) := by decide +kernel
theorem dX10_sets_179 : decode cX10_sets 179 = .ok (.iaload, 1) := by decide +kernel
theorem dX10_sets_180 : decode cX10_sets 180 = .ok (.iastore, 1) := by decide +kernel
theorem dX10_sets_181 : decode cX10_sets 181 = .ok (.aload_n 0, 1) := by decide +kernel
theorem dX10_sets_182 : decode cX10_sets 182 = .ok (.getfield 41, 3) := by decide +kernel
theorem dX10_sets_185 : decode cX10_sets 185 = .ok (.iload_n 1, 1) := by decide +kernel
theorem dX10_sets_186 : decode cX10_sets 186 = .ok (.aload_n 0, 1) := by decide +kernel
theorem dX10_sets_187 : decode cX10_sets 187 = .ok (.getfield 62, 3) := by decide +kernel
theorem dX10_sets_190 : decode cX10_sets 190 = .ok (.iload_n 1, 1) := by decide +kernel
theorem dX10_sets_191 : decode cX10_sets 191 = .ok (.iaload, 1) := by decide +kernel
theorem dX10_sets_192 : decode cX10_sets 192 = .ok (.iastore, 1) := by decide +kernel
theorem dX10_sets_193 : decode cX10_sets 193 = .ok (.iinc 1 1, 3) := by decide +kernel
theorem dX10_sets_196 : decode cX10_sets 196 = .ok (.goto (-33), 3) := by decide +kernel
theorem dX10_sets_199 : decode cX10_sets 199 = .ok (.iconst 0, 1) := by decide +kernel
theorem dX10_sets_200 : decode cX10_sets 200 = .ok (.istore_n 1, 1) := by decide +kernel
theorem dX10_sets_201 : decode cX10_sets 201 = .ok (.iload_n 1, 1) := by decide +kernel
theorem dX10_sets_202 : decode cX10_sets 202 = .ok (.bipush 8, 2) := by decide +kernel
theorem dX10_sets_204 : decode cX10_sets 204 = .ok (.if_icmp .ge 55, 3) := by decide +kernel
theorem dX10_sets_207 : decode cX10_sets 207 = .ok (.aload_n 0, 1) := by decide +kernel
theorem dX10_sets_208 : decode cX10_sets 208 = .ok (.getfield 68, 3) := by decide +kernel
theorem dX10_sets_211 : decode cX10_sets 211 = .ok (.iload_n 1, 1) := by decide +kernel
theorem dX10_sets_212 : decode cX10_sets 212 = .ok (.iconst 0, 1) := by decide +kernel
theorem dX10_sets_213 : decode cX10_sets 213 = .ok (.iastore, 1) := by decide +kernel
theorem dX10_sets_214 : decode cX10_sets 214 = .ok (.iconst 0, 1) := by decide +kernel
theorem dX10_sets_215 : decode cX10_sets 215 = .ok (.istore_n 2, 1) := by decide +kernel
theorem dX10_sets_216 : decode cX10_sets 216 = .ok (.iload_n 2, 1) := by decide +kernel
theorem dX10_sets_217 : decode cX10_sets 217 = .ok (.aload_n 0, 1) := by decide +kernel
theorem dX10_sets_218 : decode cX10_sets 218 = .ok (.getfield 205, 3) := by decide +kernel
theorem dX10_sets_221 : decode cX10_sets 221 = .ok (.if_icmp .ge 25, 3) := by decide +kernel
theorem dX10_sets_224 : decode cX10_sets 224 = .ok (.aload_n 0, 1) := by decide +kernel
theorem dX10_sets_225 : decode cX10_sets 225 = .ok (.getfield 38, 3) := by decide +kernel
theorem dX10_sets_228 : decode cX10_sets 228 = .ok (.iload_n 2, 1) := by decide +kernel
theorem dX10_sets_229 : decode cX10_sets 229 = .ok (.iaload, 1) := by decide +kernel
theorem dX10_sets_230 : decode cX10_sets 230 = .ok (.iload_n 1, 1) := by decide +kernel
theorem dX10_sets_231 : decode cX10_sets 231 = .ok (.if_icmp .ne 9, 3) := by decide +kernel
theorem dX10_sets_234 : decode cX10_sets 234 = .ok (.aload_n 0, 1) := by decide +kernel
theorem dX10_sets_235 : decode cX10_sets 235 = .ok (.iload_n 1, 1) := by decide +kernel
theorem dX10_sets_236 : decode cX10_sets 236 = .ok (.iload_n 2, 1) := by decide +kernel
theorem dX10_sets_237 : decode cX10_sets 237 = .ok (.invokevirtual 211, 3) := by decide +kernel
theorem dX10_sets_240 : decode cX10_sets 240 = .ok (.iinc 2 1, 3) := by decide +kernel
theorem dX10_sets_243 : decode cX10_sets 243 = .ok (.goto (-27), 3) := by decide +kernel
theorem dX10_sets_246 : decode cX10_sets 246 = .ok (.aload_n 0, 1) := by decide +kernel
theorem dX10_sets_247 : decode cX10_sets 247 = .ok (.getfield 74, 3) := by decide +kernel
theorem dX10_sets_250 : decode cX10_sets 250 = .ok (.iload_n 1, 1) := by decide +kernel
theorem dX10_sets_251 : decode cX10_sets 251 = .ok (.iload_n 1, 1) := by decide +kernel
theorem dX10_sets_252 : decode cX10_sets 252 = .ok (.iastore, 1) := by decide +kernel
theorem dX10_sets_253 : decode cX10_sets 253 = .ok (.iinc 1 1, 3) := by decide +kernel
theorem dX10_sets_256 : decode cX10_sets 256 = .ok (.goto (-55), 3) := by decide +kernel
theorem dX10_sets_259 : decode cX10_sets 259 = .ok (.aload_n 0, 1) := by decide +kernel
theorem dX10_sets_260 : decode cX10_sets 260 = .ok (.iconst 0, 1) := by decide +kernel
theorem dX10_sets_261 : decode cX10_sets 261 = .ok (.putfield 214, 3) := by decide +kernel
theorem dX10_sets_264 : decode cX10_sets 264 = .ok (.return_, 1) := by decide +kernel
theorem dX10_ownOf_0 : decode cX10_ownOf 0 = .ok (.iconst 0, 1) := by decide +kernel
theorem dX10_ownOf_1 : decode cX10_ownOf 1 = .ok (.istore 4, 2) := by decide +kernel
theorem dX10_ownOf_3 : decode cX10_ownOf 3 = .ok (.iconst 0, 1) := by decide +kernel
theorem dX10_ownOf_4 : decode cX10_ownOf 4 = .ok (.istore 5, 2) := by decide +kernel
theorem dX10_ownOf_6 : decode cX10_ownOf 6 = .ok (.iload 5, 2) := by decide +kernel
theorem dX10_ownOf_8 : decode cX10_ownOf 8 = .ok (.iload_n 2, 1) := by decide +kernel
theorem dX10_ownOf_9 : decode cX10_ownOf 9 = .ok (.if_icmp .ge 26, 3) := by decide +kernel
theorem dX10_ownOf_12 : decode cX10_ownOf 12 = .ok (.aload_n 3, 1) := by decide +kernel
theorem dX10_ownOf_13 : decode cX10_ownOf 13 = .ok (.iload 5, 2) := by decide +kernel
theorem dX10_ownOf_15 : decode cX10_ownOf 15 = .ok (.iaload, 1) := by decide +kernel
theorem dX10_ownOf_16 : decode cX10_ownOf 16 = .ok (.iload_n 1, 1) := by decide +kernel
theorem dX10_ownOf_17 : decode cX10_ownOf 17 = .ok (.if_icmp .gt 8, 3) := by decide +kernel
theorem dX10_ownOf_20 : decode cX10_ownOf 20 = .ok (.iload 5, 2) := by decide +kernel
theorem dX10_ownOf_22 : decode cX10_ownOf 22 = .ok (.goto 5, 3) := by decide +kernel
theorem dX10_ownOf_25 : decode cX10_ownOf 25 = .ok (.iload 4, 2) := by decide +kernel
theorem dX10_ownOf_27 : decode cX10_ownOf 27 = .ok (.istore 4, 2) := by decide +kernel
theorem dX10_ownOf_29 : decode cX10_ownOf 29 = .ok (.iinc 5 1, 3) := by decide +kernel
theorem dX10_ownOf_32 : decode cX10_ownOf 32 = .ok (.goto (-26), 3) := by decide +kernel
theorem dX10_ownOf_35 : decode cX10_ownOf 35 = .ok (.iload 4, 2) := by decide +kernel
theorem dX10_ownOf_37 : decode cX10_ownOf 37 = .ok (.ireturn, 1) := by decide +kernel
theorem dX10_own_0 : decode cX10_own 0 = .ok (.aload_n 0, 1) := by decide +kernel
theorem dX10_own_1 : decode cX10_own 1 = .ok (.aload_n 0, 1) := by decide +kernel
theorem dX10_own_2 : decode cX10_own 2 = .ok (.getfield 26, 3) := by decide +kernel
theorem dX10_own_5 : decode cX10_own 5 = .ok (.iconst 3, 1) := by decide +kernel
theorem dX10_own_6 : decode cX10_own 6 = .ok (.iload_n 1, 1) := by decide +kernel
theorem dX10_own_7 : decode cX10_own 7 = .ok (.imul, 1) := by decide +kernel
theorem dX10_own_8 : decode cX10_own 8 = .ok (.iaload, 1) := by decide +kernel
theorem dX10_own_9 : decode cX10_own 9 = .ok (.aload_n 0, 1) := by decide +kernel
theorem dX10_own_10 : decode cX10_own 10 = .ok (.getfield 202, 3) := by decide +kernel
theorem dX10_own_13 : decode cX10_own 13 = .ok (.aload_n 0, 1) := by decide +kernel
theorem dX10_own_14 : decode cX10_own 14 = .ok (.getfield 23, 3) := by decide +kernel
theorem dX10_own_17 : decode cX10_own 17 = .ok (.invokevirtual 217, 3) := by decide +kernel
theorem dX10_own_20 : decode cX10_own 20 = .ok (.ireturn, 1) := by decide +kernel
theorem dX10_readOther_0 : decode cX10_readOther 0 = .ok (.iload_n 1, 1) := by decide +kernel
theorem dX10_readOther_1 : decode cX10_readOther 1 = .ok (.ldc 221, 2) := by decide +kernel
theorem dX10_readOther_3 : decode cX10_readOther 3 = .ok (.invokestatic 222, 3) := by decide +kernel
theorem dX10_readOther_6 : decode cX10_readOther 6 = .ok (.if_icmp .ne 103, 3) := by decide +kernel
theorem dX10_readOther_9 : decode cX10_readOther 9 = .ok (.aload_n 0, 1) := by decide +kernel
theorem dX10_readOther_10 : decode cX10_readOther 10 = .ok (.getfield 193, 3) := by decide +kernel
theorem dX10_readOther_13 : decode cX10_readOther 13 = .ok (.istore_n 2, 1) := by decide +kernel
theorem dX10_readOther_14 : decode cX10_readOther 14 = .ok (.aload_n 0, 1) := by decide +kernel
theorem dX10_readOther_15 : decode cX10_readOther 15 = .ok (.getfield 47, 3) := by decide +kernel
theorem dX10_readOther_18 : decode cX10_readOther 18 = .ok (.iconst 3, 1) := by decide +kernel
theorem dX10_readOther_19 : decode cX10_readOther 19 = .ok (.iload_n 2, 1) := by decide +kernel
theorem dX10_readOther_20 : decode cX10_readOther 20 = .ok (.imul, 1) := by decide +kernel
theorem dX10_readOther_21 : decode cX10_readOther 21 = .ok (.aload_n 0, 1) := by decide +kernel
theorem dX10_readOther_22 : decode cX10_readOther 22 = .ok (.iconst 0, 1) := by decide +kernel
theorem dX10_readOther_23 : decode cX10_readOther 23 = .ok (.bipush 25, 2) := by decide +kernel
theorem dX10_readOther_25 : decode cX10_readOther 25 = .ok (.invokevirtual 226, 3) := by decide +kernel
theorem dX10_readOther_28 : decode cX10_readOther 28 = .ok (.iastore, 1) := by decide +kernel
theorem dX10_readOther_29 : decode cX10_readOther 29 = .ok (.aload_n 0, 1) := by decide +kernel
theorem dX10_readOther_30 : decode cX10_readOther 30 = .ok (.getfield 47, 3) := by decide +kernel
theorem dX10_readOther_33 : decode cX10_readOther 33 = .ok (.iconst 3, 1) := by decide +kernel
theorem dX10_readOther_34 : decode cX10_readOther 34 = .ok (.iload_n 2, 1) := by decide +kernel
theorem dX10_readOther_35 : decode cX10_readOther 35 = .ok (.imul, 1) := by decide +kernel
theorem dX10_readOther_36 : decode cX10_readOther 36 = .ok (.iconst 1, 1) := by decide +kernel
theorem dX10_readOther_37 : decode cX10_readOther 37 = .ok (.iadd, 1) := by decide +kernel
theorem dX10_readOther_38 : decode cX10_readOther 38 = .ok (.aload_n 0, 1) := by decide +kernel
theorem dX10_readOther_39 : decode cX10_readOther 39 = .ok (.iconst 1, 1) := by decide +kernel
theorem dX10_readOther_40 : decode cX10_readOther 40 = .ok (.bipush 99, 2) := by decide +kernel
theorem dX10_readOther_42 : decode cX10_readOther 42 = .ok (.invokevirtual 226, 3) := by decide +kernel
theorem dX10_readOther_45 : decode cX10_readOther 45 = .ok (.iastore, 1) := by decide +kernel
theorem dX10_readOther_46 : decode cX10_readOther 46 = .ok (.aload_n 0, 1) := by decide +kernel
theorem dX10_readOther_47 : decode cX10_readOther 47 = .ok (.getfield 47, 3) := by decide +kernel
theorem dX10_readOther_50 : decode cX10_readOther 50 = .ok (.iconst 3, 1) := by decide +kernel
theorem dX10_readOther_51 : decode cX10_readOther 51 = .ok (.iload_n 2, 1) := by decide +kernel
theorem dX10_readOther_52 : decode cX10_readOther 52 = .ok (.imul, 1) := by decide +kernel
theorem dX10_readOther_53 : decode cX10_readOther 53 = .ok (.iconst 2, 1) := by decide +kernel
theorem dX10_readOther_54 : decode cX10_readOther 54 = .ok (.iadd, 1) := by decide +kernel
theorem dX10_readOther_55 : decode cX10_readOther 55 = .ok (.aload_n 0, 1) := by decide +kernel
theorem dX10_readOther_56 : decode cX10_readOther 56 = .ok (.iconst 0, 1) := by decide +kernel
theorem dX10_readOther_57 : decode cX10_readOther 57 = .ok (.bipush 9, 2) := by decide +kernel
theorem dX10_readOther_59 : decode cX10_readOther 59 = .ok (.invokevirtual 226, 3) := by decide +kernel
theorem dX10_readOther_62 : decode cX10_readOther 62 = .ok (.iastore, 1) := by decide +kernel
theorem dX10_readOther_63 : decode cX10_readOther 63 = .ok (.aload_n 0, 1) := by decide +kernel
theorem dX10_readOther_64 : decode cX10_readOther 64 = .ok (.getfield 59, 3) := by decide +kernel
theorem dX10_readOther_67 : decode cX10_readOther 67 = .ok (.iload_n 2, 1) := by decide +kernel
theorem dX10_readOther_68 : decode cX10_readOther 68 = .ok (.aload_n 0, 1) := by decide +kernel
theorem dX10_readOther_69 : decode cX10_readOther 69 = .ok (.aload_n 0, 1) := by decide +kernel
theorem dX10_readOther_70 : decode cX10_readOther 70 = .ok (.getfield 47, 3) := by decide +kernel
theorem dX10_readOther_73 : decode cX10_readOther 73 = .ok (.iconst 3, 1) := by decide +kernel
theorem dX10_readOther_74 : decode cX10_readOther 74 = .ok (.iload_n 2, 1) := by decide +kernel
theorem dX10_readOther_75 : decode cX10_readOther 75 = .ok (.imul, 1) := by decide +kernel
theorem dX10_readOther_76 : decode cX10_readOther 76 = .ok (.iaload, 1) := by decide +kernel
theorem dX10_readOther_77 : decode cX10_readOther 77 = .ok (.aload_n 0, 1) := by decide +kernel
theorem dX10_readOther_78 : decode cX10_readOther 78 = .ok (.getfield 190, 3) := by decide +kernel
theorem dX10_readOther_81 : decode cX10_readOther 81 = .ok (.aload_n 0, 1) := by decide +kernel
theorem dX10_readOther_82 : decode cX10_readOther 82 = .ok (.getfield 44, 3) := by decide +kernel
theorem dX10_readOther_85 : decode cX10_readOther 85 = .ok (.invokevirtual 217, 3) := by decide +kernel
theorem dX10_readOther_88 : decode cX10_readOther 88 = .ok (.iastore, 1) := by decide +kernel
theorem dX10_readOther_89 : decode cX10_readOther 89 = .ok (.aload_n 0, 1) := by decide +kernel
theorem dX10_readOther_90 : decode cX10_readOther 90 = .ok (.getfield 62, 3) := by decide +kernel
theorem dX10_readOther_93 : decode cX10_readOther 93 = .ok (.iload_n 2, 1) := by decide +kernel
theorem dX10_readOther_94 : decode cX10_readOther 94 = .ok (.iload_n 2, 1) := by decide +kernel
theorem dX10_readOther_95 : decode cX10_readOther 95 = .ok (.iastore, 1) := by decide +kernel
theorem dX10_readOther_96 : decode cX10_readOther 96 = .ok (.aload_n 0, 1) := by decide +kernel
theorem dX10_readOther_97 : decode cX10_readOther 97 = .ok (.dup, 1) := by decide +kernel
theorem dX10_readOther_98 : decode cX10_readOther 98 = .ok (.getfield 193, 3) := by decide +kernel
theorem dX10_readOther_101 : decode cX10_readOther 101 = .ok (.iconst 1, 1) := by decide +kernel
theorem dX10_readOther_102 : decode cX10_readOther 102 = .ok (.iadd, 1) := by decide +kernel
theorem dX10_readOther_103 : decode cX10_readOther 103 = .ok (.putfield 193, 3) := by decide +kernel
theorem dX10_readOther_106 : decode cX10_readOther 106 = .ok (.goto 443, 3) := by decide +kernel
theorem dX10_readOther_109 : decode cX10_readOther 109 = .ok (.iload_n 1, 1) := by decide +kernel
theorem dX10_readOther_110 : decode cX10_readOther 110 = .ok (.ldc 230, 2) := by decide +kernel
theorem dX10_readOther_112 : decode cX10_readOther 112 = .ok (.invokestatic 222, 3) := by decide +kernel
theorem dX10_readOther_115 : decode cX10_readOther 115 = .ok (.if_icmp .ne 44, 3) := by decide +kernel
theorem dX10_readOther_118 : decode cX10_readOther 118 = .ok (.aload_n 0, 1) := by decide +kernel
theorem dX10_readOther_119 : decode cX10_readOther 119 = .ok (.iconst 0, 1) := by decide +kernel
theorem dX10_readOther_120 : decode cX10_readOther 120 = .ok (.aload_n 0, 1) := by decide +kernel
theorem dX10_readOther_121 : decode cX10_readOther 121 = .ok (.getfield 193, 3) := by decide +kernel
theorem dX10_readOther_124 : decode cX10_readOther 124 = .ok (.iconst 1, 1) := by decide +kernel
theorem dX10_readOther_125 : decode cX10_readOther 125 = .ok (.isub, 1) := by decide +kernel
theorem dX10_readOther_126 : decode cX10_readOther 126 = .ok (.invokevirtual 226, 3) := by decide +kernel
theorem dX10_readOther_129 : decode cX10_readOther 129 = .ok (.istore_n 2, 1) := by decide +kernel
theorem dX10_readOther_130 : decode cX10_readOther 130 = .ok (.aload_n 0, 1) := by decide +kernel
theorem dX10_readOther_131 : decode cX10_readOther 131 = .ok (.iconst 0, 1) := by decide +kernel
theorem dX10_readOther_132 : decode cX10_readOther 132 = .ok (.aload_n 0, 1) := by decide +kernel
theorem dX10_readOther_133 : decode cX10_readOther 133 = .ok (.getfield 190, 3) := by decide +kernel
theorem dX10_readOther_136 : decode cX10_readOther 136 = .ok (.iconst 1, 1) := by decide +kernel
theorem dX10_readOther_137 : decode cX10_readOther 137 = .ok (.isub, 1) := by decide +kernel
theorem dX10_readOther_138 : decode cX10_readOther 138 = .ok (.invokevirtual 226, 3) := by decide +kernel
theorem dX10_readOther_141 : decode cX10_readOther 141 = .ok (.istore_n 3, 1) := by decide +kernel
theorem dX10_readOther_142 : decode cX10_readOther 142 = .ok (.aload_n 0, 1) := by decide +kernel
theorem dX10_readOther_143 : decode cX10_readOther 143 = .ok (.invokevirtual 176, 3) := by decide +kernel
theorem dX10_readOther_146 : decode cX10_readOther 146 = .ok (.ifCond .eq 10, 3) := by decide +kernel
theorem dX10_readOther_149 : decode cX10_readOther 149 = .ok (.aload_n 0, 1) := by decide +kernel
theorem dX10_readOther_150 : decode cX10_readOther 150 = .ok (.getfield 59, 3) := by decide +kernel
theorem dX10_readOther_153 : decode cX10_readOther 153 = .ok (.iload_n 2, 1) := by decide +kernel
theorem dX10_readOther_154 : decode cX10_readOther 154 = .ok (.iload_n 3, 1) := by decide +kernel
theorem dX10_readOther_155 : decode cX10_readOther 155 = .ok (.iastore, 1) := by decide +kernel
theorem dX10_readOther_156 : decode cX10_readOther 156 = .ok (.goto 393, 3) := by decide +kernel
theorem dX10_readOther_159 : decode cX10_readOther 159 = .ok (.iload_n 1, 1) := by decide +kernel
theorem dX10_readOther_160 : decode cX10_readOther 160 = .ok (.ldc 232, 2) := by decide +kernel
theorem dX10_readOther_162 : decode cX10_readOther 162 = .ok (.invokestatic 222, 3) := by decide +kernel
theorem dX10_readOther_165 : decode cX10_readOther 165 = .ok (.if_icmp .ne 98, 3) := by decide +kernel
theorem dX10_readOther_168 : decode cX10_readOther 168 = .ok (.aload_n 0, 1) := by decide +kernel
theorem dX10_readOther_169 : decode cX10_readOther 169 = .ok (.iconst 0, 1) := by decide +kernel
theorem dX10_readOther_170 : decode cX10_readOther 170 = .ok (.aload_n 0, 1) := by decide +kernel
theorem dX10_readOther_171 : decode cX10_readOther 171 = .ok (.getfield 193, 3) := by decide +kernel
theorem dX10_readOther_174 : decode cX10_readOther 174 = .ok (.iconst 1, 1) := by decide +kernel
theorem dX10_readOther_175 : decode cX10_readOther 175 = .ok (.isub, 1) := by decide +kernel
theorem dX10_readOther_176 : decode cX10_readOther 176 = .ok (.invokevirtual 226, 3) := by decide +kernel
theorem dX10_readOther_179 : decode cX10_readOther 179 = .ok (.istore_n 2, 1) := by decide +kernel
theorem dX10_readOther_180 : decode cX10_readOther 180 = .ok (.aload_n 0, 1) := by decide +kernel
theorem dX10_readOther_181 : decode cX10_readOther 181 = .ok (.invokevirtual 159, 3) := by decide +kernel
theorem dX10_readOther_184 : decode cX10_readOther 184 = .ok (.pop, 1) := by decide +kernel
theorem dX10_readOther_185 : decode cX10_readOther 185 = .ok (.aload_n 0, 1) := by decide +kernel
theorem dX10_readOther_186 : decode cX10_readOther 186 = .ok (.getfield 153, 3) := by decide +kernel
theorem dX10_readOther_189 : decode cX10_readOther 189 = .ok (.istore_n 3, 1) := by decide +kernel
theorem dX10_readOther_190 : decode cX10_readOther 190 = .ok (.aload_n 0, 1) := by decide +kernel
theorem dX10_readOther_191 : decode cX10_readOther 191 = .ok (.iconst 0, 1) := by decide +kernel
theorem dX10_readOther_192 : decode cX10_readOther 192 = .ok (.aload_n 0, 1) := by decide +kernel
theorem dX10_readOther_193 : decode cX10_readOther 193 = .ok (.getfield 193, 3) := by decide +kernel
theorem dX10_readOther_196 : decode cX10_readOther 196 = .ok (.iconst 1, 1) := by decide +kernel
theorem dX10_readOther_197 : decode cX10_readOther 197 = .ok (.isub, 1) := by decide +kernel
theorem dX10_readOther_198 : decode cX10_readOther 198 = .ok (.invokevirtual 226, 3) := by decide +kernel
theorem dX10_readOther_201 : decode cX10_readOther 201 = .ok (.istore 4, 2) := by decide +kernel
theorem dX10_readOther_203 : decode cX10_readOther 203 = .ok (.aload_n 0, 1) := by decide +kernel
theorem dX10_readOther_204 : decode cX10_readOther 204 = .ok (.invokevirtual 176, 3) := by decide +kernel
theorem dX10_readOther_207 : decode cX10_readOther 207 = .ok (.ifCond .eq 15, 3) := by decide +kernel
theorem dX10_readOther_210 : decode cX10_readOther 210 = .ok (.iload_n 2, 1) := by decide +kernel
theorem dX10_readOther_211 : decode cX10_readOther 211 = .ok (.iload 4, 2) := by decide +kernel
theorem dX10_readOther_213 : decode cX10_readOther 213 = .ok (.if_icmp .ne 9, 3) := by decide +kernel
theorem dX10_readOther_216 : decode cX10_readOther 216 = .ok (.aload_n 0, 1) := by decide +kernel
theorem dX10_readOther_217 : decode cX10_readOther 217 = .ok (.iconst 2, 1) := by decide +kernel
theorem dX10_readOther_218 : decode cX10_readOther 218 = .ok (.iload_n 3, 1) := by decide +kernel
theorem dX10_readOther_219 : decode cX10_readOther 219 = .ok (.invokevirtual 183, 3) := by decide +kernel
theorem dX10_readOther_222 : decode cX10_readOther 222 = .ok (.aload_n 0, 1) := by decide +kernel
theorem dX10_readOther_223 : decode cX10_readOther 223 = .ok (.invokevirtual 176, 3) := by decide +kernel
theorem dX10_readOther_226 : decode cX10_readOther 226 = .ok (.ifCond .ne 4, 3) := by decide +kernel
theorem dX10_readOther_229 : decode cX10_readOther 229 = .ok (.return_, 1) := by decide +kernel
theorem dX10_readOther_230 : decode cX10_readOther 230 = .ok (.aload_n 0, 1) := by decide +kernel
theorem dX10_readOther_231 : decode cX10_readOther 231 = .ok (.getfield 62, 3) := by decide +kernel
theorem dX10_readOther_234 : decode cX10_readOther 234 = .ok (.iload_n 2, 1) := by decide +kernel
theorem dX10_readOther_235 : decode cX10_readOther 235 = .ok (.iaload, 1) := by decide +kernel
theorem dX10_readOther_236 : decode cX10_readOther 236 = .ok (.istore 5, 2) := by decide +kernel
theorem dX10_readOther_238 : decode cX10_readOther 238 = .ok (.aload_n 0, 1) := by decide +kernel
theorem dX10_readOther_239 : decode cX10_readOther 239 = .ok (.getfield 62, 3) := by decide +kernel
theorem dX10_readOther_242 : decode cX10_readOther 242 = .ok (.iload_n 2, 1) := by decide +kernel
theorem dX10_readOther_243 : decode cX10_readOther 243 = .ok (.aload_n 0, 1) := by decide +kernel
theorem dX10_readOther_244 : decode cX10_readOther 244 = .ok (.getfield 62, 3) := by decide +kernel
theorem dX10_readOther_247 : decode cX10_readOther 247 = .ok (.iload 4, 2) := by decide +kernel
theorem dX10_readOther_249 : decode cX10_readOther 249 = .ok (.iaload, 1) := by decide +kernel
theorem dX10_readOther_250 : decode cX10_readOther 250 = .ok (.iastore, 1) := by decide +kernel
theorem dX10_readOther_251 : decode cX10_readOther 251 = .ok (.aload_n 0, 1) := by decide +kernel
theorem dX10_readOther_252 : decode cX10_readOther 252 = .ok (.getfield 62, 3) := by decide +kernel
theorem dX10_readOther_255 : decode cX10_readOther 255 = .ok (.iload 4, 2) := by decide +kernel
theorem dX10_readOther_257 : decode cX10_readOther 257 = .ok (.iload 5, 2) := by decide +kernel
theorem dX10_readOther_259 : decode cX10_readOther 259 = .ok (.iastore, 1) := by decide +kernel
theorem dX10_readOther_260 : decode cX10_readOther 260 = .ok (.goto 289, 3) := by decide +kernel
theorem dX10_readOther_263 : decode cX10_readOther 263 = .ok (.iload_n 1, 1) := by decide +kernel
theorem dX10_readOther_264 : decode cX10_readOther 264 = .ok (.ldc 233, 2) := by decide +kernel
theorem dX10_readOther_266 : decode cX10_readOther 266 = .ok (.invokestatic 222, 3) := by decide +kernel
theorem dX10_readOther_269 : decode cX10_readOther 269 = .ok (.if_icmp .ne 108, 3) := by decide +kernel
theorem dX10_readOther_272 : decode cX10_readOther 272 = .ok (.bipush 6, 2) := by decide +kernel
theorem dX10_readOther_274 : decode cX10_readOther 274 = .ok (.aload_n 0, 1) := by decide +kernel
theorem dX10_readOther_275 : decode cX10_readOther 275 = .ok (.getfield 196, 3) := by decide +kernel
theorem dX10_readOther_278 : decode cX10_readOther 278 = .ok (.imul, 1) := by decide +kernel
theorem dX10_readOther_279 : decode cX10_readOther 279 = .ok (.istore_n 2, 1) := by decide +kernel
theorem dX10_readOther_280 : decode cX10_readOther 280 = .ok (.aload_n 0, 1) := by decide +kernel
theorem dX10_readOther_281 : decode cX10_readOther 281 = .ok (.getfield 50, 3) := by decide +kernel
theorem dX10_readOther_284 : decode cX10_readOther 284 = .ok (.iload_n 2, 1) := by decide +kernel
theorem dX10_readOther_285 : decode cX10_readOther 285 = .ok (.aload_n 0, 1) := by decide +kernel
theorem dX10_readOther_286 : decode cX10_readOther 286 = .ok (.iconst 0, 1) := by decide +kernel
theorem dX10_readOther_287 : decode cX10_readOther 287 = .ok (.sipush 600, 3) := by decide +kernel
theorem dX10_readOther_290 : decode cX10_readOther 290 = .ok (.invokevirtual 226, 3) := by decide +kernel
theorem dX10_readOther_293 : decode cX10_readOther 293 = .ok (.iastore, 1) := by decide +kernel
theorem dX10_readOther_294 : decode cX10_readOther 294 = .ok (.aload_n 0, 1) := by decide +kernel
theorem dX10_readOther_295 : decode cX10_readOther 295 = .ok (.getfield 50, 3) := by decide +kernel
theorem dX10_readOther_298 : decode cX10_readOther 298 = .ok (.iload_n 2, 1) := by decide +kernel
theorem dX10_readOther_299 : decode cX10_readOther 299 = .ok (.iconst 1, 1) := by decide +kernel
theorem dX10_readOther_300 : decode cX10_readOther 300 = .ok (.iadd, 1) := by decide +kernel
theorem dX10_readOther_301 : decode cX10_readOther 301 = .ok (.aload_n 0, 1) := by decide +kernel
theorem dX10_readOther_302 : decode cX10_readOther 302 = .ok (.iconst 1, 1) := by decide +kernel
theorem dX10_readOther_303 : decode cX10_readOther 303 = .ok (.bipush 8, 2) := by decide +kernel
theorem dX10_readOther_305 : decode cX10_readOther 305 = .ok (.invokevirtual 226, 3) := by decide +kernel
theorem dX10_readOther_308 : decode cX10_readOther 308 = .ok (.iastore, 1) := by decide +kernel
theorem dX10_readOther_309 : decode cX10_readOther 309 = .ok (.aload_n 0, 1) := by decide +kernel
theorem dX10_readOther_310 : decode cX10_readOther 310 = .ok (.getfield 50, 3) := by decide +kernel
theorem dX10_readOther_313 : decode cX10_readOther 313 = .ok (.iload_n 2, 1) := by decide +kernel
theorem dX10_readOther_314 : decode cX10_readOther 314 = .ok (.iconst 2, 1) := by decide +kernel
theorem dX10_readOther_315 : decode cX10_readOther 315 = .ok (.iadd, 1) := by decide +kernel
theorem dX10_readOther_316 : decode cX10_readOther 316 = .ok (.aload_n 0, 1) := by decide +kernel
theorem dX10_readOther_317 : decode cX10_readOther 317 = .ok (.iconst 0, 1) := by decide +kernel
theorem dX10_readOther_318 : decode cX10_readOther 318 = .ok (.bipush 9, 2) := by decide +kernel
theorem dX10_readOther_320 : decode cX10_readOther 320 = .ok (.invokevirtual 226, 3) := by decide +kernel
theorem dX10_readOther_323 : decode cX10_readOther 323 = .ok (.iastore, 1) := by decide +kernel
theorem dX10_readOther_324 : decode cX10_readOther 324 = .ok (.aload_n 0, 1) := by decide +kernel
theorem dX10_readOther_325 : decode cX10_readOther 325 = .ok (.getfield 50, 3) := by decide +kernel
theorem dX10_readOther_328 : decode cX10_readOther 328 = .ok (.iload_n 2, 1) := by decide +kernel
theorem dX10_readOther_329 : decode cX10_readOther 329 = .ok (.iconst 3, 1) := by decide +kernel
theorem dX10_readOther_330 : decode cX10_readOther 330 = .ok (.iadd, 1) := by decide +kernel
theorem dX10_readOther_331 : decode cX10_readOther 331 = .ok (.aload_n 0, 1) := by decide +kernel
theorem dX10_readOther_332 : decode cX10_readOther 332 = .ok (.iconst 0, 1) := by decide +kernel
theorem dX10_readOther_333 : decode cX10_readOther 333 = .ok (.bipush 99, 2) := by decide +kernel
theorem dX10_readOther_335 : decode cX10_readOther 335 = .ok (.invokevirtual 226, 3) := by decide +kernel
theorem dX10_readOther_338 : decode cX10_readOther 338 = .ok (.iastore, 1) := by decide +kernel
theorem dX10_readOther_339 : decode cX10_readOther 339 = .ok (.aload_n 0, 1) := by decide +kernel
theorem dX10_readOther_340 : decode cX10_readOther 340 = .ok (.getfield 50, 3) := by decide +kernel
theorem dX10_readOther_343 : decode cX10_readOther 343 = .ok (.iload_n 2, 1) := by decide +kernel
theorem dX10_readOther_344 : decode cX10_readOther 344 = .ok (.iconst 4, 1) := by decide +kernel
theorem dX10_readOther_345 : decode cX10_readOther 345 = .ok (.iadd, 1) := by decide +kernel
theorem dX10_readOther_346 : decode cX10_readOther 346 = .ok (.aload_n 0, 1) := by decide +kernel
theorem dX10_readOther_347 : decode cX10_readOther 347 = .ok (.iconst 0, 1) := by decide +kernel
theorem dX10_readOther_348 : decode cX10_readOther 348 = .ok (.sipush 999, 3) := by decide +kernel
theorem dX10_readOther_351 : decode cX10_readOther 351 = .ok (.invokevirtual 226, 3) := by decide +kernel
theorem dX10_readOther_354 : decode cX10_readOther 354 = .ok (.iastore, 1) := by decide +kernel
theorem dX10_readOther_355 : decode cX10_readOther 355 = .ok (.aload_n 0, 1) := by decide +kernel
theorem dX10_readOther_356 : decode cX10_readOther 356 = .ok (.getfield 50, 3) := by decide +kernel
theorem dX10_readOther_359 : decode cX10_readOther 359 = .ok (.iload_n 2, 1) := by decide +kernel
theorem dX10_readOther_360 : decode cX10_readOther 360 = .ok (.iconst 5, 1) := by decide +kernel
theorem dX10_readOther_361 : decode cX10_readOther 361 = .ok (.iadd, 1) := by decide +kernel
theorem dX10_readOther_362 : decode cX10_readOther 362 = .ok (.iconst 0, 1) := by decide +kernel
theorem dX10_readOther_363 : decode cX10_readOther 363 = .ok (.iastore, 1) := by decide +kernel
theorem dX10_readOther_364 : decode cX10_readOther 364 = .ok (.aload_n 0, 1) := by decide +kernel
theorem dX10_readOther_365 : decode cX10_readOther 365 = .ok (.dup, 1) := by decide +kernel
theorem dX10_readOther_366 : decode cX10_readOther 366 = .ok (.getfield 196, 3) := by decide +kernel
theorem dX10_readOther_369 : decode cX10_readOther 369 = .ok (.iconst 1, 1) := by decide +kernel
theorem dX10_readOther_370 : decode cX10_readOther 370 = .ok (.iadd, 1) := by decide +kernel
theorem dX10_readOther_371 : decode cX10_readOther 371 = .ok (.putfield 196, 3) := by decide +kernel
theorem dX10_readOther_374 : decode cX10_readOther 374 = .ok (.goto 175, 3) := by decide +kernel
theorem dX10_readOther_377 : decode cX10_readOther 377 = .ok (.iload_n 1, 1) := by decide +kernel
theorem dX10_readOther_378 : decode cX10_readOther 378 = .ok (.ldc 234, 2) := by decide +kernel
theorem dX10_readOther_380 : decode cX10_readOther 380 = .ok (.invokestatic 222, 3) := by decide +kernel
theorem dX10_readOther_383 : decode cX10_readOther 383 = .ok (.if_icmp .ne 37, 3) := by decide +kernel
theorem dX10_readOther_386 : decode cX10_readOther 386 = .ok (.aload_n 0, 1) := by decide +kernel
theorem dX10_readOther_387 : decode cX10_readOther 387 = .ok (.iconst 0, 1) := by decide +kernel
theorem dX10_readOther_388 : decode cX10_readOther 388 = .ok (.aload_n 0, 1) := by decide +kernel
theorem dX10_readOther_389 : decode cX10_readOther 389 = .ok (.getfield 196, 3) := by decide +kernel
theorem dX10_readOther_392 : decode cX10_readOther 392 = .ok (.iconst 1, 1) := by decide +kernel
theorem dX10_readOther_393 : decode cX10_readOther 393 = .ok (.isub, 1) := by decide +kernel
theorem dX10_readOther_394 : decode cX10_readOther 394 = .ok (.invokevirtual 226, 3) := by decide +kernel
theorem dX10_readOther_397 : decode cX10_readOther 397 = .ok (.istore_n 2, 1) := by decide +kernel
theorem dX10_readOther_398 : decode cX10_readOther 398 = .ok (.aload_n 0, 1) := by decide +kernel
theorem dX10_readOther_399 : decode cX10_readOther 399 = .ok (.invokevirtual 176, 3) := by decide +kernel
theorem dX10_readOther_402 : decode cX10_readOther 402 = .ok (.ifCond .eq 15, 3) := by decide +kernel
theorem dX10_readOther_405 : decode cX10_readOther 405 = .ok (.aload_n 0, 1) := by decide +kernel
theorem dX10_readOther_406 : decode cX10_readOther 406 = .ok (.getfield 50, 3) := by decide +kernel
theorem dX10_readOther_409 : decode cX10_readOther 409 = .ok (.bipush 6, 2) := by decide +kernel
theorem dX10_readOther_411 : decode cX10_readOther 411 = .ok (.iload_n 2, 1) := by decide +kernel
theorem dX10_readOther_412 : decode cX10_readOther 412 = .ok (.imul, 1) := by decide +kernel
theorem dX10_readOther_413 : decode cX10_readOther 413 = .ok (.iconst 5, 1) := by decide +kernel
theorem dX10_readOther_414 : decode cX10_readOther 414 = .ok (.iadd, 1) := by decide +kernel
theorem dX10_readOther_415 : decode cX10_readOther 415 = .ok (.iconst 1, 1) := by decide +kernel
theorem dX10_readOther_416 : decode cX10_readOther 416 = .ok (.iastore, 1) := by decide +kernel
theorem dX10_readOther_417 : decode cX10_readOther 417 = .ok (.goto 132, 3) := by decide +kernel
theorem dX10_readOther_420 : decode cX10_readOther 420 = .ok (.iload_n 1, 1) := by decide +kernel
theorem dX10_readOther_421 : decode cX10_readOther 421 = .ok (.ldc 236, 2) := by decide +kernel
theorem dX10_readOther_423 : decode cX10_readOther 423 = .ok (.invokestatic 222, 3) := by decide +kernel
theorem dX10_readOther_426 : decode cX10_readOther 426 = .ok (.if_icmp .ne 27, 3) := by decide +kernel
theorem dX10_readOther_429 : decode cX10_readOther 429 = .ok (.aload_n 0, 1) := by decide +kernel
theorem dX10_readOther_430 : decode cX10_readOther 430 = .ok (.iconst 1, 1) := by decide +kernel
theorem dX10_readOther_431 : decode cX10_readOther 431 = .ok (.bipush 8, 2) := by decide +kernel
theorem dX10_readOther_433 : decode cX10_readOther 433 = .ok (.invokevirtual 226, 3) := by decide +kernel
theorem dX10_readOther_436 : decode cX10_readOther 436 = .ok (.istore_n 2, 1) := by decide +kernel
theorem dX10_readOther_437 : decode cX10_readOther 437 = .ok (.aload_n 0, 1) := by decide +kernel
theorem dX10_readOther_438 : decode cX10_readOther 438 = .ok (.getfield 53, 3) := by decide +kernel
theorem dX10_readOther_441 : decode cX10_readOther 441 = .ok (.iload_n 2, 1) := by decide +kernel
theorem dX10_readOther_442 : decode cX10_readOther 442 = .ok (.aload_n 0, 1) := by decide +kernel
theorem dX10_readOther_443 : decode cX10_readOther 443 = .ok (.iconst 0, 1) := by decide +kernel
theorem dX10_readOther_444 : decode cX10_readOther 444 = .ok (.bipush 8, 2) := by decide +kernel
theorem dX10_readOther_446 : decode cX10_readOther 446 = .ok (.invokevirtual 226, 3) := by decide +kernel
theorem dX10_readOther_449 : decode cX10_readOther 449 = .ok (.iastore, 1) := by decide +kernel
theorem dX10_readOther_450 : decode cX10_readOther 450 = .ok (.goto 99, 3) := by decide +kernel
theorem dX10_readOther_453 : decode cX10_readOther 453 = .ok (.iload_n 1, 1) := by decide +kernel
theorem dX10_readOther_454 : decode cX10_readOther 454 = .ok (.ldc 238, 2) := by decide +kernel
theorem dX10_readOther_456 : decode cX10_readOther 456 = .ok (.invokestatic 222, 3) := by decide +kernel
theorem dX10_readOther_459 : decode cX10_readOther 459 = .ok (.if_icmp .ne 17, 3) := by decide +kernel
theorem dX10_readOther_462 : decode cX10_readOther 462 = .ok (.aload_n 0, 1) := by decide +kernel
theorem dX10_readOther_463 : decode cX10_readOther 463 = .ok (.aload_n 0, 1) := by decide +kernel
theorem dX10_readOther_464 : decode cX10_readOther 464 = .ok (.iconst 0, 1) := by decide +kernel
theorem dX10_readOther_465 : decode cX10_readOther 465 = .ok (.bipush 30, 2) := by decide +kernel
theorem dX10_readOther_467 : decode cX10_readOther 467 = .ok (.invokevirtual 226, 3) := by decide +kernel
theorem dX10_readOther_470 : decode cX10_readOther 470 = .ok (.putfield 199, 3) := by decide +kernel
theorem dX10_readOther_473 : decode cX10_readOther 473 = .ok (.goto 76, 3) := by decide +kernel
theorem dX10_readOther_476 : decode cX10_readOther 476 = .ok (.iconst 0, 1) := by decide +kernel
theorem dX10_readOther_477 : decode cX10_readOther 477 = .ok (.istore_n 2, 1) := by decide +kernel
theorem dX10_readOther_478 : decode cX10_readOther 478 = .ok (.aload_n 0, 1) := by decide +kernel
theorem dX10_readOther_479 : decode cX10_readOther 479 = .ok (.getfield 153, 3) := by decide +kernel
theorem dX10_readOther_482 : decode cX10_readOther 482 = .ok (.istore_n 3, 1) := by decide +kernel
theorem dX10_readOther_483 : decode cX10_readOther 483 = .ok (.iconst 0, 1) := by decide +kernel
theorem dX10_readOther_484 : decode cX10_readOther 484 = .ok (.istore 4, 2) := by decide +kernel
theorem dX10_readOther_486 : decode cX10_readOther 486 = .ok (.iload 4, 2) := by decide +kernel
theorem dX10_readOther_488 : decode cX10_readOther 488 = .ok (.iconst 4, 1) := by decide +kernel
theorem dX10_readOther_489 : decode cX10_readOther 489 = .ok (.if_icmp .ge 43, 3) := by decide +kernel
theorem dX10_readOther_492 : decode cX10_readOther 492 = .ok (.aload_n 0, 1) := by decide +kernel
theorem dX10_readOther_493 : decode cX10_readOther 493 = .ok (.invokevirtual 159, 3) := by decide +kernel
theorem dX10_readOther_496 : decode cX10_readOther 496 = .ok (.pop, 1) := by decide +kernel
theorem dX10_readOther_497 : decode cX10_readOther 497 = .ok (.aload_n 0, 1) := by decide +kernel
theorem dX10_readOther_498 : decode cX10_readOther 498 = .ok (.getfield 153, 3) := by decide +kernel
theorem dX10_readOther_501 : decode cX10_readOther 501 = .ok (.istore_n 3, 1) := by decide +kernel
theorem dX10_readOther_502 : decode cX10_readOther 502 = .ok (.aload_n 0, 1) := by decide +kernel
theorem dX10_readOther_503 : decode cX10_readOther 503 = .ok (.getfield 56, 3) := by decide +kernel
theorem dX10_readOther_506 : decode cX10_readOther 506 = .ok (.iload 4, 2) := by decide +kernel
theorem dX10_readOther_508 : decode cX10_readOther 508 = .ok (.aload_n 0, 1) := by decide +kernel
theorem dX10_readOther_509 : decode cX10_readOther 509 = .ok (.iconst 0, 1) := by decide +kernel
theorem dX10_readOther_510 : decode cX10_readOther 510 = .ok (.bipush 9, 2) := by decide +kernel
theorem dX10_readOther_512 : decode cX10_readOther 512 = .ok (.invokevirtual 226, 3) := by decide +kernel
theorem dX10_readOther_515 : decode cX10_readOther 515 = .ok (.iastore, 1) := by decide +kernel
theorem dX10_readOther_516 : decode cX10_readOther 516 = .ok (.iload_n 2, 1) := by decide +kernel
theorem dX10_readOther_517 : decode cX10_readOther 517 = .ok (.aload_n 0, 1) := by decide +kernel
theorem dX10_readOther_518 : decode cX10_readOther 518 = .ok (.getfield 56, 3) := by decide +kernel
theorem dX10_readOther_521 : decode cX10_readOther 521 = .ok (.iload 4, 2) := by decide +kernel
theorem dX10_readOther_523 : decode cX10_readOther 523 = .ok (.iaload, 1) := by decide +kernel
theorem dX10_readOther_524 : decode cX10_readOther 524 = .ok (.iadd, 1) := by decide +kernel
theorem dX10_readOther_525 : decode cX10_readOther 525 = .ok (.istore_n 2, 1) := by decide +kernel
theorem dX10_readOther_526 : decode cX10_readOther 526 = .ok (.iinc 4 1, 3) := by decide +kernel
theorem dX10_readOther_529 : decode cX10_readOther 529 = .ok (.goto (-43), 3) := by decide +kernel
theorem dX10_readOther_532 : decode cX10_readOther 532 = .ok (.aload_n 0, 1) := by decide +kernel
theorem dX10_readOther_533 : decode cX10_readOther 533 = .ok (.invokevirtual 176, 3) := by decide +kernel
theorem dX10_readOther_536 : decode cX10_readOther 536 = .ok (.ifCond .eq 13, 3) := by decide +kernel
theorem dX10_readOther_539 : decode cX10_readOther 539 = .ok (.iload_n 2, 1) := by decide +kernel
theorem dX10_readOther_540 : decode cX10_readOther 540 = .ok (.ifCond .ne 9, 3) := by decide +kernel
theorem dX10_readOther_543 : decode cX10_readOther 543 = .ok (.aload_n 0, 1) := by decide +kernel
theorem dX10_readOther_544 : decode cX10_readOther 544 = .ok (.iconst 2, 1) := by decide +kernel
theorem dX10_readOther_545 : decode cX10_readOther 545 = .ok (.iload_n 3, 1) := by decide +kernel
theorem dX10_readOther_546 : decode cX10_readOther 546 = .ok (.invokevirtual 183, 3) := by decide +kernel
theorem dX10_readOther_549 : decode cX10_readOther 549 = .ok (.return_, 1) := by decide +kernel
theorem dX10_isOther_0 : decode cX10_isOther 0 = .ok (.iload_n 0, 1) := by decide +kernel
theorem dX10_isOther_1 : decode cX10_isOther 1 = .ok (.ldc 221, 2) := by decide +kernel
theorem dX10_isOther_3 : decode cX10_isOther 3 = .ok (.invokestatic 222, 3) := by decide +kernel
theorem dX10_isOther_6 : decode cX10_isOther 6 = .ok (.if_icmp .eq 66, 3) := by decide +kernel
theorem dX10_isOther_9 : decode cX10_isOther 9 = .ok (.iload_n 0, 1) := by decide +kernel
theorem dX10_isOther_10 : decode cX10_isOther 10 = .ok (.ldc 230, 2) := by decide +kernel
theorem dX10_isOther_12 : decode cX10_isOther 12 = .ok (.invokestatic 222, 3) := by decide +kernel
theorem dX10_isOther_15 : decode cX10_isOther 15 = .ok (.if_icmp .eq 57, 3) := by decide +kernel
theorem dX10_isOther_18 : decode cX10_isOther 18 = .ok (.iload_n 0, 1) := by decide +kernel
theorem dX10_isOther_19 : decode cX10_isOther 19 = .ok (.ldc 232, 2) := by decide +kernel
theorem dX10_isOther_21 : decode cX10_isOther 21 = .ok (.invokestatic 222, 3) := by decide +kernel
theorem dX10_isOther_24 : decode cX10_isOther 24 = .ok (.if_icmp .eq 48, 3) := by decide +kernel
theorem dX10_isOther_27 : decode cX10_isOther 27 = .ok (.iload_n 0, 1) := by decide +kernel
theorem dX10_isOther_28 : decode cX10_isOther 28 = .ok (.ldc 233, 2) := by decide +kernel
theorem dX10_isOther_30 : decode cX10_isOther 30 = .ok (.invokestatic 222, 3) := by decide +kernel
theorem dX10_isOther_33 : decode cX10_isOther 33 = .ok (.if_icmp .eq 39, 3) := by decide +kernel
theorem dX10_isOther_36 : decode cX10_isOther 36 = .ok (.iload_n 0, 1) := by decide +kernel
theorem dX10_isOther_37 : decode cX10_isOther 37 = .ok (.ldc 234, 2) := by decide +kernel
theorem dX10_isOther_39 : decode cX10_isOther 39 = .ok (.invokestatic 222, 3) := by decide +kernel
theorem dX10_isOther_42 : decode cX10_isOther 42 = .ok (.if_icmp .eq 30, 3) := by decide +kernel
theorem dX10_isOther_45 : decode cX10_isOther 45 = .ok (.iload_n 0, 1) := by decide +kernel
theorem dX10_isOther_46 : decode cX10_isOther 46 = .ok (.ldc 236, 2) := by decide +kernel
theorem dX10_isOther_48 : decode cX10_isOther 48 = .ok (.invokestatic 222, 3) := by decide +kernel
theorem dX10_isOther_51 : decode cX10_isOther 51 = .ok (.if_icmp .eq 21, 3) := by decide +kernel
theorem dX10_isOther_54 : decode cX10_isOther 54 = .ok (.iload_n 0, 1) := by decide +kernel
theorem dX10_isOther_55 : decode cX10_isOther 55 = .ok (.ldc 238, 2) := by decide +kernel
theorem dX10_isOther_57 : decode cX10_isOther 57 = .ok (.invokestatic 222, 3) := by decide +kernel
theorem dX10_isOther_60 : decode cX10_isOther 60 = .ok (.if_icmp .eq 12, 3) := by decide +kernel
theorem dX10_isOther_63 : decode cX10_isOther 63 = .ok (.iload_n 0, 1) := by decide +kernel
theorem dX10_isOther_64 : decode cX10_isOther 64 = .ok (.ldc 239, 2) := by decide +kernel
theorem dX10_isOther_66 : decode cX10_isOther 66 = .ok (.invokestatic 222, 3) := by decide +kernel
theorem dX10_isOther_69 : decode cX10_isOther 69 = .ok (.if_icmp .ne 7, 3) := by decide +kernel
theorem dX10_isOther_72 : decode cX10_isOther 72 = .ok (.iconst 1, 1) := by decide +kernel
theorem dX10_isOther_73 : decode cX10_isOther 73 = .ok (.goto 4, 3) := by decide +kernel
theorem dX10_isOther_76 : decode cX10_isOther 76 = .ok (.iconst 0, 1) := by decide +kernel
theorem dX10_isOther_77 : decode cX10_isOther 77 = .ok (.ireturn, 1) := by decide +kernel
theorem dX10_shop_0 : decode cX10_shop 0 = .ok (.aload_n 0, 1) := by decide +kernel
theorem dX10_shop_1 : decode cX10_shop 1 = .ok (.iconst 0, 1) := by decide +kernel
theorem dX10_shop_2 : decode cX10_shop 2 = .ok (.putfield 3, 3) := by decide +kernel
theorem dX10_shop_5 : decode cX10_shop 5 = .ok (.aload_n 0, 1) := by decide +kernel
theorem dX10_shop_6 : decode cX10_shop 6 = .ok (.iload_n 1, 1) := by decide +kernel
theorem dX10_shop_7 : decode cX10_shop 7 = .ok (.ifCond .lt 15, 3) := by decide +kernel
theorem dX10_shop_10 : decode cX10_shop 10 = .ok (.iload_n 1, 1) := by decide +kernel
theorem dX10_shop_11 : decode cX10_shop 11 = .ok (.aload_n 0, 1) := by decide +kernel
theorem dX10_shop_12 : decode cX10_shop 12 = .ok (.getfield 144, 3) := by decide +kernel
theorem dX10_shop_15 : decode cX10_shop 15 = .ok (.if_icmp .gt 7, 3) := by decide +kernel
theorem dX10_shop_18 : decode cX10_shop 18 = .ok (.iconst 1, 1) := by decide +kernel
theorem dX10_shop_19 : decode cX10_shop 19 = .ok (.goto 4, 3) := by decide +kernel
theorem dX10_shop_22 : decode cX10_shop 22 = .ok (.iconst 0, 1) := by decide +kernel
theorem dX10_shop_23 : decode cX10_shop 23 = .ok (.iconst 1, 1) := by decide +kernel
theorem dX10_shop_24 : decode cX10_shop 24 = .ok (.iconst 2, 1) := by decide +kernel
theorem dX10_shop_25 : decode cX10_shop 25 = .ok (.invokevirtual 241, 3) := by decide +kernel
theorem dX10_shop_28 : decode cX10_shop 28 = .ok (.ifCond .ne 5, 3) := by decide +kernel
theorem dX10_shop_31 : decode cX10_shop 31 = .ok (.iconst 0, 1) := by decide +kernel
theorem dX10_shop_32 : decode cX10_shop 32 = .ok (.ireturn, 1) := by decide +kernel
theorem dX10_shop_33 : decode cX10_shop 33 = .ok (.aload_n 0, 1) := by decide +kernel
theorem dX10_shop_34 : decode cX10_shop 34 = .ok (.iload_n 1, 1) := by decide +kernel
theorem dX10_shop_35 : decode cX10_shop 35 = .ok (.invokevirtual 245, 3) := by decide +kernel
theorem dX10_shop_38 : decode cX10_shop 38 = .ok (.aload_n 0, 1) := by decide +kernel
theorem dX10_shop_39 : decode cX10_shop 39 = .ok (.invokevirtual 138, 3) := by decide +kernel
theorem dX10_shop_42 : decode cX10_shop 42 = .ok (.iconst 0, 1) := by decide +kernel
theorem dX10_shop_43 : decode cX10_shop 43 = .ok (.istore_n 2, 1) := by decide +kernel
theorem dX10_shop_44 : decode cX10_shop 44 = .ok (.iconst 0, 1) := by decide +kernel
theorem dX10_shop_45 : decode cX10_shop 45 = .ok (.istore_n 3, 1) := by decide +kernel
theorem dX10_shop_46 : decode cX10_shop 46 = .ok (.aload_n 0, 1) := by decide +kernel
theorem dX10_shop_47 : decode cX10_shop 47 = .ok (.invokevirtual 176, 3) := by decide +kernel
theorem dX10_shop_50 : decode cX10_shop 50 = .ok (.ifCond .eq 246, 3) := by decide +kernel
theorem dX10_shop_53 : decode cX10_shop 53 = .ok (.aload_n 0, 1) := by decide +kernel
theorem dX10_shop_54 : decode cX10_shop 54 = .ok (.invokevirtual 249, 3) := by decide +kernel
theorem dX10_shop_57 : decode cX10_shop 57 = .ok (.ifCond .eq 239, 3) := by decide +kernel
theorem dX10_shop_60 : decode cX10_shop 60 = .ok (.aload_n 0, 1) := by decide +kernel
theorem dX10_shop_61 : decode cX10_shop 61 = .ok (.invokevirtual 252, 3) := by decide +kernel
theorem dX10_shop_64 : decode cX10_shop 64 = .ok (.istore 4, 2) := by decide +kernel
theorem dX10_shop_66 : decode cX10_shop 66 = .ok (.iload 4, 2) := by decide +kernel
theorem dX10_shop_68 : decode cX10_shop 68 = .ok (.ldc 255, 2) := by decide +kernel
theorem dX10_shop_70 : decode cX10_shop 70 = .ok (.invokestatic 222, 3) := by decide +kernel
theorem dX10_shop_73 : decode cX10_shop 73 = .ok (.if_icmp .ne 7, 3) := by decide +kernel
theorem dX10_shop_76 : decode cX10_shop 76 = .ok (.iconst 1, 1) := by decide +kernel
theorem dX10_shop_77 : decode cX10_shop 77 = .ok (.goto 4, 3) := by decide +kernel
theorem dX10_shop_80 : decode cX10_shop 80 = .ok (.iconst 0, 1) := by decide +kernel
theorem dX10_shop_81 : decode cX10_shop 81 = .ok (.istore 5, 2) := by decide +kernel
theorem dX10_shop_83 : decode cX10_shop 83 = .ok (.iload 5, 2) := by decide +kernel
theorem dX10_shop_85 : decode cX10_shop 85 = .ok (.ifCond .ne 27, 3) := by decide +kernel
theorem dX10_shop_88 : decode cX10_shop 88 = .ok (.iload 4, 2) := by decide +kernel
theorem dX10_shop_90 : decode cX10_shop 90 = .ok (.invokestatic 257, 3) := by decide +kernel
theorem dX10_shop_93 : decode cX10_shop 93 = .ok (.ifCond .eq 7, 3) := by decide +kernel
theorem dX10_shop_96 : decode cX10_shop 96 = .ok (.iload_n 2, 1) := by decide +kernel
theorem dX10_shop_97 : decode cX10_shop 97 = .ok (.ifCond .ne 15, 3) := by decide +kernel
theorem dX10_shop_100 : decode cX10_shop 100 = .ok (.aload_n 0, 1) := by decide +kernel
theorem dX10_shop_101 : decode cX10_shop 101 = .ok (.iconst 1, 1) := by decide +kernel
theorem dX10_shop_102 : decode cX10_shop 102 = .ok (.aload_n 0, 1) := by decide +kernel
theorem dX10_shop_103 : decode cX10_shop 103 = .ok (.getfield 153, 3) := by decide +kernel
theorem dX10_shop_106 : decode cX10_shop 106 = .ok (.invokevirtual 183, 3) := by decide +kernel
theorem dX10_shop_109 : decode cX10_shop 109 = .ok (.goto 91, 3) := by decide +kernel
theorem dX10_shop_112 : decode cX10_shop 112 = .ok (.iload_n 2, 1) := by decide +kernel
theorem dX10_shop_113 : decode cX10_shop 113 = .ok (.bipush 60, 2) := by decide +kernel
theorem dX10_shop_115 : decode cX10_shop 115 = .ok (.if_icmp .eq 55, 3) := by decide +kernel
theorem dX10_shop_118 : decode cX10_shop 118 = .ok (.iload 5, 2) := by decide +kernel
theorem dX10_shop_120 : decode cX10_shop 120 = .ok (.ifCond .eq 12, 3) := by decide +kernel
theorem dX10_shop_123 : decode cX10_shop 123 = .ok (.aload_n 0, 1) := by decide +kernel
theorem dX10_shop_124 : decode cX10_shop 124 = .ok (.getfield 190, 3) := by decide +kernel
theorem dX10_shop_127 : decode cX10_shop 127 = .ok (.bipush 8, 2) := by decide +kernel
theorem dX10_shop_129 : decode cX10_shop 129 = .ok (.if_icmp .eq 41, 3) := by decide +kernel
theorem dX10_shop_132 : decode cX10_shop 132 = .ok (.iload 4, 2) := by decide +kernel
theorem dX10_shop_134 : decode cX10_shop 134 = .ok (.ldc 221, 2) := by decide +kernel
theorem dX10_shop_136 : decode cX10_shop 136 = .ok (.invokestatic 222, 3) := by decide +kernel
theorem dX10_shop_139 : decode cX10_shop 139 = .ok (.if_icmp .ne 12, 3) := by decide +kernel
theorem dX10_shop_142 : decode cX10_shop 142 = .ok (.aload_n 0, 1) := by decide +kernel
theorem dX10_shop_143 : decode cX10_shop 143 = .ok (.getfield 193, 3) := by decide +kernel
theorem dX10_shop_146 : decode cX10_shop 146 = .ok (.bipush 24, 2) := by decide +kernel
theorem dX10_shop_148 : decode cX10_shop 148 = .ok (.if_icmp .eq 22, 3) := by decide +kernel
theorem dX10_shop_151 : decode cX10_shop 151 = .ok (.iload 4, 2) := by decide +kernel
theorem dX10_shop_153 : decode cX10_shop 153 = .ok (.ldc 233, 2) := by decide +kernel
theorem dX10_shop_155 : decode cX10_shop 155 = .ok (.invokestatic 222, 3) := by decide +kernel
theorem dX10_shop_158 : decode cX10_shop 158 = .ok (.if_icmp .ne 24, 3) := by decide +kernel
theorem dX10_shop_161 : decode cX10_shop 161 = .ok (.aload_n 0, 1) := by decide +kernel
theorem dX10_shop_162 : decode cX10_shop 162 = .ok (.getfield 196, 3) := by decide +kernel
theorem dX10_shop_165 : decode cX10_shop 165 = .ok (.bipush 6, 2) := by decide +kernel
theorem dX10_shop_167 : decode cX10_shop 167 = .ok (.if_icmp .ne 15, 3) := by decide +kernel
theorem dX10_shop_170 : decode cX10_shop 170 = .ok (.aload_n 0, 1) := by decide +kernel
theorem dX10_shop_171 : decode cX10_shop 171 = .ok (.iconst 3, 1) := by decide +kernel
theorem dX10_shop_172 : decode cX10_shop 172 = .ok (.aload_n 0, 1) := by decide +kernel
theorem dX10_shop_173 : decode cX10_shop 173 = .ok (.getfield 153, 3) := by decide +kernel
theorem dX10_shop_176 : decode cX10_shop 176 = .ok (.invokevirtual 183, 3) := by decide +kernel
theorem dX10_shop_179 : decode cX10_shop 179 = .ok (.goto 21, 3) := by decide +kernel
theorem dX10_shop_182 : decode cX10_shop 182 = .ok (.iload 5, 2) := by decide +kernel
theorem dX10_shop_184 : decode cX10_shop 184 = .ok (.ifCond .eq 16, 3) := by decide +kernel
theorem dX10_shop_187 : decode cX10_shop 187 = .ok (.iload_n 3, 1) := by decide +kernel
theorem dX10_shop_188 : decode cX10_shop 188 = .ok (.ifCond .eq 12, 3) := by decide +kernel
theorem dX10_shop_191 : decode cX10_shop 191 = .ok (.aload_n 0, 1) := by decide +kernel
theorem dX10_shop_192 : decode cX10_shop 192 = .ok (.iconst 4, 1) := by decide +kernel
theorem dX10_shop_193 : decode cX10_shop 193 = .ok (.aload_n 0, 1) := by decide +kernel
theorem dX10_shop_194 : decode cX10_shop 194 = .ok (.getfield 153, 3) := by decide +kernel
theorem dX10_shop_197 : decode cX10_shop 197 = .ok (.invokevirtual 183, 3) := by decide +kernel
theorem dX10_shop_200 : decode cX10_shop 200 = .ok (.aload_n 0, 1) := by decide +kernel
theorem dX10_shop_201 : decode cX10_shop 201 = .ok (.invokevirtual 176, 3) := by decide +kernel
theorem dX10_shop_204 : decode cX10_shop 204 = .ok (.ifCond .ne 6, 3) := by decide +kernel
theorem dX10_shop_207 : decode cX10_shop 207 = .ok (.goto 89, 3) := by decide +kernel
theorem dX10_shop_210 : decode cX10_shop 210 = .ok (.aload_n 0, 1) := by decide +kernel
theorem dX10_shop_211 : decode cX10_shop 211 = .ok (.invokevirtual 260, 3) := by decide +kernel
theorem dX10_shop_214 : decode cX10_shop 214 = .ok (.iload 5, 2) := by decide +kernel
theorem dX10_shop_216 : decode cX10_shop 216 = .ok (.ifCond .eq 60, 3) := by decide +kernel
theorem dX10_shop_219 : decode cX10_shop 219 = .ok (.aload_n 0, 1) := by decide +kernel
theorem dX10_shop_220 : decode cX10_shop 220 = .ok (.getfield 44, 3) := by decide +kernel
theorem dX10_shop_223 : decode cX10_shop 223 = .ok (.aload_n 0, 1) := by decide +kernel
theorem dX10_shop_224 : decode cX10_shop 224 = .ok (.getfield 190, 3) := by decide +kernel
theorem dX10_shop_227 : decode cX10_shop 227 = .ok (.aload_n 0, 1) := by decide +kernel
theorem dX10_shop_228 : decode cX10_shop 228 = .ok (.getfield 190, 3) := by decide +kernel
theorem dX10_shop_231 : decode cX10_shop 231 = .ok (.ifCond .ne 12, 3) := by decide +kernel
theorem dX10_shop_234 : decode cX10_shop 234 = .ok (.aload_n 0, 1) := by decide +kernel
theorem dX10_shop_235 : decode cX10_shop 235 = .ok (.iconst 0, 1) := by decide +kernel
theorem dX10_shop_236 : decode cX10_shop 236 = .ok (.iconst 0, 1) := by decide +kernel
theorem dX10_shop_237 : decode cX10_shop 237 = .ok (.invokevirtual 226, 3) := by decide +kernel
theorem dX10_shop_240 : decode cX10_shop 240 = .ok (.goto 22, 3) := by decide +kernel
theorem dX10_shop_243 : decode cX10_shop 243 = .ok (.aload_n 0, 1) := by decide +kernel
theorem dX10_shop_244 : decode cX10_shop 244 = .ok (.aload_n 0, 1) := by decide +kernel
theorem dX10_shop_245 : decode cX10_shop 245 = .ok (.getfield 44, 3) := by decide +kernel
theorem dX10_shop_248 : decode cX10_shop 248 = .ok (.aload_n 0, 1) := by decide +kernel
theorem dX10_shop_249 : decode cX10_shop 249 = .ok (.getfield 190, 3) := by decide +kernel
theorem dX10_shop_252 : decode cX10_shop 252 = .ok (.iconst 1, 1) := by decide +kernel
theorem dX10_shop_253 : decode cX10_shop 253 = .ok (.isub, 1) := by decide +kernel
theorem dX10_shop_254 : decode cX10_shop 254 = .ok (.iaload, 1) := by decide +kernel
theorem dX10_shop_255 : decode cX10_shop 255 = .ok (.iconst 1, 1) := by decide +kernel
theorem dX10_shop_256 : decode cX10_shop 256 = .ok (.iadd, 1) := by decide +kernel
theorem dX10_shop_257 : decode cX10_shop 257 = .ok (.bipush 25, 2) := by decide +kernel
theorem dX10_shop_259 : decode cX10_shop 259 = .ok (.invokevirtual 226, 3) := by decide +kernel
theorem dX10_shop_262 : decode cX10_shop 262 = .ok (.iastore, 1) := by decide +kernel
theorem dX10_shop_263 : decode cX10_shop 263 = .ok (.aload_n 0, 1) := by decide +kernel
theorem dX10_shop_264 : decode cX10_shop 264 = .ok (.dup, 1) := by decide +kernel
theorem dX10_shop_265 : decode cX10_shop 265 = .ok (.getfield 190, 3) := by decide +kernel
theorem dX10_shop_268 : decode cX10_shop 268 = .ok (.iconst 1, 1) := by decide +kernel
theorem dX10_shop_269 : decode cX10_shop 269 = .ok (.iadd, 1) := by decide +kernel
theorem dX10_shop_270 : decode cX10_shop 270 = .ok (.putfield 190, 3) := by decide +kernel
theorem dX10_shop_273 : decode cX10_shop 273 = .ok (.goto 11, 3) := by decide +kernel
theorem dX10_shop_276 : decode cX10_shop 276 = .ok (.aload_n 0, 1) := by decide +kernel
theorem dX10_shop_277 : decode cX10_shop 277 = .ok (.iload 4, 2) := by decide +kernel
theorem dX10_shop_279 : decode cX10_shop 279 = .ok (.invokevirtual 263, 3) := by decide +kernel
theorem dX10_shop_282 : decode cX10_shop 282 = .ok (.iconst 1, 1) := by decide +kernel
theorem dX10_shop_283 : decode cX10_shop 283 = .ok (.istore_n 3, 1) := by decide +kernel
theorem dX10_shop_284 : decode cX10_shop 284 = .ok (.aload_n 0, 1) := by decide +kernel
theorem dX10_shop_285 : decode cX10_shop 285 = .ok (.bipush 59, 2) := by decide +kernel
theorem dX10_shop_287 : decode cX10_shop 287 = .ok (.invokevirtual 266, 3) := by decide +kernel
theorem dX10_shop_290 : decode cX10_shop 290 = .ok (.iinc 2 1, 3) := by decide +kernel
theorem dX10_shop_293 : decode cX10_shop 293 = .ok (.goto (-247), 3) := by decide +kernel
theorem dX10_shop_296 : decode cX10_shop 296 = .ok (.aload_n 0, 1) := by decide +kernel
theorem dX10_shop_297 : decode cX10_shop 297 = .ok (.aload_n 0, 1) := by decide +kernel
theorem dX10_shop_298 : decode cX10_shop 298 = .ok (.getfield 193, 3) := by decide +kernel
theorem dX10_shop_301 : decode cX10_shop 301 = .ok (.invokevirtual 269, 3) := by decide +kernel
theorem dX10_shop_304 : decode cX10_shop 304 = .ok (.istore 4, 2) := by decide +kernel
theorem dX10_shop_306 : decode cX10_shop 306 = .ok (.aload_n 0, 1) := by decide +kernel
theorem dX10_shop_307 : decode cX10_shop 307 = .ok (.getfield 147, 3) := by decide +kernel
theorem dX10_shop_310 : decode cX10_shop 310 = .ok (.iconst (-1), 1) := by decide +kernel
theorem dX10_shop_311 : decode cX10_shop 311 = .ok (.if_icmp .ne 7, 3) := by decide +kernel
theorem dX10_shop_314 : decode cX10_shop 314 = .ok (.aload_n 0, 1) := by decide +kernel
theorem dX10_shop_315 : decode cX10_shop 315 = .ok (.invokevirtual 141, 3) := by decide +kernel
theorem dX10_shop_318 : decode cX10_shop 318 = .ok (.iload 4, 2) := by decide +kernel
theorem dX10_shop_320 : decode cX10_shop 320 = .ok (.ireturn, 1) := by decide +kernel
theorem dX10_told_0 : decode cX10_told 0 = .ok (.aload_n 0, 1) := by decide +kernel
theorem dX10_told_1 : decode cX10_told 1 = .ok (.iconst 0, 1) := by decide +kernel
theorem dX10_told_2 : decode cX10_told 2 = .ok (.putfield 3, 3) := by decide +kernel
theorem dX10_told_5 : decode cX10_told 5 = .ok (.aload_n 0, 1) := by decide +kernel
theorem dX10_told_6 : decode cX10_told 6 = .ok (.iload_n 1, 1) := by decide +kernel
theorem dX10_told_7 : decode cX10_told 7 = .ok (.iconst 0, 1) := by decide +kernel
theorem dX10_told_8 : decode cX10_told 8 = .ok (.bipush 7, 2) := by decide +kernel
theorem dX10_told_10 : decode cX10_told 10 = .ok (.invokestatic 273, 3) := by decide +kernel
theorem dX10_told_13 : decode cX10_told 13 = .ok (.iconst 1, 1) := by decide +kernel
theorem dX10_told_14 : decode cX10_told 14 = .ok (.iconst 2, 1) := by decide +kernel
theorem dX10_told_15 : decode cX10_told 15 = .ok (.invokevirtual 241, 3) := by decide +kernel
theorem dX10_told_18 : decode cX10_told 18 = .ok (.ifCond .ne 5, 3) := by decide +kernel
theorem dX10_told_21 : decode cX10_told 21 = .ok (.iconst 0, 1) := by decide +kernel
theorem dX10_told_22 : decode cX10_told 22 = .ok (.ireturn, 1) := by decide +kernel
theorem dX10_told_23 : decode cX10_told 23 = .ok (.iload_n 1, 1) := by decide +kernel
theorem dX10_told_24 : decode cX10_told 24 = .ok (.ifCond .ne 10, 3) := by decide +kernel
theorem dX10_told_27 : decode cX10_told 27 = .ok (.aload_n 0, 1) := by decide +kernel
theorem dX10_told_28 : decode cX10_told 28 = .ok (.getfield 202, 3) := by decide +kernel
theorem dX10_told_31 : decode cX10_told 31 = .ok (.goto 47, 3) := by decide +kernel
theorem dX10_told_34 : decode cX10_told 34 = .ok (.iload_n 1, 1) := by decide +kernel
theorem dX10_told_35 : decode cX10_told 35 = .ok (.iconst 1, 1) := by decide +kernel
theorem dX10_told_36 : decode cX10_told 36 = .ok (.if_icmp .ne 10, 3) := by decide +kernel
theorem dX10_told_39 : decode cX10_told 39 = .ok (.aload_n 0, 1) := by decide +kernel
theorem dX10_told_40 : decode cX10_told 40 = .ok (.getfield 205, 3) := by decide +kernel
theorem dX10_told_43 : decode cX10_told 43 = .ok (.goto 35, 3) := by decide +kernel
theorem dX10_told_46 : decode cX10_told 46 = .ok (.iload_n 1, 1) := by decide +kernel
theorem dX10_told_47 : decode cX10_told 47 = .ok (.iconst 2, 1) := by decide +kernel
theorem dX10_told_48 : decode cX10_told 48 = .ok (.if_icmp .ne 10, 3) := by decide +kernel
theorem dX10_told_51 : decode cX10_told 51 = .ok (.aload_n 0, 1) := by decide +kernel
theorem dX10_told_52 : decode cX10_told 52 = .ok (.getfield 208, 3) := by decide +kernel
theorem dX10_told_55 : decode cX10_told 55 = .ok (.goto 23, 3) := by decide +kernel
theorem dX10_told_58 : decode cX10_told 58 = .ok (.iload_n 1, 1) := by decide +kernel
theorem dX10_told_59 : decode cX10_told 59 = .ok (.iconst 3, 1) := by decide +kernel
theorem dX10_told_60 : decode cX10_told 60 = .ok (.if_icmp .ne 10, 3) := by decide +kernel
theorem dX10_told_63 : decode cX10_told 63 = .ok (.aload_n 0, 1) := by decide +kernel
theorem dX10_told_64 : decode cX10_told 64 = .ok (.getfield 65, 3) := by decide +kernel
theorem dX10_told_67 : decode cX10_told 67 = .ok (.goto 11, 3) := by decide +kernel
theorem dX10_told_70 : decode cX10_told 70 = .ok (.aload_n 0, 1) := by decide +kernel
theorem dX10_told_71 : decode cX10_told 71 = .ok (.getfield 35, 3) := by decide +kernel
theorem dX10_told_74 : decode cX10_told 74 = .ok (.iload_n 1, 1) := by decide +kernel
theorem dX10_told_75 : decode cX10_told 75 = .ok (.iconst 4, 1) := by decide +kernel
theorem dX10_told_76 : decode cX10_told 76 = .ok (.isub, 1) := by decide +kernel
theorem dX10_told_77 : decode cX10_told 77 = .ok (.iaload, 1) := by decide +kernel
theorem dX10_told_78 : decode cX10_told 78 = .ok (.ireturn, 1) := by decide +kernel
theorem dX10_comesTo_0 : decode cX10_comesTo 0 = .ok (.aload_n 0, 1) := by decide +kernel
theorem dX10_comesTo_1 : decode cX10_comesTo 1 = .ok (.getfield 71, 3) := by decide +kernel
theorem dX10_comesTo_4 : decode cX10_comesTo 4 = .ok (.bipush 24, 2) := by decide +kernel
theorem dX10_comesTo_6 : decode cX10_comesTo 6 = .ok (.iload_n 1, 1) := by decide +kernel
theorem dX10_comesTo_7 : decode cX10_comesTo 7 = .ok (.imul, 1) := by decide +kernel
theorem dX10_comesTo_8 : decode cX10_comesTo 8 = .ok (.aload_n 0, 1) := by decide +kernel
theorem dX10_comesTo_9 : decode cX10_comesTo 9 = .ok (.getfield 68, 3) := by decide +kernel
theorem dX10_comesTo_12 : decode cX10_comesTo 12 = .ok (.iload_n 1, 1) := by decide +kernel
theorem dX10_comesTo_13 : decode cX10_comesTo 13 = .ok (.iaload, 1) := by decide +kernel
theorem dX10_comesTo_14 : decode cX10_comesTo 14 = .ok (.iadd, 1) := by decide +kernel
theorem dX10_comesTo_15 : decode cX10_comesTo 15 = .ok (.iload_n 2, 1) := by decide +kernel
theorem dX10_comesTo_16 : decode cX10_comesTo 16 = .ok (.iastore, 1) := by decide +kernel
theorem dX10_comesTo_17 : decode cX10_comesTo 17 = .ok (.aload_n 0, 1) := by decide +kernel
theorem dX10_comesTo_18 : decode cX10_comesTo 18 = .ok (.getfield 68, 3) := by decide +kernel
theorem dX10_comesTo_21 : decode cX10_comesTo 21 = .ok (.iload_n 1, 1) := by decide +kernel
theorem dX10_comesTo_22 : decode cX10_comesTo 22 = .ok (.dup2, 1) := by decide +kernel
theorem dX10_comesTo_23 : decode cX10_comesTo 23 = .ok (.iaload, 1) := by decide +kernel
theorem dX10_comesTo_24 : decode cX10_comesTo 24 = .ok (.iconst 1, 1) := by decide +kernel
theorem dX10_comesTo_25 : decode cX10_comesTo 25 = .ok (.iadd, 1) := by decide +kernel
theorem dX10_comesTo_26 : decode cX10_comesTo 26 = .ok (.iastore, 1) := by decide +kernel
theorem dX10_comesTo_27 : decode cX10_comesTo 27 = .ok (.aload_n 0, 1) := by decide +kernel
theorem dX10_comesTo_28 : decode cX10_comesTo 28 = .ok (.getfield 38, 3) := by decide +kernel
theorem dX10_comesTo_31 : decode cX10_comesTo 31 = .ok (.iload_n 2, 1) := by decide +kernel
theorem dX10_comesTo_32 : decode cX10_comesTo 32 = .ok (.iload_n 1, 1) := by decide +kernel
theorem dX10_comesTo_33 : decode cX10_comesTo 33 = .ok (.iastore, 1) := by decide +kernel
theorem dX10_comesTo_34 : decode cX10_comesTo 34 = .ok (.return_, 1) := by decide +kernel
theorem dX10_goesOut_0 : decode cX10_goesOut 0 = .ok (.aload_n 0, 1) := by decide +kernel
theorem dX10_goesOut_1 : decode cX10_goesOut 1 = .ok (.getfield 38, 3) := by decide +kernel
theorem dX10_goesOut_4 : decode cX10_goesOut 4 = .ok (.iload_n 1, 1) := by decide +kernel
theorem dX10_goesOut_5 : decode cX10_goesOut 5 = .ok (.iaload, 1) := by decide +kernel
theorem dX10_goesOut_6 : decode cX10_goesOut 6 = .ok (.istore_n 2, 1) := by decide +kernel
theorem dX10_goesOut_7 : decode cX10_goesOut 7 = .ok (.iconst 0, 1) := by decide +kernel
theorem dX10_goesOut_8 : decode cX10_goesOut 8 = .ok (.istore_n 3, 1) := by decide +kernel
theorem dX10_goesOut_9 : decode cX10_goesOut 9 = .ok (.iconst 0, 1) := by decide +kernel
theorem dX10_goesOut_10 : decode cX10_goesOut 10 = .ok (.istore 4, 2) := by decide +kernel
theorem dX10_goesOut_12 : decode cX10_goesOut 12 = .ok (.iload 4, 2) := by decide +kernel
theorem dX10_goesOut_14 : decode cX10_goesOut 14 = .ok (.aload_n 0, 1) := by decide +kernel
theorem dX10_goesOut_15 : decode cX10_goesOut 15 = .ok (.getfield 68, 3) := by decide +kernel
theorem dX10_goesOut_18 : decode cX10_goesOut 18 = .ok (.iload_n 2, 1) := by decide +kernel
theorem dX10_goesOut_19 : decode cX10_goesOut 19 = .ok (.iaload, 1) := by decide +kernel
theorem dX10_goesOut_20 : decode cX10_goesOut 20 = .ok (.if_icmp .ge 54, 3) := by decide +kernel
theorem dX10_goesOut_23 : decode cX10_goesOut 23 = .ok (.aload_n 0, 1) := by decide +kernel
theorem dX10_goesOut_24 : decode cX10_goesOut 24 = .ok (.getfield 71, 3) := by decide +kernel
theorem dX10_goesOut_27 : decode cX10_goesOut 27 = .ok (.bipush 24, 2) := by decide +kernel
theorem dX10_goesOut_29 : decode cX10_goesOut 29 = .ok (.iload_n 2, 1) := by decide +kernel
theorem dX10_goesOut_30 : decode cX10_goesOut 30 = .ok (.imul, 1) := by decide +kernel
theorem dX10_goesOut_31 : decode cX10_goesOut 31 = .ok (.iload 4, 2) := by decide +kernel
theorem dX10_goesOut_33 : decode cX10_goesOut 33 = .ok (.iadd, 1) := by decide +kernel
theorem dX10_goesOut_34 : decode cX10_goesOut 34 = .ok (.iaload, 1) := by decide +kernel
theorem dX10_goesOut_35 : decode cX10_goesOut 35 = .ok (.iload_n 1, 1) := by decide +kernel
theorem dX10_goesOut_36 : decode cX10_goesOut 36 = .ok (.if_icmp .ne 6, 3) := by decide +kernel
theorem dX10_goesOut_39 : decode cX10_goesOut 39 = .ok (.goto 29, 3) := by decide +kernel
theorem dX10_goesOut_42 : decode cX10_goesOut 42 = .ok (.aload_n 0, 1) := by decide +kernel
theorem dX10_goesOut_43 : decode cX10_goesOut 43 = .ok (.getfield 71, 3) := by decide +kernel
theorem dX10_goesOut_46 : decode cX10_goesOut 46 = .ok (.bipush 24, 2) := by decide +kernel
theorem dX10_goesOut_48 : decode cX10_goesOut 48 = .ok (.iload_n 2, 1) := by decide +kernel
theorem dX10_goesOut_49 : decode cX10_goesOut 49 = .ok (.imul, 1) := by decide +kernel
theorem dX10_goesOut_50 : decode cX10_goesOut 50 = .ok (.iload_n 3, 1) := by decide +kernel
theorem dX10_goesOut_51 : decode cX10_goesOut 51 = .ok (.iadd, 1) := by decide +kernel
theorem dX10_goesOut_52 : decode cX10_goesOut 52 = .ok (.aload_n 0, 1) := by decide +kernel
theorem dX10_goesOut_53 : decode cX10_goesOut 53 = .ok (.getfield 71, 3) := by decide +kernel
theorem dX10_goesOut_56 : decode cX10_goesOut 56 = .ok (.bipush 24, 2) := by decide +kernel
theorem dX10_goesOut_58 : decode cX10_goesOut 58 = .ok (.iload_n 2, 1) := by decide +kernel
theorem dX10_goesOut_59 : decode cX10_goesOut 59 = .ok (.imul, 1) := by decide +kernel
theorem dX10_goesOut_60 : decode cX10_goesOut 60 = .ok (.iload 4, 2) := by decide +kernel
theorem dX10_goesOut_62 : decode cX10_goesOut 62 = .ok (.iadd, 1) := by decide +kernel
theorem dX10_goesOut_63 : decode cX10_goesOut 63 = .ok (.iaload, 1) := by decide +kernel
theorem dX10_goesOut_64 : decode cX10_goesOut 64 = .ok (.iastore, 1) := by decide +kernel
theorem dX10_goesOut_65 : decode cX10_goesOut 65 = .ok (.iinc 3 1, 3) := by decide +kernel
theorem dX10_goesOut_68 : decode cX10_goesOut 68 = .ok (.iinc 4 1, 3) := by decide +kernel
theorem dX10_goesOut_71 : decode cX10_goesOut 71 = .ok (.goto (-59), 3) := by decide +kernel
theorem dX10_goesOut_74 : decode cX10_goesOut 74 = .ok (.aload_n 0, 1) := by decide +kernel
theorem dX10_goesOut_75 : decode cX10_goesOut 75 = .ok (.getfield 68, 3) := by decide +kernel
theorem dX10_goesOut_78 : decode cX10_goesOut 78 = .ok (.iload_n 2, 1) := by decide +kernel
theorem dX10_goesOut_79 : decode cX10_goesOut 79 = .ok (.iload_n 3, 1) := by decide +kernel
theorem dX10_goesOut_80 : decode cX10_goesOut 80 = .ok (.iastore, 1) := by decide +kernel
theorem dX10_goesOut_81 : decode cX10_goesOut 81 = .ok (.aload_n 0, 1) := by decide +kernel
theorem dX10_goesOut_82 : decode cX10_goesOut 82 = .ok (.getfield 38, 3) := by decide +kernel
theorem dX10_goesOut_85 : decode cX10_goesOut 85 = .ok (.iload_n 1, 1) := by decide +kernel
theorem dX10_goesOut_86 : decode cX10_goesOut 86 = .ok (.iconst (-1), 1) := by decide +kernel
theorem dX10_goesOut_87 : decode cX10_goesOut 87 = .ok (.iastore, 1) := by decide +kernel
theorem dX10_goesOut_88 : decode cX10_goesOut 88 = .ok (.return_, 1) := by decide +kernel
theorem dX10_isCrate_0 : decode cX10_isCrate 0 = .ok (.aload_n 0, 1) := by decide +kernel
theorem dX10_isCrate_1 : decode cX10_isCrate 1 = .ok (.iload_n 1, 1) := by decide +kernel
theorem dX10_isCrate_2 : decode cX10_isCrate 2 = .ok (.iconst 0, 1) := by decide +kernel
theorem dX10_isCrate_3 : decode cX10_isCrate 3 = .ok (.aload_n 0, 1) := by decide +kernel
theorem dX10_isCrate_4 : decode cX10_isCrate 4 = .ok (.getfield 202, 3) := by decide +kernel
theorem dX10_isCrate_7 : decode cX10_isCrate 7 = .ok (.iconst 1, 1) := by decide +kernel
theorem dX10_isCrate_8 : decode cX10_isCrate 8 = .ok (.isub, 1) := by decide +kernel
theorem dX10_isCrate_9 : decode cX10_isCrate 9 = .ok (.invokestatic 273, 3) := by decide +kernel
theorem dX10_isCrate_12 : decode cX10_isCrate 12 = .ok (.iload_n 2, 1) := by decide +kernel
theorem dX10_isCrate_13 : decode cX10_isCrate 13 = .ok (.iconst 0, 1) := by decide +kernel
theorem dX10_isCrate_14 : decode cX10_isCrate 14 = .ok (.invokevirtual 241, 3) := by decide +kernel
theorem dX10_isCrate_17 : decode cX10_isCrate 17 = .ok (.ireturn, 1) := by decide +kernel
theorem dX10_isSleeve_0 : decode cX10_isSleeve 0 = .ok (.aload_n 0, 1) := by decide +kernel
theorem dX10_isSleeve_1 : decode cX10_isSleeve 1 = .ok (.iload_n 1, 1) := by decide +kernel
theorem dX10_isSleeve_2 : decode cX10_isSleeve 2 = .ok (.iconst 0, 1) := by decide +kernel
theorem dX10_isSleeve_3 : decode cX10_isSleeve 3 = .ok (.aload_n 0, 1) := by decide +kernel
theorem dX10_isSleeve_4 : decode cX10_isSleeve 4 = .ok (.getfield 205, 3) := by decide +kernel
theorem dX10_isSleeve_7 : decode cX10_isSleeve 7 = .ok (.iconst 1, 1) := by decide +kernel
theorem dX10_isSleeve_8 : decode cX10_isSleeve 8 = .ok (.isub, 1) := by decide +kernel
theorem dX10_isSleeve_9 : decode cX10_isSleeve 9 = .ok (.invokestatic 273, 3) := by decide +kernel
theorem dX10_isSleeve_12 : decode cX10_isSleeve 12 = .ok (.iload_n 2, 1) := by decide +kernel
theorem dX10_isSleeve_13 : decode cX10_isSleeve 13 = .ok (.iconst 1, 1) := by decide +kernel
theorem dX10_isSleeve_14 : decode cX10_isSleeve 14 = .ok (.invokevirtual 241, 3) := by decide +kernel
theorem dX10_isSleeve_17 : decode cX10_isSleeve 17 = .ok (.ireturn, 1) := by decide +kernel
theorem dX10_isLooker_0 : decode cX10_isLooker 0 = .ok (.aload_n 0, 1) := by decide +kernel
theorem dX10_isLooker_1 : decode cX10_isLooker 1 = .ok (.iload_n 1, 1) := by decide +kernel
theorem dX10_isLooker_2 : decode cX10_isLooker 2 = .ok (.iconst 0, 1) := by decide +kernel
theorem dX10_isLooker_3 : decode cX10_isLooker 3 = .ok (.aload_n 0, 1) := by decide +kernel
theorem dX10_isLooker_4 : decode cX10_isLooker 4 = .ok (.getfield 208, 3) := by decide +kernel
theorem dX10_isLooker_7 : decode cX10_isLooker 7 = .ok (.iconst 1, 1) := by decide +kernel
theorem dX10_isLooker_8 : decode cX10_isLooker 8 = .ok (.isub, 1) := by decide +kernel
theorem dX10_isLooker_9 : decode cX10_isLooker 9 = .ok (.invokestatic 273, 3) := by decide +kernel
theorem dX10_isLooker_12 : decode cX10_isLooker 12 = .ok (.iload_n 2, 1) := by decide +kernel
theorem dX10_isLooker_13 : decode cX10_isLooker 13 = .ok (.iconst 1, 1) := by decide +kernel
theorem dX10_isLooker_14 : decode cX10_isLooker 14 = .ok (.invokevirtual 241, 3) := by decide +kernel
theorem dX10_isLooker_17 : decode cX10_isLooker 17 = .ok (.ireturn, 1) := by decide +kernel
theorem dX10_crate_0 : decode cX10_crate 0 = .ok (.aload_n 0, 1) := by decide +kernel
theorem dX10_crate_1 : decode cX10_crate 1 = .ok (.iconst 0, 1) := by decide +kernel
theorem dX10_crate_2 : decode cX10_crate 2 = .ok (.putfield 3, 3) := by decide +kernel
theorem dX10_crate_5 : decode cX10_crate 5 = .ok (.aload_n 0, 1) := by decide +kernel
theorem dX10_crate_6 : decode cX10_crate 6 = .ok (.iload_n 1, 1) := by decide +kernel
theorem dX10_crate_7 : decode cX10_crate 7 = .ok (.iconst 1, 1) := by decide +kernel
theorem dX10_crate_8 : decode cX10_crate 8 = .ok (.invokevirtual 277, 3) := by decide +kernel
theorem dX10_crate_11 : decode cX10_crate 11 = .ok (.ifCond .eq 18, 3) := by decide +kernel
theorem dX10_crate_14 : decode cX10_crate 14 = .ok (.aload_n 0, 1) := by decide +kernel
theorem dX10_crate_15 : decode cX10_crate 15 = .ok (.iload_n 2, 1) := by decide +kernel
theorem dX10_crate_16 : decode cX10_crate 16 = .ok (.iconst 0, 1) := by decide +kernel
theorem dX10_crate_17 : decode cX10_crate 17 = .ok (.iconst 1, 1) := by decide +kernel
theorem dX10_crate_18 : decode cX10_crate 18 = .ok (.invokestatic 273, 3) := by decide +kernel
theorem dX10_crate_21 : decode cX10_crate 21 = .ok (.iconst 2, 1) := by decide +kernel
theorem dX10_crate_22 : decode cX10_crate 22 = .ok (.iconst 2, 1) := by decide +kernel
theorem dX10_crate_23 : decode cX10_crate 23 = .ok (.invokevirtual 241, 3) := by decide +kernel
theorem dX10_crate_26 : decode cX10_crate 26 = .ok (.ifCond .ne 5, 3) := by decide +kernel
theorem dX10_crate_29 : decode cX10_crate 29 = .ok (.iconst 0, 1) := by decide +kernel
theorem dX10_crate_30 : decode cX10_crate 30 = .ok (.ireturn, 1) := by decide +kernel
theorem dX10_crate_31 : decode cX10_crate 31 = .ok (.iload_n 2, 1) := by decide +kernel
theorem dX10_crate_32 : decode cX10_crate 32 = .ok (.ifCond .ne 12, 3) := by decide +kernel
theorem dX10_crate_35 : decode cX10_crate 35 = .ok (.aload_n 0, 1) := by decide +kernel
theorem dX10_crate_36 : decode cX10_crate 36 = .ok (.getfield 23, 3) := by decide +kernel
theorem dX10_crate_39 : decode cX10_crate 39 = .ok (.iload_n 1, 1) := by decide +kernel
theorem dX10_crate_40 : decode cX10_crate 40 = .ok (.iaload, 1) := by decide +kernel
theorem dX10_crate_41 : decode cX10_crate 41 = .ok (.goto 9, 3) := by decide +kernel
theorem dX10_crate_44 : decode cX10_crate 44 = .ok (.aload_n 0, 1) := by decide +kernel
theorem dX10_crate_45 : decode cX10_crate 45 = .ok (.getfield 68, 3) := by decide +kernel
theorem dX10_crate_48 : decode cX10_crate 48 = .ok (.iload_n 1, 1) := by decide +kernel
theorem dX10_crate_49 : decode cX10_crate 49 = .ok (.iaload, 1) := by decide +kernel
theorem dX10_crate_50 : decode cX10_crate 50 = .ok (.ireturn, 1) := by decide +kernel
theorem dX10_row_0 : decode cX10_row 0 = .ok (.aload_n 0, 1) := by decide +kernel
theorem dX10_row_1 : decode cX10_row 1 = .ok (.iconst 0, 1) := by decide +kernel
theorem dX10_row_2 : decode cX10_row 2 = .ok (.putfield 3, 3) := by decide +kernel
theorem dX10_row_5 : decode cX10_row 5 = .ok (.aload_n 0, 1) := by decide +kernel
theorem dX10_row_6 : decode cX10_row 6 = .ok (.iload_n 1, 1) := by decide +kernel
theorem dX10_row_7 : decode cX10_row 7 = .ok (.iconst 1, 1) := by decide +kernel
theorem dX10_row_8 : decode cX10_row 8 = .ok (.invokevirtual 277, 3) := by decide +kernel
theorem dX10_row_11 : decode cX10_row 11 = .ok (.ifCond .ne 5, 3) := by decide +kernel
theorem dX10_row_14 : decode cX10_row 14 = .ok (.iconst 0, 1) := by decide +kernel
theorem dX10_row_15 : decode cX10_row 15 = .ok (.ireturn, 1) := by decide +kernel
theorem dX10_row_16 : decode cX10_row 16 = .ok (.iload_n 2, 1) := by decide +kernel
theorem dX10_row_17 : decode cX10_row 17 = .ok (.iconst 0, 1) := by decide +kernel
theorem dX10_row_18 : decode cX10_row 18 = .ok (.aload_n 0, 1) := by decide +kernel
theorem dX10_row_19 : decode cX10_row 19 = .ok (.getfield 68, 3) := by decide +kernel
theorem dX10_row_22 : decode cX10_row 22 = .ok (.iload_n 1, 1) := by decide +kernel
theorem dX10_row_23 : decode cX10_row 23 = .ok (.iaload, 1) := by decide +kernel
theorem dX10_row_24 : decode cX10_row 24 = .ok (.iconst 1, 1) := by decide +kernel
theorem dX10_row_25 : decode cX10_row 25 = .ok (.isub, 1) := by decide +kernel
theorem dX10_row_26 : decode cX10_row 26 = .ok (.invokestatic 273, 3) := by decide +kernel
theorem dX10_row_29 : decode cX10_row 29 = .ok (.ifCond .eq 17, 3) := by decide +kernel
theorem dX10_row_32 : decode cX10_row 32 = .ok (.aload_n 0, 1) := by decide +kernel
theorem dX10_row_33 : decode cX10_row 33 = .ok (.getfield 71, 3) := by decide +kernel
theorem dX10_row_36 : decode cX10_row 36 = .ok (.bipush 24, 2) := by decide +kernel
theorem dX10_row_38 : decode cX10_row 38 = .ok (.iload_n 1, 1) := by decide +kernel
theorem dX10_row_39 : decode cX10_row 39 = .ok (.imul, 1) := by decide +kernel
theorem dX10_row_40 : decode cX10_row 40 = .ok (.iload_n 2, 1) := by decide +kernel
theorem dX10_row_41 : decode cX10_row 41 = .ok (.iadd, 1) := by decide +kernel
theorem dX10_row_42 : decode cX10_row 42 = .ok (.iaload, 1) := by decide +kernel
theorem dX10_row_43 : decode cX10_row 43 = .ok (.goto 4, 3) := by decide +kernel
theorem dX10_row_46 : decode cX10_row 46 = .ok (.iconst (-1), 1) := by decide +kernel
theorem dX10_row_47 : decode cX10_row 47 = .ok (.ireturn, 1) := by decide +kernel
theorem dX10_kindOf_0 : decode cX10_kindOf 0 = .ok (.aload_n 0, 1) := by decide +kernel
theorem dX10_kindOf_1 : decode cX10_kindOf 1 = .ok (.getfield 38, 3) := by decide +kernel
theorem dX10_kindOf_4 : decode cX10_kindOf 4 = .ok (.iload_n 1, 1) := by decide +kernel
theorem dX10_kindOf_5 : decode cX10_kindOf 5 = .ok (.iaload, 1) := by decide +kernel
theorem dX10_kindOf_6 : decode cX10_kindOf 6 = .ok (.iconst (-1), 1) := by decide +kernel
theorem dX10_kindOf_7 : decode cX10_kindOf 7 = .ok (.if_icmp .ne 5, 3) := by decide +kernel
theorem dX10_kindOf_10 : decode cX10_kindOf 10 = .ok (.iconst 4, 1) := by decide +kernel
theorem dX10_kindOf_11 : decode cX10_kindOf 11 = .ok (.ireturn, 1) := by decide +kernel
theorem dX10_kindOf_12 : decode cX10_kindOf 12 = .ok (.aload_n 0, 1) := by decide +kernel
theorem dX10_kindOf_13 : decode cX10_kindOf 13 = .ok (.getfield 41, 3) := by decide +kernel
theorem dX10_kindOf_16 : decode cX10_kindOf 16 = .ok (.iload_n 1, 1) := by decide +kernel
theorem dX10_kindOf_17 : decode cX10_kindOf 17 = .ok (.iaload, 1) := by decide +kernel
theorem dX10_kindOf_18 : decode cX10_kindOf 18 = .ok (.iload_n 1, 1) := by decide +kernel
theorem dX10_kindOf_19 : decode cX10_kindOf 19 = .ok (.if_icmp .eq 5, 3) := by decide +kernel
theorem dX10_kindOf_22 : decode cX10_kindOf 22 = .ok (.iconst 3, 1) := by decide +kernel
theorem dX10_kindOf_23 : decode cX10_kindOf 23 = .ok (.ireturn, 1) := by decide +kernel
theorem dX10_kindOf_24 : decode cX10_kindOf 24 = .ok (.aload_n 0, 1) := by decide +kernel
theorem dX10_kindOf_25 : decode cX10_kindOf 25 = .ok (.iload_n 1, 1) := by decide +kernel
theorem dX10_kindOf_26 : decode cX10_kindOf 26 = .ok (.invokevirtual 281, 3) := by decide +kernel
theorem dX10_kindOf_29 : decode cX10_kindOf 29 = .ok (.istore_n 2, 1) := by decide +kernel
theorem dX10_kindOf_30 : decode cX10_kindOf 30 = .ok (.iload_n 2, 1) := by decide +kernel
theorem dX10_kindOf_31 : decode cX10_kindOf 31 = .ok (.iconst 2, 1) := by decide +kernel
theorem dX10_kindOf_32 : decode cX10_kindOf 32 = .ok (.if_icmp .le 7, 3) := by decide +kernel
theorem dX10_kindOf_35 : decode cX10_kindOf 35 = .ok (.iconst 2, 1) := by decide +kernel
theorem dX10_kindOf_36 : decode cX10_kindOf 36 = .ok (.goto 4, 3) := by decide +kernel
theorem dX10_kindOf_39 : decode cX10_kindOf 39 = .ok (.iload_n 2, 1) := by decide +kernel
theorem dX10_kindOf_40 : decode cX10_kindOf 40 = .ok (.ireturn, 1) := by decide +kernel
theorem dX10_away_0 : decode cX10_away 0 = .ok (.aload_n 0, 1) := by decide +kernel
theorem dX10_away_1 : decode cX10_away 1 = .ok (.getfield 38, 3) := by decide +kernel
theorem dX10_away_4 : decode cX10_away 4 = .ok (.iload_n 1, 1) := by decide +kernel
theorem dX10_away_5 : decode cX10_away 5 = .ok (.iaload, 1) := by decide +kernel
theorem dX10_away_6 : decode cX10_away 6 = .ok (.aload_n 0, 1) := by decide +kernel
theorem dX10_away_7 : decode cX10_away 7 = .ok (.iload_n 1, 1) := by decide +kernel
theorem dX10_away_8 : decode cX10_away 8 = .ok (.invokevirtual 284, 3) := by decide +kernel
theorem dX10_away_11 : decode cX10_away 11 = .ok (.if_icmp .ge 18, 3) := by decide +kernel
theorem dX10_away_14 : decode cX10_away 14 = .ok (.aload_n 0, 1) := by decide +kernel
theorem dX10_away_15 : decode cX10_away 15 = .ok (.iload_n 1, 1) := by decide +kernel
theorem dX10_away_16 : decode cX10_away 16 = .ok (.invokevirtual 284, 3) := by decide +kernel
theorem dX10_away_19 : decode cX10_away 19 = .ok (.aload_n 0, 1) := by decide +kernel
theorem dX10_away_20 : decode cX10_away 20 = .ok (.getfield 38, 3) := by decide +kernel
theorem dX10_away_23 : decode cX10_away 23 = .ok (.iload_n 1, 1) := by decide +kernel
theorem dX10_away_24 : decode cX10_away 24 = .ok (.iaload, 1) := by decide +kernel
theorem dX10_away_25 : decode cX10_away 25 = .ok (.isub, 1) := by decide +kernel
theorem dX10_away_26 : decode cX10_away 26 = .ok (.goto 15, 3) := by decide +kernel
theorem dX10_away_29 : decode cX10_away 29 = .ok (.aload_n 0, 1) := by decide +kernel
theorem dX10_away_30 : decode cX10_away 30 = .ok (.getfield 38, 3) := by decide +kernel
theorem dX10_away_33 : decode cX10_away 33 = .ok (.iload_n 1, 1) := by decide +kernel
theorem dX10_away_34 : decode cX10_away 34 = .ok (.iaload, 1) := by decide +kernel
theorem dX10_away_35 : decode cX10_away 35 = .ok (.aload_n 0, 1) := by decide +kernel
theorem dX10_away_36 : decode cX10_away 36 = .ok (.iload_n 1, 1) := by decide +kernel
theorem dX10_away_37 : decode cX10_away 37 = .ok (.invokevirtual 284, 3) := by decide +kernel
theorem dX10_away_40 : decode cX10_away 40 = .ok (.isub, 1) := by decide +kernel
theorem dX10_away_41 : decode cX10_away 41 = .ok (.ireturn, 1) := by decide +kernel
theorem dX10_sleeve_0 : decode cX10_sleeve 0 = .ok (.aload_n 0, 1) := by decide +kernel
theorem dX10_sleeve_1 : decode cX10_sleeve 1 = .ok (.iconst 0, 1) := by decide +kernel
theorem dX10_sleeve_2 : decode cX10_sleeve 2 = .ok (.putfield 3, 3) := by decide +kernel
theorem dX10_sleeve_5 : decode cX10_sleeve 5 = .ok (.aload_n 0, 1) := by decide +kernel
theorem dX10_sleeve_6 : decode cX10_sleeve 6 = .ok (.iload_n 1, 1) := by decide +kernel
theorem dX10_sleeve_7 : decode cX10_sleeve 7 = .ok (.iconst 1, 1) := by decide +kernel
theorem dX10_sleeve_8 : decode cX10_sleeve 8 = .ok (.invokevirtual 287, 3) := by decide +kernel
theorem dX10_sleeve_11 : decode cX10_sleeve 11 = .ok (.ifCond .eq 19, 3) := by decide +kernel
theorem dX10_sleeve_14 : decode cX10_sleeve 14 = .ok (.aload_n 0, 1) := by decide +kernel
theorem dX10_sleeve_15 : decode cX10_sleeve 15 = .ok (.iload_n 2, 1) := by decide +kernel
theorem dX10_sleeve_16 : decode cX10_sleeve 16 = .ok (.iconst 0, 1) := by decide +kernel
theorem dX10_sleeve_17 : decode cX10_sleeve 17 = .ok (.bipush 6, 2) := by decide +kernel
theorem dX10_sleeve_19 : decode cX10_sleeve 19 = .ok (.invokestatic 273, 3) := by decide +kernel
theorem dX10_sleeve_22 : decode cX10_sleeve 22 = .ok (.iconst 2, 1) := by decide +kernel
theorem dX10_sleeve_23 : decode cX10_sleeve 23 = .ok (.iconst 2, 1) := by decide +kernel
theorem dX10_sleeve_24 : decode cX10_sleeve 24 = .ok (.invokevirtual 241, 3) := by decide +kernel
theorem dX10_sleeve_27 : decode cX10_sleeve 27 = .ok (.ifCond .ne 5, 3) := by decide +kernel
theorem dX10_sleeve_30 : decode cX10_sleeve 30 = .ok (.iconst 0, 1) := by decide +kernel
theorem dX10_sleeve_31 : decode cX10_sleeve 31 = .ok (.ireturn, 1) := by decide +kernel
theorem dX10_sleeve_32 : decode cX10_sleeve 32 = .ok (.iload_n 2, 1) := by decide +kernel
theorem dX10_sleeve_33 : decode cX10_sleeve 33 = .ok (.iconst 3, 1) := by decide +kernel
theorem dX10_sleeve_34 : decode cX10_sleeve 34 = .ok (.if_icmp .ge 14, 3) := by decide +kernel
theorem dX10_sleeve_37 : decode cX10_sleeve 37 = .ok (.aload_n 0, 1) := by decide +kernel
theorem dX10_sleeve_38 : decode cX10_sleeve 38 = .ok (.getfield 26, 3) := by decide +kernel
theorem dX10_sleeve_41 : decode cX10_sleeve 41 = .ok (.iconst 3, 1) := by decide +kernel
theorem dX10_sleeve_42 : decode cX10_sleeve 42 = .ok (.iload_n 1, 1) := by decide +kernel
theorem dX10_sleeve_43 : decode cX10_sleeve 43 = .ok (.imul, 1) := by decide +kernel
theorem dX10_sleeve_44 : decode cX10_sleeve 44 = .ok (.iload_n 2, 1) := by decide +kernel
theorem dX10_sleeve_45 : decode cX10_sleeve 45 = .ok (.iadd, 1) := by decide +kernel
theorem dX10_sleeve_46 : decode cX10_sleeve 46 = .ok (.iaload, 1) := by decide +kernel
theorem dX10_sleeve_47 : decode cX10_sleeve 47 = .ok (.ireturn, 1) := by decide +kernel
theorem dX10_sleeve_48 : decode cX10_sleeve 48 = .ok (.iload_n 2, 1) := by decide +kernel
theorem dX10_sleeve_49 : decode cX10_sleeve 49 = .ok (.iconst 3, 1) := by decide +kernel
theorem dX10_sleeve_50 : decode cX10_sleeve 50 = .ok (.if_icmp .ne 11, 3) := by decide +kernel
theorem dX10_sleeve_53 : decode cX10_sleeve 53 = .ok (.aload_n 0, 1) := by decide +kernel
theorem dX10_sleeve_54 : decode cX10_sleeve 54 = .ok (.iload_n 1, 1) := by decide +kernel
theorem dX10_sleeve_55 : decode cX10_sleeve 55 = .ok (.invokevirtual 284, 3) := by decide +kernel
theorem dX10_sleeve_58 : decode cX10_sleeve 58 = .ok (.goto 36, 3) := by decide +kernel
theorem dX10_sleeve_61 : decode cX10_sleeve 61 = .ok (.iload_n 2, 1) := by decide +kernel
theorem dX10_sleeve_62 : decode cX10_sleeve 62 = .ok (.iconst 4, 1) := by decide +kernel
theorem dX10_sleeve_63 : decode cX10_sleeve 63 = .ok (.if_icmp .ne 12, 3) := by decide +kernel
theorem dX10_sleeve_66 : decode cX10_sleeve 66 = .ok (.aload_n 0, 1) := by decide +kernel
theorem dX10_sleeve_67 : decode cX10_sleeve 67 = .ok (.getfield 38, 3) := by decide +kernel
theorem dX10_sleeve_70 : decode cX10_sleeve 70 = .ok (.iload_n 1, 1) := by decide +kernel
theorem dX10_sleeve_71 : decode cX10_sleeve 71 = .ok (.iaload, 1) := by decide +kernel
theorem dX10_sleeve_72 : decode cX10_sleeve 72 = .ok (.goto 22, 3) := by decide +kernel
theorem dX10_sleeve_75 : decode cX10_sleeve 75 = .ok (.iload_n 2, 1) := by decide +kernel
theorem dX10_sleeve_76 : decode cX10_sleeve 76 = .ok (.iconst 5, 1) := by decide +kernel
theorem dX10_sleeve_77 : decode cX10_sleeve 77 = .ok (.if_icmp .ne 12, 3) := by decide +kernel
theorem dX10_sleeve_80 : decode cX10_sleeve 80 = .ok (.aload_n 0, 1) := by decide +kernel
theorem dX10_sleeve_81 : decode cX10_sleeve 81 = .ok (.getfield 41, 3) := by decide +kernel
theorem dX10_sleeve_84 : decode cX10_sleeve 84 = .ok (.iload_n 1, 1) := by decide +kernel
theorem dX10_sleeve_85 : decode cX10_sleeve 85 = .ok (.iaload, 1) := by decide +kernel
theorem dX10_sleeve_86 : decode cX10_sleeve 86 = .ok (.goto 8, 3) := by decide +kernel
theorem dX10_sleeve_89 : decode cX10_sleeve 89 = .ok (.aload_n 0, 1) := by decide +kernel
theorem dX10_sleeve_90 : decode cX10_sleeve 90 = .ok (.iload_n 1, 1) := by decide +kernel
theorem dX10_sleeve_91 : decode cX10_sleeve 91 = .ok (.invokevirtual 290, 3) := by decide +kernel
theorem dX10_sleeve_94 : decode cX10_sleeve 94 = .ok (.ireturn, 1) := by decide +kernel
theorem dX10_looker_0 : decode cX10_looker 0 = .ok (.aload_n 0, 1) := by decide +kernel
theorem dX10_looker_1 : decode cX10_looker 1 = .ok (.iconst 0, 1) := by decide +kernel
theorem dX10_looker_2 : decode cX10_looker 2 = .ok (.putfield 3, 3) := by decide +kernel
theorem dX10_looker_5 : decode cX10_looker 5 = .ok (.aload_n 0, 1) := by decide +kernel
theorem dX10_looker_6 : decode cX10_looker 6 = .ok (.iload_n 1, 1) := by decide +kernel
theorem dX10_looker_7 : decode cX10_looker 7 = .ok (.iconst 1, 1) := by decide +kernel
theorem dX10_looker_8 : decode cX10_looker 8 = .ok (.invokevirtual 293, 3) := by decide +kernel
theorem dX10_looker_11 : decode cX10_looker 11 = .ok (.ifCond .eq 18, 3) := by decide +kernel
theorem dX10_looker_14 : decode cX10_looker 14 = .ok (.aload_n 0, 1) := by decide +kernel
theorem dX10_looker_15 : decode cX10_looker 15 = .ok (.iload_n 2, 1) := by decide +kernel
theorem dX10_looker_16 : decode cX10_looker 16 = .ok (.iconst 0, 1) := by decide +kernel
theorem dX10_looker_17 : decode cX10_looker 17 = .ok (.iconst 5, 1) := by decide +kernel
theorem dX10_looker_18 : decode cX10_looker 18 = .ok (.invokestatic 273, 3) := by decide +kernel
theorem dX10_looker_21 : decode cX10_looker 21 = .ok (.iconst 2, 1) := by decide +kernel
theorem dX10_looker_22 : decode cX10_looker 22 = .ok (.iconst 2, 1) := by decide +kernel
theorem dX10_looker_23 : decode cX10_looker 23 = .ok (.invokevirtual 241, 3) := by decide +kernel
theorem dX10_looker_26 : decode cX10_looker 26 = .ok (.ifCond .ne 5, 3) := by decide +kernel
theorem dX10_looker_29 : decode cX10_looker 29 = .ok (.iconst 0, 1) := by decide +kernel
theorem dX10_looker_30 : decode cX10_looker 30 = .ok (.ireturn, 1) := by decide +kernel
theorem dX10_looker_31 : decode cX10_looker 31 = .ok (.aload_n 0, 1) := by decide +kernel
theorem dX10_looker_32 : decode cX10_looker 32 = .ok (.getfield 29, 3) := by decide +kernel
theorem dX10_looker_35 : decode cX10_looker 35 = .ok (.bipush 6, 2) := by decide +kernel
theorem dX10_looker_37 : decode cX10_looker 37 = .ok (.iload_n 1, 1) := by decide +kernel
theorem dX10_looker_38 : decode cX10_looker 38 = .ok (.imul, 1) := by decide +kernel
theorem dX10_looker_39 : decode cX10_looker 39 = .ok (.iload_n 2, 1) := by decide +kernel
theorem dX10_looker_40 : decode cX10_looker 40 = .ok (.iadd, 1) := by decide +kernel
theorem dX10_looker_41 : decode cX10_looker 41 = .ok (.iaload, 1) := by decide +kernel
theorem dX10_looker_42 : decode cX10_looker 42 = .ok (.ireturn, 1) := by decide +kernel
theorem dX10_missed_0 : decode cX10_missed 0 = .ok (.aload_n 0, 1) := by decide +kernel
theorem dX10_missed_1 : decode cX10_missed 1 = .ok (.iconst 0, 1) := by decide +kernel
theorem dX10_missed_2 : decode cX10_missed 2 = .ok (.putfield 3, 3) := by decide +kernel
theorem dX10_missed_5 : decode cX10_missed 5 = .ok (.aload_n 0, 1) := by decide +kernel
theorem dX10_missed_6 : decode cX10_missed 6 = .ok (.iload_n 1, 1) := by decide +kernel
theorem dX10_missed_7 : decode cX10_missed 7 = .ok (.iconst 1, 1) := by decide +kernel
theorem dX10_missed_8 : decode cX10_missed 8 = .ok (.bipush 8, 2) := by decide +kernel
theorem dX10_missed_10 : decode cX10_missed 10 = .ok (.invokestatic 273, 3) := by decide +kernel
theorem dX10_missed_13 : decode cX10_missed 13 = .ok (.iconst 1, 1) := by decide +kernel
theorem dX10_missed_14 : decode cX10_missed 14 = .ok (.iconst 2, 1) := by decide +kernel
theorem dX10_missed_15 : decode cX10_missed 15 = .ok (.invokevirtual 241, 3) := by decide +kernel
theorem dX10_missed_18 : decode cX10_missed 18 = .ok (.ifCond .ne 5, 3) := by decide +kernel
theorem dX10_missed_21 : decode cX10_missed 21 = .ok (.iconst 0, 1) := by decide +kernel
theorem dX10_missed_22 : decode cX10_missed 22 = .ok (.ireturn, 1) := by decide +kernel
theorem dX10_missed_23 : decode cX10_missed 23 = .ok (.aload_n 0, 1) := by decide +kernel
theorem dX10_missed_24 : decode cX10_missed 24 = .ok (.getfield 32, 3) := by decide +kernel
theorem dX10_missed_27 : decode cX10_missed 27 = .ok (.iload_n 1, 1) := by decide +kernel
theorem dX10_missed_28 : decode cX10_missed 28 = .ok (.iaload, 1) := by decide +kernel
theorem dX10_missed_29 : decode cX10_missed 29 = .ok (.ireturn, 1) := by decide +kernel
theorem dX10_lay_0 : decode cX10_lay 0 = .ok (.aload_n 0, 1) := by decide +kernel
theorem dX10_lay_1 : decode cX10_lay 1 = .ok (.iconst 0, 1) := by decide +kernel
theorem dX10_lay_2 : decode cX10_lay 2 = .ok (.putfield 3, 3) := by decide +kernel
theorem dX10_lay_5 : decode cX10_lay 5 = .ok (.aload_n 0, 1) := by decide +kernel
theorem dX10_lay_6 : decode cX10_lay 6 = .ok (.iload_n 2, 1) := by decide +kernel
theorem dX10_lay_7 : decode cX10_lay 7 = .ok (.iconst 1, 1) := by decide +kernel
theorem dX10_lay_8 : decode cX10_lay 8 = .ok (.invokevirtual 277, 3) := by decide +kernel
theorem dX10_lay_11 : decode cX10_lay 11 = .ok (.ifCond .eq 36, 3) := by decide +kernel
theorem dX10_lay_14 : decode cX10_lay 14 = .ok (.aload_n 0, 1) := by decide +kernel
theorem dX10_lay_15 : decode cX10_lay 15 = .ok (.iload_n 1, 1) := by decide +kernel
theorem dX10_lay_16 : decode cX10_lay 16 = .ok (.iconst 2, 1) := by decide +kernel
theorem dX10_lay_17 : decode cX10_lay 17 = .ok (.invokevirtual 287, 3) := by decide +kernel
theorem dX10_lay_20 : decode cX10_lay 20 = .ok (.ifCond .eq 27, 3) := by decide +kernel
theorem dX10_lay_23 : decode cX10_lay 23 = .ok (.aload_n 0, 1) := by decide +kernel
theorem dX10_lay_24 : decode cX10_lay 24 = .ok (.aload_n 0, 1) := by decide +kernel
theorem dX10_lay_25 : decode cX10_lay 25 = .ok (.getfield 38, 3) := by decide +kernel
theorem dX10_lay_28 : decode cX10_lay 28 = .ok (.iload_n 1, 1) := by decide +kernel
theorem dX10_lay_29 : decode cX10_lay 29 = .ok (.iaload, 1) := by decide +kernel
theorem dX10_lay_30 : decode cX10_lay 30 = .ok (.iconst (-1), 1) := by decide +kernel
theorem dX10_lay_31 : decode cX10_lay 31 = .ok (.if_icmp .eq 7, 3) := by decide +kernel
theorem dX10_lay_34 : decode cX10_lay 34 = .ok (.iconst 1, 1) := by decide +kernel
theorem dX10_lay_35 : decode cX10_lay 35 = .ok (.goto 4, 3) := by decide +kernel
theorem dX10_lay_38 : decode cX10_lay 38 = .ok (.iconst 0, 1) := by decide +kernel
theorem dX10_lay_39 : decode cX10_lay 39 = .ok (.iconst 3, 1) := by decide +kernel
theorem dX10_lay_40 : decode cX10_lay 40 = .ok (.iconst 3, 1) := by decide +kernel
theorem dX10_lay_41 : decode cX10_lay 41 = .ok (.invokevirtual 241, 3) := by decide +kernel
theorem dX10_lay_44 : decode cX10_lay 44 = .ok (.ifCond .ne 5, 3) := by decide +kernel
theorem dX10_lay_47 : decode cX10_lay 47 = .ok (.iconst 0, 1) := by decide +kernel
theorem dX10_lay_48 : decode cX10_lay 48 = .ok (.ireturn, 1) := by decide +kernel
theorem dX10_lay_49 : decode cX10_lay 49 = .ok (.aload_n 0, 1) := by decide +kernel
theorem dX10_lay_50 : decode cX10_lay 50 = .ok (.getfield 38, 3) := by decide +kernel
theorem dX10_lay_53 : decode cX10_lay 53 = .ok (.iload_n 1, 1) := by decide +kernel
theorem dX10_lay_54 : decode cX10_lay 54 = .ok (.iaload, 1) := by decide +kernel
theorem dX10_lay_55 : decode cX10_lay 55 = .ok (.istore_n 3, 1) := by decide +kernel
theorem dX10_lay_56 : decode cX10_lay 56 = .ok (.aload_n 0, 1) := by decide +kernel
theorem dX10_lay_57 : decode cX10_lay 57 = .ok (.iload_n 1, 1) := by decide +kernel
theorem dX10_lay_58 : decode cX10_lay 58 = .ok (.invokevirtual 296, 3) := by decide +kernel
theorem dX10_lay_61 : decode cX10_lay 61 = .ok (.aload_n 0, 1) := by decide +kernel
theorem dX10_lay_62 : decode cX10_lay 62 = .ok (.iload_n 2, 1) := by decide +kernel
theorem dX10_lay_63 : decode cX10_lay 63 = .ok (.iload_n 1, 1) := by decide +kernel
theorem dX10_lay_64 : decode cX10_lay 64 = .ok (.invokevirtual 211, 3) := by decide +kernel
theorem dX10_lay_67 : decode cX10_lay 67 = .ok (.iload_n 3, 1) := by decide +kernel
theorem dX10_lay_68 : decode cX10_lay 68 = .ok (.ireturn, 1) := by decide +kernel
theorem dX10_swaps_0 : decode cX10_swaps 0 = .ok (.aload_n 0, 1) := by decide +kernel
theorem dX10_swaps_1 : decode cX10_swaps 1 = .ok (.getfield 41, 3) := by decide +kernel
theorem dX10_swaps_4 : decode cX10_swaps 4 = .ok (.iload_n 1, 1) := by decide +kernel
theorem dX10_swaps_5 : decode cX10_swaps 5 = .ok (.iaload, 1) := by decide +kernel
theorem dX10_swaps_6 : decode cX10_swaps 6 = .ok (.istore_n 3, 1) := by decide +kernel
theorem dX10_swaps_7 : decode cX10_swaps 7 = .ok (.aload_n 0, 1) := by decide +kernel
theorem dX10_swaps_8 : decode cX10_swaps 8 = .ok (.getfield 41, 3) := by decide +kernel
theorem dX10_swaps_11 : decode cX10_swaps 11 = .ok (.iload_n 1, 1) := by decide +kernel
theorem dX10_swaps_12 : decode cX10_swaps 12 = .ok (.aload_n 0, 1) := by decide +kernel
theorem dX10_swaps_13 : decode cX10_swaps 13 = .ok (.getfield 41, 3) := by decide +kernel
theorem dX10_swaps_16 : decode cX10_swaps 16 = .ok (.iload_n 2, 1) := by decide +kernel
theorem dX10_swaps_17 : decode cX10_swaps 17 = .ok (.iaload, 1) := by decide +kernel
theorem dX10_swaps_18 : decode cX10_swaps 18 = .ok (.iastore, 1) := by decide +kernel
theorem dX10_swaps_19 : decode cX10_swaps 19 = .ok (.aload_n 0, 1) := by decide +kernel
theorem dX10_swaps_20 : decode cX10_swaps 20 = .ok (.getfield 41, 3) := by decide +kernel
theorem dX10_swaps_23 : decode cX10_swaps 23 = .ok (.iload_n 2, 1) := by decide +kernel
theorem dX10_swaps_24 : decode cX10_swaps 24 = .ok (.iload_n 3, 1) := by decide +kernel
theorem dX10_swaps_25 : decode cX10_swaps 25 = .ok (.iastore, 1) := by decide +kernel
theorem dX10_swaps_26 : decode cX10_swaps 26 = .ok (.return_, 1) := by decide +kernel
theorem dX10_change_0 : decode cX10_change 0 = .ok (.aload_n 0, 1) := by decide +kernel
theorem dX10_change_1 : decode cX10_change 1 = .ok (.iconst 0, 1) := by decide +kernel
theorem dX10_change_2 : decode cX10_change 2 = .ok (.putfield 3, 3) := by decide +kernel
theorem dX10_change_5 : decode cX10_change 5 = .ok (.aload_n 0, 1) := by decide +kernel
theorem dX10_change_6 : decode cX10_change 6 = .ok (.iload_n 1, 1) := by decide +kernel
theorem dX10_change_7 : decode cX10_change 7 = .ok (.iconst 1, 1) := by decide +kernel
theorem dX10_change_8 : decode cX10_change 8 = .ok (.invokevirtual 287, 3) := by decide +kernel
theorem dX10_change_11 : decode cX10_change 11 = .ok (.ifCond .eq 31, 3) := by decide +kernel
theorem dX10_change_14 : decode cX10_change 14 = .ok (.aload_n 0, 1) := by decide +kernel
theorem dX10_change_15 : decode cX10_change 15 = .ok (.iload_n 2, 1) := by decide +kernel
theorem dX10_change_16 : decode cX10_change 16 = .ok (.iconst 1, 1) := by decide +kernel
theorem dX10_change_17 : decode cX10_change 17 = .ok (.invokevirtual 287, 3) := by decide +kernel
theorem dX10_change_20 : decode cX10_change 20 = .ok (.ifCond .eq 22, 3) := by decide +kernel
theorem dX10_change_23 : decode cX10_change 23 = .ok (.aload_n 0, 1) := by decide +kernel
theorem dX10_change_24 : decode cX10_change 24 = .ok (.iload_n 1, 1) := by decide +kernel
theorem dX10_change_25 : decode cX10_change 25 = .ok (.iload_n 2, 1) := by decide +kernel
theorem dX10_change_26 : decode cX10_change 26 = .ok (.if_icmp .eq 7, 3) := by decide +kernel
theorem dX10_change_29 : decode cX10_change 29 = .ok (.iconst 1, 1) := by decide +kernel
theorem dX10_change_30 : decode cX10_change 30 = .ok (.goto 4, 3) := by decide +kernel
theorem dX10_change_33 : decode cX10_change 33 = .ok (.iconst 0, 1) := by decide +kernel
theorem dX10_change_34 : decode cX10_change 34 = .ok (.iconst 2, 1) := by decide +kernel
theorem dX10_change_35 : decode cX10_change 35 = .ok (.iconst 2, 1) := by decide +kernel
theorem dX10_change_36 : decode cX10_change 36 = .ok (.invokevirtual 241, 3) := by decide +kernel
theorem dX10_change_39 : decode cX10_change 39 = .ok (.ifCond .ne 5, 3) := by decide +kernel
theorem dX10_change_42 : decode cX10_change 42 = .ok (.iconst 0, 1) := by decide +kernel
theorem dX10_change_43 : decode cX10_change 43 = .ok (.ireturn, 1) := by decide +kernel
theorem dX10_change_44 : decode cX10_change 44 = .ok (.aload_n 0, 1) := by decide +kernel
theorem dX10_change_45 : decode cX10_change 45 = .ok (.iload_n 1, 1) := by decide +kernel
theorem dX10_change_46 : decode cX10_change 46 = .ok (.iload_n 2, 1) := by decide +kernel
theorem dX10_change_47 : decode cX10_change 47 = .ok (.invokevirtual 299, 3) := by decide +kernel
theorem dX10_change_50 : decode cX10_change 50 = .ok (.aload_n 0, 1) := by decide +kernel
theorem dX10_change_51 : decode cX10_change 51 = .ok (.getfield 41, 3) := by decide +kernel
theorem dX10_change_54 : decode cX10_change 54 = .ok (.iload_n 1, 1) := by decide +kernel
theorem dX10_change_55 : decode cX10_change 55 = .ok (.iaload, 1) := by decide +kernel
theorem dX10_change_56 : decode cX10_change 56 = .ok (.ireturn, 1) := by decide +kernel
theorem dX10_standsAt_0 : decode cX10_standsAt 0 = .ok (.iconst 0, 1) := by decide +kernel
theorem dX10_standsAt_1 : decode cX10_standsAt 1 = .ok (.istore_n 2, 1) := by decide +kernel
theorem dX10_standsAt_2 : decode cX10_standsAt 2 = .ok (.aload_n 0, 1) := by decide +kernel
theorem dX10_standsAt_3 : decode cX10_standsAt 3 = .ok (.getfield 74, 3) := by decide +kernel
theorem dX10_standsAt_6 : decode cX10_standsAt 6 = .ok (.iload_n 2, 1) := by decide +kernel
theorem dX10_standsAt_7 : decode cX10_standsAt 7 = .ok (.iaload, 1) := by decide +kernel
theorem dX10_standsAt_8 : decode cX10_standsAt 8 = .ok (.iload_n 1, 1) := by decide +kernel
theorem dX10_standsAt_9 : decode cX10_standsAt 9 = .ok (.if_icmp .eq 9, 3) := by decide +kernel
theorem dX10_standsAt_12 : decode cX10_standsAt 12 = .ok (.iinc 2 1, 3) := by decide +kernel
theorem dX10_standsAt_15 : decode cX10_standsAt 15 = .ok (.goto (-13), 3) := by decide +kernel
theorem dX10_standsAt_18 : decode cX10_standsAt 18 = .ok (.iload_n 2, 1) := by decide +kernel
theorem dX10_standsAt_19 : decode cX10_standsAt 19 = .ok (.ireturn, 1) := by decide +kernel
theorem dX10_wander_0 : decode cX10_wander 0 = .ok (.aload_n 0, 1) := by decide +kernel
theorem dX10_wander_1 : decode cX10_wander 1 = .ok (.iconst 0, 1) := by decide +kernel
theorem dX10_wander_2 : decode cX10_wander 2 = .ok (.putfield 3, 3) := by decide +kernel
theorem dX10_wander_5 : decode cX10_wander 5 = .ok (.aload_n 0, 1) := by decide +kernel
theorem dX10_wander_6 : decode cX10_wander 6 = .ok (.iload_n 1, 1) := by decide +kernel
theorem dX10_wander_7 : decode cX10_wander 7 = .ok (.iconst 1, 1) := by decide +kernel
theorem dX10_wander_8 : decode cX10_wander 8 = .ok (.invokevirtual 277, 3) := by decide +kernel
theorem dX10_wander_11 : decode cX10_wander 11 = .ok (.ifCond .eq 23, 3) := by decide +kernel
theorem dX10_wander_14 : decode cX10_wander 14 = .ok (.aload_n 0, 1) := by decide +kernel
theorem dX10_wander_15 : decode cX10_wander 15 = .ok (.iload_n 2, 1) := by decide +kernel
theorem dX10_wander_16 : decode cX10_wander 16 = .ok (.iconst 0, 1) := by decide +kernel
theorem dX10_wander_17 : decode cX10_wander 17 = .ok (.aload_n 0, 1) := by decide +kernel
theorem dX10_wander_18 : decode cX10_wander 18 = .ok (.getfield 202, 3) := by decide +kernel
theorem dX10_wander_21 : decode cX10_wander 21 = .ok (.iconst 1, 1) := by decide +kernel
theorem dX10_wander_22 : decode cX10_wander 22 = .ok (.isub, 1) := by decide +kernel
theorem dX10_wander_23 : decode cX10_wander 23 = .ok (.invokestatic 273, 3) := by decide +kernel
theorem dX10_wander_26 : decode cX10_wander 26 = .ok (.iconst 2, 1) := by decide +kernel
theorem dX10_wander_27 : decode cX10_wander 27 = .ok (.iconst 2, 1) := by decide +kernel
theorem dX10_wander_28 : decode cX10_wander 28 = .ok (.invokevirtual 241, 3) := by decide +kernel
theorem dX10_wander_31 : decode cX10_wander 31 = .ok (.ifCond .ne 5, 3) := by decide +kernel
theorem dX10_wander_34 : decode cX10_wander 34 = .ok (.iconst 0, 1) := by decide +kernel
theorem dX10_wander_35 : decode cX10_wander 35 = .ok (.ireturn, 1) := by decide +kernel
theorem dX10_wander_36 : decode cX10_wander 36 = .ok (.aload_n 0, 1) := by decide +kernel
theorem dX10_wander_37 : decode cX10_wander 37 = .ok (.iload_n 1, 1) := by decide +kernel
theorem dX10_wander_38 : decode cX10_wander 38 = .ok (.invokevirtual 302, 3) := by decide +kernel
theorem dX10_wander_41 : decode cX10_wander 41 = .ok (.istore_n 3, 1) := by decide +kernel
theorem dX10_wander_42 : decode cX10_wander 42 = .ok (.iload_n 3, 1) := by decide +kernel
theorem dX10_wander_43 : decode cX10_wander 43 = .ok (.istore 4, 2) := by decide +kernel
theorem dX10_wander_45 : decode cX10_wander 45 = .ok (.iload 4, 2) := by decide +kernel
theorem dX10_wander_47 : decode cX10_wander 47 = .ok (.iload_n 2, 1) := by decide +kernel
theorem dX10_wander_48 : decode cX10_wander 48 = .ok (.if_icmp .ge 25, 3) := by decide +kernel
theorem dX10_wander_51 : decode cX10_wander 51 = .ok (.aload_n 0, 1) := by decide +kernel
theorem dX10_wander_52 : decode cX10_wander 52 = .ok (.getfield 74, 3) := by decide +kernel
theorem dX10_wander_55 : decode cX10_wander 55 = .ok (.iload 4, 2) := by decide +kernel
theorem dX10_wander_57 : decode cX10_wander 57 = .ok (.aload_n 0, 1) := by decide +kernel
theorem dX10_wander_58 : decode cX10_wander 58 = .ok (.getfield 74, 3) := by decide +kernel
theorem dX10_wander_61 : decode cX10_wander 61 = .ok (.iload 4, 2) := by decide +kernel
theorem dX10_wander_63 : decode cX10_wander 63 = .ok (.iconst 1, 1) := by decide +kernel
theorem dX10_wander_64 : decode cX10_wander 64 = .ok (.iadd, 1) := by decide +kernel
theorem dX10_wander_65 : decode cX10_wander 65 = .ok (.iaload, 1) := by decide +kernel
theorem dX10_wander_66 : decode cX10_wander 66 = .ok (.iastore, 1) := by decide +kernel
theorem dX10_wander_67 : decode cX10_wander 67 = .ok (.iinc 4 1, 3) := by decide +kernel
theorem dX10_wander_70 : decode cX10_wander 70 = .ok (.goto (-25), 3) := by decide +kernel
theorem dX10_wander_73 : decode cX10_wander 73 = .ok (.iload_n 3, 1) := by decide +kernel
theorem dX10_wander_74 : decode cX10_wander 74 = .ok (.istore 4, 2) := by decide +kernel
theorem dX10_wander_76 : decode cX10_wander 76 = .ok (.iload 4, 2) := by decide +kernel
theorem dX10_wander_78 : decode cX10_wander 78 = .ok (.iload_n 2, 1) := by decide +kernel
theorem dX10_wander_79 : decode cX10_wander 79 = .ok (.if_icmp .le 25, 3) := by decide +kernel
theorem dX10_wander_82 : decode cX10_wander 82 = .ok (.aload_n 0, 1) := by decide +kernel
theorem dX10_wander_83 : decode cX10_wander 83 = .ok (.getfield 74, 3) := by decide +kernel
theorem dX10_wander_86 : decode cX10_wander 86 = .ok (.iload 4, 2) := by decide +kernel
theorem dX10_wander_88 : decode cX10_wander 88 = .ok (.aload_n 0, 1) := by decide +kernel
theorem dX10_wander_89 : decode cX10_wander 89 = .ok (.getfield 74, 3) := by decide +kernel
theorem dX10_wander_92 : decode cX10_wander 92 = .ok (.iload 4, 2) := by decide +kernel
theorem dX10_wander_94 : decode cX10_wander 94 = .ok (.iconst 1, 1) := by decide +kernel
theorem dX10_wander_95 : decode cX10_wander 95 = .ok (.isub, 1) := by decide +kernel
theorem dX10_wander_96 : decode cX10_wander 96 = .ok (.iaload, 1) := by decide +kernel
theorem dX10_wander_97 : decode cX10_wander 97 = .ok (.iastore, 1) := by decide +kernel
theorem dX10_wander_98 : decode cX10_wander 98 = .ok (.iinc 4 (-1), 3) := by decide +kernel
theorem dX10_wander_101 : decode cX10_wander 101 = .ok (.goto (-25), 3) := by decide +kernel
theorem dX10_wander_104 : decode cX10_wander 104 = .ok (.aload_n 0, 1) := by decide +kernel
theorem dX10_wander_105 : decode cX10_wander 105 = .ok (.getfield 74, 3) := by decide +kernel
theorem dX10_wander_108 : decode cX10_wander 108 = .ok (.iload_n 2, 1) := by decide +kernel
theorem dX10_wander_109 : decode cX10_wander 109 = .ok (.iload_n 1, 1) := by decide +kernel
theorem dX10_wander_110 : decode cX10_wander 110 = .ok (.iastore, 1) := by decide +kernel
theorem dX10_wander_111 : decode cX10_wander 111 = .ok (.iload_n 3, 1) := by decide +kernel
theorem dX10_wander_112 : decode cX10_wander 112 = .ok (.ireturn, 1) := by decide +kernel
theorem dX10_draw_0 : decode cX10_draw 0 = .ok (.aload_n 0, 1) := by decide +kernel
theorem dX10_draw_1 : decode cX10_draw 1 = .ok (.aload_n 0, 1) := by decide +kernel
theorem dX10_draw_2 : decode cX10_draw 2 = .ok (.getfield 305, 3) := by decide +kernel
theorem dX10_draw_5 : decode cX10_draw 5 = .ok (.ldc_w 308, 3) := by decide +kernel
theorem dX10_draw_8 : decode cX10_draw 8 = .ok (.imul, 1) := by decide +kernel
theorem dX10_draw_9 : decode cX10_draw 9 = .ok (.sipush 12345, 3) := by decide +kernel
theorem dX10_draw_12 : decode cX10_draw 12 = .ok (.iadd, 1) := by decide +kernel
theorem dX10_draw_13 : decode cX10_draw 13 = .ok (.putfield 305, 3) := by decide +kernel
theorem dX10_draw_16 : decode cX10_draw 16 = .ok (.aload_n 0, 1) := by decide +kernel
theorem dX10_draw_17 : decode cX10_draw 17 = .ok (.getfield 305, 3) := by decide +kernel
theorem dX10_draw_20 : decode cX10_draw 20 = .ok (.bipush 16, 2) := by decide +kernel
theorem dX10_draw_22 : decode cX10_draw 22 = .ok (.ishr, 1) := by decide +kernel
theorem dX10_draw_23 : decode cX10_draw 23 = .ok (.sipush 32767, 3) := by decide +kernel
theorem dX10_draw_26 : decode cX10_draw 26 = .ok (.iand, 1) := by decide +kernel
theorem dX10_draw_27 : decode cX10_draw 27 = .ok (.iload_n 1, 1) := by decide +kernel
theorem dX10_draw_28 : decode cX10_draw 28 = .ok (.irem, 1) := by decide +kernel
theorem dX10_draw_29 : decode cX10_draw 29 = .ok (.ireturn, 1) := by decide +kernel
theorem dX10_weights_0 : decode cX10_weights 0 = .ok (.aload_n 0, 1) := by decide +kernel
theorem dX10_weights_1 : decode cX10_weights 1 = .ok (.getfield 35, 3) := by decide +kernel
theorem dX10_weights_4 : decode cX10_weights 4 = .ok (.iconst 0, 1) := by decide +kernel
theorem dX10_weights_5 : decode cX10_weights 5 = .ok (.iaload, 1) := by decide +kernel
theorem dX10_weights_6 : decode cX10_weights 6 = .ok (.aload_n 0, 1) := by decide +kernel
theorem dX10_weights_7 : decode cX10_weights 7 = .ok (.getfield 35, 3) := by decide +kernel
theorem dX10_weights_10 : decode cX10_weights 10 = .ok (.iconst 1, 1) := by decide +kernel
theorem dX10_weights_11 : decode cX10_weights 11 = .ok (.iaload, 1) := by decide +kernel
theorem dX10_weights_12 : decode cX10_weights 12 = .ok (.iadd, 1) := by decide +kernel
theorem dX10_weights_13 : decode cX10_weights 13 = .ok (.aload_n 0, 1) := by decide +kernel
theorem dX10_weights_14 : decode cX10_weights 14 = .ok (.getfield 35, 3) := by decide +kernel
theorem dX10_weights_17 : decode cX10_weights 17 = .ok (.iconst 2, 1) := by decide +kernel
theorem dX10_weights_18 : decode cX10_weights 18 = .ok (.iaload, 1) := by decide +kernel
theorem dX10_weights_19 : decode cX10_weights 19 = .ok (.iadd, 1) := by decide +kernel
theorem dX10_weights_20 : decode cX10_weights 20 = .ok (.aload_n 0, 1) := by decide +kernel
theorem dX10_weights_21 : decode cX10_weights 21 = .ok (.getfield 35, 3) := by decide +kernel
theorem dX10_weights_24 : decode cX10_weights 24 = .ok (.iconst 3, 1) := by decide +kernel
theorem dX10_weights_25 : decode cX10_weights 25 = .ok (.iaload, 1) := by decide +kernel
theorem dX10_weights_26 : decode cX10_weights 26 = .ok (.iadd, 1) := by decide +kernel
theorem dX10_weights_27 : decode cX10_weights 27 = .ok (.ireturn, 1) := by decide +kernel
theorem dX10_putFrom_0 : decode cX10_putFrom 0 = .ok (.aload_n 0, 1) := by decide +kernel
theorem dX10_putFrom_1 : decode cX10_putFrom 1 = .ok (.aload_n 0, 1) := by decide +kernel
theorem dX10_putFrom_2 : decode cX10_putFrom 2 = .ok (.invokevirtual 309, 3) := by decide +kernel
theorem dX10_putFrom_5 : decode cX10_putFrom 5 = .ok (.invokevirtual 312, 3) := by decide +kernel
theorem dX10_putFrom_8 : decode cX10_putFrom 8 = .ok (.istore_n 3, 1) := by decide +kernel
theorem dX10_putFrom_9 : decode cX10_putFrom 9 = .ok (.iload_n 3, 1) := by decide +kernel
theorem dX10_putFrom_10 : decode cX10_putFrom 10 = .ok (.aload_n 0, 1) := by decide +kernel
theorem dX10_putFrom_11 : decode cX10_putFrom 11 = .ok (.getfield 35, 3) := by decide +kernel
theorem dX10_putFrom_14 : decode cX10_putFrom 14 = .ok (.iconst 0, 1) := by decide +kernel
theorem dX10_putFrom_15 : decode cX10_putFrom 15 = .ok (.iaload, 1) := by decide +kernel
theorem dX10_putFrom_16 : decode cX10_putFrom 16 = .ok (.if_icmp .ge 9, 3) := by decide +kernel
theorem dX10_putFrom_19 : decode cX10_putFrom 19 = .ok (.aload_n 0, 1) := by decide +kernel
theorem dX10_putFrom_20 : decode cX10_putFrom 20 = .ok (.iload_n 2, 1) := by decide +kernel
theorem dX10_putFrom_21 : decode cX10_putFrom 21 = .ok (.invokevirtual 284, 3) := by decide +kernel
theorem dX10_putFrom_24 : decode cX10_putFrom 24 = .ok (.ireturn, 1) := by decide +kernel
theorem dX10_putFrom_25 : decode cX10_putFrom 25 = .ok (.iload_n 3, 1) := by decide +kernel
theorem dX10_putFrom_26 : decode cX10_putFrom 26 = .ok (.aload_n 0, 1) := by decide +kernel
theorem dX10_putFrom_27 : decode cX10_putFrom 27 = .ok (.getfield 35, 3) := by decide +kernel
theorem dX10_putFrom_30 : decode cX10_putFrom 30 = .ok (.iconst 0, 1) := by decide +kernel
theorem dX10_putFrom_31 : decode cX10_putFrom 31 = .ok (.iaload, 1) := by decide +kernel
theorem dX10_putFrom_32 : decode cX10_putFrom 32 = .ok (.aload_n 0, 1) := by decide +kernel
theorem dX10_putFrom_33 : decode cX10_putFrom 33 = .ok (.getfield 35, 3) := by decide +kernel
theorem dX10_putFrom_36 : decode cX10_putFrom 36 = .ok (.iconst 1, 1) := by decide +kernel
theorem dX10_putFrom_37 : decode cX10_putFrom 37 = .ok (.iaload, 1) := by decide +kernel
theorem dX10_putFrom_38 : decode cX10_putFrom 38 = .ok (.iadd, 1) := by decide +kernel
theorem dX10_putFrom_39 : decode cX10_putFrom 39 = .ok (.if_icmp .ge 44, 3) := by decide +kernel
theorem dX10_putFrom_42 : decode cX10_putFrom 42 = .ok (.aload_n 0, 1) := by decide +kernel
theorem dX10_putFrom_43 : decode cX10_putFrom 43 = .ok (.iconst 2, 1) := by decide +kernel
theorem dX10_putFrom_44 : decode cX10_putFrom 44 = .ok (.invokevirtual 312, 3) := by decide +kernel
theorem dX10_putFrom_47 : decode cX10_putFrom 47 = .ok (.ifCond .ne 9, 3) := by decide +kernel
theorem dX10_putFrom_50 : decode cX10_putFrom 50 = .ok (.iload_n 1, 1) := by decide +kernel
theorem dX10_putFrom_51 : decode cX10_putFrom 51 = .ok (.iconst 1, 1) := by decide +kernel
theorem dX10_putFrom_52 : decode cX10_putFrom 52 = .ok (.isub, 1) := by decide +kernel
theorem dX10_putFrom_53 : decode cX10_putFrom 53 = .ok (.goto 6, 3) := by decide +kernel
theorem dX10_putFrom_56 : decode cX10_putFrom 56 = .ok (.iload_n 1, 1) := by decide +kernel
theorem dX10_putFrom_57 : decode cX10_putFrom 57 = .ok (.iconst 1, 1) := by decide +kernel
theorem dX10_putFrom_58 : decode cX10_putFrom 58 = .ok (.iadd, 1) := by decide +kernel
theorem dX10_putFrom_59 : decode cX10_putFrom 59 = .ok (.istore 4, 2) := by decide +kernel
theorem dX10_putFrom_61 : decode cX10_putFrom 61 = .ok (.iload 4, 2) := by decide +kernel
theorem dX10_putFrom_63 : decode cX10_putFrom 63 = .ok (.iconst 0, 1) := by decide +kernel
theorem dX10_putFrom_64 : decode cX10_putFrom 64 = .ok (.aload_n 0, 1) := by decide +kernel
theorem dX10_putFrom_65 : decode cX10_putFrom 65 = .ok (.getfield 202, 3) := by decide +kernel
theorem dX10_putFrom_68 : decode cX10_putFrom 68 = .ok (.iconst 1, 1) := by decide +kernel
theorem dX10_putFrom_69 : decode cX10_putFrom 69 = .ok (.isub, 1) := by decide +kernel
theorem dX10_putFrom_70 : decode cX10_putFrom 70 = .ok (.invokestatic 273, 3) := by decide +kernel
theorem dX10_putFrom_73 : decode cX10_putFrom 73 = .ok (.ifCond .eq 8, 3) := by decide +kernel
theorem dX10_putFrom_76 : decode cX10_putFrom 76 = .ok (.iload 4, 2) := by decide +kernel
theorem dX10_putFrom_78 : decode cX10_putFrom 78 = .ok (.goto 4, 3) := by decide +kernel
theorem dX10_putFrom_81 : decode cX10_putFrom 81 = .ok (.iload_n 1, 1) := by decide +kernel
theorem dX10_putFrom_82 : decode cX10_putFrom 82 = .ok (.ireturn, 1) := by decide +kernel
theorem dX10_putFrom_83 : decode cX10_putFrom 83 = .ok (.iload_n 3, 1) := by decide +kernel
theorem dX10_putFrom_84 : decode cX10_putFrom 84 = .ok (.aload_n 0, 1) := by decide +kernel
theorem dX10_putFrom_85 : decode cX10_putFrom 85 = .ok (.getfield 35, 3) := by decide +kernel
theorem dX10_putFrom_88 : decode cX10_putFrom 88 = .ok (.iconst 0, 1) := by decide +kernel
theorem dX10_putFrom_89 : decode cX10_putFrom 89 = .ok (.iaload, 1) := by decide +kernel
theorem dX10_putFrom_90 : decode cX10_putFrom 90 = .ok (.aload_n 0, 1) := by decide +kernel
theorem dX10_putFrom_91 : decode cX10_putFrom 91 = .ok (.getfield 35, 3) := by decide +kernel
theorem dX10_putFrom_94 : decode cX10_putFrom 94 = .ok (.iconst 1, 1) := by decide +kernel
theorem dX10_putFrom_95 : decode cX10_putFrom 95 = .ok (.iaload, 1) := by decide +kernel
theorem dX10_putFrom_96 : decode cX10_putFrom 96 = .ok (.iadd, 1) := by decide +kernel
theorem dX10_putFrom_97 : decode cX10_putFrom 97 = .ok (.aload_n 0, 1) := by decide +kernel
theorem dX10_putFrom_98 : decode cX10_putFrom 98 = .ok (.getfield 35, 3) := by decide +kernel
theorem dX10_putFrom_101 : decode cX10_putFrom 101 = .ok (.iconst 2, 1) := by decide +kernel
theorem dX10_putFrom_102 : decode cX10_putFrom 102 = .ok (.iaload, 1) := by decide +kernel
theorem dX10_putFrom_103 : decode cX10_putFrom 103 = .ok (.iadd, 1) := by decide +kernel
theorem dX10_putFrom_104 : decode cX10_putFrom 104 = .ok (.if_icmp .ge 7, 3) := by decide +kernel
theorem dX10_putFrom_107 : decode cX10_putFrom 107 = .ok (.iload_n 1, 1) := by decide +kernel
theorem dX10_putFrom_108 : decode cX10_putFrom 108 = .ok (.goto 11, 3) := by decide +kernel
theorem dX10_putFrom_111 : decode cX10_putFrom 111 = .ok (.aload_n 0, 1) := by decide +kernel
theorem dX10_putFrom_112 : decode cX10_putFrom 112 = .ok (.aload_n 0, 1) := by decide +kernel
theorem dX10_putFrom_113 : decode cX10_putFrom 113 = .ok (.getfield 202, 3) := by decide +kernel
theorem dX10_putFrom_116 : decode cX10_putFrom 116 = .ok (.invokevirtual 312, 3) := by decide +kernel
theorem dX10_putFrom_119 : decode cX10_putFrom 119 = .ok (.ireturn, 1) := by decide +kernel
theorem dX10_comes_0 : decode cX10_comes 0 = .ok (.aload_n 0, 1) := by decide +kernel
theorem dX10_comes_1 : decode cX10_comes 1 = .ok (.getfield 68, 3) := by decide +kernel
theorem dX10_comes_4 : decode cX10_comes 4 = .ok (.iload_n 2, 1) := by decide +kernel
theorem dX10_comes_5 : decode cX10_comes 5 = .ok (.iaload, 1) := by decide +kernel
theorem dX10_comes_6 : decode cX10_comes 6 = .ok (.istore 4, 2) := by decide +kernel
theorem dX10_comes_8 : decode cX10_comes 8 = .ok (.iconst 0, 1) := by decide +kernel
theorem dX10_comes_9 : decode cX10_comes 9 = .ok (.istore 5, 2) := by decide +kernel
theorem dX10_comes_11 : decode cX10_comes 11 = .ok (.iconst 0, 1) := by decide +kernel
theorem dX10_comes_12 : decode cX10_comes 12 = .ok (.istore 6, 2) := by decide +kernel
theorem dX10_comes_14 : decode cX10_comes 14 = .ok (.aload_n 0, 1) := by decide +kernel
theorem dX10_comes_15 : decode cX10_comes 15 = .ok (.getfield 77, 3) := by decide +kernel
theorem dX10_comes_18 : decode cX10_comes 18 = .ok (.iload_n 1, 1) := by decide +kernel
theorem dX10_comes_19 : decode cX10_comes 19 = .ok (.iload_n 2, 1) := by decide +kernel
theorem dX10_comes_20 : decode cX10_comes 20 = .ok (.iastore, 1) := by decide +kernel
theorem dX10_comes_21 : decode cX10_comes 21 = .ok (.iconst 0, 1) := by decide +kernel
theorem dX10_comes_22 : decode cX10_comes 22 = .ok (.istore 7, 2) := by decide +kernel
theorem dX10_comes_24 : decode cX10_comes 24 = .ok (.iconst 0, 1) := by decide +kernel
theorem dX10_comes_25 : decode cX10_comes 25 = .ok (.istore 8, 2) := by decide +kernel
theorem dX10_comes_27 : decode cX10_comes 27 = .ok (.iload 8, 2) := by decide +kernel
theorem dX10_comes_29 : decode cX10_comes 29 = .ok (.iload 4, 2) := by decide +kernel
theorem dX10_comes_31 : decode cX10_comes 31 = .ok (.if_icmp .ge 195, 3) := by decide +kernel
theorem dX10_comes_34 : decode cX10_comes 34 = .ok (.aload_n 0, 1) := by decide +kernel
theorem dX10_comes_35 : decode cX10_comes 35 = .ok (.getfield 315, 3) := by decide +kernel
theorem dX10_comes_38 : decode cX10_comes 38 = .ok (.ifCond .ne 188, 3) := by decide +kernel
theorem dX10_comes_41 : decode cX10_comes 41 = .ok (.aload_n 0, 1) := by decide +kernel
theorem dX10_comes_42 : decode cX10_comes 42 = .ok (.getfield 71, 3) := by decide +kernel
theorem dX10_comes_45 : decode cX10_comes 45 = .ok (.bipush 24, 2) := by decide +kernel
theorem dX10_comes_47 : decode cX10_comes 47 = .ok (.iload_n 2, 1) := by decide +kernel
theorem dX10_comes_48 : decode cX10_comes 48 = .ok (.imul, 1) := by decide +kernel
theorem dX10_comes_49 : decode cX10_comes 49 = .ok (.iload 7, 2) := by decide +kernel
theorem dX10_comes_51 : decode cX10_comes 51 = .ok (.iadd, 1) := by decide +kernel
theorem dX10_comes_52 : decode cX10_comes 52 = .ok (.iaload, 1) := by decide +kernel
theorem dX10_comes_53 : decode cX10_comes 53 = .ok (.istore 9, 2) := by decide +kernel
theorem dX10_comes_55 : decode cX10_comes 55 = .ok (.iinc 7 1, 3) := by decide +kernel
theorem dX10_comes_58 : decode cX10_comes 58 = .ok (.aload_n 0, 1) := by decide +kernel
theorem dX10_comes_59 : decode cX10_comes 59 = .ok (.bipush 8, 2) := by decide +kernel
theorem dX10_comes_61 : decode cX10_comes 61 = .ok (.invokevirtual 312, 3) := by decide +kernel
theorem dX10_comes_64 : decode cX10_comes 64 = .ok (.aload_n 0, 1) := by decide +kernel
theorem dX10_comes_65 : decode cX10_comes 65 = .ok (.getfield 32, 3) := by decide +kernel
theorem dX10_comes_68 : decode cX10_comes 68 = .ok (.aload_n 0, 1) := by decide +kernel
theorem dX10_comes_69 : decode cX10_comes 69 = .ok (.getfield 29, 3) := by decide +kernel
theorem dX10_comes_72 : decode cX10_comes 72 = .ok (.bipush 6, 2) := by decide +kernel
theorem dX10_comes_74 : decode cX10_comes 74 = .ok (.iload_n 1, 1) := by decide +kernel
theorem dX10_comes_75 : decode cX10_comes 75 = .ok (.imul, 1) := by decide +kernel
theorem dX10_comes_76 : decode cX10_comes 76 = .ok (.iconst 1, 1) := by decide +kernel
theorem dX10_comes_77 : decode cX10_comes 77 = .ok (.iadd, 1) := by decide +kernel
theorem dX10_comes_78 : decode cX10_comes 78 = .ok (.iaload, 1) := by decide +kernel
theorem dX10_comes_79 : decode cX10_comes 79 = .ok (.iaload, 1) := by decide +kernel
theorem dX10_comes_80 : decode cX10_comes 80 = .ok (.if_icmp .lt 140, 3) := by decide +kernel
theorem dX10_comes_83 : decode cX10_comes 83 = .ok (.aload_n 0, 1) := by decide +kernel
theorem dX10_comes_84 : decode cX10_comes 84 = .ok (.getfield 26, 3) := by decide +kernel
theorem dX10_comes_87 : decode cX10_comes 87 = .ok (.iconst 3, 1) := by decide +kernel
theorem dX10_comes_88 : decode cX10_comes 88 = .ok (.iload 9, 2) := by decide +kernel
theorem dX10_comes_90 : decode cX10_comes 90 = .ok (.imul, 1) := by decide +kernel
theorem dX10_comes_91 : decode cX10_comes 91 = .ok (.iconst 2, 1) := by decide +kernel
theorem dX10_comes_92 : decode cX10_comes 92 = .ok (.iadd, 1) := by decide +kernel
theorem dX10_comes_93 : decode cX10_comes 93 = .ok (.iaload, 1) := by decide +kernel
theorem dX10_comes_94 : decode cX10_comes 94 = .ok (.aload_n 0, 1) := by decide +kernel
theorem dX10_comes_95 : decode cX10_comes 95 = .ok (.getfield 29, 3) := by decide +kernel
theorem dX10_comes_98 : decode cX10_comes 98 = .ok (.bipush 6, 2) := by decide +kernel
theorem dX10_comes_100 : decode cX10_comes 100 = .ok (.iload_n 1, 1) := by decide +kernel
theorem dX10_comes_101 : decode cX10_comes 101 = .ok (.imul, 1) := by decide +kernel
theorem dX10_comes_102 : decode cX10_comes 102 = .ok (.iconst 2, 1) := by decide +kernel
theorem dX10_comes_103 : decode cX10_comes 103 = .ok (.iadd, 1) := by decide +kernel
theorem dX10_comes_104 : decode cX10_comes 104 = .ok (.iaload, 1) := by decide +kernel
theorem dX10_comes_105 : decode cX10_comes 105 = .ok (.if_icmp .ge 6, 3) := by decide +kernel
theorem dX10_comes_108 : decode cX10_comes 108 = .ok (.goto 112, 3) := by decide +kernel
theorem dX10_comes_111 : decode cX10_comes 111 = .ok (.iinc 5 1, 3) := by decide +kernel
theorem dX10_comes_114 : decode cX10_comes 114 = .ok (.aload_n 0, 1) := by decide +kernel
theorem dX10_comes_115 : decode cX10_comes 115 = .ok (.getfield 26, 3) := by decide +kernel
theorem dX10_comes_118 : decode cX10_comes 118 = .ok (.iconst 3, 1) := by decide +kernel
theorem dX10_comes_119 : decode cX10_comes 119 = .ok (.iload 9, 2) := by decide +kernel
theorem dX10_comes_121 : decode cX10_comes 121 = .ok (.imul, 1) := by decide +kernel
theorem dX10_comes_122 : decode cX10_comes 122 = .ok (.iconst 1, 1) := by decide +kernel
theorem dX10_comes_123 : decode cX10_comes 123 = .ok (.iadd, 1) := by decide +kernel
theorem dX10_comes_124 : decode cX10_comes 124 = .ok (.iaload, 1) := by decide +kernel
theorem dX10_comes_125 : decode cX10_comes 125 = .ok (.istore 10, 2) := by decide +kernel
theorem dX10_comes_127 : decode cX10_comes 127 = .ok (.iload 10, 2) := by decide +kernel
theorem dX10_comes_129 : decode cX10_comes 129 = .ok (.aload_n 0, 1) := by decide +kernel
theorem dX10_comes_130 : decode cX10_comes 130 = .ok (.getfield 29, 3) := by decide +kernel
theorem dX10_comes_133 : decode cX10_comes 133 = .ok (.bipush 6, 2) := by decide +kernel
theorem dX10_comes_135 : decode cX10_comes 135 = .ok (.iload_n 1, 1) := by decide +kernel
theorem dX10_comes_136 : decode cX10_comes 136 = .ok (.imul, 1) := by decide +kernel
theorem dX10_comes_137 : decode cX10_comes 137 = .ok (.iconst 3, 1) := by decide +kernel
theorem dX10_comes_138 : decode cX10_comes 138 = .ok (.iadd, 1) := by decide +kernel
theorem dX10_comes_139 : decode cX10_comes 139 = .ok (.iaload, 1) := by decide +kernel
theorem dX10_comes_140 : decode cX10_comes 140 = .ok (.if_icmp .gt 68, 3) := by decide +kernel
theorem dX10_comes_143 : decode cX10_comes 143 = .ok (.iload 10, 2) := by decide +kernel
theorem dX10_comes_145 : decode cX10_comes 145 = .ok (.aload_n 0, 1) := by decide +kernel
theorem dX10_comes_146 : decode cX10_comes 146 = .ok (.getfield 83, 3) := by decide +kernel
theorem dX10_comes_149 : decode cX10_comes 149 = .ok (.iload_n 1, 1) := by decide +kernel
theorem dX10_comes_150 : decode cX10_comes 150 = .ok (.iaload, 1) := by decide +kernel
theorem dX10_comes_151 : decode cX10_comes 151 = .ok (.if_icmp .gt 57, 3) := by decide +kernel
theorem dX10_comes_154 : decode cX10_comes 154 = .ok (.aload_n 0, 1) := by decide +kernel
theorem dX10_comes_155 : decode cX10_comes 155 = .ok (.getfield 83, 3) := by decide +kernel
theorem dX10_comes_158 : decode cX10_comes 158 = .ok (.iload_n 1, 1) := by decide +kernel
theorem dX10_comes_159 : decode cX10_comes 159 = .ok (.dup2, 1) := by decide +kernel
theorem dX10_comes_160 : decode cX10_comes 160 = .ok (.iaload, 1) := by decide +kernel
theorem dX10_comes_161 : decode cX10_comes 161 = .ok (.iload 10, 2) := by decide +kernel
theorem dX10_comes_163 : decode cX10_comes 163 = .ok (.isub, 1) := by decide +kernel
theorem dX10_comes_164 : decode cX10_comes 164 = .ok (.iastore, 1) := by decide +kernel
theorem dX10_comes_165 : decode cX10_comes 165 = .ok (.aload_n 0, 1) := by decide +kernel
theorem dX10_comes_166 : decode cX10_comes 166 = .ok (.getfield 89, 3) := by decide +kernel
theorem dX10_comes_169 : decode cX10_comes 169 = .ok (.iload_n 1, 1) := by decide +kernel
theorem dX10_comes_170 : decode cX10_comes 170 = .ok (.dup2, 1) := by decide +kernel
theorem dX10_comes_171 : decode cX10_comes 171 = .ok (.iaload, 1) := by decide +kernel
theorem dX10_comes_172 : decode cX10_comes 172 = .ok (.iload 10, 2) := by decide +kernel
theorem dX10_comes_174 : decode cX10_comes 174 = .ok (.iadd, 1) := by decide +kernel
theorem dX10_comes_175 : decode cX10_comes 175 = .ok (.iastore, 1) := by decide +kernel
theorem dX10_comes_176 : decode cX10_comes 176 = .ok (.aload_n 0, 1) := by decide +kernel
theorem dX10_comes_177 : decode cX10_comes 177 = .ok (.getfield 86, 3) := by decide +kernel
theorem dX10_comes_180 : decode cX10_comes 180 = .ok (.iload_n 1, 1) := by decide +kernel
theorem dX10_comes_181 : decode cX10_comes 181 = .ok (.dup2, 1) := by decide +kernel
theorem dX10_comes_182 : decode cX10_comes 182 = .ok (.iaload, 1) := by decide +kernel
theorem dX10_comes_183 : decode cX10_comes 183 = .ok (.iconst 1, 1) := by decide +kernel
theorem dX10_comes_184 : decode cX10_comes 184 = .ok (.iadd, 1) := by decide +kernel
theorem dX10_comes_185 : decode cX10_comes 185 = .ok (.iastore, 1) := by decide +kernel
theorem dX10_comes_186 : decode cX10_comes 186 = .ok (.aload_n 0, 1) := by decide +kernel
theorem dX10_comes_187 : decode cX10_comes 187 = .ok (.dup, 1) := by decide +kernel
theorem dX10_comes_188 : decode cX10_comes 188 = .ok (.getfield 319, 3) := by decide +kernel
theorem dX10_comes_191 : decode cX10_comes 191 = .ok (.iconst 1, 1) := by decide +kernel
theorem dX10_comes_192 : decode cX10_comes 192 = .ok (.iadd, 1) := by decide +kernel
theorem dX10_comes_193 : decode cX10_comes 193 = .ok (.putfield 319, 3) := by decide +kernel
theorem dX10_comes_196 : decode cX10_comes 196 = .ok (.aload_n 0, 1) := by decide +kernel
theorem dX10_comes_197 : decode cX10_comes 197 = .ok (.iload 9, 2) := by decide +kernel
theorem dX10_comes_199 : decode cX10_comes 199 = .ok (.invokevirtual 296, 3) := by decide +kernel
theorem dX10_comes_202 : decode cX10_comes 202 = .ok (.iinc 7 (-1), 3) := by decide +kernel
theorem dX10_comes_205 : decode cX10_comes 205 = .ok (.goto 15, 3) := by decide +kernel
theorem dX10_comes_208 : decode cX10_comes 208 = .ok (.aload_n 0, 1) := by decide +kernel
theorem dX10_comes_209 : decode cX10_comes 209 = .ok (.getfield 101, 3) := by decide +kernel
theorem dX10_comes_212 : decode cX10_comes 212 = .ok (.iload 6, 2) := by decide +kernel
theorem dX10_comes_214 : decode cX10_comes 214 = .ok (.iload 9, 2) := by decide +kernel
theorem dX10_comes_216 : decode cX10_comes 216 = .ok (.iastore, 1) := by decide +kernel
theorem dX10_comes_217 : decode cX10_comes 217 = .ok (.iinc 6 1, 3) := by decide +kernel
theorem dX10_comes_220 : decode cX10_comes 220 = .ok (.iinc 8 1, 3) := by decide +kernel
theorem dX10_comes_223 : decode cX10_comes 223 = .ok (.goto (-196), 3) := by decide +kernel
theorem dX10_comes_226 : decode cX10_comes 226 = .ok (.iconst 0, 1) := by decide +kernel
theorem dX10_comes_227 : decode cX10_comes 227 = .ok (.istore 8, 2) := by decide +kernel
theorem dX10_comes_229 : decode cX10_comes 229 = .ok (.iload 8, 2) := by decide +kernel
theorem dX10_comes_231 : decode cX10_comes 231 = .ok (.iload 6, 2) := by decide +kernel
theorem dX10_comes_233 : decode cX10_comes 233 = .ok (.if_icmp .ge 47, 3) := by decide +kernel
theorem dX10_comes_236 : decode cX10_comes 236 = .ok (.aload_n 0, 1) := by decide +kernel
theorem dX10_comes_237 : decode cX10_comes 237 = .ok (.iload_n 2, 1) := by decide +kernel
theorem dX10_comes_238 : decode cX10_comes 238 = .ok (.aload_n 0, 1) := by decide +kernel
theorem dX10_comes_239 : decode cX10_comes 239 = .ok (.getfield 101, 3) := by decide +kernel
theorem dX10_comes_242 : decode cX10_comes 242 = .ok (.iload 8, 2) := by decide +kernel
theorem dX10_comes_244 : decode cX10_comes 244 = .ok (.iaload, 1) := by decide +kernel
theorem dX10_comes_245 : decode cX10_comes 245 = .ok (.invokevirtual 322, 3) := by decide +kernel
theorem dX10_comes_248 : decode cX10_comes 248 = .ok (.istore 9, 2) := by decide +kernel
theorem dX10_comes_250 : decode cX10_comes 250 = .ok (.aload_n 0, 1) := by decide +kernel
theorem dX10_comes_251 : decode cX10_comes 251 = .ok (.aload_n 0, 1) := by decide +kernel
theorem dX10_comes_252 : decode cX10_comes 252 = .ok (.getfield 101, 3) := by decide +kernel
theorem dX10_comes_255 : decode cX10_comes 255 = .ok (.iload 8, 2) := by decide +kernel
theorem dX10_comes_257 : decode cX10_comes 257 = .ok (.iaload, 1) := by decide +kernel
theorem dX10_comes_258 : decode cX10_comes 258 = .ok (.invokevirtual 296, 3) := by decide +kernel
theorem dX10_comes_261 : decode cX10_comes 261 = .ok (.aload_n 0, 1) := by decide +kernel
theorem dX10_comes_262 : decode cX10_comes 262 = .ok (.iload 9, 2) := by decide +kernel
theorem dX10_comes_264 : decode cX10_comes 264 = .ok (.aload_n 0, 1) := by decide +kernel
theorem dX10_comes_265 : decode cX10_comes 265 = .ok (.getfield 101, 3) := by decide +kernel
theorem dX10_comes_268 : decode cX10_comes 268 = .ok (.iload 8, 2) := by decide +kernel
theorem dX10_comes_270 : decode cX10_comes 270 = .ok (.iaload, 1) := by decide +kernel
theorem dX10_comes_271 : decode cX10_comes 271 = .ok (.invokevirtual 211, 3) := by decide +kernel
theorem dX10_comes_274 : decode cX10_comes 274 = .ok (.iinc 8 1, 3) := by decide +kernel
theorem dX10_comes_277 : decode cX10_comes 277 = .ok (.goto (-48), 3) := by decide +kernel
theorem dX10_comes_280 : decode cX10_comes 280 = .ok (.aload_n 0, 1) := by decide +kernel
theorem dX10_comes_281 : decode cX10_comes 281 = .ok (.dup, 1) := by decide +kernel
theorem dX10_comes_282 : decode cX10_comes 282 = .ok (.getfield 325, 3) := by decide +kernel
theorem dX10_comes_285 : decode cX10_comes 285 = .ok (.iload 5, 2) := by decide +kernel
theorem dX10_comes_287 : decode cX10_comes 287 = .ok (.iadd, 1) := by decide +kernel
theorem dX10_comes_288 : decode cX10_comes 288 = .ok (.putfield 325, 3) := by decide +kernel
theorem dX10_comes_291 : decode cX10_comes 291 = .ok (.aload_n 0, 1) := by decide +kernel
theorem dX10_comes_292 : decode cX10_comes 292 = .ok (.getfield 29, 3) := by decide +kernel
theorem dX10_comes_295 : decode cX10_comes 295 = .ok (.bipush 6, 2) := by decide +kernel
theorem dX10_comes_297 : decode cX10_comes 297 = .ok (.iload_n 1, 1) := by decide +kernel
theorem dX10_comes_298 : decode cX10_comes 298 = .ok (.imul, 1) := by decide +kernel
theorem dX10_comes_299 : decode cX10_comes 299 = .ok (.iconst 1, 1) := by decide +kernel
theorem dX10_comes_300 : decode cX10_comes 300 = .ok (.iadd, 1) := by decide +kernel
theorem dX10_comes_301 : decode cX10_comes 301 = .ok (.iaload, 1) := by decide +kernel
theorem dX10_comes_302 : decode cX10_comes 302 = .ok (.istore 8, 2) := by decide +kernel
theorem dX10_comes_304 : decode cX10_comes 304 = .ok (.aload_n 0, 1) := by decide +kernel
theorem dX10_comes_305 : decode cX10_comes 305 = .ok (.getfield 80, 3) := by decide +kernel
theorem dX10_comes_308 : decode cX10_comes 308 = .ok (.iload_n 1, 1) := by decide +kernel
theorem dX10_comes_309 : decode cX10_comes 309 = .ok (.iload_n 3, 1) := by decide +kernel
theorem dX10_comes_310 : decode cX10_comes 310 = .ok (.iload 4, 2) := by decide +kernel
theorem dX10_comes_312 : decode cX10_comes 312 = .ok (.iload 8, 2) := by decide +kernel
theorem dX10_comes_314 : decode cX10_comes 314 = .ok (.iadd, 1) := by decide +kernel
theorem dX10_comes_315 : decode cX10_comes 315 = .ok (.iconst 1, 1) := by decide +kernel
theorem dX10_comes_316 : decode cX10_comes 316 = .ok (.isub, 1) := by decide +kernel
theorem dX10_comes_317 : decode cX10_comes 317 = .ok (.iload 8, 2) := by decide +kernel
theorem dX10_comes_319 : decode cX10_comes 319 = .ok (.idiv, 1) := by decide +kernel
theorem dX10_comes_320 : decode cX10_comes 320 = .ok (.iadd, 1) := by decide +kernel
theorem dX10_comes_321 : decode cX10_comes 321 = .ok (.aload_n 0, 1) := by decide +kernel
theorem dX10_comes_322 : decode cX10_comes 322 = .ok (.getfield 65, 3) := by decide +kernel
theorem dX10_comes_325 : decode cX10_comes 325 = .ok (.iload 5, 2) := by decide +kernel
theorem dX10_comes_327 : decode cX10_comes 327 = .ok (.imul, 1) := by decide +kernel
theorem dX10_comes_328 : decode cX10_comes 328 = .ok (.iadd, 1) := by decide +kernel
theorem dX10_comes_329 : decode cX10_comes 329 = .ok (.iastore, 1) := by decide +kernel
theorem dX10_comes_330 : decode cX10_comes 330 = .ok (.return_, 1) := by decide +kernel
theorem dX10_nextOf_0 : decode cX10_nextOf 0 = .ok (.aload_n 0, 1) := by decide +kernel
theorem dX10_nextOf_1 : decode cX10_nextOf 1 = .ok (.getfield 77, 3) := by decide +kernel
theorem dX10_nextOf_4 : decode cX10_nextOf 4 = .ok (.iload_n 1, 1) := by decide +kernel
theorem dX10_nextOf_5 : decode cX10_nextOf 5 = .ok (.iaload, 1) := by decide +kernel
theorem dX10_nextOf_6 : decode cX10_nextOf 6 = .ok (.aload_n 0, 1) := by decide +kernel
theorem dX10_nextOf_7 : decode cX10_nextOf 7 = .ok (.getfield 98, 3) := by decide +kernel
theorem dX10_nextOf_10 : decode cX10_nextOf 10 = .ok (.iload_n 1, 1) := by decide +kernel
theorem dX10_nextOf_11 : decode cX10_nextOf 11 = .ok (.iaload, 1) := by decide +kernel
theorem dX10_nextOf_12 : decode cX10_nextOf 12 = .ok (.iconst 1, 1) := by decide +kernel
theorem dX10_nextOf_13 : decode cX10_nextOf 13 = .ok (.if_icmp .ne 7, 3) := by decide +kernel
theorem dX10_nextOf_16 : decode cX10_nextOf 16 = .ok (.iconst (-1), 1) := by decide +kernel
theorem dX10_nextOf_17 : decode cX10_nextOf 17 = .ok (.goto 4, 3) := by decide +kernel
theorem dX10_nextOf_20 : decode cX10_nextOf 20 = .ok (.iconst 1, 1) := by decide +kernel
theorem dX10_nextOf_21 : decode cX10_nextOf 21 = .ok (.iadd, 1) := by decide +kernel
theorem dX10_nextOf_22 : decode cX10_nextOf 22 = .ok (.istore_n 2, 1) := by decide +kernel
theorem dX10_nextOf_23 : decode cX10_nextOf 23 = .ok (.iload_n 2, 1) := by decide +kernel
theorem dX10_nextOf_24 : decode cX10_nextOf 24 = .ok (.iconst 0, 1) := by decide +kernel
theorem dX10_nextOf_25 : decode cX10_nextOf 25 = .ok (.aload_n 0, 1) := by decide +kernel
theorem dX10_nextOf_26 : decode cX10_nextOf 26 = .ok (.getfield 202, 3) := by decide +kernel
theorem dX10_nextOf_29 : decode cX10_nextOf 29 = .ok (.iconst 1, 1) := by decide +kernel
theorem dX10_nextOf_30 : decode cX10_nextOf 30 = .ok (.isub, 1) := by decide +kernel
theorem dX10_nextOf_31 : decode cX10_nextOf 31 = .ok (.invokestatic 273, 3) := by decide +kernel
theorem dX10_nextOf_34 : decode cX10_nextOf 34 = .ok (.ifCond .eq 7, 3) := by decide +kernel
theorem dX10_nextOf_37 : decode cX10_nextOf 37 = .ok (.iload_n 2, 1) := by decide +kernel
theorem dX10_nextOf_38 : decode cX10_nextOf 38 = .ok (.goto 4, 3) := by decide +kernel
theorem dX10_nextOf_41 : decode cX10_nextOf 41 = .ok (.iconst (-1), 1) := by decide +kernel
theorem dX10_nextOf_42 : decode cX10_nextOf 42 = .ok (.ireturn, 1) := by decide +kernel
theorem dX10_whoAt_0 : decode cX10_whoAt 0 = .ok (.iconst 0, 1) := by decide +kernel
theorem dX10_whoAt_1 : decode cX10_whoAt 1 = .ok (.istore_n 2, 1) := by decide +kernel
theorem dX10_whoAt_2 : decode cX10_whoAt 2 = .ok (.iload_n 2, 1) := by decide +kernel
theorem dX10_whoAt_3 : decode cX10_whoAt 3 = .ok (.aload_n 0, 1) := by decide +kernel
theorem dX10_whoAt_4 : decode cX10_whoAt 4 = .ok (.getfield 208, 3) := by decide +kernel
theorem dX10_whoAt_7 : decode cX10_whoAt 7 = .ok (.if_icmp .ge 21, 3) := by decide +kernel
theorem dX10_whoAt_10 : decode cX10_whoAt 10 = .ok (.aload_n 0, 1) := by decide +kernel
theorem dX10_whoAt_11 : decode cX10_whoAt 11 = .ok (.getfield 77, 3) := by decide +kernel
theorem dX10_whoAt_14 : decode cX10_whoAt 14 = .ok (.iload_n 2, 1) := by decide +kernel
theorem dX10_whoAt_15 : decode cX10_whoAt 15 = .ok (.iaload, 1) := by decide +kernel
theorem dX10_whoAt_16 : decode cX10_whoAt 16 = .ok (.iload_n 1, 1) := by decide +kernel
theorem dX10_whoAt_17 : decode cX10_whoAt 17 = .ok (.if_icmp .ne 5, 3) := by decide +kernel
theorem dX10_whoAt_20 : decode cX10_whoAt 20 = .ok (.iload_n 2, 1) := by decide +kernel
theorem dX10_whoAt_21 : decode cX10_whoAt 21 = .ok (.ireturn, 1) := by decide +kernel
theorem dX10_whoAt_22 : decode cX10_whoAt 22 = .ok (.iinc 2 1, 3) := by decide +kernel
theorem dX10_whoAt_25 : decode cX10_whoAt 25 = .ok (.goto (-23), 3) := by decide +kernel
theorem dX10_whoAt_28 : decode cX10_whoAt 28 = .ok (.iconst (-1), 1) := by decide +kernel
theorem dX10_whoAt_29 : decode cX10_whoAt 29 = .ok (.ireturn, 1) := by decide +kernel
theorem dX10_acts_0 : decode cX10_acts 0 = .ok (.aload_n 0, 1) := by decide +kernel
theorem dX10_acts_1 : decode cX10_acts 1 = .ok (.getfield 77, 3) := by decide +kernel
theorem dX10_acts_4 : decode cX10_acts 4 = .ok (.iload_n 1, 1) := by decide +kernel
theorem dX10_acts_5 : decode cX10_acts 5 = .ok (.iaload, 1) := by decide +kernel
theorem dX10_acts_6 : decode cX10_acts 6 = .ok (.bipush (-2), 2) := by decide +kernel
theorem dX10_acts_8 : decode cX10_acts 8 = .ok (.if_icmp .ne 4, 3) := by decide +kernel
theorem dX10_acts_11 : decode cX10_acts 11 = .ok (.return_, 1) := by decide +kernel
theorem dX10_acts_12 : decode cX10_acts 12 = .ok (.aload_n 0, 1) := by decide +kernel
theorem dX10_acts_13 : decode cX10_acts 13 = .ok (.getfield 77, 3) := by decide +kernel
theorem dX10_acts_16 : decode cX10_acts 16 = .ok (.iload_n 1, 1) := by decide +kernel
theorem dX10_acts_17 : decode cX10_acts 17 = .ok (.iaload, 1) := by decide +kernel
theorem dX10_acts_18 : decode cX10_acts 18 = .ok (.iconst (-1), 1) := by decide +kernel
theorem dX10_acts_19 : decode cX10_acts 19 = .ok (.if_icmp .ne 68, 3) := by decide +kernel
theorem dX10_acts_22 : decode cX10_acts 22 = .ok (.aload_n 0, 1) := by decide +kernel
theorem dX10_acts_23 : decode cX10_acts 23 = .ok (.getfield 29, 3) := by decide +kernel
theorem dX10_acts_26 : decode cX10_acts 26 = .ok (.bipush 6, 2) := by decide +kernel
theorem dX10_acts_28 : decode cX10_acts 28 = .ok (.iload_n 1, 1) := by decide +kernel
theorem dX10_acts_29 : decode cX10_acts 29 = .ok (.imul, 1) := by decide +kernel
theorem dX10_acts_30 : decode cX10_acts 30 = .ok (.iaload, 1) := by decide +kernel
theorem dX10_acts_31 : decode cX10_acts 31 = .ok (.iload_n 2, 1) := by decide +kernel
theorem dX10_acts_32 : decode cX10_acts 32 = .ok (.if_icmp .le 4, 3) := by decide +kernel
theorem dX10_acts_35 : decode cX10_acts 35 = .ok (.return_, 1) := by decide +kernel
theorem dX10_acts_36 : decode cX10_acts 36 = .ok (.aload_n 0, 1) := by decide +kernel
theorem dX10_acts_37 : decode cX10_acts 37 = .ok (.getfield 98, 3) := by decide +kernel
theorem dX10_acts_40 : decode cX10_acts 40 = .ok (.iload_n 1, 1) := by decide +kernel
theorem dX10_acts_41 : decode cX10_acts 41 = .ok (.iaload, 1) := by decide +kernel
theorem dX10_acts_42 : decode cX10_acts 42 = .ok (.iconst 1, 1) := by decide +kernel
theorem dX10_acts_43 : decode cX10_acts 43 = .ok (.if_icmp .ne 12, 3) := by decide +kernel
theorem dX10_acts_46 : decode cX10_acts 46 = .ok (.aload_n 0, 1) := by decide +kernel
theorem dX10_acts_47 : decode cX10_acts 47 = .ok (.getfield 202, 3) := by decide +kernel
theorem dX10_acts_50 : decode cX10_acts 50 = .ok (.iconst 1, 1) := by decide +kernel
theorem dX10_acts_51 : decode cX10_acts 51 = .ok (.isub, 1) := by decide +kernel
theorem dX10_acts_52 : decode cX10_acts 52 = .ok (.goto 4, 3) := by decide +kernel
theorem dX10_acts_55 : decode cX10_acts 55 = .ok (.iconst 0, 1) := by decide +kernel
theorem dX10_acts_56 : decode cX10_acts 56 = .ok (.istore_n 3, 1) := by decide +kernel
theorem dX10_acts_57 : decode cX10_acts 57 = .ok (.aload_n 0, 1) := by decide +kernel
theorem dX10_acts_58 : decode cX10_acts 58 = .ok (.iload_n 3, 1) := by decide +kernel
theorem dX10_acts_59 : decode cX10_acts 59 = .ok (.invokevirtual 328, 3) := by decide +kernel
theorem dX10_acts_62 : decode cX10_acts 62 = .ok (.iconst (-1), 1) := by decide +kernel
theorem dX10_acts_63 : decode cX10_acts 63 = .ok (.if_icmp .ne 13, 3) := by decide +kernel
theorem dX10_acts_66 : decode cX10_acts 66 = .ok (.aload_n 0, 1) := by decide +kernel
theorem dX10_acts_67 : decode cX10_acts 67 = .ok (.iload_n 1, 1) := by decide +kernel
theorem dX10_acts_68 : decode cX10_acts 68 = .ok (.iload_n 3, 1) := by decide +kernel
theorem dX10_acts_69 : decode cX10_acts 69 = .ok (.iload_n 2, 1) := by decide +kernel
theorem dX10_acts_70 : decode cX10_acts 70 = .ok (.invokevirtual 331, 3) := by decide +kernel
theorem dX10_acts_73 : decode cX10_acts 73 = .ok (.goto 13, 3) := by decide +kernel
theorem dX10_acts_76 : decode cX10_acts 76 = .ok (.aload_n 0, 1) := by decide +kernel
theorem dX10_acts_77 : decode cX10_acts 77 = .ok (.getfield 92, 3) := by decide +kernel
theorem dX10_acts_80 : decode cX10_acts 80 = .ok (.iload_n 1, 1) := by decide +kernel
theorem dX10_acts_81 : decode cX10_acts 81 = .ok (.dup2, 1) := by decide +kernel
theorem dX10_acts_82 : decode cX10_acts 82 = .ok (.iaload, 1) := by decide +kernel
theorem dX10_acts_83 : decode cX10_acts 83 = .ok (.iconst 1, 1) := by decide +kernel
theorem dX10_acts_84 : decode cX10_acts 84 = .ok (.iadd, 1) := by decide +kernel
theorem dX10_acts_85 : decode cX10_acts 85 = .ok (.iastore, 1) := by decide +kernel
theorem dX10_acts_86 : decode cX10_acts 86 = .ok (.return_, 1) := by decide +kernel
theorem dX10_acts_87 : decode cX10_acts 87 = .ok (.aload_n 0, 1) := by decide +kernel
theorem dX10_acts_88 : decode cX10_acts 88 = .ok (.getfield 80, 3) := by decide +kernel
theorem dX10_acts_91 : decode cX10_acts 91 = .ok (.iload_n 1, 1) := by decide +kernel
theorem dX10_acts_92 : decode cX10_acts 92 = .ok (.iaload, 1) := by decide +kernel
theorem dX10_acts_93 : decode cX10_acts 93 = .ok (.iload_n 2, 1) := by decide +kernel
theorem dX10_acts_94 : decode cX10_acts 94 = .ok (.if_icmp .le 4, 3) := by decide +kernel
theorem dX10_acts_97 : decode cX10_acts 97 = .ok (.return_, 1) := by decide +kernel
theorem dX10_acts_98 : decode cX10_acts 98 = .ok (.aload_n 0, 1) := by decide +kernel
theorem dX10_acts_99 : decode cX10_acts 99 = .ok (.iload_n 1, 1) := by decide +kernel
theorem dX10_acts_100 : decode cX10_acts 100 = .ok (.invokevirtual 335, 3) := by decide +kernel
theorem dX10_acts_103 : decode cX10_acts 103 = .ok (.istore_n 3, 1) := by decide +kernel
theorem dX10_acts_104 : decode cX10_acts 104 = .ok (.iload_n 3, 1) := by decide +kernel
theorem dX10_acts_105 : decode cX10_acts 105 = .ok (.iconst (-1), 1) := by decide +kernel
theorem dX10_acts_106 : decode cX10_acts 106 = .ok (.if_icmp .ne 19, 3) := by decide +kernel
theorem dX10_acts_109 : decode cX10_acts 109 = .ok (.aload_n 0, 1) := by decide +kernel
theorem dX10_acts_110 : decode cX10_acts 110 = .ok (.getfield 77, 3) := by decide +kernel
theorem dX10_acts_113 : decode cX10_acts 113 = .ok (.iload_n 1, 1) := by decide +kernel
theorem dX10_acts_114 : decode cX10_acts 114 = .ok (.bipush (-2), 2) := by decide +kernel
theorem dX10_acts_116 : decode cX10_acts 116 = .ok (.iastore, 1) := by decide +kernel
theorem dX10_acts_117 : decode cX10_acts 117 = .ok (.aload_n 0, 1) := by decide +kernel
theorem dX10_acts_118 : decode cX10_acts 118 = .ok (.getfield 95, 3) := by decide +kernel
theorem dX10_acts_121 : decode cX10_acts 121 = .ok (.iload_n 1, 1) := by decide +kernel
theorem dX10_acts_122 : decode cX10_acts 122 = .ok (.iload_n 2, 1) := by decide +kernel
theorem dX10_acts_123 : decode cX10_acts 123 = .ok (.iastore, 1) := by decide +kernel
theorem dX10_acts_124 : decode cX10_acts 124 = .ok (.return_, 1) := by decide +kernel
theorem dX10_acts_125 : decode cX10_acts 125 = .ok (.aload_n 0, 1) := by decide +kernel
theorem dX10_acts_126 : decode cX10_acts 126 = .ok (.iload_n 3, 1) := by decide +kernel
theorem dX10_acts_127 : decode cX10_acts 127 = .ok (.invokevirtual 328, 3) := by decide +kernel
theorem dX10_acts_130 : decode cX10_acts 130 = .ok (.istore 4, 2) := by decide +kernel
theorem dX10_acts_132 : decode cX10_acts 132 = .ok (.iload 4, 2) := by decide +kernel
theorem dX10_acts_134 : decode cX10_acts 134 = .ok (.iconst (-1), 1) := by decide +kernel
theorem dX10_acts_135 : decode cX10_acts 135 = .ok (.if_icmp .ne 13, 3) := by decide +kernel
theorem dX10_acts_138 : decode cX10_acts 138 = .ok (.aload_n 0, 1) := by decide +kernel
theorem dX10_acts_139 : decode cX10_acts 139 = .ok (.iload_n 1, 1) := by decide +kernel
theorem dX10_acts_140 : decode cX10_acts 140 = .ok (.iload_n 3, 1) := by decide +kernel
theorem dX10_acts_141 : decode cX10_acts 141 = .ok (.iload_n 2, 1) := by decide +kernel
theorem dX10_acts_142 : decode cX10_acts 142 = .ok (.invokevirtual 331, 3) := by decide +kernel
theorem dX10_acts_145 : decode cX10_acts 145 = .ok (.goto 66, 3) := by decide +kernel
theorem dX10_acts_148 : decode cX10_acts 148 = .ok (.aload_n 0, 1) := by decide +kernel
theorem dX10_acts_149 : decode cX10_acts 149 = .ok (.getfield 80, 3) := by decide +kernel
theorem dX10_acts_152 : decode cX10_acts 152 = .ok (.iload 4, 2) := by decide +kernel
theorem dX10_acts_154 : decode cX10_acts 154 = .ok (.iaload, 1) := by decide +kernel
theorem dX10_acts_155 : decode cX10_acts 155 = .ok (.iload_n 2, 1) := by decide +kernel
theorem dX10_acts_156 : decode cX10_acts 156 = .ok (.if_icmp .gt 45, 3) := by decide +kernel
theorem dX10_acts_159 : decode cX10_acts 159 = .ok (.aload_n 0, 1) := by decide +kernel
theorem dX10_acts_160 : decode cX10_acts 160 = .ok (.iload 4, 2) := by decide +kernel
theorem dX10_acts_162 : decode cX10_acts 162 = .ok (.invokevirtual 335, 3) := by decide +kernel
theorem dX10_acts_165 : decode cX10_acts 165 = .ok (.aload_n 0, 1) := by decide +kernel
theorem dX10_acts_166 : decode cX10_acts 166 = .ok (.getfield 77, 3) := by decide +kernel
theorem dX10_acts_169 : decode cX10_acts 169 = .ok (.iload_n 1, 1) := by decide +kernel
theorem dX10_acts_170 : decode cX10_acts 170 = .ok (.iaload, 1) := by decide +kernel
theorem dX10_acts_171 : decode cX10_acts 171 = .ok (.if_icmp .ne 30, 3) := by decide +kernel
theorem dX10_acts_174 : decode cX10_acts 174 = .ok (.aload_n 0, 1) := by decide +kernel
theorem dX10_acts_175 : decode cX10_acts 175 = .ok (.getfield 77, 3) := by decide +kernel
theorem dX10_acts_178 : decode cX10_acts 178 = .ok (.iload_n 1, 1) := by decide +kernel
theorem dX10_acts_179 : decode cX10_acts 179 = .ok (.iaload, 1) := by decide +kernel
theorem dX10_acts_180 : decode cX10_acts 180 = .ok (.istore 5, 2) := by decide +kernel
theorem dX10_acts_182 : decode cX10_acts 182 = .ok (.aload_n 0, 1) := by decide +kernel
theorem dX10_acts_183 : decode cX10_acts 183 = .ok (.iload_n 1, 1) := by decide +kernel
theorem dX10_acts_184 : decode cX10_acts 184 = .ok (.iload_n 3, 1) := by decide +kernel
theorem dX10_acts_185 : decode cX10_acts 185 = .ok (.iload_n 2, 1) := by decide +kernel
theorem dX10_acts_186 : decode cX10_acts 186 = .ok (.invokevirtual 331, 3) := by decide +kernel
theorem dX10_acts_189 : decode cX10_acts 189 = .ok (.aload_n 0, 1) := by decide +kernel
theorem dX10_acts_190 : decode cX10_acts 190 = .ok (.iload 4, 2) := by decide +kernel
theorem dX10_acts_192 : decode cX10_acts 192 = .ok (.iload 5, 2) := by decide +kernel
theorem dX10_acts_194 : decode cX10_acts 194 = .ok (.iload_n 2, 1) := by decide +kernel
theorem dX10_acts_195 : decode cX10_acts 195 = .ok (.invokevirtual 331, 3) := by decide +kernel
theorem dX10_acts_198 : decode cX10_acts 198 = .ok (.goto 13, 3) := by decide +kernel
theorem dX10_acts_201 : decode cX10_acts 201 = .ok (.aload_n 0, 1) := by decide +kernel
theorem dX10_acts_202 : decode cX10_acts 202 = .ok (.getfield 92, 3) := by decide +kernel
theorem dX10_acts_205 : decode cX10_acts 205 = .ok (.iload_n 1, 1) := by decide +kernel
theorem dX10_acts_206 : decode cX10_acts 206 = .ok (.dup2, 1) := by decide +kernel
theorem dX10_acts_207 : decode cX10_acts 207 = .ok (.iaload, 1) := by decide +kernel
theorem dX10_acts_208 : decode cX10_acts 208 = .ok (.iconst 1, 1) := by decide +kernel
theorem dX10_acts_209 : decode cX10_acts 209 = .ok (.iadd, 1) := by decide +kernel
theorem dX10_acts_210 : decode cX10_acts 210 = .ok (.iastore, 1) := by decide +kernel
theorem dX10_acts_211 : decode cX10_acts 211 = .ok (.return_, 1) := by decide +kernel
theorem dX10_goes_0 : decode cX10_goes 0 = .ok (.aload_n 0, 1) := by decide +kernel
theorem dX10_goes_1 : decode cX10_goes 1 = .ok (.iload_n 1, 1) := by decide +kernel
theorem dX10_goes_2 : decode cX10_goes 2 = .ok (.putfield 305, 3) := by decide +kernel
theorem dX10_goes_5 : decode cX10_goes 5 = .ok (.aload_n 0, 1) := by decide +kernel
theorem dX10_goes_6 : decode cX10_goes 6 = .ok (.iconst 0, 1) := by decide +kernel
theorem dX10_goes_7 : decode cX10_goes 7 = .ok (.putfield 319, 3) := by decide +kernel
theorem dX10_goes_10 : decode cX10_goes 10 = .ok (.aload_n 0, 1) := by decide +kernel
theorem dX10_goes_11 : decode cX10_goes 11 = .ok (.iconst 0, 1) := by decide +kernel
theorem dX10_goes_12 : decode cX10_goes 12 = .ok (.putfield 325, 3) := by decide +kernel
theorem dX10_goes_15 : decode cX10_goes 15 = .ok (.iconst 0, 1) := by decide +kernel
theorem dX10_goes_16 : decode cX10_goes 16 = .ok (.istore_n 2, 1) := by decide +kernel
theorem dX10_goes_17 : decode cX10_goes 17 = .ok (.iload_n 2, 1) := by decide +kernel
theorem dX10_goes_18 : decode cX10_goes 18 = .ok (.aload_n 0, 1) := by decide +kernel
theorem dX10_goes_19 : decode cX10_goes 19 = .ok (.getfield 208, 3) := by decide +kernel
theorem dX10_goes_22 : decode cX10_goes 22 = .ok (.if_icmp .ge 68, 3) := by decide +kernel
theorem dX10_goes_25 : decode cX10_goes 25 = .ok (.aload_n 0, 1) := by decide +kernel
theorem dX10_goes_26 : decode cX10_goes 26 = .ok (.getfield 77, 3) := by decide +kernel
theorem dX10_goes_29 : decode cX10_goes 29 = .ok (.iload_n 2, 1) := by decide +kernel
theorem dX10_goes_30 : decode cX10_goes 30 = .ok (.iconst (-1), 1) := by decide +kernel
theorem dX10_goes_31 : decode cX10_goes 31 = .ok (.iastore, 1) := by decide +kernel
theorem dX10_goes_32 : decode cX10_goes 32 = .ok (.aload_n 0, 1) := by decide +kernel
theorem dX10_goes_33 : decode cX10_goes 33 = .ok (.getfield 80, 3) := by decide +kernel
theorem dX10_goes_36 : decode cX10_goes 36 = .ok (.iload_n 2, 1) := by decide +kernel
theorem dX10_goes_37 : decode cX10_goes 37 = .ok (.iconst 0, 1) := by decide +kernel
theorem dX10_goes_38 : decode cX10_goes 38 = .ok (.iastore, 1) := by decide +kernel
theorem dX10_goes_39 : decode cX10_goes 39 = .ok (.aload_n 0, 1) := by decide +kernel
theorem dX10_goes_40 : decode cX10_goes 40 = .ok (.getfield 83, 3) := by decide +kernel
theorem dX10_goes_43 : decode cX10_goes 43 = .ok (.iload_n 2, 1) := by decide +kernel
theorem dX10_goes_44 : decode cX10_goes 44 = .ok (.aload_n 0, 1) := by decide +kernel
theorem dX10_goes_45 : decode cX10_goes 45 = .ok (.getfield 29, 3) := by decide +kernel
theorem dX10_goes_48 : decode cX10_goes 48 = .ok (.bipush 6, 2) := by decide +kernel
theorem dX10_goes_50 : decode cX10_goes 50 = .ok (.iload_n 2, 1) := by decide +kernel
theorem dX10_goes_51 : decode cX10_goes 51 = .ok (.imul, 1) := by decide +kernel
theorem dX10_goes_52 : decode cX10_goes 52 = .ok (.iconst 4, 1) := by decide +kernel
theorem dX10_goes_53 : decode cX10_goes 53 = .ok (.iadd, 1) := by decide +kernel
theorem dX10_goes_54 : decode cX10_goes 54 = .ok (.iaload, 1) := by decide +kernel
theorem dX10_goes_55 : decode cX10_goes 55 = .ok (.iastore, 1) := by decide +kernel
theorem dX10_goes_56 : decode cX10_goes 56 = .ok (.aload_n 0, 1) := by decide +kernel
theorem dX10_goes_57 : decode cX10_goes 57 = .ok (.getfield 86, 3) := by decide +kernel
theorem dX10_goes_60 : decode cX10_goes 60 = .ok (.iload_n 2, 1) := by decide +kernel
theorem dX10_goes_61 : decode cX10_goes 61 = .ok (.iconst 0, 1) := by decide +kernel
theorem dX10_goes_62 : decode cX10_goes 62 = .ok (.iastore, 1) := by decide +kernel
theorem dX10_goes_63 : decode cX10_goes 63 = .ok (.aload_n 0, 1) := by decide +kernel
theorem dX10_goes_64 : decode cX10_goes 64 = .ok (.getfield 89, 3) := by decide +kernel
theorem dX10_goes_67 : decode cX10_goes 67 = .ok (.iload_n 2, 1) := by decide +kernel
theorem dX10_goes_68 : decode cX10_goes 68 = .ok (.iconst 0, 1) := by decide +kernel
theorem dX10_goes_69 : decode cX10_goes 69 = .ok (.iastore, 1) := by decide +kernel
theorem dX10_goes_70 : decode cX10_goes 70 = .ok (.aload_n 0, 1) := by decide +kernel
theorem dX10_goes_71 : decode cX10_goes 71 = .ok (.getfield 92, 3) := by decide +kernel
theorem dX10_goes_74 : decode cX10_goes 74 = .ok (.iload_n 2, 1) := by decide +kernel
theorem dX10_goes_75 : decode cX10_goes 75 = .ok (.iconst 0, 1) := by decide +kernel
theorem dX10_goes_76 : decode cX10_goes 76 = .ok (.iastore, 1) := by decide +kernel
theorem dX10_goes_77 : decode cX10_goes 77 = .ok (.aload_n 0, 1) := by decide +kernel
theorem dX10_goes_78 : decode cX10_goes 78 = .ok (.getfield 95, 3) := by decide +kernel
theorem dX10_goes_81 : decode cX10_goes 81 = .ok (.iload_n 2, 1) := by decide +kernel
theorem dX10_goes_82 : decode cX10_goes 82 = .ok (.iconst (-1), 1) := by decide +kernel
theorem dX10_goes_83 : decode cX10_goes 83 = .ok (.iastore, 1) := by decide +kernel
theorem dX10_goes_84 : decode cX10_goes 84 = .ok (.iinc 2 1, 3) := by decide +kernel
theorem dX10_goes_87 : decode cX10_goes 87 = .ok (.goto (-70), 3) := by decide +kernel
theorem dX10_goes_90 : decode cX10_goes 90 = .ok (.iconst 0, 1) := by decide +kernel
theorem dX10_goes_91 : decode cX10_goes 91 = .ok (.istore_n 2, 1) := by decide +kernel
theorem dX10_goes_92 : decode cX10_goes 92 = .ok (.iload_n 2, 1) := by decide +kernel
theorem dX10_goes_93 : decode cX10_goes 93 = .ok (.sipush 3599, 3) := by decide +kernel
theorem dX10_goes_96 : decode cX10_goes 96 = .ok (.if_icmp .gt 31, 3) := by decide +kernel
theorem dX10_goes_99 : decode cX10_goes 99 = .ok (.iconst 0, 1) := by decide +kernel
theorem dX10_goes_100 : decode cX10_goes 100 = .ok (.istore_n 3, 1) := by decide +kernel
theorem dX10_goes_101 : decode cX10_goes 101 = .ok (.iload_n 3, 1) := by decide +kernel
theorem dX10_goes_102 : decode cX10_goes 102 = .ok (.aload_n 0, 1) := by decide +kernel
theorem dX10_goes_103 : decode cX10_goes 103 = .ok (.getfield 208, 3) := by decide +kernel
theorem dX10_goes_106 : decode cX10_goes 106 = .ok (.if_icmp .ge 15, 3) := by decide +kernel
theorem dX10_goes_109 : decode cX10_goes 109 = .ok (.aload_n 0, 1) := by decide +kernel
theorem dX10_goes_110 : decode cX10_goes 110 = .ok (.iload_n 3, 1) := by decide +kernel
theorem dX10_goes_111 : decode cX10_goes 111 = .ok (.iload_n 2, 1) := by decide +kernel
theorem dX10_goes_112 : decode cX10_goes 112 = .ok (.invokevirtual 338, 3) := by decide +kernel
theorem dX10_goes_115 : decode cX10_goes 115 = .ok (.iinc 3 1, 3) := by decide +kernel
theorem dX10_goes_118 : decode cX10_goes 118 = .ok (.goto (-17), 3) := by decide +kernel
theorem dX10_goes_121 : decode cX10_goes 121 = .ok (.iinc 2 1, 3) := by decide +kernel
theorem dX10_goes_124 : decode cX10_goes 124 = .ok (.goto (-32), 3) := by decide +kernel
theorem dX10_goes_127 : decode cX10_goes 127 = .ok (.return_, 1) := by decide +kernel
theorem dX10_asTold_0 : decode cX10_asTold 0 = .ok (.iconst 0, 1) := by decide +kernel
theorem dX10_asTold_1 : decode cX10_asTold 1 = .ok (.istore_n 1, 1) := by decide +kernel
theorem dX10_asTold_2 : decode cX10_asTold 2 = .ok (.iload_n 1, 1) := by decide +kernel
theorem dX10_asTold_3 : decode cX10_asTold 3 = .ok (.aload_n 0, 1) := by decide +kernel
theorem dX10_asTold_4 : decode cX10_asTold 4 = .ok (.getfield 208, 3) := by decide +kernel
theorem dX10_asTold_7 : decode cX10_asTold 7 = .ok (.if_icmp .ge 26, 3) := by decide +kernel
theorem dX10_asTold_10 : decode cX10_asTold 10 = .ok (.aload_n 0, 1) := by decide +kernel
theorem dX10_asTold_11 : decode cX10_asTold 11 = .ok (.getfield 98, 3) := by decide +kernel
theorem dX10_asTold_14 : decode cX10_asTold 14 = .ok (.iload_n 1, 1) := by decide +kernel
theorem dX10_asTold_15 : decode cX10_asTold 15 = .ok (.aload_n 0, 1) := by decide +kernel
theorem dX10_asTold_16 : decode cX10_asTold 16 = .ok (.getfield 29, 3) := by decide +kernel
theorem dX10_asTold_19 : decode cX10_asTold 19 = .ok (.bipush 6, 2) := by decide +kernel
theorem dX10_asTold_21 : decode cX10_asTold 21 = .ok (.iload_n 1, 1) := by decide +kernel
theorem dX10_asTold_22 : decode cX10_asTold 22 = .ok (.imul, 1) := by decide +kernel
theorem dX10_asTold_23 : decode cX10_asTold 23 = .ok (.iconst 5, 1) := by decide +kernel
theorem dX10_asTold_24 : decode cX10_asTold 24 = .ok (.iadd, 1) := by decide +kernel
theorem dX10_asTold_25 : decode cX10_asTold 25 = .ok (.iaload, 1) := by decide +kernel
theorem dX10_asTold_26 : decode cX10_asTold 26 = .ok (.iastore, 1) := by decide +kernel
theorem dX10_asTold_27 : decode cX10_asTold 27 = .ok (.iinc 1 1, 3) := by decide +kernel
theorem dX10_asTold_30 : decode cX10_asTold 30 = .ok (.goto (-28), 3) := by decide +kernel
theorem dX10_asTold_33 : decode cX10_asTold 33 = .ok (.return_, 1) := by decide +kernel
theorem dX10_keeps_0 : decode cX10_keeps 0 = .ok (.iconst 0, 1) := by decide +kernel
theorem dX10_keeps_1 : decode cX10_keeps 1 = .ok (.istore_n 1, 1) := by decide +kernel
theorem dX10_keeps_2 : decode cX10_keeps 2 = .ok (.iload_n 1, 1) := by decide +kernel
theorem dX10_keeps_3 : decode cX10_keeps 3 = .ok (.sipush 192, 3) := by decide +kernel
theorem dX10_keeps_6 : decode cX10_keeps 6 = .ok (.if_icmp .ge 21, 3) := by decide +kernel
theorem dX10_keeps_9 : decode cX10_keeps 9 = .ok (.aload_n 0, 1) := by decide +kernel
theorem dX10_keeps_10 : decode cX10_keeps 10 = .ok (.getfield 104, 3) := by decide +kernel
theorem dX10_keeps_13 : decode cX10_keeps 13 = .ok (.iload_n 1, 1) := by decide +kernel
theorem dX10_keeps_14 : decode cX10_keeps 14 = .ok (.aload_n 0, 1) := by decide +kernel
theorem dX10_keeps_15 : decode cX10_keeps 15 = .ok (.getfield 71, 3) := by decide +kernel
theorem dX10_keeps_18 : decode cX10_keeps 18 = .ok (.iload_n 1, 1) := by decide +kernel
theorem dX10_keeps_19 : decode cX10_keeps 19 = .ok (.iaload, 1) := by decide +kernel
theorem dX10_keeps_20 : decode cX10_keeps 20 = .ok (.iastore, 1) := by decide +kernel
theorem dX10_keeps_21 : decode cX10_keeps 21 = .ok (.iinc 1 1, 3) := by decide +kernel
theorem dX10_keeps_24 : decode cX10_keeps 24 = .ok (.goto (-22), 3) := by decide +kernel
theorem dX10_keeps_27 : decode cX10_keeps 27 = .ok (.iconst 0, 1) := by decide +kernel
theorem dX10_keeps_28 : decode cX10_keeps 28 = .ok (.istore_n 1, 1) := by decide +kernel
theorem dX10_keeps_29 : decode cX10_keeps 29 = .ok (.iload_n 1, 1) := by decide +kernel
theorem dX10_keeps_30 : decode cX10_keeps 30 = .ok (.bipush 8, 2) := by decide +kernel
theorem dX10_keeps_32 : decode cX10_keeps 32 = .ok (.if_icmp .ge 21, 3) := by decide +kernel
theorem dX10_keeps_35 : decode cX10_keeps 35 = .ok (.aload_n 0, 1) := by decide +kernel
theorem dX10_keeps_36 : decode cX10_keeps 36 = .ok (.getfield 107, 3) := by decide +kernel
theorem dX10_keeps_39 : decode cX10_keeps 39 = .ok (.iload_n 1, 1) := by decide +kernel
theorem dX10_keeps_40 : decode cX10_keeps 40 = .ok (.aload_n 0, 1) := by decide +kernel
theorem dX10_keeps_41 : decode cX10_keeps 41 = .ok (.getfield 68, 3) := by decide +kernel
theorem dX10_keeps_44 : decode cX10_keeps 44 = .ok (.iload_n 1, 1) := by decide +kernel
theorem dX10_keeps_45 : decode cX10_keeps 45 = .ok (.iaload, 1) := by decide +kernel
theorem dX10_keeps_46 : decode cX10_keeps 46 = .ok (.iastore, 1) := by decide +kernel
theorem dX10_keeps_47 : decode cX10_keeps 47 = .ok (.iinc 1 1, 3) := by decide +kernel
theorem dX10_keeps_50 : decode cX10_keeps 50 = .ok (.goto (-21), 3) := by decide +kernel
theorem dX10_keeps_53 : decode cX10_keeps 53 = .ok (.iconst 0, 1) := by decide +kernel
theorem dX10_keeps_54 : decode cX10_keeps 54 = .ok (.istore_n 1, 1) := by decide +kernel
theorem dX10_keeps_55 : decode cX10_keeps 55 = .ok (.iload_n 1, 1) := by decide +kernel
theorem dX10_keeps_56 : decode cX10_keeps 56 = .ok (.bipush 24, 2) := by decide +kernel
theorem dX10_keeps_58 : decode cX10_keeps 58 = .ok (.if_icmp .ge 21, 3) := by decide +kernel
theorem dX10_keeps_61 : decode cX10_keeps 61 = .ok (.aload_n 0, 1) := by decide +kernel
theorem dX10_keeps_62 : decode cX10_keeps 62 = .ok (.getfield 110, 3) := by decide +kernel
theorem dX10_keeps_65 : decode cX10_keeps 65 = .ok (.iload_n 1, 1) := by decide +kernel
theorem dX10_keeps_66 : decode cX10_keeps 66 = .ok (.aload_n 0, 1) := by decide +kernel
theorem dX10_keeps_67 : decode cX10_keeps 67 = .ok (.getfield 38, 3) := by decide +kernel
theorem dX10_keeps_70 : decode cX10_keeps 70 = .ok (.iload_n 1, 1) := by decide +kernel
theorem dX10_keeps_71 : decode cX10_keeps 71 = .ok (.iaload, 1) := by decide +kernel
theorem dX10_keeps_72 : decode cX10_keeps 72 = .ok (.iastore, 1) := by decide +kernel
theorem dX10_keeps_73 : decode cX10_keeps 73 = .ok (.iinc 1 1, 3) := by decide +kernel
theorem dX10_keeps_76 : decode cX10_keeps 76 = .ok (.goto (-21), 3) := by decide +kernel
theorem dX10_keeps_79 : decode cX10_keeps 79 = .ok (.return_, 1) := by decide +kernel
theorem dX10_back_0 : decode cX10_back 0 = .ok (.iconst 0, 1) := by decide +kernel
theorem dX10_back_1 : decode cX10_back 1 = .ok (.istore_n 1, 1) := by decide +kernel
theorem dX10_back_2 : decode cX10_back 2 = .ok (.iload_n 1, 1) := by decide +kernel
theorem dX10_back_3 : decode cX10_back 3 = .ok (.sipush 192, 3) := by decide +kernel
theorem dX10_back_6 : decode cX10_back 6 = .ok (.if_icmp .ge 21, 3) := by decide +kernel
theorem dX10_back_9 : decode cX10_back 9 = .ok (.aload_n 0, 1) := by decide +kernel
theorem dX10_back_10 : decode cX10_back 10 = .ok (.getfield 71, 3) := by decide +kernel
theorem dX10_back_13 : decode cX10_back 13 = .ok (.iload_n 1, 1) := by decide +kernel
theorem dX10_back_14 : decode cX10_back 14 = .ok (.aload_n 0, 1) := by decide +kernel
theorem dX10_back_15 : decode cX10_back 15 = .ok (.getfield 104, 3) := by decide +kernel
theorem dX10_back_18 : decode cX10_back 18 = .ok (.iload_n 1, 1) := by decide +kernel
theorem dX10_back_19 : decode cX10_back 19 = .ok (.iaload, 1) := by decide +kernel
theorem dX10_back_20 : decode cX10_back 20 = .ok (.iastore, 1) := by decide +kernel
theorem dX10_back_21 : decode cX10_back 21 = .ok (.iinc 1 1, 3) := by decide +kernel
theorem dX10_back_24 : decode cX10_back 24 = .ok (.goto (-22), 3) := by decide +kernel
theorem dX10_back_27 : decode cX10_back 27 = .ok (.iconst 0, 1) := by decide +kernel
theorem dX10_back_28 : decode cX10_back 28 = .ok (.istore_n 1, 1) := by decide +kernel
theorem dX10_back_29 : decode cX10_back 29 = .ok (.iload_n 1, 1) := by decide +kernel
theorem dX10_back_30 : decode cX10_back 30 = .ok (.bipush 8, 2) := by decide +kernel
theorem dX10_back_32 : decode cX10_back 32 = .ok (.if_icmp .ge 21, 3) := by decide +kernel
theorem dX10_back_35 : decode cX10_back 35 = .ok (.aload_n 0, 1) := by decide +kernel
theorem dX10_back_36 : decode cX10_back 36 = .ok (.getfield 68, 3) := by decide +kernel
theorem dX10_back_39 : decode cX10_back 39 = .ok (.iload_n 1, 1) := by decide +kernel
theorem dX10_back_40 : decode cX10_back 40 = .ok (.aload_n 0, 1) := by decide +kernel
theorem dX10_back_41 : decode cX10_back 41 = .ok (.getfield 107, 3) := by decide +kernel
theorem dX10_back_44 : decode cX10_back 44 = .ok (.iload_n 1, 1) := by decide +kernel
theorem dX10_back_45 : decode cX10_back 45 = .ok (.iaload, 1) := by decide +kernel
theorem dX10_back_46 : decode cX10_back 46 = .ok (.iastore, 1) := by decide +kernel
theorem dX10_back_47 : decode cX10_back 47 = .ok (.iinc 1 1, 3) := by decide +kernel
theorem dX10_back_50 : decode cX10_back 50 = .ok (.goto (-21), 3) := by decide +kernel
theorem dX10_back_53 : decode cX10_back 53 = .ok (.iconst 0, 1) := by decide +kernel
theorem dX10_back_54 : decode cX10_back 54 = .ok (.istore_n 1, 1) := by decide +kernel
theorem dX10_back_55 : decode cX10_back 55 = .ok (.iload_n 1, 1) := by decide +kernel
theorem dX10_back_56 : decode cX10_back 56 = .ok (.bipush 24, 2) := by decide +kernel
theorem dX10_back_58 : decode cX10_back 58 = .ok (.if_icmp .ge 21, 3) := by decide +kernel
theorem dX10_back_61 : decode cX10_back 61 = .ok (.aload_n 0, 1) := by decide +kernel
theorem dX10_back_62 : decode cX10_back 62 = .ok (.getfield 38, 3) := by decide +kernel
theorem dX10_back_65 : decode cX10_back 65 = .ok (.iload_n 1, 1) := by decide +kernel
theorem dX10_back_66 : decode cX10_back 66 = .ok (.aload_n 0, 1) := by decide +kernel
theorem dX10_back_67 : decode cX10_back 67 = .ok (.getfield 110, 3) := by decide +kernel
theorem dX10_back_70 : decode cX10_back 70 = .ok (.iload_n 1, 1) := by decide +kernel
theorem dX10_back_71 : decode cX10_back 71 = .ok (.iaload, 1) := by decide +kernel
theorem dX10_back_72 : decode cX10_back 72 = .ok (.iastore, 1) := by decide +kernel
theorem dX10_back_73 : decode cX10_back 73 = .ok (.iinc 1 1, 3) := by decide +kernel
theorem dX10_back_76 : decode cX10_back 76 = .ok (.goto (-21), 3) := by decide +kernel
theorem dX10_back_79 : decode cX10_back 79 = .ok (.return_, 1) := by decide +kernel
theorem dX10_total_0 : decode cX10_total 0 = .ok (.iconst 0, 1) := by decide +kernel
theorem dX10_total_1 : decode cX10_total 1 = .ok (.istore_n 2, 1) := by decide +kernel
theorem dX10_total_2 : decode cX10_total 2 = .ok (.iconst 0, 1) := by decide +kernel
theorem dX10_total_3 : decode cX10_total 3 = .ok (.istore_n 3, 1) := by decide +kernel
theorem dX10_total_4 : decode cX10_total 4 = .ok (.iload_n 3, 1) := by decide +kernel
theorem dX10_total_5 : decode cX10_total 5 = .ok (.aload_n 0, 1) := by decide +kernel
theorem dX10_total_6 : decode cX10_total 6 = .ok (.getfield 208, 3) := by decide +kernel
theorem dX10_total_9 : decode cX10_total 9 = .ok (.if_icmp .ge 15, 3) := by decide +kernel
theorem dX10_total_12 : decode cX10_total 12 = .ok (.iload_n 2, 1) := by decide +kernel
theorem dX10_total_13 : decode cX10_total 13 = .ok (.aload_n 1, 1) := by decide +kernel
theorem dX10_total_14 : decode cX10_total 14 = .ok (.iload_n 3, 1) := by decide +kernel
theorem dX10_total_15 : decode cX10_total 15 = .ok (.iaload, 1) := by decide +kernel
theorem dX10_total_16 : decode cX10_total 16 = .ok (.iadd, 1) := by decide +kernel
theorem dX10_total_17 : decode cX10_total 17 = .ok (.istore_n 2, 1) := by decide +kernel
theorem dX10_total_18 : decode cX10_total 18 = .ok (.iinc 3 1, 3) := by decide +kernel
theorem dX10_total_21 : decode cX10_total 21 = .ok (.goto (-17), 3) := by decide +kernel
theorem dX10_total_24 : decode cX10_total 24 = .ok (.iload_n 2, 1) := by decide +kernel
theorem dX10_total_25 : decode cX10_total 25 = .ok (.ireturn, 1) := by decide +kernel
theorem dX10_lastGone_0 : decode cX10_lastGone 0 = .ok (.iconst 0, 1) := by decide +kernel
theorem dX10_lastGone_1 : decode cX10_lastGone 1 = .ok (.istore_n 1, 1) := by decide +kernel
theorem dX10_lastGone_2 : decode cX10_lastGone 2 = .ok (.iconst 0, 1) := by decide +kernel
theorem dX10_lastGone_3 : decode cX10_lastGone 3 = .ok (.istore_n 2, 1) := by decide +kernel
theorem dX10_lastGone_4 : decode cX10_lastGone 4 = .ok (.iload_n 2, 1) := by decide +kernel
theorem dX10_lastGone_5 : decode cX10_lastGone 5 = .ok (.aload_n 0, 1) := by decide +kernel
theorem dX10_lastGone_6 : decode cX10_lastGone 6 = .ok (.getfield 208, 3) := by decide +kernel
theorem dX10_lastGone_9 : decode cX10_lastGone 9 = .ok (.if_icmp .ge 42, 3) := by decide +kernel
theorem dX10_lastGone_12 : decode cX10_lastGone 12 = .ok (.aload_n 0, 1) := by decide +kernel
theorem dX10_lastGone_13 : decode cX10_lastGone 13 = .ok (.getfield 95, 3) := by decide +kernel
theorem dX10_lastGone_16 : decode cX10_lastGone 16 = .ok (.iload_n 2, 1) := by decide +kernel
theorem dX10_lastGone_17 : decode cX10_lastGone 17 = .ok (.iaload, 1) := by decide +kernel
theorem dX10_lastGone_18 : decode cX10_lastGone 18 = .ok (.iconst (-1), 1) := by decide +kernel
theorem dX10_lastGone_19 : decode cX10_lastGone 19 = .ok (.if_icmp .ne 5, 3) := by decide +kernel
theorem dX10_lastGone_22 : decode cX10_lastGone 22 = .ok (.iconst (-1), 1) := by decide +kernel
theorem dX10_lastGone_23 : decode cX10_lastGone 23 = .ok (.ireturn, 1) := by decide +kernel
theorem dX10_lastGone_24 : decode cX10_lastGone 24 = .ok (.aload_n 0, 1) := by decide +kernel
theorem dX10_lastGone_25 : decode cX10_lastGone 25 = .ok (.getfield 95, 3) := by decide +kernel
theorem dX10_lastGone_28 : decode cX10_lastGone 28 = .ok (.iload_n 2, 1) := by decide +kernel
theorem dX10_lastGone_29 : decode cX10_lastGone 29 = .ok (.iaload, 1) := by decide +kernel
theorem dX10_lastGone_30 : decode cX10_lastGone 30 = .ok (.iload_n 1, 1) := by decide +kernel
theorem dX10_lastGone_31 : decode cX10_lastGone 31 = .ok (.if_icmp .le 12, 3) := by decide +kernel
theorem dX10_lastGone_34 : decode cX10_lastGone 34 = .ok (.aload_n 0, 1) := by decide +kernel
theorem dX10_lastGone_35 : decode cX10_lastGone 35 = .ok (.getfield 95, 3) := by decide +kernel
theorem dX10_lastGone_38 : decode cX10_lastGone 38 = .ok (.iload_n 2, 1) := by decide +kernel
theorem dX10_lastGone_39 : decode cX10_lastGone 39 = .ok (.iaload, 1) := by decide +kernel
theorem dX10_lastGone_40 : decode cX10_lastGone 40 = .ok (.goto 4, 3) := by decide +kernel
theorem dX10_lastGone_43 : decode cX10_lastGone 43 = .ok (.iload_n 1, 1) := by decide +kernel
theorem dX10_lastGone_44 : decode cX10_lastGone 44 = .ok (.istore_n 1, 1) := by decide +kernel
theorem dX10_lastGone_45 : decode cX10_lastGone 45 = .ok (.iinc 2 1, 3) := by decide +kernel
theorem dX10_lastGone_48 : decode cX10_lastGone 48 = .ok (.goto (-44), 3) := by decide +kernel
theorem dX10_lastGone_51 : decode cX10_lastGone 51 = .ok (.iload_n 1, 1) := by decide +kernel
theorem dX10_lastGone_52 : decode cX10_lastGone 52 = .ok (.ireturn, 1) := by decide +kernel
theorem dX10_day_0 : decode cX10_day 0 = .ok (.aload_n 0, 1) := by decide +kernel
theorem dX10_day_1 : decode cX10_day 1 = .ok (.iconst 0, 1) := by decide +kernel
theorem dX10_day_2 : decode cX10_day 2 = .ok (.putfield 3, 3) := by decide +kernel
theorem dX10_day_5 : decode cX10_day 5 = .ok (.aload_n 0, 1) := by decide +kernel
theorem dX10_day_6 : decode cX10_day 6 = .ok (.invokevirtual 341, 3) := by decide +kernel
theorem dX10_day_9 : decode cX10_day 9 = .ok (.aload_n 0, 1) := by decide +kernel
theorem dX10_day_10 : decode cX10_day 10 = .ok (.iload_n 1, 1) := by decide +kernel
theorem dX10_day_11 : decode cX10_day 11 = .ok (.invokevirtual 344, 3) := by decide +kernel
theorem dX10_day_14 : decode cX10_day 14 = .ok (.aload_n 0, 1) := by decide +kernel
theorem dX10_day_15 : decode cX10_day 15 = .ok (.getfield 319, 3) := by decide +kernel
theorem dX10_day_18 : decode cX10_day 18 = .ok (.ireturn, 1) := by decide +kernel
theorem dX10_offAll_0 : decode cX10_offAll 0 = .ok (.iconst 0, 1) := by decide +kernel
theorem dX10_offAll_1 : decode cX10_offAll 1 = .ok (.istore_n 1, 1) := by decide +kernel
theorem dX10_offAll_2 : decode cX10_offAll 2 = .ok (.iconst 0, 1) := by decide +kernel
theorem dX10_offAll_3 : decode cX10_offAll 3 = .ok (.istore_n 2, 1) := by decide +kernel
theorem dX10_offAll_4 : decode cX10_offAll 4 = .ok (.iload_n 2, 1) := by decide +kernel
theorem dX10_offAll_5 : decode cX10_offAll 5 = .ok (.aload_n 0, 1) := by decide +kernel
theorem dX10_offAll_6 : decode cX10_offAll 6 = .ok (.getfield 205, 3) := by decide +kernel
theorem dX10_offAll_9 : decode cX10_offAll 9 = .ok (.if_icmp .ge 31, 3) := by decide +kernel
theorem dX10_offAll_12 : decode cX10_offAll 12 = .ok (.iload_n 1, 1) := by decide +kernel
theorem dX10_offAll_13 : decode cX10_offAll 13 = .ok (.aload_n 0, 1) := by decide +kernel
theorem dX10_offAll_14 : decode cX10_offAll 14 = .ok (.getfield 38, 3) := by decide +kernel
theorem dX10_offAll_17 : decode cX10_offAll 17 = .ok (.iload_n 2, 1) := by decide +kernel
theorem dX10_offAll_18 : decode cX10_offAll 18 = .ok (.iaload, 1) := by decide +kernel
theorem dX10_offAll_19 : decode cX10_offAll 19 = .ok (.iconst (-1), 1) := by decide +kernel
theorem dX10_offAll_20 : decode cX10_offAll 20 = .ok (.if_icmp .ne 7, 3) := by decide +kernel
theorem dX10_offAll_23 : decode cX10_offAll 23 = .ok (.iconst 0, 1) := by decide +kernel
theorem dX10_offAll_24 : decode cX10_offAll 24 = .ok (.goto 8, 3) := by decide +kernel
theorem dX10_offAll_27 : decode cX10_offAll 27 = .ok (.aload_n 0, 1) := by decide +kernel
theorem dX10_offAll_28 : decode cX10_offAll 28 = .ok (.iload_n 2, 1) := by decide +kernel
theorem dX10_offAll_29 : decode cX10_offAll 29 = .ok (.invokevirtual 281, 3) := by decide +kernel
theorem dX10_offAll_32 : decode cX10_offAll 32 = .ok (.iadd, 1) := by decide +kernel
theorem dX10_offAll_33 : decode cX10_offAll 33 = .ok (.istore_n 1, 1) := by decide +kernel
theorem dX10_offAll_34 : decode cX10_offAll 34 = .ok (.iinc 2 1, 3) := by decide +kernel
theorem dX10_offAll_37 : decode cX10_offAll 37 = .ok (.goto (-33), 3) := by decide +kernel
theorem dX10_offAll_40 : decode cX10_offAll 40 = .ok (.iload_n 1, 1) := by decide +kernel
theorem dX10_offAll_41 : decode cX10_offAll 41 = .ok (.ireturn, 1) := by decide +kernel
theorem dX10_would_0 : decode cX10_would 0 = .ok (.aload_n 0, 1) := by decide +kernel
theorem dX10_would_1 : decode cX10_would 1 = .ok (.iconst 0, 1) := by decide +kernel
theorem dX10_would_2 : decode cX10_would 2 = .ok (.putfield 3, 3) := by decide +kernel
theorem dX10_would_5 : decode cX10_would 5 = .ok (.aload_n 0, 1) := by decide +kernel
theorem dX10_would_6 : decode cX10_would 6 = .ok (.iload_n 2, 1) := by decide +kernel
theorem dX10_would_7 : decode cX10_would 7 = .ok (.iconst 0, 1) := by decide +kernel
theorem dX10_would_8 : decode cX10_would 8 = .ok (.iconst 5, 1) := by decide +kernel
theorem dX10_would_9 : decode cX10_would 9 = .ok (.invokestatic 273, 3) := by decide +kernel
theorem dX10_would_12 : decode cX10_would 12 = .ok (.iconst 1, 1) := by decide +kernel
theorem dX10_would_13 : decode cX10_would 13 = .ok (.iconst 2, 1) := by decide +kernel
theorem dX10_would_14 : decode cX10_would 14 = .ok (.invokevirtual 241, 3) := by decide +kernel
theorem dX10_would_17 : decode cX10_would 17 = .ok (.ifCond .ne 5, 3) := by decide +kernel
theorem dX10_would_20 : decode cX10_would 20 = .ok (.iconst 0, 1) := by decide +kernel
theorem dX10_would_21 : decode cX10_would 21 = .ok (.ireturn, 1) := by decide +kernel
theorem dX10_would_22 : decode cX10_would 22 = .ok (.aload_n 0, 1) := by decide +kernel
theorem dX10_would_23 : decode cX10_would 23 = .ok (.invokevirtual 347, 3) := by decide +kernel
theorem dX10_would_26 : decode cX10_would 26 = .ok (.aload_n 0, 1) := by decide +kernel
theorem dX10_would_27 : decode cX10_would 27 = .ok (.invokevirtual 341, 3) := by decide +kernel
theorem dX10_would_30 : decode cX10_would 30 = .ok (.aload_n 0, 1) := by decide +kernel
theorem dX10_would_31 : decode cX10_would 31 = .ok (.iload_n 1, 1) := by decide +kernel
theorem dX10_would_32 : decode cX10_would 32 = .ok (.invokevirtual 344, 3) := by decide +kernel
theorem dX10_would_35 : decode cX10_would 35 = .ok (.aload_n 0, 1) := by decide +kernel
theorem dX10_would_36 : decode cX10_would 36 = .ok (.invokevirtual 350, 3) := by decide +kernel
theorem dX10_would_39 : decode cX10_would 39 = .ok (.istore_n 3, 1) := by decide +kernel
theorem dX10_would_40 : decode cX10_would 40 = .ok (.aload_n 0, 1) := by decide +kernel
theorem dX10_would_41 : decode cX10_would 41 = .ok (.invokevirtual 353, 3) := by decide +kernel
theorem dX10_would_44 : decode cX10_would 44 = .ok (.iload_n 2, 1) := by decide +kernel
theorem dX10_would_45 : decode cX10_would 45 = .ok (.ifCond .ne 10, 3) := by decide +kernel
theorem dX10_would_48 : decode cX10_would 48 = .ok (.aload_n 0, 1) := by decide +kernel
theorem dX10_would_49 : decode cX10_would 49 = .ok (.getfield 319, 3) := by decide +kernel
theorem dX10_would_52 : decode cX10_would 52 = .ok (.goto 60, 3) := by decide +kernel
theorem dX10_would_55 : decode cX10_would 55 = .ok (.iload_n 2, 1) := by decide +kernel
theorem dX10_would_56 : decode cX10_would 56 = .ok (.iconst 1, 1) := by decide +kernel
theorem dX10_would_57 : decode cX10_would 57 = .ok (.if_icmp .ne 14, 3) := by decide +kernel
theorem dX10_would_60 : decode cX10_would 60 = .ok (.aload_n 0, 1) := by decide +kernel
theorem dX10_would_61 : decode cX10_would 61 = .ok (.aload_n 0, 1) := by decide +kernel
theorem dX10_would_62 : decode cX10_would 62 = .ok (.getfield 89, 3) := by decide +kernel
theorem dX10_would_65 : decode cX10_would 65 = .ok (.invokevirtual 355, 3) := by decide +kernel
theorem dX10_would_68 : decode cX10_would 68 = .ok (.goto 44, 3) := by decide +kernel
theorem dX10_would_71 : decode cX10_would 71 = .ok (.iload_n 2, 1) := by decide +kernel
theorem dX10_would_72 : decode cX10_would 72 = .ok (.iconst 2, 1) := by decide +kernel
theorem dX10_would_73 : decode cX10_would 73 = .ok (.if_icmp .ne 14, 3) := by decide +kernel
theorem dX10_would_76 : decode cX10_would 76 = .ok (.aload_n 0, 1) := by decide +kernel
theorem dX10_would_77 : decode cX10_would 77 = .ok (.aload_n 0, 1) := by decide +kernel
theorem dX10_would_78 : decode cX10_would 78 = .ok (.getfield 92, 3) := by decide +kernel
theorem dX10_would_81 : decode cX10_would 81 = .ok (.invokevirtual 355, 3) := by decide +kernel
theorem dX10_would_84 : decode cX10_would 84 = .ok (.goto 28, 3) := by decide +kernel
theorem dX10_would_87 : decode cX10_would 87 = .ok (.iload_n 2, 1) := by decide +kernel
theorem dX10_would_88 : decode cX10_would 88 = .ok (.iconst 3, 1) := by decide +kernel
theorem dX10_would_89 : decode cX10_would 89 = .ok (.if_icmp .ne 10, 3) := by decide +kernel
theorem dX10_would_92 : decode cX10_would 92 = .ok (.aload_n 0, 1) := by decide +kernel
theorem dX10_would_93 : decode cX10_would 93 = .ok (.getfield 325, 3) := by decide +kernel
theorem dX10_would_96 : decode cX10_would 96 = .ok (.goto 16, 3) := by decide +kernel
theorem dX10_would_99 : decode cX10_would 99 = .ok (.iload_n 2, 1) := by decide +kernel
theorem dX10_would_100 : decode cX10_would 100 = .ok (.iconst 4, 1) := by decide +kernel
theorem dX10_would_101 : decode cX10_would 101 = .ok (.if_icmp .ne 7, 3) := by decide +kernel
theorem dX10_would_104 : decode cX10_would 104 = .ok (.iload_n 3, 1) := by decide +kernel
theorem dX10_would_105 : decode cX10_would 105 = .ok (.goto 7, 3) := by decide +kernel
theorem dX10_would_108 : decode cX10_would 108 = .ok (.aload_n 0, 1) := by decide +kernel
theorem dX10_would_109 : decode cX10_would 109 = .ok (.invokevirtual 359, 3) := by decide +kernel
theorem dX10_would_112 : decode cX10_would 112 = .ok (.ireturn, 1) := by decide +kernel
theorem dX10_buys_0 : decode cX10_buys 0 = .ok (.aload_n 0, 1) := by decide +kernel
theorem dX10_buys_1 : decode cX10_buys 1 = .ok (.iconst 0, 1) := by decide +kernel
theorem dX10_buys_2 : decode cX10_buys 2 = .ok (.putfield 3, 3) := by decide +kernel
theorem dX10_buys_5 : decode cX10_buys 5 = .ok (.aload_n 0, 1) := by decide +kernel
theorem dX10_buys_6 : decode cX10_buys 6 = .ok (.iload_n 1, 1) := by decide +kernel
theorem dX10_buys_7 : decode cX10_buys 7 = .ok (.iconst 1, 1) := by decide +kernel
theorem dX10_buys_8 : decode cX10_buys 8 = .ok (.invokevirtual 293, 3) := by decide +kernel
theorem dX10_buys_11 : decode cX10_buys 11 = .ok (.ifCond .eq 18, 3) := by decide +kernel
theorem dX10_buys_14 : decode cX10_buys 14 = .ok (.aload_n 0, 1) := by decide +kernel
theorem dX10_buys_15 : decode cX10_buys 15 = .ok (.iload_n 3, 1) := by decide +kernel
theorem dX10_buys_16 : decode cX10_buys 16 = .ok (.iconst 0, 1) := by decide +kernel
theorem dX10_buys_17 : decode cX10_buys 17 = .ok (.iconst 3, 1) := by decide +kernel
theorem dX10_buys_18 : decode cX10_buys 18 = .ok (.invokestatic 273, 3) := by decide +kernel
theorem dX10_buys_21 : decode cX10_buys 21 = .ok (.iconst 2, 1) := by decide +kernel
theorem dX10_buys_22 : decode cX10_buys 22 = .ok (.iconst 2, 1) := by decide +kernel
theorem dX10_buys_23 : decode cX10_buys 23 = .ok (.invokevirtual 241, 3) := by decide +kernel
theorem dX10_buys_26 : decode cX10_buys 26 = .ok (.ifCond .ne 5, 3) := by decide +kernel
theorem dX10_buys_29 : decode cX10_buys 29 = .ok (.iconst 0, 1) := by decide +kernel
theorem dX10_buys_30 : decode cX10_buys 30 = .ok (.ireturn, 1) := by decide +kernel
theorem dX10_buys_31 : decode cX10_buys 31 = .ok (.aload_n 0, 1) := by decide +kernel
theorem dX10_buys_32 : decode cX10_buys 32 = .ok (.invokevirtual 347, 3) := by decide +kernel
theorem dX10_buys_35 : decode cX10_buys 35 = .ok (.aload_n 0, 1) := by decide +kernel
theorem dX10_buys_36 : decode cX10_buys 36 = .ok (.invokevirtual 341, 3) := by decide +kernel
theorem dX10_buys_39 : decode cX10_buys 39 = .ok (.aload_n 0, 1) := by decide +kernel
theorem dX10_buys_40 : decode cX10_buys 40 = .ok (.iload_n 2, 1) := by decide +kernel
theorem dX10_buys_41 : decode cX10_buys 41 = .ok (.invokevirtual 344, 3) := by decide +kernel
theorem dX10_buys_44 : decode cX10_buys 44 = .ok (.aload_n 0, 1) := by decide +kernel
theorem dX10_buys_45 : decode cX10_buys 45 = .ok (.invokevirtual 353, 3) := by decide +kernel
theorem dX10_buys_48 : decode cX10_buys 48 = .ok (.iload_n 3, 1) := by decide +kernel
theorem dX10_buys_49 : decode cX10_buys 49 = .ok (.ifCond .ne 12, 3) := by decide +kernel
theorem dX10_buys_52 : decode cX10_buys 52 = .ok (.aload_n 0, 1) := by decide +kernel
theorem dX10_buys_53 : decode cX10_buys 53 = .ok (.getfield 86, 3) := by decide +kernel
theorem dX10_buys_56 : decode cX10_buys 56 = .ok (.iload_n 1, 1) := by decide +kernel
theorem dX10_buys_57 : decode cX10_buys 57 = .ok (.iaload, 1) := by decide +kernel
theorem dX10_buys_58 : decode cX10_buys 58 = .ok (.goto 37, 3) := by decide +kernel
theorem dX10_buys_61 : decode cX10_buys 61 = .ok (.iload_n 3, 1) := by decide +kernel
theorem dX10_buys_62 : decode cX10_buys 62 = .ok (.iconst 1, 1) := by decide +kernel
theorem dX10_buys_63 : decode cX10_buys 63 = .ok (.if_icmp .ne 12, 3) := by decide +kernel
theorem dX10_buys_66 : decode cX10_buys 66 = .ok (.aload_n 0, 1) := by decide +kernel
theorem dX10_buys_67 : decode cX10_buys 67 = .ok (.getfield 89, 3) := by decide +kernel
theorem dX10_buys_70 : decode cX10_buys 70 = .ok (.iload_n 1, 1) := by decide +kernel
theorem dX10_buys_71 : decode cX10_buys 71 = .ok (.iaload, 1) := by decide +kernel
theorem dX10_buys_72 : decode cX10_buys 72 = .ok (.goto 23, 3) := by decide +kernel
theorem dX10_buys_75 : decode cX10_buys 75 = .ok (.iload_n 3, 1) := by decide +kernel
theorem dX10_buys_76 : decode cX10_buys 76 = .ok (.iconst 2, 1) := by decide +kernel
theorem dX10_buys_77 : decode cX10_buys 77 = .ok (.if_icmp .ne 12, 3) := by decide +kernel
theorem dX10_buys_80 : decode cX10_buys 80 = .ok (.aload_n 0, 1) := by decide +kernel
theorem dX10_buys_81 : decode cX10_buys 81 = .ok (.getfield 92, 3) := by decide +kernel
theorem dX10_buys_84 : decode cX10_buys 84 = .ok (.iload_n 1, 1) := by decide +kernel
theorem dX10_buys_85 : decode cX10_buys 85 = .ok (.iaload, 1) := by decide +kernel
theorem dX10_buys_86 : decode cX10_buys 86 = .ok (.goto 9, 3) := by decide +kernel
theorem dX10_buys_89 : decode cX10_buys 89 = .ok (.aload_n 0, 1) := by decide +kernel
theorem dX10_buys_90 : decode cX10_buys 90 = .ok (.getfield 95, 3) := by decide +kernel
theorem dX10_buys_93 : decode cX10_buys 93 = .ok (.iload_n 1, 1) := by decide +kernel
theorem dX10_buys_94 : decode cX10_buys 94 = .ok (.iaload, 1) := by decide +kernel
theorem dX10_buys_95 : decode cX10_buys 95 = .ok (.ireturn, 1) := by decide +kernel
theorem dX10_then_0 : decode cX10_then 0 = .ok (.aload_n 0, 1) := by decide +kernel
theorem dX10_then_1 : decode cX10_then 1 = .ok (.iconst 0, 1) := by decide +kernel
theorem dX10_then_2 : decode cX10_then 2 = .ok (.putfield 3, 3) := by decide +kernel
theorem dX10_then_5 : decode cX10_then 5 = .ok (.aload_n 0, 1) := by decide +kernel
theorem dX10_then_6 : decode cX10_then 6 = .ok (.iload_n 1, 1) := by decide +kernel
theorem dX10_then_7 : decode cX10_then 7 = .ok (.iconst 1, 1) := by decide +kernel
theorem dX10_then_8 : decode cX10_then 8 = .ok (.invokevirtual 287, 3) := by decide +kernel
theorem dX10_then_11 : decode cX10_then 11 = .ok (.ifCond .ne 5, 3) := by decide +kernel
theorem dX10_then_14 : decode cX10_then 14 = .ok (.iconst 0, 1) := by decide +kernel
theorem dX10_then_15 : decode cX10_then 15 = .ok (.ireturn, 1) := by decide +kernel
theorem dX10_then_16 : decode cX10_then 16 = .ok (.aload_n 0, 1) := by decide +kernel
theorem dX10_then_17 : decode cX10_then 17 = .ok (.invokevirtual 347, 3) := by decide +kernel
theorem dX10_then_20 : decode cX10_then 20 = .ok (.aload_n 0, 1) := by decide +kernel
theorem dX10_then_21 : decode cX10_then 21 = .ok (.invokevirtual 341, 3) := by decide +kernel
theorem dX10_then_24 : decode cX10_then 24 = .ok (.aload_n 0, 1) := by decide +kernel
theorem dX10_then_25 : decode cX10_then 25 = .ok (.iload_n 2, 1) := by decide +kernel
theorem dX10_then_26 : decode cX10_then 26 = .ok (.invokevirtual 344, 3) := by decide +kernel
theorem dX10_then_29 : decode cX10_then 29 = .ok (.aload_n 0, 1) := by decide +kernel
theorem dX10_then_30 : decode cX10_then 30 = .ok (.getfield 38, 3) := by decide +kernel
theorem dX10_then_33 : decode cX10_then 33 = .ok (.iload_n 1, 1) := by decide +kernel
theorem dX10_then_34 : decode cX10_then 34 = .ok (.iaload, 1) := by decide +kernel
theorem dX10_then_35 : decode cX10_then 35 = .ok (.istore_n 3, 1) := by decide +kernel
theorem dX10_then_36 : decode cX10_then 36 = .ok (.aload_n 0, 1) := by decide +kernel
theorem dX10_then_37 : decode cX10_then 37 = .ok (.invokevirtual 353, 3) := by decide +kernel
theorem dX10_then_40 : decode cX10_then 40 = .ok (.iload_n 3, 1) := by decide +kernel
theorem dX10_then_41 : decode cX10_then 41 = .ok (.ireturn, 1) := by decide +kernel
theorem dX10_findOdds_0 : decode cX10_findOdds 0 = .ok (.iconst 0, 1) := by decide +kernel
theorem dX10_findOdds_1 : decode cX10_findOdds 1 = .ok (.istore_n 3, 1) := by decide +kernel
theorem dX10_findOdds_2 : decode cX10_findOdds 2 = .ok (.iload_n 3, 1) := by decide +kernel
theorem dX10_findOdds_3 : decode cX10_findOdds 3 = .ok (.aload_n 0, 1) := by decide +kernel
theorem dX10_findOdds_4 : decode cX10_findOdds 4 = .ok (.getfield 202, 3) := by decide +kernel
theorem dX10_findOdds_7 : decode cX10_findOdds 7 = .ok (.if_icmp .ge 30, 3) := by decide +kernel
theorem dX10_findOdds_10 : decode cX10_findOdds 10 = .ok (.aload_n 0, 1) := by decide +kernel
theorem dX10_findOdds_11 : decode cX10_findOdds 11 = .ok (.getfield 113, 3) := by decide +kernel
theorem dX10_findOdds_14 : decode cX10_findOdds 14 = .ok (.iload_n 3, 1) := by decide +kernel
theorem dX10_findOdds_15 : decode cX10_findOdds 15 = .ok (.aload_n 0, 1) := by decide +kernel
theorem dX10_findOdds_16 : decode cX10_findOdds 16 = .ok (.getfield 38, 3) := by decide +kernel
theorem dX10_findOdds_19 : decode cX10_findOdds 19 = .ok (.iload_n 1, 1) := by decide +kernel
theorem dX10_findOdds_20 : decode cX10_findOdds 20 = .ok (.iaload, 1) := by decide +kernel
theorem dX10_findOdds_21 : decode cX10_findOdds 21 = .ok (.iload_n 3, 1) := by decide +kernel
theorem dX10_findOdds_22 : decode cX10_findOdds 22 = .ok (.if_icmp .ne 7, 3) := by decide +kernel
theorem dX10_findOdds_25 : decode cX10_findOdds 25 = .ok (.lconst 1, 1) := by decide +kernel
theorem dX10_findOdds_26 : decode cX10_findOdds 26 = .ok (.goto 4, 3) := by decide +kernel
theorem dX10_findOdds_29 : decode cX10_findOdds 29 = .ok (.lconst 0, 1) := by decide +kernel
theorem dX10_findOdds_30 : decode cX10_findOdds 30 = .ok (.lastore, 1) := by decide +kernel
theorem dX10_findOdds_31 : decode cX10_findOdds 31 = .ok (.iinc 3 1, 3) := by decide +kernel
theorem dX10_findOdds_34 : decode cX10_findOdds 34 = .ok (.goto (-32), 3) := by decide +kernel
theorem dX10_findOdds_37 : decode cX10_findOdds 37 = .ok (.aload_n 0, 1) := by decide +kernel
theorem dX10_findOdds_38 : decode cX10_findOdds 38 = .ok (.lconst 1, 1) := by decide +kernel
theorem dX10_findOdds_39 : decode cX10_findOdds 39 = .ok (.putfield 362, 3) := by decide +kernel
theorem dX10_findOdds_42 : decode cX10_findOdds 42 = .ok (.iconst 0, 1) := by decide +kernel
theorem dX10_findOdds_43 : decode cX10_findOdds 43 = .ok (.istore_n 3, 1) := by decide +kernel
theorem dX10_findOdds_44 : decode cX10_findOdds 44 = .ok (.iload_n 3, 1) := by decide +kernel
theorem dX10_findOdds_45 : decode cX10_findOdds 45 = .ok (.iload_n 2, 1) := by decide +kernel
theorem dX10_findOdds_46 : decode cX10_findOdds 46 = .ok (.if_icmp .ge 305, 3) := by decide +kernel
theorem dX10_findOdds_49 : decode cX10_findOdds 49 = .ok (.iconst 0, 1) := by decide +kernel
theorem dX10_findOdds_50 : decode cX10_findOdds 50 = .ok (.istore 4, 2) := by decide +kernel
theorem dX10_findOdds_52 : decode cX10_findOdds 52 = .ok (.iload 4, 2) := by decide +kernel
theorem dX10_findOdds_54 : decode cX10_findOdds 54 = .ok (.aload_n 0, 1) := by decide +kernel
theorem dX10_findOdds_55 : decode cX10_findOdds 55 = .ok (.getfield 202, 3) := by decide +kernel
theorem dX10_findOdds_58 : decode cX10_findOdds 58 = .ok (.if_icmp .ge 17, 3) := by decide +kernel
theorem dX10_findOdds_61 : decode cX10_findOdds 61 = .ok (.aload_n 0, 1) := by decide +kernel
theorem dX10_findOdds_62 : decode cX10_findOdds 62 = .ok (.getfield 117, 3) := by decide +kernel
theorem dX10_findOdds_65 : decode cX10_findOdds 65 = .ok (.iload 4, 2) := by decide +kernel
theorem dX10_findOdds_67 : decode cX10_findOdds 67 = .ok (.lconst 0, 1) := by decide +kernel
theorem dX10_findOdds_68 : decode cX10_findOdds 68 = .ok (.lastore, 1) := by decide +kernel
theorem dX10_findOdds_69 : decode cX10_findOdds 69 = .ok (.iinc 4 1, 3) := by decide +kernel
theorem dX10_findOdds_72 : decode cX10_findOdds 72 = .ok (.goto (-20), 3) := by decide +kernel
theorem dX10_findOdds_75 : decode cX10_findOdds 75 = .ok (.iconst 0, 1) := by decide +kernel
theorem dX10_findOdds_76 : decode cX10_findOdds 76 = .ok (.istore 4, 2) := by decide +kernel
theorem dX10_findOdds_78 : decode cX10_findOdds 78 = .ok (.iload 4, 2) := by decide +kernel
theorem dX10_findOdds_80 : decode cX10_findOdds 80 = .ok (.aload_n 0, 1) := by decide +kernel
theorem dX10_findOdds_81 : decode cX10_findOdds 81 = .ok (.getfield 202, 3) := by decide +kernel
theorem dX10_findOdds_84 : decode cX10_findOdds 84 = .ok (.if_icmp .ge 205, 3) := by decide +kernel
theorem dX10_findOdds_87 : decode cX10_findOdds 87 = .ok (.aload_n 0, 1) := by decide +kernel
theorem dX10_findOdds_88 : decode cX10_findOdds 88 = .ok (.getfield 113, 3) := by decide +kernel
theorem dX10_findOdds_91 : decode cX10_findOdds 91 = .ok (.iload 4, 2) := by decide +kernel
theorem dX10_findOdds_93 : decode cX10_findOdds 93 = .ok (.laload, 1) := by decide +kernel
theorem dX10_findOdds_94 : decode cX10_findOdds 94 = .ok (.lstore 5, 2) := by decide +kernel
theorem dX10_findOdds_96 : decode cX10_findOdds 96 = .ok (.aload_n 0, 1) := by decide +kernel
theorem dX10_findOdds_97 : decode cX10_findOdds 97 = .ok (.getfield 117, 3) := by decide +kernel
theorem dX10_findOdds_100 : decode cX10_findOdds 100 = .ok (.aload_n 0, 1) := by decide +kernel
theorem dX10_findOdds_101 : decode cX10_findOdds 101 = .ok (.iload_n 1, 1) := by decide +kernel
theorem dX10_findOdds_102 : decode cX10_findOdds 102 = .ok (.invokevirtual 284, 3) := by decide +kernel
theorem dX10_findOdds_105 : decode cX10_findOdds 105 = .ok (.dup2, 1) := by decide +kernel
theorem dX10_findOdds_106 : decode cX10_findOdds 106 = .ok (.laload, 1) := by decide +kernel
theorem dX10_findOdds_107 : decode cX10_findOdds 107 = .ok (.lload 5, 2) := by decide +kernel
theorem dX10_findOdds_109 : decode cX10_findOdds 109 = .ok (.aload_n 0, 1) := by decide +kernel
theorem dX10_findOdds_110 : decode cX10_findOdds 110 = .ok (.getfield 35, 3) := by decide +kernel
theorem dX10_findOdds_113 : decode cX10_findOdds 113 = .ok (.iconst 0, 1) := by decide +kernel
theorem dX10_findOdds_114 : decode cX10_findOdds 114 = .ok (.iaload, 1) := by decide +kernel
theorem dX10_findOdds_115 : decode cX10_findOdds 115 = .ok (.i2l, 1) := by decide +kernel
theorem dX10_findOdds_116 : decode cX10_findOdds 116 = .ok (.lmul, 1) := by decide +kernel
theorem dX10_findOdds_117 : decode cX10_findOdds 117 = .ok (.ldc2_w 366, 3) := by decide +kernel
theorem dX10_findOdds_120 : decode cX10_findOdds 120 = .ok (.lmul, 1) := by decide +kernel
theorem dX10_findOdds_121 : decode cX10_findOdds 121 = .ok (.aload_n 0, 1) := by decide +kernel
theorem dX10_findOdds_122 : decode cX10_findOdds 122 = .ok (.getfield 202, 3) := by decide +kernel
theorem dX10_findOdds_125 : decode cX10_findOdds 125 = .ok (.i2l, 1) := by decide +kernel
theorem dX10_findOdds_126 : decode cX10_findOdds 126 = .ok (.lmul, 1) := by decide +kernel
theorem dX10_findOdds_127 : decode cX10_findOdds 127 = .ok (.ladd, 1) := by decide +kernel
theorem dX10_findOdds_128 : decode cX10_findOdds 128 = .ok (.lastore, 1) := by decide +kernel
theorem dX10_findOdds_129 : decode cX10_findOdds 129 = .ok (.aload_n 0, 1) := by decide +kernel
theorem dX10_findOdds_130 : decode cX10_findOdds 130 = .ok (.getfield 117, 3) := by decide +kernel
theorem dX10_findOdds_133 : decode cX10_findOdds 133 = .ok (.iload 4, 2) := by decide +kernel
theorem dX10_findOdds_135 : decode cX10_findOdds 135 = .ok (.ifCond .le 10, 3) := by decide +kernel
theorem dX10_findOdds_138 : decode cX10_findOdds 138 = .ok (.iload 4, 2) := by decide +kernel
theorem dX10_findOdds_140 : decode cX10_findOdds 140 = .ok (.iconst 1, 1) := by decide +kernel
theorem dX10_findOdds_141 : decode cX10_findOdds 141 = .ok (.isub, 1) := by decide +kernel
theorem dX10_findOdds_142 : decode cX10_findOdds 142 = .ok (.goto 5, 3) := by decide +kernel
theorem dX10_findOdds_145 : decode cX10_findOdds 145 = .ok (.iload 4, 2) := by decide +kernel
theorem dX10_findOdds_147 : decode cX10_findOdds 147 = .ok (.dup2, 1) := by decide +kernel
theorem dX10_findOdds_148 : decode cX10_findOdds 148 = .ok (.laload, 1) := by decide +kernel
theorem dX10_findOdds_149 : decode cX10_findOdds 149 = .ok (.lload 5, 2) := by decide +kernel
theorem dX10_findOdds_151 : decode cX10_findOdds 151 = .ok (.aload_n 0, 1) := by decide +kernel
theorem dX10_findOdds_152 : decode cX10_findOdds 152 = .ok (.getfield 35, 3) := by decide +kernel
theorem dX10_findOdds_155 : decode cX10_findOdds 155 = .ok (.iconst 1, 1) := by decide +kernel
theorem dX10_findOdds_156 : decode cX10_findOdds 156 = .ok (.iaload, 1) := by decide +kernel
theorem dX10_findOdds_157 : decode cX10_findOdds 157 = .ok (.i2l, 1) := by decide +kernel
theorem dX10_findOdds_158 : decode cX10_findOdds 158 = .ok (.lmul, 1) := by decide +kernel
theorem dX10_findOdds_159 : decode cX10_findOdds 159 = .ok (.aload_n 0, 1) := by decide +kernel
theorem dX10_findOdds_160 : decode cX10_findOdds 160 = .ok (.getfield 202, 3) := by decide +kernel
theorem dX10_findOdds_163 : decode cX10_findOdds 163 = .ok (.i2l, 1) := by decide +kernel
theorem dX10_findOdds_164 : decode cX10_findOdds 164 = .ok (.lmul, 1) := by decide +kernel
theorem dX10_findOdds_165 : decode cX10_findOdds 165 = .ok (.ladd, 1) := by decide +kernel
theorem dX10_findOdds_166 : decode cX10_findOdds 166 = .ok (.lastore, 1) := by decide +kernel
theorem dX10_findOdds_167 : decode cX10_findOdds 167 = .ok (.aload_n 0, 1) := by decide +kernel
theorem dX10_findOdds_168 : decode cX10_findOdds 168 = .ok (.getfield 117, 3) := by decide +kernel
theorem dX10_findOdds_171 : decode cX10_findOdds 171 = .ok (.iload 4, 2) := by decide +kernel
theorem dX10_findOdds_173 : decode cX10_findOdds 173 = .ok (.iconst 1, 1) := by decide +kernel
theorem dX10_findOdds_174 : decode cX10_findOdds 174 = .ok (.iadd, 1) := by decide +kernel
theorem dX10_findOdds_175 : decode cX10_findOdds 175 = .ok (.aload_n 0, 1) := by decide +kernel
theorem dX10_findOdds_176 : decode cX10_findOdds 176 = .ok (.getfield 202, 3) := by decide +kernel
theorem dX10_findOdds_179 : decode cX10_findOdds 179 = .ok (.if_icmp .ge 10, 3) := by decide +kernel
theorem dX10_findOdds_182 : decode cX10_findOdds 182 = .ok (.iload 4, 2) := by decide +kernel
theorem dX10_findOdds_184 : decode cX10_findOdds 184 = .ok (.iconst 1, 1) := by decide +kernel
theorem dX10_findOdds_185 : decode cX10_findOdds 185 = .ok (.iadd, 1) := by decide +kernel
theorem dX10_findOdds_186 : decode cX10_findOdds 186 = .ok (.goto 5, 3) := by decide +kernel
theorem dX10_findOdds_189 : decode cX10_findOdds 189 = .ok (.iload 4, 2) := by decide +kernel
theorem dX10_findOdds_191 : decode cX10_findOdds 191 = .ok (.dup2, 1) := by decide +kernel
theorem dX10_findOdds_192 : decode cX10_findOdds 192 = .ok (.laload, 1) := by decide +kernel
theorem dX10_findOdds_193 : decode cX10_findOdds 193 = .ok (.lload 5, 2) := by decide +kernel
theorem dX10_findOdds_195 : decode cX10_findOdds 195 = .ok (.aload_n 0, 1) := by decide +kernel
theorem dX10_findOdds_196 : decode cX10_findOdds 196 = .ok (.getfield 35, 3) := by decide +kernel
theorem dX10_findOdds_199 : decode cX10_findOdds 199 = .ok (.iconst 1, 1) := by decide +kernel
theorem dX10_findOdds_200 : decode cX10_findOdds 200 = .ok (.iaload, 1) := by decide +kernel
theorem dX10_findOdds_201 : decode cX10_findOdds 201 = .ok (.i2l, 1) := by decide +kernel
theorem dX10_findOdds_202 : decode cX10_findOdds 202 = .ok (.lmul, 1) := by decide +kernel
theorem dX10_findOdds_203 : decode cX10_findOdds 203 = .ok (.aload_n 0, 1) := by decide +kernel
theorem dX10_findOdds_204 : decode cX10_findOdds 204 = .ok (.getfield 202, 3) := by decide +kernel
theorem dX10_findOdds_207 : decode cX10_findOdds 207 = .ok (.i2l, 1) := by decide +kernel
theorem dX10_findOdds_208 : decode cX10_findOdds 208 = .ok (.lmul, 1) := by decide +kernel
theorem dX10_findOdds_209 : decode cX10_findOdds 209 = .ok (.ladd, 1) := by decide +kernel
theorem dX10_findOdds_210 : decode cX10_findOdds 210 = .ok (.lastore, 1) := by decide +kernel
theorem dX10_findOdds_211 : decode cX10_findOdds 211 = .ok (.aload_n 0, 1) := by decide +kernel
theorem dX10_findOdds_212 : decode cX10_findOdds 212 = .ok (.getfield 117, 3) := by decide +kernel
theorem dX10_findOdds_215 : decode cX10_findOdds 215 = .ok (.iload 4, 2) := by decide +kernel
theorem dX10_findOdds_217 : decode cX10_findOdds 217 = .ok (.dup2, 1) := by decide +kernel
theorem dX10_findOdds_218 : decode cX10_findOdds 218 = .ok (.laload, 1) := by decide +kernel
theorem dX10_findOdds_219 : decode cX10_findOdds 219 = .ok (.lload 5, 2) := by decide +kernel
theorem dX10_findOdds_221 : decode cX10_findOdds 221 = .ok (.aload_n 0, 1) := by decide +kernel
theorem dX10_findOdds_222 : decode cX10_findOdds 222 = .ok (.getfield 35, 3) := by decide +kernel
theorem dX10_findOdds_225 : decode cX10_findOdds 225 = .ok (.iconst 2, 1) := by decide +kernel
theorem dX10_findOdds_226 : decode cX10_findOdds 226 = .ok (.iaload, 1) := by decide +kernel
theorem dX10_findOdds_227 : decode cX10_findOdds 227 = .ok (.i2l, 1) := by decide +kernel
theorem dX10_findOdds_228 : decode cX10_findOdds 228 = .ok (.lmul, 1) := by decide +kernel
theorem dX10_findOdds_229 : decode cX10_findOdds 229 = .ok (.ldc2_w 366, 3) := by decide +kernel
theorem dX10_findOdds_232 : decode cX10_findOdds 232 = .ok (.lmul, 1) := by decide +kernel
theorem dX10_findOdds_233 : decode cX10_findOdds 233 = .ok (.aload_n 0, 1) := by decide +kernel
theorem dX10_findOdds_234 : decode cX10_findOdds 234 = .ok (.getfield 202, 3) := by decide +kernel
theorem dX10_findOdds_237 : decode cX10_findOdds 237 = .ok (.i2l, 1) := by decide +kernel
theorem dX10_findOdds_238 : decode cX10_findOdds 238 = .ok (.lmul, 1) := by decide +kernel
theorem dX10_findOdds_239 : decode cX10_findOdds 239 = .ok (.ladd, 1) := by decide +kernel
theorem dX10_findOdds_240 : decode cX10_findOdds 240 = .ok (.lastore, 1) := by decide +kernel
theorem dX10_findOdds_241 : decode cX10_findOdds 241 = .ok (.iconst 0, 1) := by decide +kernel
theorem dX10_findOdds_242 : decode cX10_findOdds 242 = .ok (.istore 7, 2) := by decide +kernel
theorem dX10_findOdds_244 : decode cX10_findOdds 244 = .ok (.iload 7, 2) := by decide +kernel
theorem dX10_findOdds_246 : decode cX10_findOdds 246 = .ok (.aload_n 0, 1) := by decide +kernel
theorem dX10_findOdds_247 : decode cX10_findOdds 247 = .ok (.getfield 202, 3) := by decide +kernel
theorem dX10_findOdds_250 : decode cX10_findOdds 250 = .ok (.if_icmp .ge 33, 3) := by decide +kernel
theorem dX10_findOdds_253 : decode cX10_findOdds 253 = .ok (.aload_n 0, 1) := by decide +kernel
theorem dX10_findOdds_254 : decode cX10_findOdds 254 = .ok (.getfield 117, 3) := by decide +kernel
theorem dX10_findOdds_257 : decode cX10_findOdds 257 = .ok (.iload 7, 2) := by decide +kernel
theorem dX10_findOdds_259 : decode cX10_findOdds 259 = .ok (.dup2, 1) := by decide +kernel
theorem dX10_findOdds_260 : decode cX10_findOdds 260 = .ok (.laload, 1) := by decide +kernel
theorem dX10_findOdds_261 : decode cX10_findOdds 261 = .ok (.lload 5, 2) := by decide +kernel
theorem dX10_findOdds_263 : decode cX10_findOdds 263 = .ok (.aload_n 0, 1) := by decide +kernel
theorem dX10_findOdds_264 : decode cX10_findOdds 264 = .ok (.getfield 35, 3) := by decide +kernel
theorem dX10_findOdds_267 : decode cX10_findOdds 267 = .ok (.iconst 3, 1) := by decide +kernel
theorem dX10_findOdds_268 : decode cX10_findOdds 268 = .ok (.iaload, 1) := by decide +kernel
theorem dX10_findOdds_269 : decode cX10_findOdds 269 = .ok (.i2l, 1) := by decide +kernel
theorem dX10_findOdds_270 : decode cX10_findOdds 270 = .ok (.lmul, 1) := by decide +kernel
theorem dX10_findOdds_271 : decode cX10_findOdds 271 = .ok (.ldc2_w 366, 3) := by decide +kernel
theorem dX10_findOdds_274 : decode cX10_findOdds 274 = .ok (.lmul, 1) := by decide +kernel
theorem dX10_findOdds_275 : decode cX10_findOdds 275 = .ok (.ladd, 1) := by decide +kernel
theorem dX10_findOdds_276 : decode cX10_findOdds 276 = .ok (.lastore, 1) := by decide +kernel
theorem dX10_findOdds_277 : decode cX10_findOdds 277 = .ok (.iinc 7 1, 3) := by decide +kernel
theorem dX10_findOdds_280 : decode cX10_findOdds 280 = .ok (.goto (-36), 3) := by decide +kernel
theorem dX10_findOdds_283 : decode cX10_findOdds 283 = .ok (.iinc 4 1, 3) := by decide +kernel
theorem dX10_findOdds_286 : decode cX10_findOdds 286 = .ok (.goto (-208), 3) := by decide +kernel
theorem dX10_findOdds_289 : decode cX10_findOdds 289 = .ok (.iconst 0, 1) := by decide +kernel
theorem dX10_findOdds_290 : decode cX10_findOdds 290 = .ok (.istore 4, 2) := by decide +kernel
theorem dX10_findOdds_292 : decode cX10_findOdds 292 = .ok (.iload 4, 2) := by decide +kernel
theorem dX10_findOdds_294 : decode cX10_findOdds 294 = .ok (.aload_n 0, 1) := by decide +kernel
theorem dX10_findOdds_295 : decode cX10_findOdds 295 = .ok (.getfield 202, 3) := by decide +kernel
theorem dX10_findOdds_298 : decode cX10_findOdds 298 = .ok (.if_icmp .ge 23, 3) := by decide +kernel
theorem dX10_findOdds_301 : decode cX10_findOdds 301 = .ok (.aload_n 0, 1) := by decide +kernel
theorem dX10_findOdds_302 : decode cX10_findOdds 302 = .ok (.getfield 113, 3) := by decide +kernel
theorem dX10_findOdds_305 : decode cX10_findOdds 305 = .ok (.iload 4, 2) := by decide +kernel
theorem dX10_findOdds_307 : decode cX10_findOdds 307 = .ok (.aload_n 0, 1) := by decide +kernel
theorem dX10_findOdds_308 : decode cX10_findOdds 308 = .ok (.getfield 117, 3) := by decide +kernel
theorem dX10_findOdds_311 : decode cX10_findOdds 311 = .ok (.iload 4, 2) := by decide +kernel
theorem dX10_findOdds_313 : decode cX10_findOdds 313 = .ok (.laload, 1) := by decide +kernel
theorem dX10_findOdds_314 : decode cX10_findOdds 314 = .ok (.lastore, 1) := by decide +kernel
theorem dX10_findOdds_315 : decode cX10_findOdds 315 = .ok (.iinc 4 1, 3) := by decide +kernel
theorem dX10_findOdds_318 : decode cX10_findOdds 318 = .ok (.goto (-26), 3) := by decide +kernel
theorem dX10_findOdds_321 : decode cX10_findOdds 321 = .ok (.aload_n 0, 1) := by decide +kernel
theorem dX10_findOdds_322 : decode cX10_findOdds 322 = .ok (.dup, 1) := by decide +kernel
theorem dX10_findOdds_323 : decode cX10_findOdds 323 = .ok (.getfield 362, 3) := by decide +kernel
theorem dX10_findOdds_326 : decode cX10_findOdds 326 = .ok (.ldc2_w 366, 3) := by decide +kernel
theorem dX10_findOdds_329 : decode cX10_findOdds 329 = .ok (.aload_n 0, 1) := by decide +kernel
theorem dX10_findOdds_330 : decode cX10_findOdds 330 = .ok (.invokevirtual 309, 3) := by decide +kernel
theorem dX10_findOdds_333 : decode cX10_findOdds 333 = .ok (.i2l, 1) := by decide +kernel
theorem dX10_findOdds_334 : decode cX10_findOdds 334 = .ok (.lmul, 1) := by decide +kernel
theorem dX10_findOdds_335 : decode cX10_findOdds 335 = .ok (.aload_n 0, 1) := by decide +kernel
theorem dX10_findOdds_336 : decode cX10_findOdds 336 = .ok (.getfield 202, 3) := by decide +kernel
theorem dX10_findOdds_339 : decode cX10_findOdds 339 = .ok (.i2l, 1) := by decide +kernel
theorem dX10_findOdds_340 : decode cX10_findOdds 340 = .ok (.lmul, 1) := by decide +kernel
theorem dX10_findOdds_341 : decode cX10_findOdds 341 = .ok (.lmul, 1) := by decide +kernel
theorem dX10_findOdds_342 : decode cX10_findOdds 342 = .ok (.putfield 362, 3) := by decide +kernel
theorem dX10_findOdds_345 : decode cX10_findOdds 345 = .ok (.iinc 3 1, 3) := by decide +kernel
theorem dX10_findOdds_348 : decode cX10_findOdds 348 = .ok (.goto (-304), 3) := by decide +kernel
theorem dX10_findOdds_351 : decode cX10_findOdds 351 = .ok (.return_, 1) := by decide +kernel
theorem dX10_divisor_0 : decode cX10_divisor 0 = .ok (.lload_n 0, 1) := by decide +kernel
theorem dX10_divisor_1 : decode cX10_divisor 1 = .ok (.lstore 4, 2) := by decide +kernel
theorem dX10_divisor_3 : decode cX10_divisor 3 = .ok (.lload_n 2, 1) := by decide +kernel
theorem dX10_divisor_4 : decode cX10_divisor 4 = .ok (.lstore 6, 2) := by decide +kernel
theorem dX10_divisor_6 : decode cX10_divisor 6 = .ok (.lload 6, 2) := by decide +kernel
theorem dX10_divisor_8 : decode cX10_divisor 8 = .ok (.lconst 0, 1) := by decide +kernel
theorem dX10_divisor_9 : decode cX10_divisor 9 = .ok (.lcmp, 1) := by decide +kernel
theorem dX10_divisor_10 : decode cX10_divisor 10 = .ok (.ifCond .eq 21, 3) := by decide +kernel
theorem dX10_divisor_13 : decode cX10_divisor 13 = .ok (.lload 4, 2) := by decide +kernel
theorem dX10_divisor_15 : decode cX10_divisor 15 = .ok (.lload 6, 2) := by decide +kernel
theorem dX10_divisor_17 : decode cX10_divisor 17 = .ok (.lrem, 1) := by decide +kernel
theorem dX10_divisor_18 : decode cX10_divisor 18 = .ok (.lstore 8, 2) := by decide +kernel
theorem dX10_divisor_20 : decode cX10_divisor 20 = .ok (.lload 6, 2) := by decide +kernel
theorem dX10_divisor_22 : decode cX10_divisor 22 = .ok (.lstore 4, 2) := by decide +kernel
theorem dX10_divisor_24 : decode cX10_divisor 24 = .ok (.lload 8, 2) := by decide +kernel
theorem dX10_divisor_26 : decode cX10_divisor 26 = .ok (.lstore 6, 2) := by decide +kernel
theorem dX10_divisor_28 : decode cX10_divisor 28 = .ok (.goto (-22), 3) := by decide +kernel
theorem dX10_divisor_31 : decode cX10_divisor 31 = .ok (.lload 4, 2) := by decide +kernel
theorem dX10_divisor_33 : decode cX10_divisor 33 = .ok (.lreturn, 1) := by decide +kernel
theorem dX10_fraction_0 : decode cX10_fraction 0 = .ok (.lload_n 0, 1) := by decide +kernel
theorem dX10_fraction_1 : decode cX10_fraction 1 = .ok (.lload_n 2, 1) := by decide +kernel
theorem dX10_fraction_2 : decode cX10_fraction 2 = .ok (.invokestatic 368, 3) := by decide +kernel
theorem dX10_fraction_5 : decode cX10_fraction 5 = .ok (.lstore 5, 2) := by decide +kernel
theorem dX10_fraction_7 : decode cX10_fraction 7 = .ok (.iload 4, 2) := by decide +kernel
theorem dX10_fraction_9 : decode cX10_fraction 9 = .ok (.ifCond .ne 10, 3) := by decide +kernel
theorem dX10_fraction_12 : decode cX10_fraction 12 = .ok (.lload_n 0, 1) := by decide +kernel
theorem dX10_fraction_13 : decode cX10_fraction 13 = .ok (.lload 5, 2) := by decide +kernel
theorem dX10_fraction_15 : decode cX10_fraction 15 = .ok (.ldiv, 1) := by decide +kernel
theorem dX10_fraction_16 : decode cX10_fraction 16 = .ok (.goto 7, 3) := by decide +kernel
theorem dX10_fraction_19 : decode cX10_fraction 19 = .ok (.lload_n 2, 1) := by decide +kernel
theorem dX10_fraction_20 : decode cX10_fraction 20 = .ok (.lload 5, 2) := by decide +kernel
theorem dX10_fraction_22 : decode cX10_fraction 22 = .ok (.ldiv, 1) := by decide +kernel
theorem dX10_fraction_23 : decode cX10_fraction 23 = .ok (.lreturn, 1) := by decide +kernel
theorem dX10_odds_0 : decode cX10_odds 0 = .ok (.aload_n 0, 1) := by decide +kernel
theorem dX10_odds_1 : decode cX10_odds 1 = .ok (.iconst 0, 1) := by decide +kernel
theorem dX10_odds_2 : decode cX10_odds 2 = .ok (.putfield 3, 3) := by decide +kernel
theorem dX10_odds_5 : decode cX10_odds 5 = .ok (.aload_n 0, 1) := by decide +kernel
theorem dX10_odds_6 : decode cX10_odds 6 = .ok (.iload_n 1, 1) := by decide +kernel
theorem dX10_odds_7 : decode cX10_odds 7 = .ok (.iconst 1, 1) := by decide +kernel
theorem dX10_odds_8 : decode cX10_odds 8 = .ok (.invokevirtual 277, 3) := by decide +kernel
theorem dX10_odds_11 : decode cX10_odds 11 = .ok (.ifCond .eq 69, 3) := by decide +kernel
theorem dX10_odds_14 : decode cX10_odds 14 = .ok (.aload_n 0, 1) := by decide +kernel
theorem dX10_odds_15 : decode cX10_odds 15 = .ok (.iload_n 2, 1) := by decide +kernel
theorem dX10_odds_16 : decode cX10_odds 16 = .ok (.iconst 2, 1) := by decide +kernel
theorem dX10_odds_17 : decode cX10_odds 17 = .ok (.invokevirtual 287, 3) := by decide +kernel
theorem dX10_odds_20 : decode cX10_odds 20 = .ok (.ifCond .eq 60, 3) := by decide +kernel
theorem dX10_odds_23 : decode cX10_odds 23 = .ok (.aload_n 0, 1) := by decide +kernel
theorem dX10_odds_24 : decode cX10_odds 24 = .ok (.iload_n 3, 1) := by decide +kernel
theorem dX10_odds_25 : decode cX10_odds 25 = .ok (.iconst 0, 1) := by decide +kernel
theorem dX10_odds_26 : decode cX10_odds 26 = .ok (.iconst 4, 1) := by decide +kernel
theorem dX10_odds_27 : decode cX10_odds 27 = .ok (.invokestatic 273, 3) := by decide +kernel
theorem dX10_odds_30 : decode cX10_odds 30 = .ok (.ifCond .eq 17, 3) := by decide +kernel
theorem dX10_odds_33 : decode cX10_odds 33 = .ok (.iload 4, 2) := by decide +kernel
theorem dX10_odds_35 : decode cX10_odds 35 = .ok (.iconst 0, 1) := by decide +kernel
theorem dX10_odds_36 : decode cX10_odds 36 = .ok (.iconst 1, 1) := by decide +kernel
theorem dX10_odds_37 : decode cX10_odds 37 = .ok (.invokestatic 273, 3) := by decide +kernel
theorem dX10_odds_40 : decode cX10_odds 40 = .ok (.ifCond .eq 7, 3) := by decide +kernel
theorem dX10_odds_43 : decode cX10_odds 43 = .ok (.iconst 1, 1) := by decide +kernel
theorem dX10_odds_44 : decode cX10_odds 44 = .ok (.goto 4, 3) := by decide +kernel
theorem dX10_odds_47 : decode cX10_odds 47 = .ok (.iconst 0, 1) := by decide +kernel
theorem dX10_odds_48 : decode cX10_odds 48 = .ok (.iconst 3, 1) := by decide +kernel
theorem dX10_odds_49 : decode cX10_odds 49 = .ok (.iconst 2, 1) := by decide +kernel
theorem dX10_odds_50 : decode cX10_odds 50 = .ok (.invokevirtual 241, 3) := by decide +kernel
theorem dX10_odds_53 : decode cX10_odds 53 = .ok (.ifCond .eq 27, 3) := by decide +kernel
theorem dX10_odds_56 : decode cX10_odds 56 = .ok (.aload_n 0, 1) := by decide +kernel
theorem dX10_odds_57 : decode cX10_odds 57 = .ok (.aload_n 0, 1) := by decide +kernel
theorem dX10_odds_58 : decode cX10_odds 58 = .ok (.getfield 38, 3) := by decide +kernel
theorem dX10_odds_61 : decode cX10_odds 61 = .ok (.iload_n 2, 1) := by decide +kernel
theorem dX10_odds_62 : decode cX10_odds 62 = .ok (.iaload, 1) := by decide +kernel
theorem dX10_odds_63 : decode cX10_odds 63 = .ok (.iconst (-1), 1) := by decide +kernel
theorem dX10_odds_64 : decode cX10_odds 64 = .ok (.if_icmp .eq 7, 3) := by decide +kernel
theorem dX10_odds_67 : decode cX10_odds 67 = .ok (.iconst 1, 1) := by decide +kernel
theorem dX10_odds_68 : decode cX10_odds 68 = .ok (.goto 4, 3) := by decide +kernel
theorem dX10_odds_71 : decode cX10_odds 71 = .ok (.iconst 0, 1) := by decide +kernel
theorem dX10_odds_72 : decode cX10_odds 72 = .ok (.iconst 4, 1) := by decide +kernel
theorem dX10_odds_73 : decode cX10_odds 73 = .ok (.iconst 3, 1) := by decide +kernel
theorem dX10_odds_74 : decode cX10_odds 74 = .ok (.invokevirtual 241, 3) := by decide +kernel
theorem dX10_odds_77 : decode cX10_odds 77 = .ok (.ifCond .ne 5, 3) := by decide +kernel
theorem dX10_odds_80 : decode cX10_odds 80 = .ok (.lconst 0, 1) := by decide +kernel
theorem dX10_odds_81 : decode cX10_odds 81 = .ok (.lreturn, 1) := by decide +kernel
theorem dX10_odds_82 : decode cX10_odds 82 = .ok (.aload_n 0, 1) := by decide +kernel
theorem dX10_odds_83 : decode cX10_odds 83 = .ok (.iload_n 2, 1) := by decide +kernel
theorem dX10_odds_84 : decode cX10_odds 84 = .ok (.iload_n 3, 1) := by decide +kernel
theorem dX10_odds_85 : decode cX10_odds 85 = .ok (.invokevirtual 372, 3) := by decide +kernel
theorem dX10_odds_88 : decode cX10_odds 88 = .ok (.aload_n 0, 1) := by decide +kernel
theorem dX10_odds_89 : decode cX10_odds 89 = .ok (.getfield 113, 3) := by decide +kernel
theorem dX10_odds_92 : decode cX10_odds 92 = .ok (.iload_n 1, 1) := by decide +kernel
theorem dX10_odds_93 : decode cX10_odds 93 = .ok (.laload, 1) := by decide +kernel
theorem dX10_odds_94 : decode cX10_odds 94 = .ok (.aload_n 0, 1) := by decide +kernel
theorem dX10_odds_95 : decode cX10_odds 95 = .ok (.getfield 362, 3) := by decide +kernel
theorem dX10_odds_98 : decode cX10_odds 98 = .ok (.iload 4, 2) := by decide +kernel
theorem dX10_odds_100 : decode cX10_odds 100 = .ok (.invokestatic 375, 3) := by decide +kernel
theorem dX10_odds_103 : decode cX10_odds 103 = .ok (.lreturn, 1) := by decide +kernel
theorem dX10_hidden_0 : decode cX10_hidden 0 = .ok (.aload_n 0, 1) := by decide +kernel
theorem dX10_hidden_1 : decode cX10_hidden 1 = .ok (.iconst 0, 1) := by decide +kernel
theorem dX10_hidden_2 : decode cX10_hidden 2 = .ok (.putfield 3, 3) := by decide +kernel
theorem dX10_hidden_5 : decode cX10_hidden 5 = .ok (.aload_n 0, 1) := by decide +kernel
theorem dX10_hidden_6 : decode cX10_hidden 6 = .ok (.iload_n 1, 1) := by decide +kernel
theorem dX10_hidden_7 : decode cX10_hidden 7 = .ok (.iconst 0, 1) := by decide +kernel
theorem dX10_hidden_8 : decode cX10_hidden 8 = .ok (.bipush 8, 2) := by decide +kernel
theorem dX10_hidden_10 : decode cX10_hidden 10 = .ok (.invokestatic 273, 3) := by decide +kernel
theorem dX10_hidden_13 : decode cX10_hidden 13 = .ok (.iconst 1, 1) := by decide +kernel
theorem dX10_hidden_14 : decode cX10_hidden 14 = .ok (.iconst 2, 1) := by decide +kernel
theorem dX10_hidden_15 : decode cX10_hidden 15 = .ok (.invokevirtual 241, 3) := by decide +kernel
theorem dX10_hidden_18 : decode cX10_hidden 18 = .ok (.ifCond .ne 5, 3) := by decide +kernel
theorem dX10_hidden_21 : decode cX10_hidden 21 = .ok (.iconst 0, 1) := by decide +kernel
theorem dX10_hidden_22 : decode cX10_hidden 22 = .ok (.ireturn, 1) := by decide +kernel
theorem dX10_hidden_23 : decode cX10_hidden 23 = .ok (.iconst 0, 1) := by decide +kernel
theorem dX10_hidden_24 : decode cX10_hidden 24 = .ok (.istore_n 2, 1) := by decide +kernel
theorem dX10_hidden_25 : decode cX10_hidden 25 = .ok (.iconst 0, 1) := by decide +kernel
theorem dX10_hidden_26 : decode cX10_hidden 26 = .ok (.istore_n 3, 1) := by decide +kernel
theorem dX10_hidden_27 : decode cX10_hidden 27 = .ok (.iload_n 3, 1) := by decide +kernel
theorem dX10_hidden_28 : decode cX10_hidden 28 = .ok (.aload_n 0, 1) := by decide +kernel
theorem dX10_hidden_29 : decode cX10_hidden 29 = .ok (.getfield 205, 3) := by decide +kernel
theorem dX10_hidden_32 : decode cX10_hidden 32 = .ok (.if_icmp .ge 82, 3) := by decide +kernel
theorem dX10_hidden_35 : decode cX10_hidden 35 = .ok (.aload_n 0, 1) := by decide +kernel
theorem dX10_hidden_36 : decode cX10_hidden 36 = .ok (.getfield 38, 3) := by decide +kernel
theorem dX10_hidden_39 : decode cX10_hidden 39 = .ok (.iload_n 3, 1) := by decide +kernel
theorem dX10_hidden_40 : decode cX10_hidden 40 = .ok (.iaload, 1) := by decide +kernel
theorem dX10_hidden_41 : decode cX10_hidden 41 = .ok (.iconst (-1), 1) := by decide +kernel
theorem dX10_hidden_42 : decode cX10_hidden 42 = .ok (.if_icmp .ne 6, 3) := by decide +kernel
theorem dX10_hidden_45 : decode cX10_hidden 45 = .ok (.goto 63, 3) := by decide +kernel
theorem dX10_hidden_48 : decode cX10_hidden 48 = .ok (.iconst 1, 1) := by decide +kernel
theorem dX10_hidden_49 : decode cX10_hidden 49 = .ok (.aload_n 0, 1) := by decide +kernel
theorem dX10_hidden_50 : decode cX10_hidden 50 = .ok (.iload_n 3, 1) := by decide +kernel
theorem dX10_hidden_51 : decode cX10_hidden 51 = .ok (.invokevirtual 284, 3) := by decide +kernel
theorem dX10_hidden_54 : decode cX10_hidden 54 = .ok (.ishl, 1) := by decide +kernel
theorem dX10_hidden_55 : decode cX10_hidden 55 = .ok (.istore 4, 2) := by decide +kernel
theorem dX10_hidden_57 : decode cX10_hidden 57 = .ok (.iconst 0, 1) := by decide +kernel
theorem dX10_hidden_58 : decode cX10_hidden 58 = .ok (.istore 5, 2) := by decide +kernel
theorem dX10_hidden_60 : decode cX10_hidden 60 = .ok (.iload 5, 2) := by decide +kernel
theorem dX10_hidden_62 : decode cX10_hidden 62 = .ok (.iload_n 1, 1) := by decide +kernel
theorem dX10_hidden_63 : decode cX10_hidden 63 = .ok (.if_icmp .ge 25, 3) := by decide +kernel
theorem dX10_hidden_66 : decode cX10_hidden 66 = .ok (.iload 4, 2) := by decide +kernel
theorem dX10_hidden_68 : decode cX10_hidden 68 = .ok (.aload_n 0, 1) := by decide +kernel
theorem dX10_hidden_69 : decode cX10_hidden 69 = .ok (.iload 4, 2) := by decide +kernel
theorem dX10_hidden_71 : decode cX10_hidden 71 = .ok (.aload_n 0, 1) := by decide +kernel
theorem dX10_hidden_72 : decode cX10_hidden 72 = .ok (.iload_n 3, 1) := by decide +kernel
theorem dX10_hidden_73 : decode cX10_hidden 73 = .ok (.invokevirtual 284, 3) := by decide +kernel
theorem dX10_hidden_76 : decode cX10_hidden 76 = .ok (.invokevirtual 379, 3) := by decide +kernel
theorem dX10_hidden_79 : decode cX10_hidden 79 = .ok (.ior, 1) := by decide +kernel
theorem dX10_hidden_80 : decode cX10_hidden 80 = .ok (.istore 4, 2) := by decide +kernel
theorem dX10_hidden_82 : decode cX10_hidden 82 = .ok (.iinc 5 1, 3) := by decide +kernel
theorem dX10_hidden_85 : decode cX10_hidden 85 = .ok (.goto (-25), 3) := by decide +kernel
theorem dX10_hidden_88 : decode cX10_hidden 88 = .ok (.iload 4, 2) := by decide +kernel
theorem dX10_hidden_90 : decode cX10_hidden 90 = .ok (.aload_n 0, 1) := by decide +kernel
theorem dX10_hidden_91 : decode cX10_hidden 91 = .ok (.getfield 38, 3) := by decide +kernel
theorem dX10_hidden_94 : decode cX10_hidden 94 = .ok (.iload_n 3, 1) := by decide +kernel
theorem dX10_hidden_95 : decode cX10_hidden 95 = .ok (.iaload, 1) := by decide +kernel
theorem dX10_hidden_96 : decode cX10_hidden 96 = .ok (.ishr, 1) := by decide +kernel
theorem dX10_hidden_97 : decode cX10_hidden 97 = .ok (.iconst 1, 1) := by decide +kernel
theorem dX10_hidden_98 : decode cX10_hidden 98 = .ok (.iand, 1) := by decide +kernel
theorem dX10_hidden_99 : decode cX10_hidden 99 = .ok (.ifCond .ne 9, 3) := by decide +kernel
theorem dX10_hidden_102 : decode cX10_hidden 102 = .ok (.iload_n 2, 1) := by decide +kernel
theorem dX10_hidden_103 : decode cX10_hidden 103 = .ok (.iconst 1, 1) := by decide +kernel
theorem dX10_hidden_104 : decode cX10_hidden 104 = .ok (.iload_n 3, 1) := by decide +kernel
theorem dX10_hidden_105 : decode cX10_hidden 105 = .ok (.ishl, 1) := by decide +kernel
theorem dX10_hidden_106 : decode cX10_hidden 106 = .ok (.ior, 1) := by decide +kernel
theorem dX10_hidden_107 : decode cX10_hidden 107 = .ok (.istore_n 2, 1) := by decide +kernel
theorem dX10_hidden_108 : decode cX10_hidden 108 = .ok (.iinc 3 1, 3) := by decide +kernel
theorem dX10_hidden_111 : decode cX10_hidden 111 = .ok (.goto (-84), 3) := by decide +kernel
theorem dX10_hidden_114 : decode cX10_hidden 114 = .ok (.iload_n 2, 1) := by decide +kernel
theorem dX10_hidden_115 : decode cX10_hidden 115 = .ok (.ireturn, 1) := by decide +kernel
theorem dX10_stepped_0 : decode cX10_stepped 0 = .ok (.aload_n 0, 1) := by decide +kernel
theorem dX10_stepped_1 : decode cX10_stepped 1 = .ok (.getfield 35, 3) := by decide +kernel
theorem dX10_stepped_4 : decode cX10_stepped 4 = .ok (.iconst 0, 1) := by decide +kernel
theorem dX10_stepped_5 : decode cX10_stepped 5 = .ok (.iaload, 1) := by decide +kernel
theorem dX10_stepped_6 : decode cX10_stepped 6 = .ok (.ifCond .le 9, 3) := by decide +kernel
theorem dX10_stepped_9 : decode cX10_stepped 9 = .ok (.iconst 1, 1) := by decide +kernel
theorem dX10_stepped_10 : decode cX10_stepped 10 = .ok (.iload_n 2, 1) := by decide +kernel
theorem dX10_stepped_11 : decode cX10_stepped 11 = .ok (.ishl, 1) := by decide +kernel
theorem dX10_stepped_12 : decode cX10_stepped 12 = .ok (.goto 4, 3) := by decide +kernel
theorem dX10_stepped_15 : decode cX10_stepped 15 = .ok (.iconst 0, 1) := by decide +kernel
theorem dX10_stepped_16 : decode cX10_stepped 16 = .ok (.istore_n 3, 1) := by decide +kernel
theorem dX10_stepped_17 : decode cX10_stepped 17 = .ok (.iconst 0, 1) := by decide +kernel
theorem dX10_stepped_18 : decode cX10_stepped 18 = .ok (.istore 4, 2) := by decide +kernel
theorem dX10_stepped_20 : decode cX10_stepped 20 = .ok (.iload 4, 2) := by decide +kernel
theorem dX10_stepped_22 : decode cX10_stepped 22 = .ok (.aload_n 0, 1) := by decide +kernel
theorem dX10_stepped_23 : decode cX10_stepped 23 = .ok (.getfield 202, 3) := by decide +kernel
theorem dX10_stepped_26 : decode cX10_stepped 26 = .ok (.if_icmp .ge 108, 3) := by decide +kernel
theorem dX10_stepped_29 : decode cX10_stepped 29 = .ok (.iload_n 1, 1) := by decide +kernel
theorem dX10_stepped_30 : decode cX10_stepped 30 = .ok (.iload 4, 2) := by decide +kernel
theorem dX10_stepped_32 : decode cX10_stepped 32 = .ok (.ishr, 1) := by decide +kernel
theorem dX10_stepped_33 : decode cX10_stepped 33 = .ok (.iconst 1, 1) := by decide +kernel
theorem dX10_stepped_34 : decode cX10_stepped 34 = .ok (.iand, 1) := by decide +kernel
theorem dX10_stepped_35 : decode cX10_stepped 35 = .ok (.ifCond .ne 6, 3) := by decide +kernel
theorem dX10_stepped_38 : decode cX10_stepped 38 = .ok (.goto 90, 3) := by decide +kernel
theorem dX10_stepped_41 : decode cX10_stepped 41 = .ok (.aload_n 0, 1) := by decide +kernel
theorem dX10_stepped_42 : decode cX10_stepped 42 = .ok (.getfield 35, 3) := by decide +kernel
theorem dX10_stepped_45 : decode cX10_stepped 45 = .ok (.iconst 1, 1) := by decide +kernel
theorem dX10_stepped_46 : decode cX10_stepped 46 = .ok (.iaload, 1) := by decide +kernel
theorem dX10_stepped_47 : decode cX10_stepped 47 = .ok (.ifCond .le 45, 3) := by decide +kernel
theorem dX10_stepped_50 : decode cX10_stepped 50 = .ok (.iload_n 3, 1) := by decide +kernel
theorem dX10_stepped_51 : decode cX10_stepped 51 = .ok (.iconst 1, 1) := by decide +kernel
theorem dX10_stepped_52 : decode cX10_stepped 52 = .ok (.iload 4, 2) := by decide +kernel
theorem dX10_stepped_54 : decode cX10_stepped 54 = .ok (.ifCond .le 10, 3) := by decide +kernel
theorem dX10_stepped_57 : decode cX10_stepped 57 = .ok (.iload 4, 2) := by decide +kernel
theorem dX10_stepped_59 : decode cX10_stepped 59 = .ok (.iconst 1, 1) := by decide +kernel
theorem dX10_stepped_60 : decode cX10_stepped 60 = .ok (.isub, 1) := by decide +kernel
theorem dX10_stepped_61 : decode cX10_stepped 61 = .ok (.goto 5, 3) := by decide +kernel
theorem dX10_stepped_64 : decode cX10_stepped 64 = .ok (.iload 4, 2) := by decide +kernel
theorem dX10_stepped_66 : decode cX10_stepped 66 = .ok (.ishl, 1) := by decide +kernel
theorem dX10_stepped_67 : decode cX10_stepped 67 = .ok (.iconst 1, 1) := by decide +kernel
theorem dX10_stepped_68 : decode cX10_stepped 68 = .ok (.iload 4, 2) := by decide +kernel
theorem dX10_stepped_70 : decode cX10_stepped 70 = .ok (.iconst 1, 1) := by decide +kernel
theorem dX10_stepped_71 : decode cX10_stepped 71 = .ok (.iadd, 1) := by decide +kernel
theorem dX10_stepped_72 : decode cX10_stepped 72 = .ok (.aload_n 0, 1) := by decide +kernel
theorem dX10_stepped_73 : decode cX10_stepped 73 = .ok (.getfield 202, 3) := by decide +kernel
theorem dX10_stepped_76 : decode cX10_stepped 76 = .ok (.if_icmp .ge 10, 3) := by decide +kernel
theorem dX10_stepped_79 : decode cX10_stepped 79 = .ok (.iload 4, 2) := by decide +kernel
theorem dX10_stepped_81 : decode cX10_stepped 81 = .ok (.iconst 1, 1) := by decide +kernel
theorem dX10_stepped_82 : decode cX10_stepped 82 = .ok (.iadd, 1) := by decide +kernel
theorem dX10_stepped_83 : decode cX10_stepped 83 = .ok (.goto 5, 3) := by decide +kernel
theorem dX10_stepped_86 : decode cX10_stepped 86 = .ok (.iload 4, 2) := by decide +kernel
theorem dX10_stepped_88 : decode cX10_stepped 88 = .ok (.ishl, 1) := by decide +kernel
theorem dX10_stepped_89 : decode cX10_stepped 89 = .ok (.ior, 1) := by decide +kernel
theorem dX10_stepped_90 : decode cX10_stepped 90 = .ok (.ior, 1) := by decide +kernel
theorem dX10_stepped_91 : decode cX10_stepped 91 = .ok (.istore_n 3, 1) := by decide +kernel
theorem dX10_stepped_92 : decode cX10_stepped 92 = .ok (.aload_n 0, 1) := by decide +kernel
theorem dX10_stepped_93 : decode cX10_stepped 93 = .ok (.getfield 35, 3) := by decide +kernel
theorem dX10_stepped_96 : decode cX10_stepped 96 = .ok (.iconst 2, 1) := by decide +kernel
theorem dX10_stepped_97 : decode cX10_stepped 97 = .ok (.iaload, 1) := by decide +kernel
theorem dX10_stepped_98 : decode cX10_stepped 98 = .ok (.ifCond .le 10, 3) := by decide +kernel
theorem dX10_stepped_101 : decode cX10_stepped 101 = .ok (.iload_n 3, 1) := by decide +kernel
theorem dX10_stepped_102 : decode cX10_stepped 102 = .ok (.iconst 1, 1) := by decide +kernel
theorem dX10_stepped_103 : decode cX10_stepped 103 = .ok (.iload 4, 2) := by decide +kernel
theorem dX10_stepped_105 : decode cX10_stepped 105 = .ok (.ishl, 1) := by decide +kernel
theorem dX10_stepped_106 : decode cX10_stepped 106 = .ok (.ior, 1) := by decide +kernel
theorem dX10_stepped_107 : decode cX10_stepped 107 = .ok (.istore_n 3, 1) := by decide +kernel
theorem dX10_stepped_108 : decode cX10_stepped 108 = .ok (.aload_n 0, 1) := by decide +kernel
theorem dX10_stepped_109 : decode cX10_stepped 109 = .ok (.getfield 35, 3) := by decide +kernel
theorem dX10_stepped_112 : decode cX10_stepped 112 = .ok (.iconst 3, 1) := by decide +kernel
theorem dX10_stepped_113 : decode cX10_stepped 113 = .ok (.iaload, 1) := by decide +kernel
theorem dX10_stepped_114 : decode cX10_stepped 114 = .ok (.ifCond .le 14, 3) := by decide +kernel
theorem dX10_stepped_117 : decode cX10_stepped 117 = .ok (.iload_n 3, 1) := by decide +kernel
theorem dX10_stepped_118 : decode cX10_stepped 118 = .ok (.iconst 1, 1) := by decide +kernel
theorem dX10_stepped_119 : decode cX10_stepped 119 = .ok (.aload_n 0, 1) := by decide +kernel
theorem dX10_stepped_120 : decode cX10_stepped 120 = .ok (.getfield 202, 3) := by decide +kernel
theorem dX10_stepped_123 : decode cX10_stepped 123 = .ok (.ishl, 1) := by decide +kernel
theorem dX10_stepped_124 : decode cX10_stepped 124 = .ok (.iconst 1, 1) := by decide +kernel
theorem dX10_stepped_125 : decode cX10_stepped 125 = .ok (.isub, 1) := by decide +kernel
theorem dX10_stepped_126 : decode cX10_stepped 126 = .ok (.ior, 1) := by decide +kernel
theorem dX10_stepped_127 : decode cX10_stepped 127 = .ok (.istore_n 3, 1) := by decide +kernel
theorem dX10_stepped_128 : decode cX10_stepped 128 = .ok (.iinc 4 1, 3) := by decide +kernel
theorem dX10_stepped_131 : decode cX10_stepped 131 = .ok (.goto (-111), 3) := by decide +kernel
theorem dX10_stepped_134 : decode cX10_stepped 134 = .ok (.iload_n 3, 1) := by decide +kernel
theorem dX10_stepped_135 : decode cX10_stepped 135 = .ok (.ireturn, 1) := by decide +kernel
theorem dX10_seconds_0 : decode cX10_seconds 0 = .ok (.aload_n 0, 1) := by decide +kernel
theorem dX10_seconds_1 : decode cX10_seconds 1 = .ok (.getfield 68, 3) := by decide +kernel
theorem dX10_seconds_4 : decode cX10_seconds 4 = .ok (.iload_n 1, 1) := by decide +kernel
theorem dX10_seconds_5 : decode cX10_seconds 5 = .ok (.iaload, 1) := by decide +kernel
theorem dX10_seconds_6 : decode cX10_seconds 6 = .ok (.iload_n 2, 1) := by decide +kernel
theorem dX10_seconds_7 : decode cX10_seconds 7 = .ok (.iadd, 1) := by decide +kernel
theorem dX10_seconds_8 : decode cX10_seconds 8 = .ok (.iload_n 2, 1) := by decide +kernel
theorem dX10_seconds_9 : decode cX10_seconds 9 = .ok (.idiv, 1) := by decide +kernel
theorem dX10_seconds_10 : decode cX10_seconds 10 = .ok (.ireturn, 1) := by decide +kernel
theorem dX10_findOrder_0 : decode cX10_findOrder 0 = .ok (.aload_n 0, 1) := by decide +kernel
theorem dX10_findOrder_1 : decode cX10_findOrder 1 = .ok (.iload_n 1, 1) := by decide +kernel
theorem dX10_findOrder_2 : decode cX10_findOrder 2 = .ok (.iload_n 2, 1) := by decide +kernel
theorem dX10_findOrder_3 : decode cX10_findOrder 3 = .ok (.invokevirtual 372, 3) := by decide +kernel
theorem dX10_findOrder_6 : decode cX10_findOrder 6 = .ok (.iconst 0, 1) := by decide +kernel
theorem dX10_findOrder_7 : decode cX10_findOrder 7 = .ok (.istore 4, 2) := by decide +kernel
theorem dX10_findOrder_9 : decode cX10_findOrder 9 = .ok (.iload 4, 2) := by decide +kernel
theorem dX10_findOrder_11 : decode cX10_findOrder 11 = .ok (.aload_n 0, 1) := by decide +kernel
theorem dX10_findOrder_12 : decode cX10_findOrder 12 = .ok (.getfield 202, 3) := by decide +kernel
theorem dX10_findOrder_15 : decode cX10_findOrder 15 = .ok (.if_icmp .ge 99, 3) := by decide +kernel
theorem dX10_findOrder_18 : decode cX10_findOrder 18 = .ok (.iload 4, 2) := by decide +kernel
theorem dX10_findOrder_20 : decode cX10_findOrder 20 = .ok (.istore 5, 2) := by decide +kernel
theorem dX10_findOrder_22 : decode cX10_findOrder 22 = .ok (.iload 5, 2) := by decide +kernel
theorem dX10_findOrder_24 : decode cX10_findOrder 24 = .ok (.ifCond .le 75, 3) := by decide +kernel
theorem dX10_findOrder_27 : decode cX10_findOrder 27 = .ok (.aload_n 0, 1) := by decide +kernel
theorem dX10_findOrder_28 : decode cX10_findOrder 28 = .ok (.getfield 113, 3) := by decide +kernel
theorem dX10_findOrder_31 : decode cX10_findOrder 31 = .ok (.iload 4, 2) := by decide +kernel
theorem dX10_findOrder_33 : decode cX10_findOrder 33 = .ok (.laload, 1) := by decide +kernel
theorem dX10_findOrder_34 : decode cX10_findOrder 34 = .ok (.aload_n 0, 1) := by decide +kernel
theorem dX10_findOrder_35 : decode cX10_findOrder 35 = .ok (.aload_n 0, 1) := by decide +kernel
theorem dX10_findOrder_36 : decode cX10_findOrder 36 = .ok (.getfield 120, 3) := by decide +kernel
theorem dX10_findOrder_39 : decode cX10_findOrder 39 = .ok (.iload 5, 2) := by decide +kernel
theorem dX10_findOrder_41 : decode cX10_findOrder 41 = .ok (.iconst 1, 1) := by decide +kernel
theorem dX10_findOrder_42 : decode cX10_findOrder 42 = .ok (.isub, 1) := by decide +kernel
theorem dX10_findOrder_43 : decode cX10_findOrder 43 = .ok (.iaload, 1) := by decide +kernel
theorem dX10_findOrder_44 : decode cX10_findOrder 44 = .ok (.iload_n 3, 1) := by decide +kernel
theorem dX10_findOrder_45 : decode cX10_findOrder 45 = .ok (.invokevirtual 382, 3) := by decide +kernel
theorem dX10_findOrder_48 : decode cX10_findOrder 48 = .ok (.i2l, 1) := by decide +kernel
theorem dX10_findOrder_49 : decode cX10_findOrder 49 = .ok (.lmul, 1) := by decide +kernel
theorem dX10_findOrder_50 : decode cX10_findOrder 50 = .ok (.aload_n 0, 1) := by decide +kernel
theorem dX10_findOrder_51 : decode cX10_findOrder 51 = .ok (.getfield 113, 3) := by decide +kernel
theorem dX10_findOrder_54 : decode cX10_findOrder 54 = .ok (.aload_n 0, 1) := by decide +kernel
theorem dX10_findOrder_55 : decode cX10_findOrder 55 = .ok (.getfield 120, 3) := by decide +kernel
theorem dX10_findOrder_58 : decode cX10_findOrder 58 = .ok (.iload 5, 2) := by decide +kernel
theorem dX10_findOrder_60 : decode cX10_findOrder 60 = .ok (.iconst 1, 1) := by decide +kernel
theorem dX10_findOrder_61 : decode cX10_findOrder 61 = .ok (.isub, 1) := by decide +kernel
theorem dX10_findOrder_62 : decode cX10_findOrder 62 = .ok (.iaload, 1) := by decide +kernel
theorem dX10_findOrder_63 : decode cX10_findOrder 63 = .ok (.laload, 1) := by decide +kernel
theorem dX10_findOrder_64 : decode cX10_findOrder 64 = .ok (.aload_n 0, 1) := by decide +kernel
theorem dX10_findOrder_65 : decode cX10_findOrder 65 = .ok (.iload 4, 2) := by decide +kernel
theorem dX10_findOrder_67 : decode cX10_findOrder 67 = .ok (.iload_n 3, 1) := by decide +kernel
theorem dX10_findOrder_68 : decode cX10_findOrder 68 = .ok (.invokevirtual 382, 3) := by decide +kernel
theorem dX10_findOrder_71 : decode cX10_findOrder 71 = .ok (.i2l, 1) := by decide +kernel
theorem dX10_findOrder_72 : decode cX10_findOrder 72 = .ok (.lmul, 1) := by decide +kernel
theorem dX10_findOrder_73 : decode cX10_findOrder 73 = .ok (.lcmp, 1) := by decide +kernel
theorem dX10_findOrder_74 : decode cX10_findOrder 74 = .ok (.ifCond .le 25, 3) := by decide +kernel
theorem dX10_findOrder_77 : decode cX10_findOrder 77 = .ok (.aload_n 0, 1) := by decide +kernel
theorem dX10_findOrder_78 : decode cX10_findOrder 78 = .ok (.getfield 120, 3) := by decide +kernel
theorem dX10_findOrder_81 : decode cX10_findOrder 81 = .ok (.iload 5, 2) := by decide +kernel
theorem dX10_findOrder_83 : decode cX10_findOrder 83 = .ok (.aload_n 0, 1) := by decide +kernel
theorem dX10_findOrder_84 : decode cX10_findOrder 84 = .ok (.getfield 120, 3) := by decide +kernel
theorem dX10_findOrder_87 : decode cX10_findOrder 87 = .ok (.iload 5, 2) := by decide +kernel
theorem dX10_findOrder_89 : decode cX10_findOrder 89 = .ok (.iconst 1, 1) := by decide +kernel
theorem dX10_findOrder_90 : decode cX10_findOrder 90 = .ok (.isub, 1) := by decide +kernel
theorem dX10_findOrder_91 : decode cX10_findOrder 91 = .ok (.iaload, 1) := by decide +kernel
theorem dX10_findOrder_92 : decode cX10_findOrder 92 = .ok (.iastore, 1) := by decide +kernel
theorem dX10_findOrder_93 : decode cX10_findOrder 93 = .ok (.iinc 5 (-1), 3) := by decide +kernel
theorem dX10_findOrder_96 : decode cX10_findOrder 96 = .ok (.goto (-74), 3) := by decide +kernel
theorem dX10_findOrder_99 : decode cX10_findOrder 99 = .ok (.aload_n 0, 1) := by decide +kernel
theorem dX10_findOrder_100 : decode cX10_findOrder 100 = .ok (.getfield 120, 3) := by decide +kernel
theorem dX10_findOrder_103 : decode cX10_findOrder 103 = .ok (.iload 5, 2) := by decide +kernel
theorem dX10_findOrder_105 : decode cX10_findOrder 105 = .ok (.iload 4, 2) := by decide +kernel
theorem dX10_findOrder_107 : decode cX10_findOrder 107 = .ok (.iastore, 1) := by decide +kernel
theorem dX10_findOrder_108 : decode cX10_findOrder 108 = .ok (.iinc 4 1, 3) := by decide +kernel
theorem dX10_findOrder_111 : decode cX10_findOrder 111 = .ok (.goto (-102), 3) := by decide +kernel
theorem dX10_findOrder_114 : decode cX10_findOrder 114 = .ok (.return_, 1) := by decide +kernel
theorem dX10_order_0 : decode cX10_order 0 = .ok (.aload_n 0, 1) := by decide +kernel
theorem dX10_order_1 : decode cX10_order 1 = .ok (.iconst 0, 1) := by decide +kernel
theorem dX10_order_2 : decode cX10_order 2 = .ok (.putfield 3, 3) := by decide +kernel
theorem dX10_order_5 : decode cX10_order 5 = .ok (.aload_n 0, 1) := by decide +kernel
theorem dX10_order_6 : decode cX10_order 6 = .ok (.iload_n 1, 1) := by decide +kernel
theorem dX10_order_7 : decode cX10_order 7 = .ok (.iconst 1, 1) := by decide +kernel
theorem dX10_order_8 : decode cX10_order 8 = .ok (.invokevirtual 287, 3) := by decide +kernel
theorem dX10_order_11 : decode cX10_order 11 = .ok (.ifCond .eq 60, 3) := by decide +kernel
theorem dX10_order_14 : decode cX10_order 14 = .ok (.aload_n 0, 1) := by decide +kernel
theorem dX10_order_15 : decode cX10_order 15 = .ok (.iload_n 2, 1) := by decide +kernel
theorem dX10_order_16 : decode cX10_order 16 = .ok (.iconst 0, 1) := by decide +kernel
theorem dX10_order_17 : decode cX10_order 17 = .ok (.iconst 4, 1) := by decide +kernel
theorem dX10_order_18 : decode cX10_order 18 = .ok (.invokestatic 273, 3) := by decide +kernel
theorem dX10_order_21 : decode cX10_order 21 = .ok (.ifCond .eq 17, 3) := by decide +kernel
theorem dX10_order_24 : decode cX10_order 24 = .ok (.iload_n 3, 1) := by decide +kernel
theorem dX10_order_25 : decode cX10_order 25 = .ok (.iconst 1, 1) := by decide +kernel
theorem dX10_order_26 : decode cX10_order 26 = .ok (.bipush 8, 2) := by decide +kernel
theorem dX10_order_28 : decode cX10_order 28 = .ok (.invokestatic 273, 3) := by decide +kernel
theorem dX10_order_31 : decode cX10_order 31 = .ok (.ifCond .eq 7, 3) := by decide +kernel
theorem dX10_order_34 : decode cX10_order 34 = .ok (.iconst 1, 1) := by decide +kernel
theorem dX10_order_35 : decode cX10_order 35 = .ok (.goto 4, 3) := by decide +kernel
theorem dX10_order_38 : decode cX10_order 38 = .ok (.iconst 0, 1) := by decide +kernel
theorem dX10_order_39 : decode cX10_order 39 = .ok (.iconst 2, 1) := by decide +kernel
theorem dX10_order_40 : decode cX10_order 40 = .ok (.iconst 2, 1) := by decide +kernel
theorem dX10_order_41 : decode cX10_order 41 = .ok (.invokevirtual 241, 3) := by decide +kernel
theorem dX10_order_44 : decode cX10_order 44 = .ok (.ifCond .eq 27, 3) := by decide +kernel
theorem dX10_order_47 : decode cX10_order 47 = .ok (.aload_n 0, 1) := by decide +kernel
theorem dX10_order_48 : decode cX10_order 48 = .ok (.aload_n 0, 1) := by decide +kernel
theorem dX10_order_49 : decode cX10_order 49 = .ok (.getfield 38, 3) := by decide +kernel
theorem dX10_order_52 : decode cX10_order 52 = .ok (.iload_n 1, 1) := by decide +kernel
theorem dX10_order_53 : decode cX10_order 53 = .ok (.iaload, 1) := by decide +kernel
theorem dX10_order_54 : decode cX10_order 54 = .ok (.iconst (-1), 1) := by decide +kernel
theorem dX10_order_55 : decode cX10_order 55 = .ok (.if_icmp .eq 7, 3) := by decide +kernel
theorem dX10_order_58 : decode cX10_order 58 = .ok (.iconst 1, 1) := by decide +kernel
theorem dX10_order_59 : decode cX10_order 59 = .ok (.goto 4, 3) := by decide +kernel
theorem dX10_order_62 : decode cX10_order 62 = .ok (.iconst 0, 1) := by decide +kernel
theorem dX10_order_63 : decode cX10_order 63 = .ok (.iconst 3, 1) := by decide +kernel
theorem dX10_order_64 : decode cX10_order 64 = .ok (.iconst 3, 1) := by decide +kernel
theorem dX10_order_65 : decode cX10_order 65 = .ok (.invokevirtual 241, 3) := by decide +kernel
theorem dX10_order_68 : decode cX10_order 68 = .ok (.ifCond .ne 5, 3) := by decide +kernel
theorem dX10_order_71 : decode cX10_order 71 = .ok (.iconst 0, 1) := by decide +kernel
theorem dX10_order_72 : decode cX10_order 72 = .ok (.ireturn, 1) := by decide +kernel
theorem dX10_order_73 : decode cX10_order 73 = .ok (.aload_n 0, 1) := by decide +kernel
theorem dX10_order_74 : decode cX10_order 74 = .ok (.iload_n 1, 1) := by decide +kernel
theorem dX10_order_75 : decode cX10_order 75 = .ok (.iload_n 2, 1) := by decide +kernel
theorem dX10_order_76 : decode cX10_order 76 = .ok (.iload_n 3, 1) := by decide +kernel
theorem dX10_order_77 : decode cX10_order 77 = .ok (.invokevirtual 385, 3) := by decide +kernel
theorem dX10_order_80 : decode cX10_order 80 = .ok (.iload 4, 2) := by decide +kernel
theorem dX10_order_82 : decode cX10_order 82 = .ok (.iconst 0, 1) := by decide +kernel
theorem dX10_order_83 : decode cX10_order 83 = .ok (.aload_n 0, 1) := by decide +kernel
theorem dX10_order_84 : decode cX10_order 84 = .ok (.getfield 202, 3) := by decide +kernel
theorem dX10_order_87 : decode cX10_order 87 = .ok (.iconst 1, 1) := by decide +kernel
theorem dX10_order_88 : decode cX10_order 88 = .ok (.isub, 1) := by decide +kernel
theorem dX10_order_89 : decode cX10_order 89 = .ok (.invokestatic 273, 3) := by decide +kernel
theorem dX10_order_92 : decode cX10_order 92 = .ok (.ifCond .eq 13, 3) := by decide +kernel
theorem dX10_order_95 : decode cX10_order 95 = .ok (.aload_n 0, 1) := by decide +kernel
theorem dX10_order_96 : decode cX10_order 96 = .ok (.getfield 120, 3) := by decide +kernel
theorem dX10_order_99 : decode cX10_order 99 = .ok (.iload 4, 2) := by decide +kernel
theorem dX10_order_101 : decode cX10_order 101 = .ok (.iaload, 1) := by decide +kernel
theorem dX10_order_102 : decode cX10_order 102 = .ok (.goto 4, 3) := by decide +kernel
theorem dX10_order_105 : decode cX10_order 105 = .ok (.iconst (-1), 1) := by decide +kernel
theorem dX10_order_106 : decode cX10_order 106 = .ok (.ireturn, 1) := by decide +kernel
theorem dX10_mean_0 : decode cX10_mean 0 = .ok (.aload_n 0, 1) := by decide +kernel
theorem dX10_mean_1 : decode cX10_mean 1 = .ok (.iconst 0, 1) := by decide +kernel
theorem dX10_mean_2 : decode cX10_mean 2 = .ok (.putfield 3, 3) := by decide +kernel
theorem dX10_mean_5 : decode cX10_mean 5 = .ok (.aload_n 0, 1) := by decide +kernel
theorem dX10_mean_6 : decode cX10_mean 6 = .ok (.iload_n 1, 1) := by decide +kernel
theorem dX10_mean_7 : decode cX10_mean 7 = .ok (.iconst 1, 1) := by decide +kernel
theorem dX10_mean_8 : decode cX10_mean 8 = .ok (.invokevirtual 287, 3) := by decide +kernel
theorem dX10_mean_11 : decode cX10_mean 11 = .ok (.ifCond .eq 70, 3) := by decide +kernel
theorem dX10_mean_14 : decode cX10_mean 14 = .ok (.aload_n 0, 1) := by decide +kernel
theorem dX10_mean_15 : decode cX10_mean 15 = .ok (.iload_n 2, 1) := by decide +kernel
theorem dX10_mean_16 : decode cX10_mean 16 = .ok (.iconst 0, 1) := by decide +kernel
theorem dX10_mean_17 : decode cX10_mean 17 = .ok (.iconst 4, 1) := by decide +kernel
theorem dX10_mean_18 : decode cX10_mean 18 = .ok (.invokestatic 273, 3) := by decide +kernel
theorem dX10_mean_21 : decode cX10_mean 21 = .ok (.ifCond .eq 27, 3) := by decide +kernel
theorem dX10_mean_24 : decode cX10_mean 24 = .ok (.iload_n 3, 1) := by decide +kernel
theorem dX10_mean_25 : decode cX10_mean 25 = .ok (.iconst 1, 1) := by decide +kernel
theorem dX10_mean_26 : decode cX10_mean 26 = .ok (.bipush 8, 2) := by decide +kernel
theorem dX10_mean_28 : decode cX10_mean 28 = .ok (.invokestatic 273, 3) := by decide +kernel
theorem dX10_mean_31 : decode cX10_mean 31 = .ok (.ifCond .eq 17, 3) := by decide +kernel
theorem dX10_mean_34 : decode cX10_mean 34 = .ok (.iload 4, 2) := by decide +kernel
theorem dX10_mean_36 : decode cX10_mean 36 = .ok (.iconst 0, 1) := by decide +kernel
theorem dX10_mean_37 : decode cX10_mean 37 = .ok (.iconst 1, 1) := by decide +kernel
theorem dX10_mean_38 : decode cX10_mean 38 = .ok (.invokestatic 273, 3) := by decide +kernel
theorem dX10_mean_41 : decode cX10_mean 41 = .ok (.ifCond .eq 7, 3) := by decide +kernel
theorem dX10_mean_44 : decode cX10_mean 44 = .ok (.iconst 1, 1) := by decide +kernel
theorem dX10_mean_45 : decode cX10_mean 45 = .ok (.goto 4, 3) := by decide +kernel
theorem dX10_mean_48 : decode cX10_mean 48 = .ok (.iconst 0, 1) := by decide +kernel
theorem dX10_mean_49 : decode cX10_mean 49 = .ok (.iconst 2, 1) := by decide +kernel
theorem dX10_mean_50 : decode cX10_mean 50 = .ok (.iconst 2, 1) := by decide +kernel
theorem dX10_mean_51 : decode cX10_mean 51 = .ok (.invokevirtual 241, 3) := by decide +kernel
theorem dX10_mean_54 : decode cX10_mean 54 = .ok (.ifCond .eq 27, 3) := by decide +kernel
theorem dX10_mean_57 : decode cX10_mean 57 = .ok (.aload_n 0, 1) := by decide +kernel
theorem dX10_mean_58 : decode cX10_mean 58 = .ok (.aload_n 0, 1) := by decide +kernel
theorem dX10_mean_59 : decode cX10_mean 59 = .ok (.getfield 38, 3) := by decide +kernel
theorem dX10_mean_62 : decode cX10_mean 62 = .ok (.iload_n 1, 1) := by decide +kernel
theorem dX10_mean_63 : decode cX10_mean 63 = .ok (.iaload, 1) := by decide +kernel
theorem dX10_mean_64 : decode cX10_mean 64 = .ok (.iconst (-1), 1) := by decide +kernel
theorem dX10_mean_65 : decode cX10_mean 65 = .ok (.if_icmp .eq 7, 3) := by decide +kernel
theorem dX10_mean_68 : decode cX10_mean 68 = .ok (.iconst 1, 1) := by decide +kernel
theorem dX10_mean_69 : decode cX10_mean 69 = .ok (.goto 4, 3) := by decide +kernel
theorem dX10_mean_72 : decode cX10_mean 72 = .ok (.iconst 0, 1) := by decide +kernel
theorem dX10_mean_73 : decode cX10_mean 73 = .ok (.iconst 3, 1) := by decide +kernel
theorem dX10_mean_74 : decode cX10_mean 74 = .ok (.iconst 3, 1) := by decide +kernel
theorem dX10_mean_75 : decode cX10_mean 75 = .ok (.invokevirtual 241, 3) := by decide +kernel
theorem dX10_mean_78 : decode cX10_mean 78 = .ok (.ifCond .ne 5, 3) := by decide +kernel
theorem dX10_mean_81 : decode cX10_mean 81 = .ok (.lconst 0, 1) := by decide +kernel
theorem dX10_mean_82 : decode cX10_mean 82 = .ok (.lreturn, 1) := by decide +kernel
theorem dX10_mean_83 : decode cX10_mean 83 = .ok (.aload_n 0, 1) := by decide +kernel
theorem dX10_mean_84 : decode cX10_mean 84 = .ok (.iload_n 1, 1) := by decide +kernel
theorem dX10_mean_85 : decode cX10_mean 85 = .ok (.iload_n 2, 1) := by decide +kernel
theorem dX10_mean_86 : decode cX10_mean 86 = .ok (.iload_n 3, 1) := by decide +kernel
theorem dX10_mean_87 : decode cX10_mean 87 = .ok (.invokevirtual 385, 3) := by decide +kernel
theorem dX10_mean_90 : decode cX10_mean 90 = .ok (.lconst 0, 1) := by decide +kernel
theorem dX10_mean_91 : decode cX10_mean 91 = .ok (.lstore 5, 2) := by decide +kernel
theorem dX10_mean_93 : decode cX10_mean 93 = .ok (.iconst 0, 1) := by decide +kernel
theorem dX10_mean_94 : decode cX10_mean 94 = .ok (.istore 7, 2) := by decide +kernel
theorem dX10_mean_96 : decode cX10_mean 96 = .ok (.iconst 0, 1) := by decide +kernel
theorem dX10_mean_97 : decode cX10_mean 97 = .ok (.istore 8, 2) := by decide +kernel
theorem dX10_mean_99 : decode cX10_mean 99 = .ok (.iload 8, 2) := by decide +kernel
theorem dX10_mean_101 : decode cX10_mean 101 = .ok (.aload_n 0, 1) := by decide +kernel
theorem dX10_mean_102 : decode cX10_mean 102 = .ok (.getfield 202, 3) := by decide +kernel
theorem dX10_mean_105 : decode cX10_mean 105 = .ok (.if_icmp .ge 47, 3) := by decide +kernel
theorem dX10_mean_108 : decode cX10_mean 108 = .ok (.iload 7, 2) := by decide +kernel
theorem dX10_mean_110 : decode cX10_mean 110 = .ok (.aload_n 0, 1) := by decide +kernel
theorem dX10_mean_111 : decode cX10_mean 111 = .ok (.aload_n 0, 1) := by decide +kernel
theorem dX10_mean_112 : decode cX10_mean 112 = .ok (.getfield 120, 3) := by decide +kernel
theorem dX10_mean_115 : decode cX10_mean 115 = .ok (.iload 8, 2) := by decide +kernel
theorem dX10_mean_117 : decode cX10_mean 117 = .ok (.iaload, 1) := by decide +kernel
theorem dX10_mean_118 : decode cX10_mean 118 = .ok (.iload_n 3, 1) := by decide +kernel
theorem dX10_mean_119 : decode cX10_mean 119 = .ok (.invokevirtual 382, 3) := by decide +kernel
theorem dX10_mean_122 : decode cX10_mean 122 = .ok (.iadd, 1) := by decide +kernel
theorem dX10_mean_123 : decode cX10_mean 123 = .ok (.istore 7, 2) := by decide +kernel
theorem dX10_mean_125 : decode cX10_mean 125 = .ok (.lload 5, 2) := by decide +kernel
theorem dX10_mean_127 : decode cX10_mean 127 = .ok (.aload_n 0, 1) := by decide +kernel
theorem dX10_mean_128 : decode cX10_mean 128 = .ok (.getfield 113, 3) := by decide +kernel
theorem dX10_mean_131 : decode cX10_mean 131 = .ok (.aload_n 0, 1) := by decide +kernel
theorem dX10_mean_132 : decode cX10_mean 132 = .ok (.getfield 120, 3) := by decide +kernel
theorem dX10_mean_135 : decode cX10_mean 135 = .ok (.iload 8, 2) := by decide +kernel
theorem dX10_mean_137 : decode cX10_mean 137 = .ok (.iaload, 1) := by decide +kernel
theorem dX10_mean_138 : decode cX10_mean 138 = .ok (.laload, 1) := by decide +kernel
theorem dX10_mean_139 : decode cX10_mean 139 = .ok (.iload 7, 2) := by decide +kernel
theorem dX10_mean_141 : decode cX10_mean 141 = .ok (.i2l, 1) := by decide +kernel
theorem dX10_mean_142 : decode cX10_mean 142 = .ok (.lmul, 1) := by decide +kernel
theorem dX10_mean_143 : decode cX10_mean 143 = .ok (.ladd, 1) := by decide +kernel
theorem dX10_mean_144 : decode cX10_mean 144 = .ok (.lstore 5, 2) := by decide +kernel
theorem dX10_mean_146 : decode cX10_mean 146 = .ok (.iinc 8 1, 3) := by decide +kernel
theorem dX10_mean_149 : decode cX10_mean 149 = .ok (.goto (-50), 3) := by decide +kernel
theorem dX10_mean_152 : decode cX10_mean 152 = .ok (.lload 5, 2) := by decide +kernel
theorem dX10_mean_154 : decode cX10_mean 154 = .ok (.aload_n 0, 1) := by decide +kernel
theorem dX10_mean_155 : decode cX10_mean 155 = .ok (.getfield 362, 3) := by decide +kernel
theorem dX10_mean_158 : decode cX10_mean 158 = .ok (.iload 4, 2) := by decide +kernel
theorem dX10_mean_160 : decode cX10_mean 160 = .ok (.invokestatic 375, 3) := by decide +kernel
theorem dX10_mean_163 : decode cX10_mean 163 = .ok (.lreturn, 1) := by decide +kernel
theorem dX10_pace_0 : decode cX10_pace 0 = .ok (.aload_n 0, 1) := by decide +kernel
theorem dX10_pace_1 : decode cX10_pace 1 = .ok (.iconst 0, 1) := by decide +kernel
theorem dX10_pace_2 : decode cX10_pace 2 = .ok (.putfield 3, 3) := by decide +kernel
theorem dX10_pace_5 : decode cX10_pace 5 = .ok (.iconst 1, 1) := by decide +kernel
theorem dX10_pace_6 : decode cX10_pace 6 = .ok (.istore_n 1, 1) := by decide +kernel
theorem dX10_pace_7 : decode cX10_pace 7 = .ok (.iconst 2, 1) := by decide +kernel
theorem dX10_pace_8 : decode cX10_pace 8 = .ok (.istore_n 2, 1) := by decide +kernel
theorem dX10_pace_9 : decode cX10_pace 9 = .ok (.iload_n 2, 1) := by decide +kernel
theorem dX10_pace_10 : decode cX10_pace 10 = .ok (.bipush 8, 2) := by decide +kernel
theorem dX10_pace_12 : decode cX10_pace 12 = .ok (.if_icmp .gt 36, 3) := by decide +kernel
theorem dX10_pace_15 : decode cX10_pace 15 = .ok (.iload_n 2, 1) := by decide +kernel
theorem dX10_pace_16 : decode cX10_pace 16 = .ok (.bipush 8, 2) := by decide +kernel
theorem dX10_pace_18 : decode cX10_pace 18 = .ok (.aload_n 0, 1) := by decide +kernel
theorem dX10_pace_19 : decode cX10_pace 19 = .ok (.getfield 32, 3) := by decide +kernel
theorem dX10_pace_22 : decode cX10_pace 22 = .ok (.iload_n 2, 1) := by decide +kernel
theorem dX10_pace_23 : decode cX10_pace 23 = .ok (.iaload, 1) := by decide +kernel
theorem dX10_pace_24 : decode cX10_pace 24 = .ok (.isub, 1) := by decide +kernel
theorem dX10_pace_25 : decode cX10_pace 25 = .ok (.imul, 1) := by decide +kernel
theorem dX10_pace_26 : decode cX10_pace 26 = .ok (.iload_n 1, 1) := by decide +kernel
theorem dX10_pace_27 : decode cX10_pace 27 = .ok (.bipush 8, 2) := by decide +kernel
theorem dX10_pace_29 : decode cX10_pace 29 = .ok (.aload_n 0, 1) := by decide +kernel
theorem dX10_pace_30 : decode cX10_pace 30 = .ok (.getfield 32, 3) := by decide +kernel
theorem dX10_pace_33 : decode cX10_pace 33 = .ok (.iload_n 1, 1) := by decide +kernel
theorem dX10_pace_34 : decode cX10_pace 34 = .ok (.iaload, 1) := by decide +kernel
theorem dX10_pace_35 : decode cX10_pace 35 = .ok (.isub, 1) := by decide +kernel
theorem dX10_pace_36 : decode cX10_pace 36 = .ok (.imul, 1) := by decide +kernel
theorem dX10_pace_37 : decode cX10_pace 37 = .ok (.if_icmp .le 5, 3) := by decide +kernel
theorem dX10_pace_40 : decode cX10_pace 40 = .ok (.iload_n 2, 1) := by decide +kernel
theorem dX10_pace_41 : decode cX10_pace 41 = .ok (.istore_n 1, 1) := by decide +kernel
theorem dX10_pace_42 : decode cX10_pace 42 = .ok (.iinc 2 1, 3) := by decide +kernel
theorem dX10_pace_45 : decode cX10_pace 45 = .ok (.goto (-36), 3) := by decide +kernel
theorem dX10_pace_48 : decode cX10_pace 48 = .ok (.iload_n 1, 1) := by decide +kernel
theorem dX10_pace_49 : decode cX10_pace 49 = .ok (.ireturn, 1) := by decide +kernel
theorem dX10_round_0 : decode cX10_round 0 = .ok (.aload_n 0, 1) := by decide +kernel
theorem dX10_round_1 : decode cX10_round 1 = .ok (.iconst 0, 1) := by decide +kernel
theorem dX10_round_2 : decode cX10_round 2 = .ok (.putfield 3, 3) := by decide +kernel
theorem dX10_round_5 : decode cX10_round 5 = .ok (.aload_n 0, 1) := by decide +kernel
theorem dX10_round_6 : decode cX10_round 6 = .ok (.iload_n 1, 1) := by decide +kernel
theorem dX10_round_7 : decode cX10_round 7 = .ok (.iconst 0, 1) := by decide +kernel
theorem dX10_round_8 : decode cX10_round 8 = .ok (.iconst 1, 1) := by decide +kernel
theorem dX10_round_9 : decode cX10_round 9 = .ok (.invokestatic 273, 3) := by decide +kernel
theorem dX10_round_12 : decode cX10_round 12 = .ok (.iconst 1, 1) := by decide +kernel
theorem dX10_round_13 : decode cX10_round 13 = .ok (.iconst 2, 1) := by decide +kernel
theorem dX10_round_14 : decode cX10_round 14 = .ok (.invokevirtual 241, 3) := by decide +kernel
theorem dX10_round_17 : decode cX10_round 17 = .ok (.ifCond .ne 5, 3) := by decide +kernel
theorem dX10_round_20 : decode cX10_round 20 = .ok (.iconst 0, 1) := by decide +kernel
theorem dX10_round_21 : decode cX10_round 21 = .ok (.ireturn, 1) := by decide +kernel
theorem dX10_round_22 : decode cX10_round 22 = .ok (.aload_n 0, 1) := by decide +kernel
theorem dX10_round_23 : decode cX10_round 23 = .ok (.iconst 1, 1) := by decide +kernel
theorem dX10_round_24 : decode cX10_round 24 = .ok (.putfield 315, 3) := by decide +kernel
theorem dX10_round_27 : decode cX10_round 27 = .ok (.aload_n 0, 1) := by decide +kernel
theorem dX10_round_28 : decode cX10_round 28 = .ok (.iconst (-1), 1) := by decide +kernel
theorem dX10_round_29 : decode cX10_round 29 = .ok (.putfield 388, 3) := by decide +kernel
theorem dX10_round_32 : decode cX10_round 32 = .ok (.iconst 0, 1) := by decide +kernel
theorem dX10_round_33 : decode cX10_round 33 = .ok (.istore_n 2, 1) := by decide +kernel
theorem dX10_round_34 : decode cX10_round 34 = .ok (.iload_n 2, 1) := by decide +kernel
theorem dX10_round_35 : decode cX10_round 35 = .ok (.iconst 1, 1) := by decide +kernel
theorem dX10_round_36 : decode cX10_round 36 = .ok (.aload_n 0, 1) := by decide +kernel
theorem dX10_round_37 : decode cX10_round 37 = .ok (.getfield 208, 3) := by decide +kernel
theorem dX10_round_40 : decode cX10_round 40 = .ok (.ishl, 1) := by decide +kernel
theorem dX10_round_41 : decode cX10_round 41 = .ok (.if_icmp .ge 84, 3) := by decide +kernel
theorem dX10_round_44 : decode cX10_round 44 = .ok (.iconst 0, 1) := by decide +kernel
theorem dX10_round_45 : decode cX10_round 45 = .ok (.istore_n 3, 1) := by decide +kernel
theorem dX10_round_46 : decode cX10_round 46 = .ok (.iload_n 3, 1) := by decide +kernel
theorem dX10_round_47 : decode cX10_round 47 = .ok (.aload_n 0, 1) := by decide +kernel
theorem dX10_round_48 : decode cX10_round 48 = .ok (.getfield 208, 3) := by decide +kernel
theorem dX10_round_51 : decode cX10_round 51 = .ok (.if_icmp .ge 20, 3) := by decide +kernel
theorem dX10_round_54 : decode cX10_round 54 = .ok (.aload_n 0, 1) := by decide +kernel
theorem dX10_round_55 : decode cX10_round 55 = .ok (.getfield 98, 3) := by decide +kernel
theorem dX10_round_58 : decode cX10_round 58 = .ok (.iload_n 3, 1) := by decide +kernel
theorem dX10_round_59 : decode cX10_round 59 = .ok (.iload_n 2, 1) := by decide +kernel
theorem dX10_round_60 : decode cX10_round 60 = .ok (.iload_n 3, 1) := by decide +kernel
theorem dX10_round_61 : decode cX10_round 61 = .ok (.ishr, 1) := by decide +kernel
theorem dX10_round_62 : decode cX10_round 62 = .ok (.iconst 1, 1) := by decide +kernel
theorem dX10_round_63 : decode cX10_round 63 = .ok (.iand, 1) := by decide +kernel
theorem dX10_round_64 : decode cX10_round 64 = .ok (.iastore, 1) := by decide +kernel
theorem dX10_round_65 : decode cX10_round 65 = .ok (.iinc 3 1, 3) := by decide +kernel
theorem dX10_round_68 : decode cX10_round 68 = .ok (.goto (-22), 3) := by decide +kernel
theorem dX10_round_71 : decode cX10_round 71 = .ok (.aload_n 0, 1) := by decide +kernel
theorem dX10_round_72 : decode cX10_round 72 = .ok (.iconst 0, 1) := by decide +kernel
theorem dX10_round_73 : decode cX10_round 73 = .ok (.invokevirtual 344, 3) := by decide +kernel
theorem dX10_round_76 : decode cX10_round 76 = .ok (.aload_n 0, 1) := by decide +kernel
theorem dX10_round_77 : decode cX10_round 77 = .ok (.getfield 388, 3) := by decide +kernel
theorem dX10_round_80 : decode cX10_round 80 = .ok (.iconst (-1), 1) := by decide +kernel
theorem dX10_round_81 : decode cX10_round 81 = .ok (.if_icmp .eq 21, 3) := by decide +kernel
theorem dX10_round_84 : decode cX10_round 84 = .ok (.aload_n 0, 1) := by decide +kernel
theorem dX10_round_85 : decode cX10_round 85 = .ok (.aload_n 0, 1) := by decide +kernel
theorem dX10_round_86 : decode cX10_round 86 = .ok (.getfield 92, 3) := by decide +kernel
theorem dX10_round_89 : decode cX10_round 89 = .ok (.invokevirtual 355, 3) := by decide +kernel
theorem dX10_round_92 : decode cX10_round 92 = .ok (.aload_n 0, 1) := by decide +kernel
theorem dX10_round_93 : decode cX10_round 93 = .ok (.getfield 391, 3) := by decide +kernel
theorem dX10_round_96 : decode cX10_round 96 = .ok (.if_icmp .lt 6, 3) := by decide +kernel
theorem dX10_round_99 : decode cX10_round 99 = .ok (.goto 20, 3) := by decide +kernel
theorem dX10_round_102 : decode cX10_round 102 = .ok (.aload_n 0, 1) := by decide +kernel
theorem dX10_round_103 : decode cX10_round 103 = .ok (.iload_n 2, 1) := by decide +kernel
theorem dX10_round_104 : decode cX10_round 104 = .ok (.putfield 388, 3) := by decide +kernel
theorem dX10_round_107 : decode cX10_round 107 = .ok (.aload_n 0, 1) := by decide +kernel
theorem dX10_round_108 : decode cX10_round 108 = .ok (.aload_n 0, 1) := by decide +kernel
theorem dX10_round_109 : decode cX10_round 109 = .ok (.aload_n 0, 1) := by decide +kernel
theorem dX10_round_110 : decode cX10_round 110 = .ok (.getfield 92, 3) := by decide +kernel
theorem dX10_round_113 : decode cX10_round 113 = .ok (.invokevirtual 355, 3) := by decide +kernel
theorem dX10_round_116 : decode cX10_round 116 = .ok (.putfield 391, 3) := by decide +kernel
theorem dX10_round_119 : decode cX10_round 119 = .ok (.iinc 2 1, 3) := by decide +kernel
theorem dX10_round_122 : decode cX10_round 122 = .ok (.goto (-88), 3) := by decide +kernel
theorem dX10_round_125 : decode cX10_round 125 = .ok (.aload_n 0, 1) := by decide +kernel
theorem dX10_round_126 : decode cX10_round 126 = .ok (.iconst 0, 1) := by decide +kernel
theorem dX10_round_127 : decode cX10_round 127 = .ok (.putfield 315, 3) := by decide +kernel
theorem dX10_round_130 : decode cX10_round 130 = .ok (.iload_n 1, 1) := by decide +kernel
theorem dX10_round_131 : decode cX10_round 131 = .ok (.ifCond .ne 10, 3) := by decide +kernel
theorem dX10_round_134 : decode cX10_round 134 = .ok (.aload_n 0, 1) := by decide +kernel
theorem dX10_round_135 : decode cX10_round 135 = .ok (.getfield 388, 3) := by decide +kernel
theorem dX10_round_138 : decode cX10_round 138 = .ok (.goto 7, 3) := by decide +kernel
theorem dX10_round_141 : decode cX10_round 141 = .ok (.aload_n 0, 1) := by decide +kernel
theorem dX10_round_142 : decode cX10_round 142 = .ok (.getfield 391, 3) := by decide +kernel
theorem dX10_round_145 : decode cX10_round 145 = .ok (.ireturn, 1) := by decide +kernel
theorem dX10_basket_0 : decode cX10_basket 0 = .ok (.aload_n 0, 1) := by decide +kernel
theorem dX10_basket_1 : decode cX10_basket 1 = .ok (.iconst 0, 1) := by decide +kernel
theorem dX10_basket_2 : decode cX10_basket 2 = .ok (.putfield 3, 3) := by decide +kernel
theorem dX10_basket_5 : decode cX10_basket 5 = .ok (.aload_n 0, 1) := by decide +kernel
theorem dX10_basket_6 : decode cX10_basket 6 = .ok (.iload_n 1, 1) := by decide +kernel
theorem dX10_basket_7 : decode cX10_basket 7 = .ok (.iconst 0, 1) := by decide +kernel
theorem dX10_basket_8 : decode cX10_basket 8 = .ok (.sipush 999, 3) := by decide +kernel
theorem dX10_basket_11 : decode cX10_basket 11 = .ok (.invokestatic 273, 3) := by decide +kernel
theorem dX10_basket_14 : decode cX10_basket 14 = .ok (.ifCond .eq 16, 3) := by decide +kernel
theorem dX10_basket_17 : decode cX10_basket 17 = .ok (.iload_n 2, 1) := by decide +kernel
theorem dX10_basket_18 : decode cX10_basket 18 = .ok (.iconst 0, 1) := by decide +kernel
theorem dX10_basket_19 : decode cX10_basket 19 = .ok (.iconst 2, 1) := by decide +kernel
theorem dX10_basket_20 : decode cX10_basket 20 = .ok (.invokestatic 273, 3) := by decide +kernel
theorem dX10_basket_23 : decode cX10_basket 23 = .ok (.ifCond .eq 7, 3) := by decide +kernel
theorem dX10_basket_26 : decode cX10_basket 26 = .ok (.iconst 1, 1) := by decide +kernel
theorem dX10_basket_27 : decode cX10_basket 27 = .ok (.goto 4, 3) := by decide +kernel
theorem dX10_basket_30 : decode cX10_basket 30 = .ok (.iconst 0, 1) := by decide +kernel
theorem dX10_basket_31 : decode cX10_basket 31 = .ok (.iconst 1, 1) := by decide +kernel
theorem dX10_basket_32 : decode cX10_basket 32 = .ok (.iconst 2, 1) := by decide +kernel
theorem dX10_basket_33 : decode cX10_basket 33 = .ok (.invokevirtual 241, 3) := by decide +kernel
theorem dX10_basket_36 : decode cX10_basket 36 = .ok (.ifCond .ne 5, 3) := by decide +kernel
theorem dX10_basket_39 : decode cX10_basket 39 = .ok (.iconst 0, 1) := by decide +kernel
theorem dX10_basket_40 : decode cX10_basket 40 = .ok (.ireturn, 1) := by decide +kernel
theorem dX10_basket_41 : decode cX10_basket 41 = .ok (.iconst 0, 1) := by decide +kernel
theorem dX10_basket_42 : decode cX10_basket 42 = .ok (.istore_n 3, 1) := by decide +kernel
theorem dX10_basket_43 : decode cX10_basket 43 = .ok (.iload_n 3, 1) := by decide +kernel
theorem dX10_basket_44 : decode cX10_basket 44 = .ok (.iload_n 1, 1) := by decide +kernel
theorem dX10_basket_45 : decode cX10_basket 45 = .ok (.if_icmp .gt 16, 3) := by decide +kernel
theorem dX10_basket_48 : decode cX10_basket 48 = .ok (.aload_n 0, 1) := by decide +kernel
theorem dX10_basket_49 : decode cX10_basket 49 = .ok (.getfield 123, 3) := by decide +kernel
theorem dX10_basket_52 : decode cX10_basket 52 = .ok (.iload_n 3, 1) := by decide +kernel
theorem dX10_basket_53 : decode cX10_basket 53 = .ok (.lconst 0, 1) := by decide +kernel
theorem dX10_basket_54 : decode cX10_basket 54 = .ok (.lastore, 1) := by decide +kernel
theorem dX10_basket_55 : decode cX10_basket 55 = .ok (.iinc 3 1, 3) := by decide +kernel
theorem dX10_basket_58 : decode cX10_basket 58 = .ok (.goto (-15), 3) := by decide +kernel
theorem dX10_basket_61 : decode cX10_basket 61 = .ok (.iconst 0, 1) := by decide +kernel
theorem dX10_basket_62 : decode cX10_basket 62 = .ok (.istore_n 3, 1) := by decide +kernel
theorem dX10_basket_63 : decode cX10_basket 63 = .ok (.iload_n 3, 1) := by decide +kernel
theorem dX10_basket_64 : decode cX10_basket 64 = .ok (.aload_n 0, 1) := by decide +kernel
theorem dX10_basket_65 : decode cX10_basket 65 = .ok (.getfield 205, 3) := by decide +kernel
theorem dX10_basket_68 : decode cX10_basket 68 = .ok (.if_icmp .ge 121, 3) := by decide +kernel
theorem dX10_basket_71 : decode cX10_basket 71 = .ok (.aload_n 0, 1) := by decide +kernel
theorem dX10_basket_72 : decode cX10_basket 72 = .ok (.getfield 38, 3) := by decide +kernel
theorem dX10_basket_75 : decode cX10_basket 75 = .ok (.iload_n 3, 1) := by decide +kernel
theorem dX10_basket_76 : decode cX10_basket 76 = .ok (.iaload, 1) := by decide +kernel
theorem dX10_basket_77 : decode cX10_basket 77 = .ok (.iconst (-1), 1) := by decide +kernel
theorem dX10_basket_78 : decode cX10_basket 78 = .ok (.if_icmp .ne 6, 3) := by decide +kernel
theorem dX10_basket_81 : decode cX10_basket 81 = .ok (.goto 102, 3) := by decide +kernel
theorem dX10_basket_84 : decode cX10_basket 84 = .ok (.aload_n 0, 1) := by decide +kernel
theorem dX10_basket_85 : decode cX10_basket 85 = .ok (.getfield 26, 3) := by decide +kernel
theorem dX10_basket_88 : decode cX10_basket 88 = .ok (.iconst 3, 1) := by decide +kernel
theorem dX10_basket_89 : decode cX10_basket 89 = .ok (.iload_n 3, 1) := by decide +kernel
theorem dX10_basket_90 : decode cX10_basket 90 = .ok (.imul, 1) := by decide +kernel
theorem dX10_basket_91 : decode cX10_basket 91 = .ok (.iconst 1, 1) := by decide +kernel
theorem dX10_basket_92 : decode cX10_basket 92 = .ok (.iadd, 1) := by decide +kernel
theorem dX10_basket_93 : decode cX10_basket 93 = .ok (.iaload, 1) := by decide +kernel
theorem dX10_basket_94 : decode cX10_basket 94 = .ok (.istore 4, 2) := by decide +kernel
theorem dX10_basket_96 : decode cX10_basket 96 = .ok (.aload_n 0, 1) := by decide +kernel
theorem dX10_basket_97 : decode cX10_basket 97 = .ok (.getfield 26, 3) := by decide +kernel
theorem dX10_basket_100 : decode cX10_basket 100 = .ok (.iconst 3, 1) := by decide +kernel
theorem dX10_basket_101 : decode cX10_basket 101 = .ok (.iload_n 3, 1) := by decide +kernel
theorem dX10_basket_102 : decode cX10_basket 102 = .ok (.imul, 1) := by decide +kernel
theorem dX10_basket_103 : decode cX10_basket 103 = .ok (.iconst 2, 1) := by decide +kernel
theorem dX10_basket_104 : decode cX10_basket 104 = .ok (.iadd, 1) := by decide +kernel
theorem dX10_basket_105 : decode cX10_basket 105 = .ok (.iaload, 1) := by decide +kernel
theorem dX10_basket_106 : decode cX10_basket 106 = .ok (.i2l, 1) := by decide +kernel
theorem dX10_basket_107 : decode cX10_basket 107 = .ok (.bipush 40, 2) := by decide +kernel
theorem dX10_basket_109 : decode cX10_basket 109 = .ok (.lshl, 1) := by decide +kernel
theorem dX10_basket_110 : decode cX10_basket 110 = .ok (.iload 4, 2) := by decide +kernel
theorem dX10_basket_112 : decode cX10_basket 112 = .ok (.i2l, 1) := by decide +kernel
theorem dX10_basket_113 : decode cX10_basket 113 = .ok (.bipush 26, 2) := by decide +kernel
theorem dX10_basket_115 : decode cX10_basket 115 = .ok (.lshl, 1) := by decide +kernel
theorem dX10_basket_116 : decode cX10_basket 116 = .ok (.lsub, 1) := by decide +kernel
theorem dX10_basket_117 : decode cX10_basket 117 = .ok (.lconst 1, 1) := by decide +kernel
theorem dX10_basket_118 : decode cX10_basket 118 = .ok (.iload_n 3, 1) := by decide +kernel
theorem dX10_basket_119 : decode cX10_basket 119 = .ok (.lshl, 1) := by decide +kernel
theorem dX10_basket_120 : decode cX10_basket 120 = .ok (.lsub, 1) := by decide +kernel
theorem dX10_basket_121 : decode cX10_basket 121 = .ok (.lstore 5, 2) := by decide +kernel
theorem dX10_basket_123 : decode cX10_basket 123 = .ok (.iload_n 1, 1) := by decide +kernel
theorem dX10_basket_124 : decode cX10_basket 124 = .ok (.istore 7, 2) := by decide +kernel
theorem dX10_basket_126 : decode cX10_basket 126 = .ok (.iload 7, 2) := by decide +kernel
theorem dX10_basket_128 : decode cX10_basket 128 = .ok (.iload 4, 2) := by decide +kernel
theorem dX10_basket_130 : decode cX10_basket 130 = .ok (.if_icmp .lt 53, 3) := by decide +kernel
theorem dX10_basket_133 : decode cX10_basket 133 = .ok (.aload_n 0, 1) := by decide +kernel
theorem dX10_basket_134 : decode cX10_basket 134 = .ok (.getfield 123, 3) := by decide +kernel
theorem dX10_basket_137 : decode cX10_basket 137 = .ok (.iload 7, 2) := by decide +kernel
theorem dX10_basket_139 : decode cX10_basket 139 = .ok (.iload 4, 2) := by decide +kernel
theorem dX10_basket_141 : decode cX10_basket 141 = .ok (.isub, 1) := by decide +kernel
theorem dX10_basket_142 : decode cX10_basket 142 = .ok (.laload, 1) := by decide +kernel
theorem dX10_basket_143 : decode cX10_basket 143 = .ok (.lload 5, 2) := by decide +kernel
theorem dX10_basket_145 : decode cX10_basket 145 = .ok (.ladd, 1) := by decide +kernel
theorem dX10_basket_146 : decode cX10_basket 146 = .ok (.aload_n 0, 1) := by decide +kernel
theorem dX10_basket_147 : decode cX10_basket 147 = .ok (.getfield 123, 3) := by decide +kernel
theorem dX10_basket_150 : decode cX10_basket 150 = .ok (.iload 7, 2) := by decide +kernel
theorem dX10_basket_152 : decode cX10_basket 152 = .ok (.laload, 1) := by decide +kernel
theorem dX10_basket_153 : decode cX10_basket 153 = .ok (.lcmp, 1) := by decide +kernel
theorem dX10_basket_154 : decode cX10_basket 154 = .ok (.ifCond .le 23, 3) := by decide +kernel
theorem dX10_basket_157 : decode cX10_basket 157 = .ok (.aload_n 0, 1) := by decide +kernel
theorem dX10_basket_158 : decode cX10_basket 158 = .ok (.getfield 123, 3) := by decide +kernel
theorem dX10_basket_161 : decode cX10_basket 161 = .ok (.iload 7, 2) := by decide +kernel
theorem dX10_basket_163 : decode cX10_basket 163 = .ok (.aload_n 0, 1) := by decide +kernel
theorem dX10_basket_164 : decode cX10_basket 164 = .ok (.getfield 123, 3) := by decide +kernel
theorem dX10_basket_167 : decode cX10_basket 167 = .ok (.iload 7, 2) := by decide +kernel
theorem dX10_basket_169 : decode cX10_basket 169 = .ok (.iload 4, 2) := by decide +kernel
theorem dX10_basket_171 : decode cX10_basket 171 = .ok (.isub, 1) := by decide +kernel
theorem dX10_basket_172 : decode cX10_basket 172 = .ok (.laload, 1) := by decide +kernel
theorem dX10_basket_173 : decode cX10_basket 173 = .ok (.lload 5, 2) := by decide +kernel
theorem dX10_basket_175 : decode cX10_basket 175 = .ok (.ladd, 1) := by decide +kernel
theorem dX10_basket_176 : decode cX10_basket 176 = .ok (.lastore, 1) := by decide +kernel
theorem dX10_basket_177 : decode cX10_basket 177 = .ok (.iinc 7 (-1), 3) := by decide +kernel
theorem dX10_basket_180 : decode cX10_basket 180 = .ok (.goto (-54), 3) := by decide +kernel
theorem dX10_basket_183 : decode cX10_basket 183 = .ok (.iinc 3 1, 3) := by decide +kernel
theorem dX10_basket_186 : decode cX10_basket 186 = .ok (.goto (-123), 3) := by decide +kernel
theorem dX10_basket_189 : decode cX10_basket 189 = .ok (.aload_n 0, 1) := by decide +kernel
theorem dX10_basket_190 : decode cX10_basket 190 = .ok (.getfield 123, 3) := by decide +kernel
theorem dX10_basket_193 : decode cX10_basket 193 = .ok (.iload_n 1, 1) := by decide +kernel
theorem dX10_basket_194 : decode cX10_basket 194 = .ok (.laload, 1) := by decide +kernel
theorem dX10_basket_195 : decode cX10_basket 195 = .ok (.lstore_n 3, 1) := by decide +kernel
theorem dX10_basket_196 : decode cX10_basket 196 = .ok (.lload_n 3, 1) := by decide +kernel
theorem dX10_basket_197 : decode cX10_basket 197 = .ok (.ldc2_w 394, 3) := by decide +kernel
theorem dX10_basket_200 : decode cX10_basket 200 = .ok (.ladd, 1) := by decide +kernel
theorem dX10_basket_201 : decode cX10_basket 201 = .ok (.bipush 40, 2) := by decide +kernel
theorem dX10_basket_203 : decode cX10_basket 203 = .ok (.lshr, 1) := by decide +kernel
theorem dX10_basket_204 : decode cX10_basket 204 = .ok (.lstore 5, 2) := by decide +kernel
theorem dX10_basket_206 : decode cX10_basket 206 = .ok (.lload 5, 2) := by decide +kernel
theorem dX10_basket_208 : decode cX10_basket 208 = .ok (.bipush 40, 2) := by decide +kernel
theorem dX10_basket_210 : decode cX10_basket 210 = .ok (.lshl, 1) := by decide +kernel
theorem dX10_basket_211 : decode cX10_basket 211 = .ok (.lload_n 3, 1) := by decide +kernel
theorem dX10_basket_212 : decode cX10_basket 212 = .ok (.lsub, 1) := by decide +kernel
theorem dX10_basket_213 : decode cX10_basket 213 = .ok (.lstore 7, 2) := by decide +kernel
theorem dX10_basket_215 : decode cX10_basket 215 = .ok (.iload_n 2, 1) := by decide +kernel
theorem dX10_basket_216 : decode cX10_basket 216 = .ok (.ifCond .ne 9, 3) := by decide +kernel
theorem dX10_basket_219 : decode cX10_basket 219 = .ok (.lload 5, 2) := by decide +kernel
theorem dX10_basket_221 : decode cX10_basket 221 = .ok (.l2i, 1) := by decide +kernel
theorem dX10_basket_222 : decode cX10_basket 222 = .ok (.goto 24, 3) := by decide +kernel
theorem dX10_basket_225 : decode cX10_basket 225 = .ok (.iload_n 2, 1) := by decide +kernel
theorem dX10_basket_226 : decode cX10_basket 226 = .ok (.iconst 1, 1) := by decide +kernel
theorem dX10_basket_227 : decode cX10_basket 227 = .ok (.if_icmp .ne 12, 3) := by decide +kernel
theorem dX10_basket_230 : decode cX10_basket 230 = .ok (.lload 7, 2) := by decide +kernel
theorem dX10_basket_232 : decode cX10_basket 232 = .ok (.bipush 26, 2) := by decide +kernel
theorem dX10_basket_234 : decode cX10_basket 234 = .ok (.lshr, 1) := by decide +kernel
theorem dX10_basket_235 : decode cX10_basket 235 = .ok (.l2i, 1) := by decide +kernel
theorem dX10_basket_236 : decode cX10_basket 236 = .ok (.goto 10, 3) := by decide +kernel
theorem dX10_basket_239 : decode cX10_basket 239 = .ok (.lload 7, 2) := by decide +kernel
theorem dX10_basket_241 : decode cX10_basket 241 = .ok (.ldc2_w 396, 3) := by decide +kernel
theorem dX10_basket_244 : decode cX10_basket 244 = .ok (.land, 1) := by decide +kernel
theorem dX10_basket_245 : decode cX10_basket 245 = .ok (.l2i, 1) := by decide +kernel
theorem dX10_basket_246 : decode cX10_basket 246 = .ok (.ireturn, 1) := by decide +kernel
theorem dX10_sort_0 : decode cX10_sort 0 = .ok (.aload_n 0, 1) := by decide +kernel
theorem dX10_sort_1 : decode cX10_sort 1 = .ok (.iconst 0, 1) := by decide +kernel
theorem dX10_sort_2 : decode cX10_sort 2 = .ok (.putfield 3, 3) := by decide +kernel
theorem dX10_sort_5 : decode cX10_sort 5 = .ok (.iconst 0, 1) := by decide +kernel
theorem dX10_sort_6 : decode cX10_sort 6 = .ok (.istore_n 1, 1) := by decide +kernel
theorem dX10_sort_7 : decode cX10_sort 7 = .ok (.iconst 0, 1) := by decide +kernel
theorem dX10_sort_8 : decode cX10_sort 8 = .ok (.istore_n 2, 1) := by decide +kernel
theorem dX10_sort_9 : decode cX10_sort 9 = .ok (.iload_n 2, 1) := by decide +kernel
theorem dX10_sort_10 : decode cX10_sort 10 = .ok (.aload_n 0, 1) := by decide +kernel
theorem dX10_sort_11 : decode cX10_sort 11 = .ok (.getfield 205, 3) := by decide +kernel
theorem dX10_sort_14 : decode cX10_sort 14 = .ok (.if_icmp .ge 54, 3) := by decide +kernel
theorem dX10_sort_17 : decode cX10_sort 17 = .ok (.aload_n 0, 1) := by decide +kernel
theorem dX10_sort_18 : decode cX10_sort 18 = .ok (.getfield 38, 3) := by decide +kernel
theorem dX10_sort_21 : decode cX10_sort 21 = .ok (.iload_n 2, 1) := by decide +kernel
theorem dX10_sort_22 : decode cX10_sort 22 = .ok (.iaload, 1) := by decide +kernel
theorem dX10_sort_23 : decode cX10_sort 23 = .ok (.iconst (-1), 1) := by decide +kernel
theorem dX10_sort_24 : decode cX10_sort 24 = .ok (.if_icmp .eq 38, 3) := by decide +kernel
theorem dX10_sort_27 : decode cX10_sort 27 = .ok (.aload_n 0, 1) := by decide +kernel
theorem dX10_sort_28 : decode cX10_sort 28 = .ok (.getfield 38, 3) := by decide +kernel
theorem dX10_sort_31 : decode cX10_sort 31 = .ok (.iload_n 2, 1) := by decide +kernel
theorem dX10_sort_32 : decode cX10_sort 32 = .ok (.iaload, 1) := by decide +kernel
theorem dX10_sort_33 : decode cX10_sort 33 = .ok (.aload_n 0, 1) := by decide +kernel
theorem dX10_sort_34 : decode cX10_sort 34 = .ok (.iload_n 2, 1) := by decide +kernel
theorem dX10_sort_35 : decode cX10_sort 35 = .ok (.invokevirtual 284, 3) := by decide +kernel
theorem dX10_sort_38 : decode cX10_sort 38 = .ok (.if_icmp .ne 6, 3) := by decide +kernel
theorem dX10_sort_41 : decode cX10_sort 41 = .ok (.goto 21, 3) := by decide +kernel
theorem dX10_sort_44 : decode cX10_sort 44 = .ok (.aload_n 0, 1) := by decide +kernel
theorem dX10_sort_45 : decode cX10_sort 45 = .ok (.iload_n 2, 1) := by decide +kernel
theorem dX10_sort_46 : decode cX10_sort 46 = .ok (.invokevirtual 296, 3) := by decide +kernel
theorem dX10_sort_49 : decode cX10_sort 49 = .ok (.aload_n 0, 1) := by decide +kernel
theorem dX10_sort_50 : decode cX10_sort 50 = .ok (.aload_n 0, 1) := by decide +kernel
theorem dX10_sort_51 : decode cX10_sort 51 = .ok (.iload_n 2, 1) := by decide +kernel
theorem dX10_sort_52 : decode cX10_sort 52 = .ok (.invokevirtual 284, 3) := by decide +kernel
theorem dX10_sort_55 : decode cX10_sort 55 = .ok (.iload_n 2, 1) := by decide +kernel
theorem dX10_sort_56 : decode cX10_sort 56 = .ok (.invokevirtual 211, 3) := by decide +kernel
theorem dX10_sort_59 : decode cX10_sort 59 = .ok (.iinc 1 1, 3) := by decide +kernel
theorem dX10_sort_62 : decode cX10_sort 62 = .ok (.iinc 2 1, 3) := by decide +kernel
theorem dX10_sort_65 : decode cX10_sort 65 = .ok (.goto (-56), 3) := by decide +kernel
theorem dX10_sort_68 : decode cX10_sort 68 = .ok (.iload_n 1, 1) := by decide +kernel
theorem dX10_sort_69 : decode cX10_sort 69 = .ok (.ireturn, 1) := by decide +kernel
theorem dX10_off_0 : decode cX10_off 0 = .ok (.aload_n 0, 1) := by decide +kernel
theorem dX10_off_1 : decode cX10_off 1 = .ok (.iconst 0, 1) := by decide +kernel
theorem dX10_off_2 : decode cX10_off 2 = .ok (.putfield 3, 3) := by decide +kernel
theorem dX10_off_5 : decode cX10_off 5 = .ok (.aload_n 0, 1) := by decide +kernel
theorem dX10_off_6 : decode cX10_off 6 = .ok (.invokevirtual 350, 3) := by decide +kernel
theorem dX10_off_9 : decode cX10_off 9 = .ok (.ireturn, 1) := by decide +kernel
theorem dX10_often_0 : decode cX10_often 0 = .ok (.aload_n 0, 1) := by decide +kernel
theorem dX10_often_1 : decode cX10_often 1 = .ok (.iconst 0, 1) := by decide +kernel
theorem dX10_often_2 : decode cX10_often 2 = .ok (.putfield 3, 3) := by decide +kernel
theorem dX10_often_5 : decode cX10_often 5 = .ok (.aload_n 0, 1) := by decide +kernel
theorem dX10_often_6 : decode cX10_often 6 = .ok (.iload_n 1, 1) := by decide +kernel
theorem dX10_often_7 : decode cX10_often 7 = .ok (.iconst 0, 1) := by decide +kernel
theorem dX10_often_8 : decode cX10_often 8 = .ok (.sipush 9999, 3) := by decide +kernel
theorem dX10_often_11 : decode cX10_often 11 = .ok (.invokestatic 273, 3) := by decide +kernel
theorem dX10_often_14 : decode cX10_often 14 = .ok (.ifCond .eq 37, 3) := by decide +kernel
theorem dX10_often_17 : decode cX10_often 17 = .ok (.iload_n 2, 1) := by decide +kernel
theorem dX10_often_18 : decode cX10_often 18 = .ok (.iconst 0, 1) := by decide +kernel
theorem dX10_often_19 : decode cX10_often 19 = .ok (.bipush 99, 2) := by decide +kernel
theorem dX10_often_21 : decode cX10_often 21 = .ok (.invokestatic 273, 3) := by decide +kernel
theorem dX10_often_24 : decode cX10_often 24 = .ok (.ifCond .eq 27, 3) := by decide +kernel
theorem dX10_often_27 : decode cX10_often 27 = .ok (.iload_n 3, 1) := by decide +kernel
theorem dX10_often_28 : decode cX10_often 28 = .ok (.iconst 0, 1) := by decide +kernel
theorem dX10_often_29 : decode cX10_often 29 = .ok (.bipush 99, 2) := by decide +kernel
theorem dX10_often_31 : decode cX10_often 31 = .ok (.invokestatic 273, 3) := by decide +kernel
theorem dX10_often_34 : decode cX10_often 34 = .ok (.ifCond .eq 17, 3) := by decide +kernel
theorem dX10_often_37 : decode cX10_often 37 = .ok (.iload 4, 2) := by decide +kernel
theorem dX10_often_39 : decode cX10_often 39 = .ok (.iconst 0, 1) := by decide +kernel
theorem dX10_often_40 : decode cX10_often 40 = .ok (.iconst 2, 1) := by decide +kernel
theorem dX10_often_41 : decode cX10_often 41 = .ok (.invokestatic 273, 3) := by decide +kernel
theorem dX10_often_44 : decode cX10_often 44 = .ok (.ifCond .eq 7, 3) := by decide +kernel
theorem dX10_often_47 : decode cX10_often 47 = .ok (.iconst 1, 1) := by decide +kernel
theorem dX10_often_48 : decode cX10_often 48 = .ok (.goto 4, 3) := by decide +kernel
theorem dX10_often_51 : decode cX10_often 51 = .ok (.iconst 0, 1) := by decide +kernel
theorem dX10_often_52 : decode cX10_often 52 = .ok (.iconst 1, 1) := by decide +kernel
theorem dX10_often_53 : decode cX10_often 53 = .ok (.iconst 2, 1) := by decide +kernel
theorem dX10_often_54 : decode cX10_often 54 = .ok (.invokevirtual 241, 3) := by decide +kernel
theorem dX10_often_57 : decode cX10_often 57 = .ok (.ifCond .ne 5, 3) := by decide +kernel
theorem dX10_often_60 : decode cX10_often 60 = .ok (.iconst 0, 1) := by decide +kernel
theorem dX10_often_61 : decode cX10_often 61 = .ok (.ireturn, 1) := by decide +kernel
theorem dX10_often_62 : decode cX10_often 62 = .ok (.iconst 1, 1) := by decide +kernel
theorem dX10_often_63 : decode cX10_often 63 = .ok (.istore 5, 2) := by decide +kernel
theorem dX10_often_65 : decode cX10_often 65 = .ok (.iconst 2, 1) := by decide +kernel
theorem dX10_often_66 : decode cX10_often 66 = .ok (.istore 6, 2) := by decide +kernel
theorem dX10_often_68 : decode cX10_often 68 = .ok (.iload 6, 2) := by decide +kernel
theorem dX10_often_70 : decode cX10_often 70 = .ok (.bipush 60, 2) := by decide +kernel
theorem dX10_often_72 : decode cX10_often 72 = .ok (.if_icmp .gt 41, 3) := by decide +kernel
theorem dX10_often_75 : decode cX10_often 75 = .ok (.iload 6, 2) := by decide +kernel
theorem dX10_often_77 : decode cX10_often 77 = .ok (.iload_n 1, 1) := by decide +kernel
theorem dX10_often_78 : decode cX10_often 78 = .ok (.iload_n 2, 1) := by decide +kernel
theorem dX10_often_79 : decode cX10_often 79 = .ok (.iload_n 3, 1) := by decide +kernel
theorem dX10_often_80 : decode cX10_often 80 = .ok (.invokestatic 398, 3) := by decide +kernel
theorem dX10_often_83 : decode cX10_often 83 = .ok (.iload 5, 2) := by decide +kernel
theorem dX10_often_85 : decode cX10_often 85 = .ok (.i2l, 1) := by decide +kernel
theorem dX10_often_86 : decode cX10_often 86 = .ok (.lmul, 1) := by decide +kernel
theorem dX10_often_87 : decode cX10_often 87 = .ok (.iload 5, 2) := by decide +kernel
theorem dX10_often_89 : decode cX10_often 89 = .ok (.iload_n 1, 1) := by decide +kernel
theorem dX10_often_90 : decode cX10_often 90 = .ok (.iload_n 2, 1) := by decide +kernel
theorem dX10_often_91 : decode cX10_often 91 = .ok (.iload_n 3, 1) := by decide +kernel
theorem dX10_often_92 : decode cX10_often 92 = .ok (.invokestatic 398, 3) := by decide +kernel
theorem dX10_often_95 : decode cX10_often 95 = .ok (.iload 6, 2) := by decide +kernel
theorem dX10_often_97 : decode cX10_often 97 = .ok (.i2l, 1) := by decide +kernel
theorem dX10_often_98 : decode cX10_often 98 = .ok (.lmul, 1) := by decide +kernel
theorem dX10_often_99 : decode cX10_often 99 = .ok (.lcmp, 1) := by decide +kernel
theorem dX10_often_100 : decode cX10_often 100 = .ok (.ifCond .ge 7, 3) := by decide +kernel
theorem dX10_often_103 : decode cX10_often 103 = .ok (.iload 6, 2) := by decide +kernel
theorem dX10_often_105 : decode cX10_often 105 = .ok (.istore 5, 2) := by decide +kernel
theorem dX10_often_107 : decode cX10_often 107 = .ok (.iinc 6 1, 3) := by decide +kernel
theorem dX10_often_110 : decode cX10_often 110 = .ok (.goto (-42), 3) := by decide +kernel
theorem dX10_often_113 : decode cX10_often 113 = .ok (.iload 4, 2) := by decide +kernel
theorem dX10_often_115 : decode cX10_often 115 = .ok (.ifCond .ne 8, 3) := by decide +kernel
theorem dX10_often_118 : decode cX10_often 118 = .ok (.iload 5, 2) := by decide +kernel
theorem dX10_often_120 : decode cX10_often 120 = .ok (.goto 26, 3) := by decide +kernel
theorem dX10_often_123 : decode cX10_often 123 = .ok (.iload 5, 2) := by decide +kernel
theorem dX10_often_125 : decode cX10_often 125 = .ok (.iload_n 1, 1) := by decide +kernel
theorem dX10_often_126 : decode cX10_often 126 = .ok (.iload_n 2, 1) := by decide +kernel
theorem dX10_often_127 : decode cX10_often 127 = .ok (.iload_n 3, 1) := by decide +kernel
theorem dX10_often_128 : decode cX10_often 128 = .ok (.invokestatic 398, 3) := by decide +kernel
theorem dX10_often_131 : decode cX10_often 131 = .ok (.ldc2_w 366, 3) := by decide +kernel
theorem dX10_often_134 : decode cX10_often 134 = .ok (.iload 5, 2) := by decide +kernel
theorem dX10_often_136 : decode cX10_often 136 = .ok (.i2l, 1) := by decide +kernel
theorem dX10_often_137 : decode cX10_often 137 = .ok (.lmul, 1) := by decide +kernel
theorem dX10_often_138 : decode cX10_often 138 = .ok (.iload 4, 2) := by decide +kernel
theorem dX10_often_140 : decode cX10_often 140 = .ok (.iconst 1, 1) := by decide +kernel
theorem dX10_often_141 : decode cX10_often 141 = .ok (.isub, 1) := by decide +kernel
theorem dX10_often_142 : decode cX10_often 142 = .ok (.invokestatic 375, 3) := by decide +kernel
theorem dX10_often_145 : decode cX10_often 145 = .ok (.l2i, 1) := by decide +kernel
theorem dX10_often_146 : decode cX10_often 146 = .ok (.ireturn, 1) := by decide +kernel
theorem dX10_twice_0 : decode cX10_twice 0 = .ok (.ldc2_w 366, 3) := by decide +kernel
theorem dX10_twice_3 : decode cX10_twice 3 = .ok (.iload_n 1, 1) := by decide +kernel
theorem dX10_twice_4 : decode cX10_twice 4 = .ok (.i2l, 1) := by decide +kernel
theorem dX10_twice_5 : decode cX10_twice 5 = .ok (.lmul, 1) := by decide +kernel
theorem dX10_twice_6 : decode cX10_twice 6 = .ok (.ldc2_w 366, 3) := by decide +kernel
theorem dX10_twice_9 : decode cX10_twice 9 = .ok (.iload_n 2, 1) := by decide +kernel
theorem dX10_twice_10 : decode cX10_twice 10 = .ok (.i2l, 1) := by decide +kernel
theorem dX10_twice_11 : decode cX10_twice 11 = .ok (.lmul, 1) := by decide +kernel
theorem dX10_twice_12 : decode cX10_twice 12 = .ok (.iload_n 0, 1) := by decide +kernel
theorem dX10_twice_13 : decode cX10_twice 13 = .ok (.i2l, 1) := by decide +kernel
theorem dX10_twice_14 : decode cX10_twice 14 = .ok (.lmul, 1) := by decide +kernel
theorem dX10_twice_15 : decode cX10_twice 15 = .ok (.ladd, 1) := by decide +kernel
theorem dX10_twice_16 : decode cX10_twice 16 = .ok (.iload_n 3, 1) := by decide +kernel
theorem dX10_twice_17 : decode cX10_twice 17 = .ok (.i2l, 1) := by decide +kernel
theorem dX10_twice_18 : decode cX10_twice 18 = .ok (.iload_n 2, 1) := by decide +kernel
theorem dX10_twice_19 : decode cX10_twice 19 = .ok (.i2l, 1) := by decide +kernel
theorem dX10_twice_20 : decode cX10_twice 20 = .ok (.lmul, 1) := by decide +kernel
theorem dX10_twice_21 : decode cX10_twice 21 = .ok (.iload_n 0, 1) := by decide +kernel
theorem dX10_twice_22 : decode cX10_twice 22 = .ok (.i2l, 1) := by decide +kernel
theorem dX10_twice_23 : decode cX10_twice 23 = .ok (.lmul, 1) := by decide +kernel
theorem dX10_twice_24 : decode cX10_twice 24 = .ok (.iload_n 0, 1) := by decide +kernel
theorem dX10_twice_25 : decode cX10_twice 25 = .ok (.iconst 1, 1) := by decide +kernel
theorem dX10_twice_26 : decode cX10_twice 26 = .ok (.isub, 1) := by decide +kernel
theorem dX10_twice_27 : decode cX10_twice 27 = .ok (.i2l, 1) := by decide +kernel
theorem dX10_twice_28 : decode cX10_twice 28 = .ok (.lmul, 1) := by decide +kernel
theorem dX10_twice_29 : decode cX10_twice 29 = .ok (.ladd, 1) := by decide +kernel
theorem dX10_twice_30 : decode cX10_twice 30 = .ok (.lreturn, 1) := by decide +kernel
theorem dX10_findChanges_0 : decode cX10_findChanges 0 = .ok (.iconst 0, 1) := by decide +kernel
theorem dX10_findChanges_1 : decode cX10_findChanges 1 = .ok (.istore_n 1, 1) := by decide +kernel
theorem dX10_findChanges_2 : decode cX10_findChanges 2 = .ok (.iload_n 1, 1) := by decide +kernel
theorem dX10_findChanges_3 : decode cX10_findChanges 3 = .ok (.aload_n 0, 1) := by decide +kernel
theorem dX10_findChanges_4 : decode cX10_findChanges 4 = .ok (.getfield 205, 3) := by decide +kernel
theorem dX10_findChanges_7 : decode cX10_findChanges 7 = .ok (.if_icmp .ge 21, 3) := by decide +kernel
theorem dX10_findChanges_10 : decode cX10_findChanges 10 = .ok (.aload_n 0, 1) := by decide +kernel
theorem dX10_findChanges_11 : decode cX10_findChanges 11 = .ok (.getfield 126, 3) := by decide +kernel
theorem dX10_findChanges_14 : decode cX10_findChanges 14 = .ok (.iload_n 1, 1) := by decide +kernel
theorem dX10_findChanges_15 : decode cX10_findChanges 15 = .ok (.aload_n 0, 1) := by decide +kernel
theorem dX10_findChanges_16 : decode cX10_findChanges 16 = .ok (.getfield 41, 3) := by decide +kernel
theorem dX10_findChanges_19 : decode cX10_findChanges 19 = .ok (.iload_n 1, 1) := by decide +kernel
theorem dX10_findChanges_20 : decode cX10_findChanges 20 = .ok (.iaload, 1) := by decide +kernel
theorem dX10_findChanges_21 : decode cX10_findChanges 21 = .ok (.iastore, 1) := by decide +kernel
theorem dX10_findChanges_22 : decode cX10_findChanges 22 = .ok (.iinc 1 1, 3) := by decide +kernel
theorem dX10_findChanges_25 : decode cX10_findChanges 25 = .ok (.goto (-23), 3) := by decide +kernel
theorem dX10_findChanges_28 : decode cX10_findChanges 28 = .ok (.aload_n 0, 1) := by decide +kernel
theorem dX10_findChanges_29 : decode cX10_findChanges 29 = .ok (.iconst 0, 1) := by decide +kernel
theorem dX10_findChanges_30 : decode cX10_findChanges 30 = .ok (.putfield 402, 3) := by decide +kernel
theorem dX10_findChanges_33 : decode cX10_findChanges 33 = .ok (.iconst 0, 1) := by decide +kernel
theorem dX10_findChanges_34 : decode cX10_findChanges 34 = .ok (.istore_n 1, 1) := by decide +kernel
theorem dX10_findChanges_35 : decode cX10_findChanges 35 = .ok (.iload_n 1, 1) := by decide +kernel
theorem dX10_findChanges_36 : decode cX10_findChanges 36 = .ok (.aload_n 0, 1) := by decide +kernel
theorem dX10_findChanges_37 : decode cX10_findChanges 37 = .ok (.getfield 205, 3) := by decide +kernel
theorem dX10_findChanges_40 : decode cX10_findChanges 40 = .ok (.if_icmp .ge 84, 3) := by decide +kernel
theorem dX10_findChanges_43 : decode cX10_findChanges 43 = .ok (.aload_n 0, 1) := by decide +kernel
theorem dX10_findChanges_44 : decode cX10_findChanges 44 = .ok (.getfield 126, 3) := by decide +kernel
theorem dX10_findChanges_47 : decode cX10_findChanges 47 = .ok (.iload_n 1, 1) := by decide +kernel
theorem dX10_findChanges_48 : decode cX10_findChanges 48 = .ok (.iaload, 1) := by decide +kernel
theorem dX10_findChanges_49 : decode cX10_findChanges 49 = .ok (.iload_n 1, 1) := by decide +kernel
theorem dX10_findChanges_50 : decode cX10_findChanges 50 = .ok (.if_icmp .ne 6, 3) := by decide +kernel
theorem dX10_findChanges_53 : decode cX10_findChanges 53 = .ok (.goto 65, 3) := by decide +kernel
theorem dX10_findChanges_56 : decode cX10_findChanges 56 = .ok (.iconst 0, 1) := by decide +kernel
theorem dX10_findChanges_57 : decode cX10_findChanges 57 = .ok (.istore_n 2, 1) := by decide +kernel
theorem dX10_findChanges_58 : decode cX10_findChanges 58 = .ok (.aload_n 0, 1) := by decide +kernel
theorem dX10_findChanges_59 : decode cX10_findChanges 59 = .ok (.getfield 126, 3) := by decide +kernel
theorem dX10_findChanges_62 : decode cX10_findChanges 62 = .ok (.iload_n 2, 1) := by decide +kernel
theorem dX10_findChanges_63 : decode cX10_findChanges 63 = .ok (.iaload, 1) := by decide +kernel
theorem dX10_findChanges_64 : decode cX10_findChanges 64 = .ok (.iload_n 1, 1) := by decide +kernel
theorem dX10_findChanges_65 : decode cX10_findChanges 65 = .ok (.if_icmp .eq 9, 3) := by decide +kernel
theorem dX10_findChanges_68 : decode cX10_findChanges 68 = .ok (.iinc 2 1, 3) := by decide +kernel
theorem dX10_findChanges_71 : decode cX10_findChanges 71 = .ok (.goto (-13), 3) := by decide +kernel
theorem dX10_findChanges_74 : decode cX10_findChanges 74 = .ok (.aload_n 0, 1) := by decide +kernel
theorem dX10_findChanges_75 : decode cX10_findChanges 75 = .ok (.getfield 129, 3) := by decide +kernel
theorem dX10_findChanges_78 : decode cX10_findChanges 78 = .ok (.aload_n 0, 1) := by decide +kernel
theorem dX10_findChanges_79 : decode cX10_findChanges 79 = .ok (.getfield 402, 3) := by decide +kernel
theorem dX10_findChanges_82 : decode cX10_findChanges 82 = .ok (.bipush 100, 2) := by decide +kernel
theorem dX10_findChanges_84 : decode cX10_findChanges 84 = .ok (.iload_n 1, 1) := by decide +kernel
theorem dX10_findChanges_85 : decode cX10_findChanges 85 = .ok (.imul, 1) := by decide +kernel
theorem dX10_findChanges_86 : decode cX10_findChanges 86 = .ok (.iload_n 2, 1) := by decide +kernel
theorem dX10_findChanges_87 : decode cX10_findChanges 87 = .ok (.iadd, 1) := by decide +kernel
theorem dX10_findChanges_88 : decode cX10_findChanges 88 = .ok (.iastore, 1) := by decide +kernel
theorem dX10_findChanges_89 : decode cX10_findChanges 89 = .ok (.aload_n 0, 1) := by decide +kernel
theorem dX10_findChanges_90 : decode cX10_findChanges 90 = .ok (.dup, 1) := by decide +kernel
theorem dX10_findChanges_91 : decode cX10_findChanges 91 = .ok (.getfield 402, 3) := by decide +kernel
theorem dX10_findChanges_94 : decode cX10_findChanges 94 = .ok (.iconst 1, 1) := by decide +kernel
theorem dX10_findChanges_95 : decode cX10_findChanges 95 = .ok (.iadd, 1) := by decide +kernel
theorem dX10_findChanges_96 : decode cX10_findChanges 96 = .ok (.putfield 402, 3) := by decide +kernel
theorem dX10_findChanges_99 : decode cX10_findChanges 99 = .ok (.aload_n 0, 1) := by decide +kernel
theorem dX10_findChanges_100 : decode cX10_findChanges 100 = .ok (.getfield 126, 3) := by decide +kernel
theorem dX10_findChanges_103 : decode cX10_findChanges 103 = .ok (.iload_n 2, 1) := by decide +kernel
theorem dX10_findChanges_104 : decode cX10_findChanges 104 = .ok (.aload_n 0, 1) := by decide +kernel
theorem dX10_findChanges_105 : decode cX10_findChanges 105 = .ok (.getfield 126, 3) := by decide +kernel
theorem dX10_findChanges_108 : decode cX10_findChanges 108 = .ok (.iload_n 1, 1) := by decide +kernel
theorem dX10_findChanges_109 : decode cX10_findChanges 109 = .ok (.iaload, 1) := by decide +kernel
theorem dX10_findChanges_110 : decode cX10_findChanges 110 = .ok (.iastore, 1) := by decide +kernel
theorem dX10_findChanges_111 : decode cX10_findChanges 111 = .ok (.aload_n 0, 1) := by decide +kernel
theorem dX10_findChanges_112 : decode cX10_findChanges 112 = .ok (.getfield 126, 3) := by decide +kernel
theorem dX10_findChanges_115 : decode cX10_findChanges 115 = .ok (.iload_n 1, 1) := by decide +kernel
theorem dX10_findChanges_116 : decode cX10_findChanges 116 = .ok (.iload_n 1, 1) := by decide +kernel
theorem dX10_findChanges_117 : decode cX10_findChanges 117 = .ok (.iastore, 1) := by decide +kernel
theorem dX10_findChanges_118 : decode cX10_findChanges 118 = .ok (.iinc 1 1, 3) := by decide +kernel
theorem dX10_findChanges_121 : decode cX10_findChanges 121 = .ok (.goto (-86), 3) := by decide +kernel
theorem dX10_findChanges_124 : decode cX10_findChanges 124 = .ok (.return_, 1) := by decide +kernel
theorem dX10_changes_0 : decode cX10_changes 0 = .ok (.aload_n 0, 1) := by decide +kernel
theorem dX10_changes_1 : decode cX10_changes 1 = .ok (.iconst 0, 1) := by decide +kernel
theorem dX10_changes_2 : decode cX10_changes 2 = .ok (.putfield 3, 3) := by decide +kernel
theorem dX10_changes_5 : decode cX10_changes 5 = .ok (.aload_n 0, 1) := by decide +kernel
theorem dX10_changes_6 : decode cX10_changes 6 = .ok (.invokevirtual 405, 3) := by decide +kernel
theorem dX10_changes_9 : decode cX10_changes 9 = .ok (.aload_n 0, 1) := by decide +kernel
theorem dX10_changes_10 : decode cX10_changes 10 = .ok (.getfield 402, 3) := by decide +kernel
theorem dX10_changes_13 : decode cX10_changes 13 = .ok (.ireturn, 1) := by decide +kernel
theorem dX10_changed_0 : decode cX10_changed 0 = .ok (.aload_n 0, 1) := by decide +kernel
theorem dX10_changed_1 : decode cX10_changed 1 = .ok (.iconst 0, 1) := by decide +kernel
theorem dX10_changed_2 : decode cX10_changed 2 = .ok (.putfield 3, 3) := by decide +kernel
theorem dX10_changed_5 : decode cX10_changed 5 = .ok (.aload_n 0, 1) := by decide +kernel
theorem dX10_changed_6 : decode cX10_changed 6 = .ok (.invokevirtual 405, 3) := by decide +kernel
theorem dX10_changed_9 : decode cX10_changed 9 = .ok (.iload_n 1, 1) := by decide +kernel
theorem dX10_changed_10 : decode cX10_changed 10 = .ok (.iconst 0, 1) := by decide +kernel
theorem dX10_changed_11 : decode cX10_changed 11 = .ok (.aload_n 0, 1) := by decide +kernel
theorem dX10_changed_12 : decode cX10_changed 12 = .ok (.getfield 402, 3) := by decide +kernel
theorem dX10_changed_15 : decode cX10_changed 15 = .ok (.iconst 1, 1) := by decide +kernel
theorem dX10_changed_16 : decode cX10_changed 16 = .ok (.isub, 1) := by decide +kernel
theorem dX10_changed_17 : decode cX10_changed 17 = .ok (.invokestatic 273, 3) := by decide +kernel
theorem dX10_changed_20 : decode cX10_changed 20 = .ok (.ifCond .eq 12, 3) := by decide +kernel
theorem dX10_changed_23 : decode cX10_changed 23 = .ok (.aload_n 0, 1) := by decide +kernel
theorem dX10_changed_24 : decode cX10_changed 24 = .ok (.getfield 129, 3) := by decide +kernel
theorem dX10_changed_27 : decode cX10_changed 27 = .ok (.iload_n 1, 1) := by decide +kernel
theorem dX10_changed_28 : decode cX10_changed 28 = .ok (.iaload, 1) := by decide +kernel
theorem dX10_changed_29 : decode cX10_changed 29 = .ok (.goto 4, 3) := by decide +kernel
theorem dX10_changed_32 : decode cX10_changed 32 = .ok (.iconst (-1), 1) := by decide +kernel
theorem dX10_changed_33 : decode cX10_changed 33 = .ok (.ireturn, 1) := by decide +kernel
theorem dX10_divider_0 : decode cX10_divider 0 = .ok (.aload_n 0, 1) := by decide +kernel
theorem dX10_divider_1 : decode cX10_divider 1 = .ok (.iconst 0, 1) := by decide +kernel
theorem dX10_divider_2 : decode cX10_divider 2 = .ok (.putfield 3, 3) := by decide +kernel
theorem dX10_divider_5 : decode cX10_divider 5 = .ok (.iload_n 1, 1) := by decide +kernel
theorem dX10_divider_6 : decode cX10_divider 6 = .ok (.iconst 0, 1) := by decide +kernel
theorem dX10_divider_7 : decode cX10_divider 7 = .ok (.aload_n 0, 1) := by decide +kernel
theorem dX10_divider_8 : decode cX10_divider 8 = .ok (.getfield 202, 3) := by decide +kernel
theorem dX10_divider_11 : decode cX10_divider 11 = .ok (.iconst 1, 1) := by decide +kernel
theorem dX10_divider_12 : decode cX10_divider 12 = .ok (.isub, 1) := by decide +kernel
theorem dX10_divider_13 : decode cX10_divider 13 = .ok (.invokestatic 273, 3) := by decide +kernel
theorem dX10_divider_16 : decode cX10_divider 16 = .ok (.ifCond .eq 12, 3) := by decide +kernel
theorem dX10_divider_19 : decode cX10_divider 19 = .ok (.aload_n 0, 1) := by decide +kernel
theorem dX10_divider_20 : decode cX10_divider 20 = .ok (.getfield 74, 3) := by decide +kernel
theorem dX10_divider_23 : decode cX10_divider 23 = .ok (.iload_n 1, 1) := by decide +kernel
theorem dX10_divider_24 : decode cX10_divider 24 = .ok (.iaload, 1) := by decide +kernel
theorem dX10_divider_25 : decode cX10_divider 25 = .ok (.goto 4, 3) := by decide +kernel
theorem dX10_divider_28 : decode cX10_divider 28 = .ok (.iconst (-1), 1) := by decide +kernel
theorem dX10_divider_29 : decode cX10_divider 29 = .ok (.ireturn, 1) := by decide +kernel
theorem dX10_ones_0 : decode cX10_ones 0 = .ok (.iconst 0, 1) := by decide +kernel
theorem dX10_ones_1 : decode cX10_ones 1 = .ok (.istore_n 1, 1) := by decide +kernel
theorem dX10_ones_2 : decode cX10_ones 2 = .ok (.iload_n 0, 1) := by decide +kernel
theorem dX10_ones_3 : decode cX10_ones 3 = .ok (.istore_n 2, 1) := by decide +kernel
theorem dX10_ones_4 : decode cX10_ones 4 = .ok (.iload_n 2, 1) := by decide +kernel
theorem dX10_ones_5 : decode cX10_ones 5 = .ok (.ifCond .eq 15, 3) := by decide +kernel
theorem dX10_ones_8 : decode cX10_ones 8 = .ok (.iinc 1 1, 3) := by decide +kernel
theorem dX10_ones_11 : decode cX10_ones 11 = .ok (.iload_n 2, 1) := by decide +kernel
theorem dX10_ones_12 : decode cX10_ones 12 = .ok (.iload_n 2, 1) := by decide +kernel
theorem dX10_ones_13 : decode cX10_ones 13 = .ok (.iconst 1, 1) := by decide +kernel
theorem dX10_ones_14 : decode cX10_ones 14 = .ok (.isub, 1) := by decide +kernel
theorem dX10_ones_15 : decode cX10_ones 15 = .ok (.iand, 1) := by decide +kernel
theorem dX10_ones_16 : decode cX10_ones 16 = .ok (.istore_n 2, 1) := by decide +kernel
theorem dX10_ones_17 : decode cX10_ones 17 = .ok (.goto (-13), 3) := by decide +kernel
theorem dX10_ones_20 : decode cX10_ones 20 = .ok (.iload_n 1, 1) := by decide +kernel
theorem dX10_ones_21 : decode cX10_ones 21 = .ok (.ireturn, 1) := by decide +kernel
theorem dX10_mayStay_0 : decode cX10_mayStay 0 = .ok (.iconst (-1), 1) := by decide +kernel
theorem dX10_mayStay_1 : decode cX10_mayStay 1 = .ok (.istore_n 2, 1) := by decide +kernel
theorem dX10_mayStay_2 : decode cX10_mayStay 2 = .ok (.iconst 0, 1) := by decide +kernel
theorem dX10_mayStay_3 : decode cX10_mayStay 3 = .ok (.istore_n 3, 1) := by decide +kernel
theorem dX10_mayStay_4 : decode cX10_mayStay 4 = .ok (.iload_n 3, 1) := by decide +kernel
theorem dX10_mayStay_5 : decode cX10_mayStay 5 = .ok (.aload_n 0, 1) := by decide +kernel
theorem dX10_mayStay_6 : decode cX10_mayStay 6 = .ok (.getfield 202, 3) := by decide +kernel
theorem dX10_mayStay_9 : decode cX10_mayStay 9 = .ok (.if_icmp .ge 44, 3) := by decide +kernel
theorem dX10_mayStay_12 : decode cX10_mayStay 12 = .ok (.iload_n 1, 1) := by decide +kernel
theorem dX10_mayStay_13 : decode cX10_mayStay 13 = .ok (.aload_n 0, 1) := by decide +kernel
theorem dX10_mayStay_14 : decode cX10_mayStay 14 = .ok (.getfield 74, 3) := by decide +kernel
theorem dX10_mayStay_17 : decode cX10_mayStay 17 = .ok (.iload_n 3, 1) := by decide +kernel
theorem dX10_mayStay_18 : decode cX10_mayStay 18 = .ok (.iaload, 1) := by decide +kernel
theorem dX10_mayStay_19 : decode cX10_mayStay 19 = .ok (.ishr, 1) := by decide +kernel
theorem dX10_mayStay_20 : decode cX10_mayStay 20 = .ok (.iconst 1, 1) := by decide +kernel
theorem dX10_mayStay_21 : decode cX10_mayStay 21 = .ok (.iand, 1) := by decide +kernel
theorem dX10_mayStay_22 : decode cX10_mayStay 22 = .ok (.ifCond .ne 6, 3) := by decide +kernel
theorem dX10_mayStay_25 : decode cX10_mayStay 25 = .ok (.goto 22, 3) := by decide +kernel
theorem dX10_mayStay_28 : decode cX10_mayStay 28 = .ok (.aload_n 0, 1) := by decide +kernel
theorem dX10_mayStay_29 : decode cX10_mayStay 29 = .ok (.getfield 74, 3) := by decide +kernel
theorem dX10_mayStay_32 : decode cX10_mayStay 32 = .ok (.iload_n 3, 1) := by decide +kernel
theorem dX10_mayStay_33 : decode cX10_mayStay 33 = .ok (.iaload, 1) := by decide +kernel
theorem dX10_mayStay_34 : decode cX10_mayStay 34 = .ok (.iload_n 2, 1) := by decide +kernel
theorem dX10_mayStay_35 : decode cX10_mayStay 35 = .ok (.if_icmp .ge 5, 3) := by decide +kernel
theorem dX10_mayStay_38 : decode cX10_mayStay 38 = .ok (.iconst 0, 1) := by decide +kernel
theorem dX10_mayStay_39 : decode cX10_mayStay 39 = .ok (.ireturn, 1) := by decide +kernel
theorem dX10_mayStay_40 : decode cX10_mayStay 40 = .ok (.aload_n 0, 1) := by decide +kernel
theorem dX10_mayStay_41 : decode cX10_mayStay 41 = .ok (.getfield 74, 3) := by decide +kernel
theorem dX10_mayStay_44 : decode cX10_mayStay 44 = .ok (.iload_n 3, 1) := by decide +kernel
theorem dX10_mayStay_45 : decode cX10_mayStay 45 = .ok (.iaload, 1) := by decide +kernel
theorem dX10_mayStay_46 : decode cX10_mayStay 46 = .ok (.istore_n 2, 1) := by decide +kernel
theorem dX10_mayStay_47 : decode cX10_mayStay 47 = .ok (.iinc 3 1, 3) := by decide +kernel
theorem dX10_mayStay_50 : decode cX10_mayStay 50 = .ok (.goto (-46), 3) := by decide +kernel
theorem dX10_mayStay_53 : decode cX10_mayStay 53 = .ok (.iconst 1, 1) := by decide +kernel
theorem dX10_mayStay_54 : decode cX10_mayStay 54 = .ok (.ireturn, 1) := by decide +kernel
theorem dX10_moves_0 : decode cX10_moves 0 = .ok (.aload_n 0, 1) := by decide +kernel
theorem dX10_moves_1 : decode cX10_moves 1 = .ok (.iconst 0, 1) := by decide +kernel
theorem dX10_moves_2 : decode cX10_moves 2 = .ok (.putfield 3, 3) := by decide +kernel
theorem dX10_moves_5 : decode cX10_moves 5 = .ok (.aload_n 0, 1) := by decide +kernel
theorem dX10_moves_6 : decode cX10_moves 6 = .ok (.iload_n 1, 1) := by decide +kernel
theorem dX10_moves_7 : decode cX10_moves 7 = .ok (.iconst 0, 1) := by decide +kernel
theorem dX10_moves_8 : decode cX10_moves 8 = .ok (.iconst 1, 1) := by decide +kernel
theorem dX10_moves_9 : decode cX10_moves 9 = .ok (.invokestatic 273, 3) := by decide +kernel
theorem dX10_moves_12 : decode cX10_moves 12 = .ok (.iconst 1, 1) := by decide +kernel
theorem dX10_moves_13 : decode cX10_moves 13 = .ok (.iconst 2, 1) := by decide +kernel
theorem dX10_moves_14 : decode cX10_moves 14 = .ok (.invokevirtual 241, 3) := by decide +kernel
theorem dX10_moves_17 : decode cX10_moves 17 = .ok (.ifCond .ne 5, 3) := by decide +kernel
theorem dX10_moves_20 : decode cX10_moves 20 = .ok (.iconst 0, 1) := by decide +kernel
theorem dX10_moves_21 : decode cX10_moves 21 = .ok (.ireturn, 1) := by decide +kernel
theorem dX10_moves_22 : decode cX10_moves 22 = .ok (.iconst 0, 1) := by decide +kernel
theorem dX10_moves_23 : decode cX10_moves 23 = .ok (.istore_n 2, 1) := by decide +kernel
theorem dX10_moves_24 : decode cX10_moves 24 = .ok (.iconst 1, 1) := by decide +kernel
theorem dX10_moves_25 : decode cX10_moves 25 = .ok (.istore_n 3, 1) := by decide +kernel
theorem dX10_moves_26 : decode cX10_moves 26 = .ok (.iload_n 3, 1) := by decide +kernel
theorem dX10_moves_27 : decode cX10_moves 27 = .ok (.iconst 1, 1) := by decide +kernel
theorem dX10_moves_28 : decode cX10_moves 28 = .ok (.aload_n 0, 1) := by decide +kernel
theorem dX10_moves_29 : decode cX10_moves 29 = .ok (.getfield 202, 3) := by decide +kernel
theorem dX10_moves_32 : decode cX10_moves 32 = .ok (.ishl, 1) := by decide +kernel
theorem dX10_moves_33 : decode cX10_moves 33 = .ok (.if_icmp .ge 30, 3) := by decide +kernel
theorem dX10_moves_36 : decode cX10_moves 36 = .ok (.iload_n 3, 1) := by decide +kernel
theorem dX10_moves_37 : decode cX10_moves 37 = .ok (.invokestatic 408, 3) := by decide +kernel
theorem dX10_moves_40 : decode cX10_moves 40 = .ok (.iload_n 2, 1) := by decide +kernel
theorem dX10_moves_41 : decode cX10_moves 41 = .ok (.invokestatic 408, 3) := by decide +kernel
theorem dX10_moves_44 : decode cX10_moves 44 = .ok (.if_icmp .le 13, 3) := by decide +kernel
theorem dX10_moves_47 : decode cX10_moves 47 = .ok (.aload_n 0, 1) := by decide +kernel
theorem dX10_moves_48 : decode cX10_moves 48 = .ok (.iload_n 3, 1) := by decide +kernel
theorem dX10_moves_49 : decode cX10_moves 49 = .ok (.invokevirtual 411, 3) := by decide +kernel
theorem dX10_moves_52 : decode cX10_moves 52 = .ok (.ifCond .eq 5, 3) := by decide +kernel
theorem dX10_moves_55 : decode cX10_moves 55 = .ok (.iload_n 3, 1) := by decide +kernel
theorem dX10_moves_56 : decode cX10_moves 56 = .ok (.istore_n 2, 1) := by decide +kernel
theorem dX10_moves_57 : decode cX10_moves 57 = .ok (.iinc 3 1, 3) := by decide +kernel
theorem dX10_moves_60 : decode cX10_moves 60 = .ok (.goto (-34), 3) := by decide +kernel
theorem dX10_moves_63 : decode cX10_moves 63 = .ok (.iload_n 1, 1) := by decide +kernel
theorem dX10_moves_64 : decode cX10_moves 64 = .ok (.ifCond .ne 15, 3) := by decide +kernel
theorem dX10_moves_67 : decode cX10_moves 67 = .ok (.aload_n 0, 1) := by decide +kernel
theorem dX10_moves_68 : decode cX10_moves 68 = .ok (.getfield 202, 3) := by decide +kernel
theorem dX10_moves_71 : decode cX10_moves 71 = .ok (.iload_n 2, 1) := by decide +kernel
theorem dX10_moves_72 : decode cX10_moves 72 = .ok (.invokestatic 408, 3) := by decide +kernel
theorem dX10_moves_75 : decode cX10_moves 75 = .ok (.isub, 1) := by decide +kernel
theorem dX10_moves_76 : decode cX10_moves 76 = .ok (.goto 4, 3) := by decide +kernel
theorem dX10_moves_79 : decode cX10_moves 79 = .ok (.iload_n 2, 1) := by decide +kernel
theorem dX10_moves_80 : decode cX10_moves 80 = .ok (.ireturn, 1) := by decide +kernel
theorem dX10_gets_0 : decode cX10_gets 0 = .ok (.iload_n 3, 1) := by decide +kernel
theorem dX10_gets_1 : decode cX10_gets 1 = .ok (.istore 6, 2) := by decide +kernel
theorem dX10_gets_3 : decode cX10_gets 3 = .ok (.iconst 0, 1) := by decide +kernel
theorem dX10_gets_4 : decode cX10_gets 4 = .ok (.istore 7, 2) := by decide +kernel
theorem dX10_gets_6 : decode cX10_gets 6 = .ok (.iconst 0, 1) := by decide +kernel
theorem dX10_gets_7 : decode cX10_gets 7 = .ok (.istore 8, 2) := by decide +kernel
theorem dX10_gets_9 : decode cX10_gets 9 = .ok (.iload 8, 2) := by decide +kernel
theorem dX10_gets_11 : decode cX10_gets 11 = .ok (.iload_n 2, 1) := by decide +kernel
theorem dX10_gets_12 : decode cX10_gets 12 = .ok (.if_icmp .ge 55, 3) := by decide +kernel
theorem dX10_gets_15 : decode cX10_gets 15 = .ok (.aload_n 0, 1) := by decide +kernel
theorem dX10_gets_16 : decode cX10_gets 16 = .ok (.getfield 132, 3) := by decide +kernel
theorem dX10_gets_19 : decode cX10_gets 19 = .ok (.iload 8, 2) := by decide +kernel
theorem dX10_gets_21 : decode cX10_gets 21 = .ok (.iaload, 1) := by decide +kernel
theorem dX10_gets_22 : decode cX10_gets 22 = .ok (.iload 6, 2) := by decide +kernel
theorem dX10_gets_24 : decode cX10_gets 24 = .ok (.if_icmp .ge 15, 3) := by decide +kernel
theorem dX10_gets_27 : decode cX10_gets 27 = .ok (.aload_n 0, 1) := by decide +kernel
theorem dX10_gets_28 : decode cX10_gets 28 = .ok (.getfield 132, 3) := by decide +kernel
theorem dX10_gets_31 : decode cX10_gets 31 = .ok (.iload 8, 2) := by decide +kernel
theorem dX10_gets_33 : decode cX10_gets 33 = .ok (.iaload, 1) := by decide +kernel
theorem dX10_gets_34 : decode cX10_gets 34 = .ok (.istore 6, 2) := by decide +kernel
theorem dX10_gets_36 : decode cX10_gets 36 = .ok (.iconst 0, 1) := by decide +kernel
theorem dX10_gets_37 : decode cX10_gets 37 = .ok (.istore 7, 2) := by decide +kernel
theorem dX10_gets_39 : decode cX10_gets 39 = .ok (.iload 7, 2) := by decide +kernel
theorem dX10_gets_41 : decode cX10_gets 41 = .ok (.aload_n 0, 1) := by decide +kernel
theorem dX10_gets_42 : decode cX10_gets 42 = .ok (.getfield 132, 3) := by decide +kernel
theorem dX10_gets_45 : decode cX10_gets 45 = .ok (.iload 8, 2) := by decide +kernel
theorem dX10_gets_47 : decode cX10_gets 47 = .ok (.iaload, 1) := by decide +kernel
theorem dX10_gets_48 : decode cX10_gets 48 = .ok (.iload 6, 2) := by decide +kernel
theorem dX10_gets_50 : decode cX10_gets 50 = .ok (.if_icmp .ne 7, 3) := by decide +kernel
theorem dX10_gets_53 : decode cX10_gets 53 = .ok (.iconst 1, 1) := by decide +kernel
theorem dX10_gets_54 : decode cX10_gets 54 = .ok (.goto 4, 3) := by decide +kernel
theorem dX10_gets_57 : decode cX10_gets 57 = .ok (.iconst 0, 1) := by decide +kernel
theorem dX10_gets_58 : decode cX10_gets 58 = .ok (.iadd, 1) := by decide +kernel
theorem dX10_gets_59 : decode cX10_gets 59 = .ok (.istore 7, 2) := by decide +kernel
theorem dX10_gets_61 : decode cX10_gets 61 = .ok (.iinc 8 1, 3) := by decide +kernel
theorem dX10_gets_64 : decode cX10_gets 64 = .ok (.goto (-55), 3) := by decide +kernel
theorem dX10_gets_67 : decode cX10_gets 67 = .ok (.aload_n 0, 1) := by decide +kernel
theorem dX10_gets_68 : decode cX10_gets 68 = .ok (.getfield 132, 3) := by decide +kernel
theorem dX10_gets_71 : decode cX10_gets 71 = .ok (.iload_n 1, 1) := by decide +kernel
theorem dX10_gets_72 : decode cX10_gets 72 = .ok (.iaload, 1) := by decide +kernel
theorem dX10_gets_73 : decode cX10_gets 73 = .ok (.iload 6, 2) := by decide +kernel
theorem dX10_gets_75 : decode cX10_gets 75 = .ok (.if_icmp .ne 14, 3) := by decide +kernel
theorem dX10_gets_78 : decode cX10_gets 78 = .ok (.bipush 12, 2) := by decide +kernel
theorem dX10_gets_80 : decode cX10_gets 80 = .ok (.iload 5, 2) := by decide +kernel
theorem dX10_gets_82 : decode cX10_gets 82 = .ok (.imul, 1) := by decide +kernel
theorem dX10_gets_83 : decode cX10_gets 83 = .ok (.iload 7, 2) := by decide +kernel
theorem dX10_gets_85 : decode cX10_gets 85 = .ok (.idiv, 1) := by decide +kernel
theorem dX10_gets_86 : decode cX10_gets 86 = .ok (.goto 4, 3) := by decide +kernel
theorem dX10_gets_89 : decode cX10_gets 89 = .ok (.iconst 0, 1) := by decide +kernel
theorem dX10_gets_90 : decode cX10_gets 90 = .ok (.bipush 12, 2) := by decide +kernel
theorem dX10_gets_92 : decode cX10_gets 92 = .ok (.iload 4, 2) := by decide +kernel
theorem dX10_gets_94 : decode cX10_gets 94 = .ok (.imul, 1) := by decide +kernel
theorem dX10_gets_95 : decode cX10_gets 95 = .ok (.iload_n 3, 1) := by decide +kernel
theorem dX10_gets_96 : decode cX10_gets 96 = .ok (.iconst 1, 1) := by decide +kernel
theorem dX10_gets_97 : decode cX10_gets 97 = .ok (.isub, 1) := by decide +kernel
theorem dX10_gets_98 : decode cX10_gets 98 = .ok (.aload_n 0, 1) := by decide +kernel
theorem dX10_gets_99 : decode cX10_gets 99 = .ok (.getfield 132, 3) := by decide +kernel
theorem dX10_gets_102 : decode cX10_gets 102 = .ok (.iload_n 1, 1) := by decide +kernel
theorem dX10_gets_103 : decode cX10_gets 103 = .ok (.iaload, 1) := by decide +kernel
theorem dX10_gets_104 : decode cX10_gets 104 = .ok (.isub, 1) := by decide +kernel
theorem dX10_gets_105 : decode cX10_gets 105 = .ok (.imul, 1) := by decide +kernel
theorem dX10_gets_106 : decode cX10_gets 106 = .ok (.isub, 1) := by decide +kernel
theorem dX10_gets_107 : decode cX10_gets 107 = .ok (.ireturn, 1) := by decide +kernel
theorem dX10_doRest_0 : decode cX10_doRest 0 = .ok (.iconst 0, 1) := by decide +kernel
theorem dX10_doRest_1 : decode cX10_doRest 1 = .ok (.istore 5, 2) := by decide +kernel
theorem dX10_doRest_3 : decode cX10_doRest 3 = .ok (.iload 5, 2) := by decide +kernel
theorem dX10_doRest_5 : decode cX10_doRest 5 = .ok (.iload_n 1, 1) := by decide +kernel
theorem dX10_doRest_6 : decode cX10_doRest 6 = .ok (.if_icmp .ge 102, 3) := by decide +kernel
theorem dX10_doRest_9 : decode cX10_doRest 9 = .ok (.aload_n 0, 1) := by decide +kernel
theorem dX10_doRest_10 : decode cX10_doRest 10 = .ok (.getfield 132, 3) := by decide +kernel
theorem dX10_doRest_13 : decode cX10_doRest 13 = .ok (.iload 5, 2) := by decide +kernel
theorem dX10_doRest_15 : decode cX10_doRest 15 = .ok (.iaload, 1) := by decide +kernel
theorem dX10_doRest_16 : decode cX10_doRest 16 = .ok (.istore 6, 2) := by decide +kernel
theorem dX10_doRest_18 : decode cX10_doRest 18 = .ok (.aload_n 0, 1) := by decide +kernel
theorem dX10_doRest_19 : decode cX10_doRest 19 = .ok (.iload 5, 2) := by decide +kernel
theorem dX10_doRest_21 : decode cX10_doRest 21 = .ok (.iload_n 1, 1) := by decide +kernel
theorem dX10_doRest_22 : decode cX10_doRest 22 = .ok (.iload_n 2, 1) := by decide +kernel
theorem dX10_doRest_23 : decode cX10_doRest 23 = .ok (.iload_n 3, 1) := by decide +kernel
theorem dX10_doRest_24 : decode cX10_doRest 24 = .ok (.iload 4, 2) := by decide +kernel
theorem dX10_doRest_26 : decode cX10_doRest 26 = .ok (.invokevirtual 414, 3) := by decide +kernel
theorem dX10_doRest_29 : decode cX10_doRest 29 = .ok (.istore 7, 2) := by decide +kernel
theorem dX10_doRest_31 : decode cX10_doRest 31 = .ok (.iconst 0, 1) := by decide +kernel
theorem dX10_doRest_32 : decode cX10_doRest 32 = .ok (.istore 8, 2) := by decide +kernel
theorem dX10_doRest_34 : decode cX10_doRest 34 = .ok (.iconst 0, 1) := by decide +kernel
theorem dX10_doRest_35 : decode cX10_doRest 35 = .ok (.istore 9, 2) := by decide +kernel
theorem dX10_doRest_37 : decode cX10_doRest 37 = .ok (.iload 9, 2) := by decide +kernel
theorem dX10_doRest_39 : decode cX10_doRest 39 = .ok (.iload_n 2, 1) := by decide +kernel
theorem dX10_doRest_40 : decode cX10_doRest 40 = .ok (.if_icmp .ge 46, 3) := by decide +kernel
theorem dX10_doRest_43 : decode cX10_doRest 43 = .ok (.aload_n 0, 1) := by decide +kernel
theorem dX10_doRest_44 : decode cX10_doRest 44 = .ok (.getfield 132, 3) := by decide +kernel
theorem dX10_doRest_47 : decode cX10_doRest 47 = .ok (.iload 5, 2) := by decide +kernel
theorem dX10_doRest_49 : decode cX10_doRest 49 = .ok (.iload 9, 2) := by decide +kernel
theorem dX10_doRest_51 : decode cX10_doRest 51 = .ok (.iastore, 1) := by decide +kernel
theorem dX10_doRest_52 : decode cX10_doRest 52 = .ok (.iload 8, 2) := by decide +kernel
theorem dX10_doRest_54 : decode cX10_doRest 54 = .ok (.ifCond .ne 19, 3) := by decide +kernel
theorem dX10_doRest_57 : decode cX10_doRest 57 = .ok (.aload_n 0, 1) := by decide +kernel
theorem dX10_doRest_58 : decode cX10_doRest 58 = .ok (.iload 5, 2) := by decide +kernel
theorem dX10_doRest_60 : decode cX10_doRest 60 = .ok (.iload_n 1, 1) := by decide +kernel
theorem dX10_doRest_61 : decode cX10_doRest 61 = .ok (.iload_n 2, 1) := by decide +kernel
theorem dX10_doRest_62 : decode cX10_doRest 62 = .ok (.iload_n 3, 1) := by decide +kernel
theorem dX10_doRest_63 : decode cX10_doRest 63 = .ok (.iload 4, 2) := by decide +kernel
theorem dX10_doRest_65 : decode cX10_doRest 65 = .ok (.invokevirtual 414, 3) := by decide +kernel
theorem dX10_doRest_68 : decode cX10_doRest 68 = .ok (.iload 7, 2) := by decide +kernel
theorem dX10_doRest_70 : decode cX10_doRest 70 = .ok (.if_icmp .le 7, 3) := by decide +kernel
theorem dX10_doRest_73 : decode cX10_doRest 73 = .ok (.iconst 1, 1) := by decide +kernel
theorem dX10_doRest_74 : decode cX10_doRest 74 = .ok (.goto 4, 3) := by decide +kernel
theorem dX10_doRest_77 : decode cX10_doRest 77 = .ok (.iconst 0, 1) := by decide +kernel
theorem dX10_doRest_78 : decode cX10_doRest 78 = .ok (.istore 8, 2) := by decide +kernel
theorem dX10_doRest_80 : decode cX10_doRest 80 = .ok (.iinc 9 1, 3) := by decide +kernel
theorem dX10_doRest_83 : decode cX10_doRest 83 = .ok (.goto (-46), 3) := by decide +kernel
theorem dX10_doRest_86 : decode cX10_doRest 86 = .ok (.aload_n 0, 1) := by decide +kernel
theorem dX10_doRest_87 : decode cX10_doRest 87 = .ok (.getfield 132, 3) := by decide +kernel
theorem dX10_doRest_90 : decode cX10_doRest 90 = .ok (.iload 5, 2) := by decide +kernel
theorem dX10_doRest_92 : decode cX10_doRest 92 = .ok (.iload 6, 2) := by decide +kernel
theorem dX10_doRest_94 : decode cX10_doRest 94 = .ok (.iastore, 1) := by decide +kernel
theorem dX10_doRest_95 : decode cX10_doRest 95 = .ok (.iload 8, 2) := by decide +kernel
theorem dX10_doRest_97 : decode cX10_doRest 97 = .ok (.ifCond .eq 5, 3) := by decide +kernel
theorem dX10_doRest_100 : decode cX10_doRest 100 = .ok (.iconst 0, 1) := by decide +kernel
theorem dX10_doRest_101 : decode cX10_doRest 101 = .ok (.ireturn, 1) := by decide +kernel
theorem dX10_doRest_102 : decode cX10_doRest 102 = .ok (.iinc 5 1, 3) := by decide +kernel
theorem dX10_doRest_105 : decode cX10_doRest 105 = .ok (.goto (-102), 3) := by decide +kernel
theorem dX10_doRest_108 : decode cX10_doRest 108 = .ok (.iconst 1, 1) := by decide +kernel
theorem dX10_doRest_109 : decode cX10_doRest 109 = .ok (.ireturn, 1) := by decide +kernel
theorem dX10_rests_0 : decode cX10_rests 0 = .ok (.aload_n 0, 1) := by decide +kernel
theorem dX10_rests_1 : decode cX10_rests 1 = .ok (.iconst 0, 1) := by decide +kernel
theorem dX10_rests_2 : decode cX10_rests 2 = .ok (.putfield 3, 3) := by decide +kernel
theorem dX10_rests_5 : decode cX10_rests 5 = .ok (.aload_n 0, 1) := by decide +kernel
theorem dX10_rests_6 : decode cX10_rests 6 = .ok (.iload_n 1, 1) := by decide +kernel
theorem dX10_rests_7 : decode cX10_rests 7 = .ok (.iconst 2, 1) := by decide +kernel
theorem dX10_rests_8 : decode cX10_rests 8 = .ok (.iconst 4, 1) := by decide +kernel
theorem dX10_rests_9 : decode cX10_rests 9 = .ok (.invokestatic 273, 3) := by decide +kernel
theorem dX10_rests_12 : decode cX10_rests 12 = .ok (.ifCond .eq 48, 3) := by decide +kernel
theorem dX10_rests_15 : decode cX10_rests 15 = .ok (.iload_n 2, 1) := by decide +kernel
theorem dX10_rests_16 : decode cX10_rests 16 = .ok (.iconst 2, 1) := by decide +kernel
theorem dX10_rests_17 : decode cX10_rests 17 = .ok (.iconst 4, 1) := by decide +kernel
theorem dX10_rests_18 : decode cX10_rests 18 = .ok (.invokestatic 273, 3) := by decide +kernel
theorem dX10_rests_21 : decode cX10_rests 21 = .ok (.ifCond .eq 39, 3) := by decide +kernel
theorem dX10_rests_24 : decode cX10_rests 24 = .ok (.iload_n 3, 1) := by decide +kernel
theorem dX10_rests_25 : decode cX10_rests 25 = .ok (.iconst 0, 1) := by decide +kernel
theorem dX10_rests_26 : decode cX10_rests 26 = .ok (.bipush 99, 2) := by decide +kernel
theorem dX10_rests_28 : decode cX10_rests 28 = .ok (.invokestatic 273, 3) := by decide +kernel
theorem dX10_rests_31 : decode cX10_rests 31 = .ok (.ifCond .eq 29, 3) := by decide +kernel
theorem dX10_rests_34 : decode cX10_rests 34 = .ok (.iload 4, 2) := by decide +kernel
theorem dX10_rests_36 : decode cX10_rests 36 = .ok (.iconst 1, 1) := by decide +kernel
theorem dX10_rests_37 : decode cX10_rests 37 = .ok (.sipush 999, 3) := by decide +kernel
theorem dX10_rests_40 : decode cX10_rests 40 = .ok (.invokestatic 273, 3) := by decide +kernel
theorem dX10_rests_43 : decode cX10_rests 43 = .ok (.ifCond .eq 17, 3) := by decide +kernel
theorem dX10_rests_46 : decode cX10_rests 46 = .ok (.iload 5, 2) := by decide +kernel
theorem dX10_rests_48 : decode cX10_rests 48 = .ok (.iconst 0, 1) := by decide +kernel
theorem dX10_rests_49 : decode cX10_rests 49 = .ok (.iconst 1, 1) := by decide +kernel
theorem dX10_rests_50 : decode cX10_rests 50 = .ok (.invokestatic 273, 3) := by decide +kernel
theorem dX10_rests_53 : decode cX10_rests 53 = .ok (.ifCond .eq 7, 3) := by decide +kernel
theorem dX10_rests_56 : decode cX10_rests 56 = .ok (.iconst 1, 1) := by decide +kernel
theorem dX10_rests_57 : decode cX10_rests 57 = .ok (.goto 4, 3) := by decide +kernel
theorem dX10_rests_60 : decode cX10_rests 60 = .ok (.iconst 0, 1) := by decide +kernel
theorem dX10_rests_61 : decode cX10_rests 61 = .ok (.iconst 1, 1) := by decide +kernel
theorem dX10_rests_62 : decode cX10_rests 62 = .ok (.iconst 2, 1) := by decide +kernel
theorem dX10_rests_63 : decode cX10_rests 63 = .ok (.invokevirtual 241, 3) := by decide +kernel
theorem dX10_rests_66 : decode cX10_rests 66 = .ok (.ifCond .ne 5, 3) := by decide +kernel
theorem dX10_rests_69 : decode cX10_rests 69 = .ok (.iconst 0, 1) := by decide +kernel
theorem dX10_rests_70 : decode cX10_rests 70 = .ok (.ireturn, 1) := by decide +kernel
theorem dX10_rests_71 : decode cX10_rests 71 = .ok (.iconst 1, 1) := by decide +kernel
theorem dX10_rests_72 : decode cX10_rests 72 = .ok (.istore 6, 2) := by decide +kernel
theorem dX10_rests_74 : decode cX10_rests 74 = .ok (.iconst 0, 1) := by decide +kernel
theorem dX10_rests_75 : decode cX10_rests 75 = .ok (.istore 7, 2) := by decide +kernel
theorem dX10_rests_77 : decode cX10_rests 77 = .ok (.iload 7, 2) := by decide +kernel
theorem dX10_rests_79 : decode cX10_rests 79 = .ok (.iload_n 1, 1) := by decide +kernel
theorem dX10_rests_80 : decode cX10_rests 80 = .ok (.if_icmp .ge 15, 3) := by decide +kernel
theorem dX10_rests_83 : decode cX10_rests 83 = .ok (.iload 6, 2) := by decide +kernel
theorem dX10_rests_85 : decode cX10_rests 85 = .ok (.iload_n 2, 1) := by decide +kernel
theorem dX10_rests_86 : decode cX10_rests 86 = .ok (.imul, 1) := by decide +kernel
theorem dX10_rests_87 : decode cX10_rests 87 = .ok (.istore 6, 2) := by decide +kernel
theorem dX10_rests_89 : decode cX10_rests 89 = .ok (.iinc 7 1, 3) := by decide +kernel
theorem dX10_rests_92 : decode cX10_rests 92 = .ok (.goto (-15), 3) := by decide +kernel
theorem dX10_rests_95 : decode cX10_rests 95 = .ok (.iconst 0, 1) := by decide +kernel
theorem dX10_rests_96 : decode cX10_rests 96 = .ok (.istore 7, 2) := by decide +kernel
theorem dX10_rests_98 : decode cX10_rests 98 = .ok (.iconst (-1), 1) := by decide +kernel
theorem dX10_rests_99 : decode cX10_rests 99 = .ok (.istore 8, 2) := by decide +kernel
theorem dX10_rests_101 : decode cX10_rests 101 = .ok (.iconst 0, 1) := by decide +kernel
theorem dX10_rests_102 : decode cX10_rests 102 = .ok (.istore 9, 2) := by decide +kernel
theorem dX10_rests_104 : decode cX10_rests 104 = .ok (.iload 9, 2) := by decide +kernel
theorem dX10_rests_106 : decode cX10_rests 106 = .ok (.iload 6, 2) := by decide +kernel
theorem dX10_rests_108 : decode cX10_rests 108 = .ok (.if_icmp .ge 107, 3) := by decide +kernel
theorem dX10_rests_111 : decode cX10_rests 111 = .ok (.iload 9, 2) := by decide +kernel
theorem dX10_rests_113 : decode cX10_rests 113 = .ok (.istore 10, 2) := by decide +kernel
theorem dX10_rests_115 : decode cX10_rests 115 = .ok (.iconst 0, 1) := by decide +kernel
theorem dX10_rests_116 : decode cX10_rests 116 = .ok (.istore 11, 2) := by decide +kernel
theorem dX10_rests_118 : decode cX10_rests 118 = .ok (.iload_n 1, 1) := by decide +kernel
theorem dX10_rests_119 : decode cX10_rests 119 = .ok (.iconst 1, 1) := by decide +kernel
theorem dX10_rests_120 : decode cX10_rests 120 = .ok (.isub, 1) := by decide +kernel
theorem dX10_rests_121 : decode cX10_rests 121 = .ok (.istore 12, 2) := by decide +kernel
theorem dX10_rests_123 : decode cX10_rests 123 = .ok (.iload 12, 2) := by decide +kernel
theorem dX10_rests_125 : decode cX10_rests 125 = .ok (.ifCond .lt 26, 3) := by decide +kernel
theorem dX10_rests_128 : decode cX10_rests 128 = .ok (.aload_n 0, 1) := by decide +kernel
theorem dX10_rests_129 : decode cX10_rests 129 = .ok (.getfield 132, 3) := by decide +kernel
theorem dX10_rests_132 : decode cX10_rests 132 = .ok (.iload 12, 2) := by decide +kernel
theorem dX10_rests_134 : decode cX10_rests 134 = .ok (.iload 10, 2) := by decide +kernel
theorem dX10_rests_136 : decode cX10_rests 136 = .ok (.iload_n 2, 1) := by decide +kernel
theorem dX10_rests_137 : decode cX10_rests 137 = .ok (.irem, 1) := by decide +kernel
theorem dX10_rests_138 : decode cX10_rests 138 = .ok (.iastore, 1) := by decide +kernel
theorem dX10_rests_139 : decode cX10_rests 139 = .ok (.iload 10, 2) := by decide +kernel
theorem dX10_rests_141 : decode cX10_rests 141 = .ok (.iload_n 2, 1) := by decide +kernel
theorem dX10_rests_142 : decode cX10_rests 142 = .ok (.idiv, 1) := by decide +kernel
theorem dX10_rests_143 : decode cX10_rests 143 = .ok (.istore 10, 2) := by decide +kernel
theorem dX10_rests_145 : decode cX10_rests 145 = .ok (.iinc 12 (-1), 3) := by decide +kernel
theorem dX10_rests_148 : decode cX10_rests 148 = .ok (.goto (-25), 3) := by decide +kernel
theorem dX10_rests_151 : decode cX10_rests 151 = .ok (.iconst 0, 1) := by decide +kernel
theorem dX10_rests_152 : decode cX10_rests 152 = .ok (.istore 12, 2) := by decide +kernel
theorem dX10_rests_154 : decode cX10_rests 154 = .ok (.iload 12, 2) := by decide +kernel
theorem dX10_rests_156 : decode cX10_rests 156 = .ok (.iload_n 1, 1) := by decide +kernel
theorem dX10_rests_157 : decode cX10_rests 157 = .ok (.if_icmp .ge 24, 3) := by decide +kernel
theorem dX10_rests_160 : decode cX10_rests 160 = .ok (.bipush 10, 2) := by decide +kernel
theorem dX10_rests_162 : decode cX10_rests 162 = .ok (.iload 11, 2) := by decide +kernel
theorem dX10_rests_164 : decode cX10_rests 164 = .ok (.imul, 1) := by decide +kernel
theorem dX10_rests_165 : decode cX10_rests 165 = .ok (.aload_n 0, 1) := by decide +kernel
theorem dX10_rests_166 : decode cX10_rests 166 = .ok (.getfield 132, 3) := by decide +kernel
theorem dX10_rests_169 : decode cX10_rests 169 = .ok (.iload 12, 2) := by decide +kernel
theorem dX10_rests_171 : decode cX10_rests 171 = .ok (.iaload, 1) := by decide +kernel
theorem dX10_rests_172 : decode cX10_rests 172 = .ok (.iadd, 1) := by decide +kernel
theorem dX10_rests_173 : decode cX10_rests 173 = .ok (.istore 11, 2) := by decide +kernel
theorem dX10_rests_175 : decode cX10_rests 175 = .ok (.iinc 12 1, 3) := by decide +kernel
theorem dX10_rests_178 : decode cX10_rests 178 = .ok (.goto (-24), 3) := by decide +kernel
theorem dX10_rests_181 : decode cX10_rests 181 = .ok (.aload_n 0, 1) := by decide +kernel
theorem dX10_rests_182 : decode cX10_rests 182 = .ok (.iload_n 1, 1) := by decide +kernel
theorem dX10_rests_183 : decode cX10_rests 183 = .ok (.iload_n 2, 1) := by decide +kernel
theorem dX10_rests_184 : decode cX10_rests 184 = .ok (.iload_n 3, 1) := by decide +kernel
theorem dX10_rests_185 : decode cX10_rests 185 = .ok (.iload 4, 2) := by decide +kernel
theorem dX10_rests_187 : decode cX10_rests 187 = .ok (.invokevirtual 418, 3) := by decide +kernel
theorem dX10_rests_190 : decode cX10_rests 190 = .ok (.ifCond .ne 6, 3) := by decide +kernel
theorem dX10_rests_193 : decode cX10_rests 193 = .ok (.goto 16, 3) := by decide +kernel
theorem dX10_rests_196 : decode cX10_rests 196 = .ok (.iinc 7 1, 3) := by decide +kernel
theorem dX10_rests_199 : decode cX10_rests 199 = .ok (.iload 8, 2) := by decide +kernel
theorem dX10_rests_201 : decode cX10_rests 201 = .ok (.iconst (-1), 1) := by decide +kernel
theorem dX10_rests_202 : decode cX10_rests 202 = .ok (.if_icmp .ne 7, 3) := by decide +kernel
theorem dX10_rests_205 : decode cX10_rests 205 = .ok (.iload 11, 2) := by decide +kernel
theorem dX10_rests_207 : decode cX10_rests 207 = .ok (.istore 8, 2) := by decide +kernel
theorem dX10_rests_209 : decode cX10_rests 209 = .ok (.iinc 9 1, 3) := by decide +kernel
theorem dX10_rests_212 : decode cX10_rests 212 = .ok (.goto (-108), 3) := by decide +kernel
theorem dX10_rests_215 : decode cX10_rests 215 = .ok (.iload 5, 2) := by decide +kernel
theorem dX10_rests_217 : decode cX10_rests 217 = .ok (.ifCond .ne 8, 3) := by decide +kernel
theorem dX10_rests_220 : decode cX10_rests 220 = .ok (.iload 7, 2) := by decide +kernel
theorem dX10_rests_222 : decode cX10_rests 222 = .ok (.goto 5, 3) := by decide +kernel
theorem dX10_rests_225 : decode cX10_rests 225 = .ok (.iload 8, 2) := by decide +kernel
theorem dX10_rests_227 : decode cX10_rests 227 = .ok (.ireturn, 1) := by decide +kernel
theorem dX10_copies_0 : decode cX10_copies 0 = .ok (.iconst 0, 1) := by decide +kernel
theorem dX10_copies_1 : decode cX10_copies 1 = .ok (.istore 5, 2) := by decide +kernel
theorem dX10_copies_3 : decode cX10_copies 3 = .ok (.iload 5, 2) := by decide +kernel
theorem dX10_copies_5 : decode cX10_copies 5 = .ok (.iload_n 3, 1) := by decide +kernel
theorem dX10_copies_6 : decode cX10_copies 6 = .ok (.if_icmp .ge 43, 3) := by decide +kernel
theorem dX10_copies_9 : decode cX10_copies 9 = .ok (.iload 4, 2) := by decide +kernel
theorem dX10_copies_11 : decode cX10_copies 11 = .ok (.ifCond .eq 19, 3) := by decide +kernel
theorem dX10_copies_14 : decode cX10_copies 14 = .ok (.aload_n 0, 1) := by decide +kernel
theorem dX10_copies_15 : decode cX10_copies 15 = .ok (.getfield 135, 3) := by decide +kernel
theorem dX10_copies_18 : decode cX10_copies 18 = .ok (.iload_n 1, 1) := by decide +kernel
theorem dX10_copies_19 : decode cX10_copies 19 = .ok (.iload 5, 2) := by decide +kernel
theorem dX10_copies_21 : decode cX10_copies 21 = .ok (.iadd, 1) := by decide +kernel
theorem dX10_copies_22 : decode cX10_copies 22 = .ok (.aload_n 2, 1) := by decide +kernel
theorem dX10_copies_23 : decode cX10_copies 23 = .ok (.iload 5, 2) := by decide +kernel
theorem dX10_copies_25 : decode cX10_copies 25 = .ok (.iaload, 1) := by decide +kernel
theorem dX10_copies_26 : decode cX10_copies 26 = .ok (.iastore, 1) := by decide +kernel
theorem dX10_copies_27 : decode cX10_copies 27 = .ok (.goto 16, 3) := by decide +kernel
theorem dX10_copies_30 : decode cX10_copies 30 = .ok (.aload_n 2, 1) := by decide +kernel
theorem dX10_copies_31 : decode cX10_copies 31 = .ok (.iload 5, 2) := by decide +kernel
theorem dX10_copies_33 : decode cX10_copies 33 = .ok (.aload_n 0, 1) := by decide +kernel
theorem dX10_copies_34 : decode cX10_copies 34 = .ok (.getfield 135, 3) := by decide +kernel
theorem dX10_copies_37 : decode cX10_copies 37 = .ok (.iload_n 1, 1) := by decide +kernel
theorem dX10_copies_38 : decode cX10_copies 38 = .ok (.iload 5, 2) := by decide +kernel
theorem dX10_copies_40 : decode cX10_copies 40 = .ok (.iadd, 1) := by decide +kernel
theorem dX10_copies_41 : decode cX10_copies 41 = .ok (.iaload, 1) := by decide +kernel
theorem dX10_copies_42 : decode cX10_copies 42 = .ok (.iastore, 1) := by decide +kernel
theorem dX10_copies_43 : decode cX10_copies 43 = .ok (.iinc 5 1, 3) := by decide +kernel
theorem dX10_copies_46 : decode cX10_copies 46 = .ok (.goto (-43), 3) := by decide +kernel
theorem dX10_copies_49 : decode cX10_copies 49 = .ok (.iload_n 1, 1) := by decide +kernel
theorem dX10_copies_50 : decode cX10_copies 50 = .ok (.iload_n 3, 1) := by decide +kernel
theorem dX10_copies_51 : decode cX10_copies 51 = .ok (.iadd, 1) := by decide +kernel
theorem dX10_copies_52 : decode cX10_copies 52 = .ok (.ireturn, 1) := by decide +kernel
theorem dX10_copies__0 : decode cX10_copies_ 0 = .ok (.aload_n 0, 1) := by decide +kernel
theorem dX10_copies__1 : decode cX10_copies_ 1 = .ok (.sipush 256, 3) := by decide +kernel
theorem dX10_copies__4 : decode cX10_copies_ 4 = .ok (.iload_n 1, 1) := by decide +kernel
theorem dX10_copies__5 : decode cX10_copies_ 5 = .ok (.imul, 1) := by decide +kernel
theorem dX10_copies__6 : decode cX10_copies_ 6 = .ok (.aload_n 0, 1) := by decide +kernel
theorem dX10_copies__7 : decode cX10_copies_ 7 = .ok (.getfield 71, 3) := by decide +kernel
theorem dX10_copies__10 : decode cX10_copies_ 10 = .ok (.sipush 192, 3) := by decide +kernel
theorem dX10_copies__13 : decode cX10_copies_ 13 = .ok (.iload_n 2, 1) := by decide +kernel
theorem dX10_copies__14 : decode cX10_copies_ 14 = .ok (.invokevirtual 422, 3) := by decide +kernel
theorem dX10_copies__17 : decode cX10_copies_ 17 = .ok (.istore_n 3, 1) := by decide +kernel
theorem dX10_copies__18 : decode cX10_copies_ 18 = .ok (.aload_n 0, 1) := by decide +kernel
theorem dX10_copies__19 : decode cX10_copies_ 19 = .ok (.iload_n 3, 1) := by decide +kernel
theorem dX10_copies__20 : decode cX10_copies_ 20 = .ok (.aload_n 0, 1) := by decide +kernel
theorem dX10_copies__21 : decode cX10_copies_ 21 = .ok (.getfield 68, 3) := by decide +kernel
theorem dX10_copies__24 : decode cX10_copies_ 24 = .ok (.bipush 8, 2) := by decide +kernel
theorem dX10_copies__26 : decode cX10_copies_ 26 = .ok (.iload_n 2, 1) := by decide +kernel
theorem dX10_copies__27 : decode cX10_copies_ 27 = .ok (.invokevirtual 422, 3) := by decide +kernel
theorem dX10_copies__30 : decode cX10_copies_ 30 = .ok (.istore_n 3, 1) := by decide +kernel
theorem dX10_copies__31 : decode cX10_copies_ 31 = .ok (.aload_n 0, 1) := by decide +kernel
theorem dX10_copies__32 : decode cX10_copies_ 32 = .ok (.iload_n 3, 1) := by decide +kernel
theorem dX10_copies__33 : decode cX10_copies_ 33 = .ok (.aload_n 0, 1) := by decide +kernel
theorem dX10_copies__34 : decode cX10_copies_ 34 = .ok (.getfield 74, 3) := by decide +kernel
theorem dX10_copies__37 : decode cX10_copies_ 37 = .ok (.bipush 8, 2) := by decide +kernel
theorem dX10_copies__39 : decode cX10_copies_ 39 = .ok (.iload_n 2, 1) := by decide +kernel
theorem dX10_copies__40 : decode cX10_copies_ 40 = .ok (.invokevirtual 422, 3) := by decide +kernel
theorem dX10_copies__43 : decode cX10_copies_ 43 = .ok (.istore_n 3, 1) := by decide +kernel
theorem dX10_copies__44 : decode cX10_copies_ 44 = .ok (.aload_n 0, 1) := by decide +kernel
theorem dX10_copies__45 : decode cX10_copies_ 45 = .ok (.iload_n 3, 1) := by decide +kernel
theorem dX10_copies__46 : decode cX10_copies_ 46 = .ok (.aload_n 0, 1) := by decide +kernel
theorem dX10_copies__47 : decode cX10_copies_ 47 = .ok (.getfield 38, 3) := by decide +kernel
theorem dX10_copies__50 : decode cX10_copies_ 50 = .ok (.bipush 24, 2) := by decide +kernel
theorem dX10_copies__52 : decode cX10_copies_ 52 = .ok (.iload_n 2, 1) := by decide +kernel
theorem dX10_copies__53 : decode cX10_copies_ 53 = .ok (.invokevirtual 422, 3) := by decide +kernel
theorem dX10_copies__56 : decode cX10_copies_ 56 = .ok (.istore_n 3, 1) := by decide +kernel
theorem dX10_copies__57 : decode cX10_copies_ 57 = .ok (.aload_n 0, 1) := by decide +kernel
theorem dX10_copies__58 : decode cX10_copies_ 58 = .ok (.iload_n 3, 1) := by decide +kernel
theorem dX10_copies__59 : decode cX10_copies_ 59 = .ok (.aload_n 0, 1) := by decide +kernel
theorem dX10_copies__60 : decode cX10_copies_ 60 = .ok (.getfield 41, 3) := by decide +kernel
theorem dX10_copies__63 : decode cX10_copies_ 63 = .ok (.bipush 24, 2) := by decide +kernel
theorem dX10_copies__65 : decode cX10_copies_ 65 = .ok (.iload_n 2, 1) := by decide +kernel
theorem dX10_copies__66 : decode cX10_copies_ 66 = .ok (.invokevirtual 422, 3) := by decide +kernel
theorem dX10_copies__69 : decode cX10_copies_ 69 = .ok (.pop, 1) := by decide +kernel
theorem dX10_copies__70 : decode cX10_copies_ 70 = .ok (.return_, 1) := by decide +kernel
theorem dX10_image_0 : decode cX10_image 0 = .ok (.aload_n 0, 1) := by decide +kernel
theorem dX10_image_1 : decode cX10_image 1 = .ok (.iconst 0, 1) := by decide +kernel
theorem dX10_image_2 : decode cX10_image 2 = .ok (.putfield 3, 3) := by decide +kernel
theorem dX10_image_5 : decode cX10_image 5 = .ok (.aload_n 0, 1) := by decide +kernel
theorem dX10_image_6 : decode cX10_image 6 = .ok (.getfield 214, 3) := by decide +kernel
theorem dX10_image_9 : decode cX10_image 9 = .ok (.iconst 3, 1) := by decide +kernel
theorem dX10_image_10 : decode cX10_image 10 = .ok (.if_icmp .ne 5, 3) := by decide +kernel
theorem dX10_image_13 : decode cX10_image 13 = .ok (.iconst (-1), 1) := by decide +kernel
theorem dX10_image_14 : decode cX10_image 14 = .ok (.ireturn, 1) := by decide +kernel
theorem dX10_image_15 : decode cX10_image 15 = .ok (.aload_n 0, 1) := by decide +kernel
theorem dX10_image_16 : decode cX10_image 16 = .ok (.aload_n 0, 1) := by decide +kernel
theorem dX10_image_17 : decode cX10_image 17 = .ok (.getfield 214, 3) := by decide +kernel
theorem dX10_image_20 : decode cX10_image 20 = .ok (.iconst 1, 1) := by decide +kernel
theorem dX10_image_21 : decode cX10_image 21 = .ok (.invokevirtual 426, 3) := by decide +kernel
theorem dX10_image_24 : decode cX10_image 24 = .ok (.aload_n 0, 1) := by decide +kernel
theorem dX10_image_25 : decode cX10_image 25 = .ok (.dup, 1) := by decide +kernel
theorem dX10_image_26 : decode cX10_image 26 = .ok (.getfield 214, 3) := by decide +kernel
theorem dX10_image_29 : decode cX10_image 29 = .ok (.iconst 1, 1) := by decide +kernel
theorem dX10_image_30 : decode cX10_image 30 = .ok (.iadd, 1) := by decide +kernel
theorem dX10_image_31 : decode cX10_image 31 = .ok (.putfield 214, 3) := by decide +kernel
theorem dX10_image_34 : decode cX10_image 34 = .ok (.aload_n 0, 1) := by decide +kernel
theorem dX10_image_35 : decode cX10_image 35 = .ok (.getfield 214, 3) := by decide +kernel
theorem dX10_image_38 : decode cX10_image 38 = .ok (.ireturn, 1) := by decide +kernel
theorem dX10_restore_0 : decode cX10_restore 0 = .ok (.aload_n 0, 1) := by decide +kernel
theorem dX10_restore_1 : decode cX10_restore 1 = .ok (.iconst 0, 1) := by decide +kernel
theorem dX10_restore_2 : decode cX10_restore 2 = .ok (.putfield 3, 3) := by decide +kernel
theorem dX10_restore_5 : decode cX10_restore 5 = .ok (.aload_n 0, 1) := by decide +kernel
theorem dX10_restore_6 : decode cX10_restore 6 = .ok (.getfield 214, 3) := by decide +kernel
theorem dX10_restore_9 : decode cX10_restore 9 = .ok (.ifCond .ne 5, 3) := by decide +kernel
theorem dX10_restore_12 : decode cX10_restore 12 = .ok (.iconst (-1), 1) := by decide +kernel
theorem dX10_restore_13 : decode cX10_restore 13 = .ok (.ireturn, 1) := by decide +kernel
theorem dX10_restore_14 : decode cX10_restore 14 = .ok (.aload_n 0, 1) := by decide +kernel
theorem dX10_restore_15 : decode cX10_restore 15 = .ok (.dup, 1) := by decide +kernel
theorem dX10_restore_16 : decode cX10_restore 16 = .ok (.getfield 214, 3) := by decide +kernel
theorem dX10_restore_19 : decode cX10_restore 19 = .ok (.iconst 1, 1) := by decide +kernel
theorem dX10_restore_20 : decode cX10_restore 20 = .ok (.isub, 1) := by decide +kernel
theorem dX10_restore_21 : decode cX10_restore 21 = .ok (.putfield 214, 3) := by decide +kernel
theorem dX10_restore_24 : decode cX10_restore 24 = .ok (.aload_n 0, 1) := by decide +kernel
theorem dX10_restore_25 : decode cX10_restore 25 = .ok (.aload_n 0, 1) := by decide +kernel
theorem dX10_restore_26 : decode cX10_restore 26 = .ok (.getfield 214, 3) := by decide +kernel
theorem dX10_restore_29 : decode cX10_restore 29 = .ok (.iconst 0, 1) := by decide +kernel
theorem dX10_restore_30 : decode cX10_restore 30 = .ok (.invokevirtual 426, 3) := by decide +kernel
theorem dX10_restore_33 : decode cX10_restore 33 = .ok (.aload_n 0, 1) := by decide +kernel
theorem dX10_restore_34 : decode cX10_restore 34 = .ok (.getfield 214, 3) := by decide +kernel
theorem dX10_restore_37 : decode cX10_restore 37 = .ok (.ireturn, 1) := by decide +kernel
theorem dX10_status_0 : decode cX10_status 0 = .ok (.aload_n 0, 1) := by decide +kernel
theorem dX10_status_1 : decode cX10_status 1 = .ok (.iconst 0, 1) := by decide +kernel
theorem dX10_status_2 : decode cX10_status 2 = .ok (.putfield 3, 3) := by decide +kernel
theorem dX10_status_5 : decode cX10_status 5 = .ok (.iload_n 1, 1) := by decide +kernel
theorem dX10_status_6 : decode cX10_status 6 = .ok (.iconst 0, 1) := by decide +kernel
theorem dX10_status_7 : decode cX10_status 7 = .ok (.iconst 3, 1) := by decide +kernel
theorem dX10_status_8 : decode cX10_status 8 = .ok (.invokestatic 273, 3) := by decide +kernel
theorem dX10_status_11 : decode cX10_status 11 = .ok (.ifCond .eq 12, 3) := by decide +kernel
theorem dX10_status_14 : decode cX10_status 14 = .ok (.aload_n 0, 1) := by decide +kernel
theorem dX10_status_15 : decode cX10_status 15 = .ok (.getfield 7, 3) := by decide +kernel
theorem dX10_status_18 : decode cX10_status 18 = .ok (.iload_n 1, 1) := by decide +kernel
theorem dX10_status_19 : decode cX10_status 19 = .ok (.iaload, 1) := by decide +kernel
theorem dX10_status_20 : decode cX10_status 20 = .ok (.goto 4, 3) := by decide +kernel
theorem dX10_status_23 : decode cX10_status 23 = .ok (.iconst (-1), 1) := by decide +kernel
theorem dX10_status_24 : decode cX10_status 24 = .ok (.ireturn, 1) := by decide +kernel
theorem dX10_count_0 : decode cX10_count 0 = .ok (.aload_n 0, 1) := by decide +kernel
theorem dX10_count_1 : decode cX10_count 1 = .ok (.iconst 0, 1) := by decide +kernel
theorem dX10_count_2 : decode cX10_count 2 = .ok (.putfield 3, 3) := by decide +kernel
theorem dX10_count_5 : decode cX10_count 5 = .ok (.iconst 0, 1) := by decide +kernel
theorem dX10_count_6 : decode cX10_count 6 = .ok (.istore_n 2, 1) := by decide +kernel
theorem dX10_count_7 : decode cX10_count 7 = .ok (.iconst 0, 1) := by decide +kernel
theorem dX10_count_8 : decode cX10_count 8 = .ok (.istore_n 3, 1) := by decide +kernel
theorem dX10_count_9 : decode cX10_count 9 = .ok (.iload_n 3, 1) := by decide +kernel
theorem dX10_count_10 : decode cX10_count 10 = .ok (.aload_n 0, 1) := by decide +kernel
theorem dX10_count_11 : decode cX10_count 11 = .ok (.getfield 205, 3) := by decide +kernel
theorem dX10_count_14 : decode cX10_count 14 = .ok (.if_icmp .ge 27, 3) := by decide +kernel
theorem dX10_count_17 : decode cX10_count 17 = .ok (.iload_n 2, 1) := by decide +kernel
theorem dX10_count_18 : decode cX10_count 18 = .ok (.aload_n 0, 1) := by decide +kernel
theorem dX10_count_19 : decode cX10_count 19 = .ok (.getfield 38, 3) := by decide +kernel
theorem dX10_count_22 : decode cX10_count 22 = .ok (.iload_n 3, 1) := by decide +kernel
theorem dX10_count_23 : decode cX10_count 23 = .ok (.iaload, 1) := by decide +kernel
theorem dX10_count_24 : decode cX10_count 24 = .ok (.iconst (-1), 1) := by decide +kernel
theorem dX10_count_25 : decode cX10_count 25 = .ok (.if_icmp .ne 7, 3) := by decide +kernel
theorem dX10_count_28 : decode cX10_count 28 = .ok (.iconst 1, 1) := by decide +kernel
theorem dX10_count_29 : decode cX10_count 29 = .ok (.goto 4, 3) := by decide +kernel
theorem dX10_count_32 : decode cX10_count 32 = .ok (.iconst 0, 1) := by decide +kernel
theorem dX10_count_33 : decode cX10_count 33 = .ok (.iadd, 1) := by decide +kernel
theorem dX10_count_34 : decode cX10_count 34 = .ok (.istore_n 2, 1) := by decide +kernel
theorem dX10_count_35 : decode cX10_count 35 = .ok (.iinc 3 1, 3) := by decide +kernel
theorem dX10_count_38 : decode cX10_count 38 = .ok (.goto (-29), 3) := by decide +kernel
theorem dX10_count_41 : decode cX10_count 41 = .ok (.iload_n 1, 1) := by decide +kernel
theorem dX10_count_42 : decode cX10_count 42 = .ok (.ifCond .ne 10, 3) := by decide +kernel
theorem dX10_count_45 : decode cX10_count 45 = .ok (.aload_n 0, 1) := by decide +kernel
theorem dX10_count_46 : decode cX10_count 46 = .ok (.getfield 214, 3) := by decide +kernel
theorem dX10_count_49 : decode cX10_count 49 = .ok (.goto 25, 3) := by decide +kernel
theorem dX10_count_52 : decode cX10_count 52 = .ok (.iload_n 1, 1) := by decide +kernel
theorem dX10_count_53 : decode cX10_count 53 = .ok (.iconst 1, 1) := by decide +kernel
theorem dX10_count_54 : decode cX10_count 54 = .ok (.if_icmp .ne 10, 3) := by decide +kernel
theorem dX10_count_57 : decode cX10_count 57 = .ok (.aload_n 0, 1) := by decide +kernel
theorem dX10_count_58 : decode cX10_count 58 = .ok (.getfield 144, 3) := by decide +kernel
theorem dX10_count_61 : decode cX10_count 61 = .ok (.goto 13, 3) := by decide +kernel
theorem dX10_count_64 : decode cX10_count 64 = .ok (.iload_n 1, 1) := by decide +kernel
theorem dX10_count_65 : decode cX10_count 65 = .ok (.iconst 2, 1) := by decide +kernel
theorem dX10_count_66 : decode cX10_count 66 = .ok (.if_icmp .ne 7, 3) := by decide +kernel
theorem dX10_count_69 : decode cX10_count 69 = .ok (.iload_n 2, 1) := by decide +kernel
theorem dX10_count_70 : decode cX10_count 70 = .ok (.goto 4, 3) := by decide +kernel
theorem dX10_count_73 : decode cX10_count 73 = .ok (.iconst (-1), 1) := by decide +kernel
theorem dX10_count_74 : decode cX10_count 74 = .ok (.ireturn, 1) := by decide +kernel
