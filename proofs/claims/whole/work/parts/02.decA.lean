theorem dX11_init_0 : decode cX11_init 0 = .ok (.aload_n 0, 1) := by decide +kernel
theorem dX11_init_1 : decode cX11_init 1 = .ok (.invokespecial 1, 3) := by decide +kernel
theorem dX11_init_4 : decode cX11_init 4 = .ok (.aload_n 0, 1) := by decide +kernel
theorem dX11_init_5 : decode cX11_init 5 = .ok (.sipush 700, 3) := by decide +kernel
theorem dX11_init_8 : decode cX11_init 8 = .ok (.newarray .int, 2) := by decide +kernel
theorem dX11_init_10 : decode cX11_init 10 = .ok (.putfield 7, 3) := by decide +kernel
theorem dX11_init_13 : decode cX11_init 13 = .ok (.aload_n 0, 1) := by decide +kernel
theorem dX11_init_14 : decode cX11_init 14 = .ok (.bipush 18, 2) := by decide +kernel
theorem dX11_init_16 : decode cX11_init 16 = .ok (.newarray .int, 2) := by decide +kernel
theorem dX11_init_18 : decode cX11_init 18 = .ok (.putfield 13, 3) := by decide +kernel
theorem dX11_init_21 : decode cX11_init 21 = .ok (.aload_n 0, 1) := by decide +kernel
theorem dX11_init_22 : decode cX11_init 22 = .ok (.bipush 14, 2) := by decide +kernel
theorem dX11_init_24 : decode cX11_init 24 = .ok (.newarray .int, 2) := by decide +kernel
theorem dX11_init_26 : decode cX11_init 26 = .ok (.putfield 16, 3) := by decide +kernel
theorem dX11_init_29 : decode cX11_init 29 = .ok (.aload_n 0, 1) := by decide +kernel
theorem dX11_init_30 : decode cX11_init 30 = .ok (.bipush 14, 2) := by decide +kernel
theorem dX11_init_32 : decode cX11_init 32 = .ok (.newarray .int, 2) := by decide +kernel
theorem dX11_init_34 : decode cX11_init 34 = .ok (.putfield 19, 3) := by decide +kernel
theorem dX11_init_37 : decode cX11_init 37 = .ok (.aload_n 0, 1) := by decide +kernel
theorem dX11_init_38 : decode cX11_init 38 = .ok (.bipush 14, 2) := by decide +kernel
theorem dX11_init_40 : decode cX11_init 40 = .ok (.newarray .int, 2) := by decide +kernel
theorem dX11_init_42 : decode cX11_init 42 = .ok (.putfield 22, 3) := by decide +kernel
theorem dX11_init_45 : decode cX11_init 45 = .ok (.aload_n 0, 1) := by decide +kernel
theorem dX11_init_46 : decode cX11_init 46 = .ok (.bipush 14, 2) := by decide +kernel
theorem dX11_init_48 : decode cX11_init 48 = .ok (.newarray .int, 2) := by decide +kernel
theorem dX11_init_50 : decode cX11_init 50 = .ok (.putfield 25, 3) := by decide +kernel
theorem dX11_init_53 : decode cX11_init 53 = .ok (.aload_n 0, 1) := by decide +kernel
theorem dX11_init_54 : decode cX11_init 54 = .ok (.bipush 14, 2) := by decide +kernel
theorem dX11_init_56 : decode cX11_init 56 = .ok (.newarray .int, 2) := by decide +kernel
theorem dX11_init_58 : decode cX11_init 58 = .ok (.putfield 28, 3) := by decide +kernel
theorem dX11_init_61 : decode cX11_init 61 = .ok (.aload_n 0, 1) := by decide +kernel
theorem dX11_init_62 : decode cX11_init 62 = .ok (.bipush 6, 2) := by decide +kernel
theorem dX11_init_64 : decode cX11_init 64 = .ok (.newarray .int, 2) := by decide +kernel
theorem dX11_init_66 : decode cX11_init 66 = .ok (.putfield 31, 3) := by decide +kernel
theorem dX11_init_69 : decode cX11_init 69 = .ok (.aload_n 0, 1) := by decide +kernel
theorem dX11_init_70 : decode cX11_init 70 = .ok (.bipush 6, 2) := by decide +kernel
theorem dX11_init_72 : decode cX11_init 72 = .ok (.newarray .int, 2) := by decide +kernel
theorem dX11_init_74 : decode cX11_init 74 = .ok (.putfield 34, 3) := by decide +kernel
theorem dX11_init_77 : decode cX11_init 77 = .ok (.aload_n 0, 1) := by decide +kernel
theorem dX11_init_78 : decode cX11_init 78 = .ok (.bipush 6, 2) := by decide +kernel
theorem dX11_init_80 : decode cX11_init 80 = .ok (.newarray .int, 2) := by decide +kernel
theorem dX11_init_82 : decode cX11_init 82 = .ok (.putfield 37, 3) := by decide +kernel
theorem dX11_init_85 : decode cX11_init 85 = .ok (.aload_n 0, 1) := by decide +kernel
theorem dX11_init_86 : decode cX11_init 86 = .ok (.bipush 20, 2) := by decide +kernel
theorem dX11_init_88 : decode cX11_init 88 = .ok (.newarray .int, 2) := by decide +kernel
theorem dX11_init_90 : decode cX11_init 90 = .ok (.putfield 40, 3) := by decide +kernel
theorem dX11_init_93 : decode cX11_init 93 = .ok (.aload_n 0, 1) := by decide +kernel
theorem dX11_init_94 : decode cX11_init 94 = .ok (.bipush 20, 2) := by decide +kernel
theorem dX11_init_96 : decode cX11_init 96 = .ok (.newarray .int, 2) := by decide +kernel
theorem dX11_init_98 : decode cX11_init 98 = .ok (.putfield 43, 3) := by decide +kernel
theorem dX11_init_101 : decode cX11_init 101 = .ok (.aload_n 0, 1) := by decide +kernel
theorem dX11_init_102 : decode cX11_init 102 = .ok (.bipush 20, 2) := by decide +kernel
theorem dX11_init_104 : decode cX11_init 104 = .ok (.newarray .int, 2) := by decide +kernel
theorem dX11_init_106 : decode cX11_init 106 = .ok (.putfield 46, 3) := by decide +kernel
theorem dX11_init_109 : decode cX11_init 109 = .ok (.aload_n 0, 1) := by decide +kernel
theorem dX11_init_110 : decode cX11_init 110 = .ok (.bipush 24, 2) := by decide +kernel
theorem dX11_init_112 : decode cX11_init 112 = .ok (.newarray .int, 2) := by decide +kernel
theorem dX11_init_114 : decode cX11_init 114 = .ok (.putfield 49, 3) := by decide +kernel
theorem dX11_init_117 : decode cX11_init 117 = .ok (.aload_n 0, 1) := by decide +kernel
theorem dX11_init_118 : decode cX11_init 118 = .ok (.bipush 24, 2) := by decide +kernel
theorem dX11_init_120 : decode cX11_init 120 = .ok (.newarray .int, 2) := by decide +kernel
theorem dX11_init_122 : decode cX11_init 122 = .ok (.putfield 52, 3) := by decide +kernel
theorem dX11_init_125 : decode cX11_init 125 = .ok (.aload_n 0, 1) := by decide +kernel
theorem dX11_init_126 : decode cX11_init 126 = .ok (.bipush 24, 2) := by decide +kernel
theorem dX11_init_128 : decode cX11_init 128 = .ok (.newarray .int, 2) := by decide +kernel
theorem dX11_init_130 : decode cX11_init 130 = .ok (.putfield 55, 3) := by decide +kernel
theorem dX11_init_133 : decode cX11_init 133 = .ok (.aload_n 0, 1) := by decide +kernel
theorem dX11_init_134 : decode cX11_init 134 = .ok (.bipush 16, 2) := by decide +kernel
theorem dX11_init_136 : decode cX11_init 136 = .ok (.newarray .int, 2) := by decide +kernel
theorem dX11_init_138 : decode cX11_init 138 = .ok (.putfield 58, 3) := by decide +kernel
theorem dX11_init_141 : decode cX11_init 141 = .ok (.aload_n 0, 1) := by decide +kernel
theorem dX11_init_142 : decode cX11_init 142 = .ok (.bipush 16, 2) := by decide +kernel
theorem dX11_init_144 : decode cX11_init 144 = .ok (.newarray .int, 2) := by decide +kernel
theorem dX11_init_146 : decode cX11_init 146 = .ok (.putfield 61, 3) := by decide +kernel
theorem dX11_init_149 : decode cX11_init 149 = .ok (.aload_n 0, 1) := by decide +kernel
theorem dX11_init_150 : decode cX11_init 150 = .ok (.bipush 6, 2) := by decide +kernel
theorem dX11_init_152 : decode cX11_init 152 = .ok (.newarray .int, 2) := by decide +kernel
theorem dX11_init_154 : decode cX11_init 154 = .ok (.putfield 64, 3) := by decide +kernel
theorem dX11_init_157 : decode cX11_init 157 = .ok (.aload_n 0, 1) := by decide +kernel
theorem dX11_init_158 : decode cX11_init 158 = .ok (.bipush 6, 2) := by decide +kernel
theorem dX11_init_160 : decode cX11_init 160 = .ok (.newarray .int, 2) := by decide +kernel
theorem dX11_init_162 : decode cX11_init 162 = .ok (.putfield 67, 3) := by decide +kernel
theorem dX11_init_165 : decode cX11_init 165 = .ok (.aload_n 0, 1) := by decide +kernel
theorem dX11_init_166 : decode cX11_init 166 = .ok (.sipush 128, 3) := by decide +kernel
theorem dX11_init_169 : decode cX11_init 169 = .ok (.newarray .int, 2) := by decide +kernel
theorem dX11_init_171 : decode cX11_init 171 = .ok (.putfield 70, 3) := by decide +kernel
theorem dX11_init_174 : decode cX11_init 174 = .ok (.aload_n 0, 1) := by decide +kernel
theorem dX11_init_175 : decode cX11_init 175 = .ok (.sipush 128, 3) := by decide +kernel
theorem dX11_init_178 : decode cX11_init 178 = .ok (.newarray .int, 2) := by decide +kernel
theorem dX11_init_180 : decode cX11_init 180 = .ok (.putfield 73, 3) := by decide +kernel
theorem dX11_init_183 : decode cX11_init 183 = .ok (.aload_n 0, 1) := by decide +kernel
theorem dX11_init_184 : decode cX11_init 184 = .ok (.iconst (-1), 1) := by decide +kernel
theorem dX11_init_185 : decode cX11_init 185 = .ok (.putfield 76, 3) := by decide +kernel
theorem dX11_init_188 : decode cX11_init 188 = .ok (.aload_n 0, 1) := by decide +kernel
theorem dX11_init_189 : decode cX11_init 189 = .ok (.bipush 7, 2) := by decide +kernel
theorem dX11_init_191 : decode cX11_init 191 = .ok (.newarray .long, 2) := by decide +kernel
theorem dX11_init_193 : decode cX11_init 193 = .ok (.putfield 80, 3) := by decide +kernel
theorem dX11_init_196 : decode cX11_init 196 = .ok (.aload_n 0, 1) := by decide +kernel
theorem dX11_init_197 : decode cX11_init 197 = .ok (.bipush 64, 2) := by decide +kernel
theorem dX11_init_199 : decode cX11_init 199 = .ok (.newarray .long, 2) := by decide +kernel
theorem dX11_init_201 : decode cX11_init 201 = .ok (.putfield 84, 3) := by decide +kernel
theorem dX11_init_204 : decode cX11_init 204 = .ok (.aload_n 0, 1) := by decide +kernel
theorem dX11_init_205 : decode cX11_init 205 = .ok (.bipush 23, 2) := by decide +kernel
theorem dX11_init_207 : decode cX11_init 207 = .ok (.newarray .int, 2) := by decide +kernel
theorem dX11_init_209 : decode cX11_init 209 = .ok (.putfield 87, 3) := by decide +kernel
theorem dX11_init_212 : decode cX11_init 212 = .ok (.aload_n 0, 1) := by decide +kernel
theorem dX11_init_213 : decode cX11_init 213 = .ok (.bipush 23, 2) := by decide +kernel
theorem dX11_init_215 : decode cX11_init 215 = .ok (.newarray .int, 2) := by decide +kernel
theorem dX11_init_217 : decode cX11_init 217 = .ok (.putfield 90, 3) := by decide +kernel
theorem dX11_init_220 : decode cX11_init 220 = .ok (.aload_n 0, 1) := by decide +kernel
theorem dX11_init_221 : decode cX11_init 221 = .ok (.bipush 23, 2) := by decide +kernel
theorem dX11_init_223 : decode cX11_init 223 = .ok (.newarray .int, 2) := by decide +kernel
theorem dX11_init_225 : decode cX11_init 225 = .ok (.putfield 93, 3) := by decide +kernel
theorem dX11_init_228 : decode cX11_init 228 = .ok (.aload_n 0, 1) := by decide +kernel
theorem dX11_init_229 : decode cX11_init 229 = .ok (.bipush 23, 2) := by decide +kernel
theorem dX11_init_231 : decode cX11_init 231 = .ok (.newarray .int, 2) := by decide +kernel
theorem dX11_init_233 : decode cX11_init 233 = .ok (.putfield 96, 3) := by decide +kernel
theorem dX11_init_236 : decode cX11_init 236 = .ok (.aload_n 0, 1) := by decide +kernel
theorem dX11_init_237 : decode cX11_init 237 = .ok (.sipush 161, 3) := by decide +kernel
theorem dX11_init_240 : decode cX11_init 240 = .ok (.newarray .int, 2) := by decide +kernel
theorem dX11_init_242 : decode cX11_init 242 = .ok (.putfield 99, 3) := by decide +kernel
theorem dX11_init_245 : decode cX11_init 245 = .ok (.aload_n 0, 1) := by decide +kernel
theorem dX11_init_246 : decode cX11_init 246 = .ok (.sipush 184, 3) := by decide +kernel
theorem dX11_init_249 : decode cX11_init 249 = .ok (.newarray .int, 2) := by decide +kernel
theorem dX11_init_251 : decode cX11_init 251 = .ok (.putfield 102, 3) := by decide +kernel
theorem dX11_init_254 : decode cX11_init 254 = .ok (.aload_n 0, 1) := by decide +kernel
theorem dX11_init_255 : decode cX11_init 255 = .ok (.sipush 184, 3) := by decide +kernel
theorem dX11_init_258 : decode cX11_init 258 = .ok (.newarray .int, 2) := by decide +kernel
theorem dX11_init_260 : decode cX11_init 260 = .ok (.putfield 105, 3) := by decide +kernel
theorem dX11_init_263 : decode cX11_init 263 = .ok (.aload_n 0, 1) := by decide +kernel
theorem dX11_init_264 : decode cX11_init 264 = .ok (.iconst (-1), 1) := by decide +kernel
theorem dX11_init_265 : decode cX11_init 265 = .ok (.putfield 108, 3) := by decide +kernel
theorem dX11_init_268 : decode cX11_init 268 = .ok (.aload_n 0, 1) := by decide +kernel
theorem dX11_init_269 : decode cX11_init 269 = .ok (.iconst (-1), 1) := by decide +kernel
theorem dX11_init_270 : decode cX11_init 270 = .ok (.putfield 111, 3) := by decide +kernel
theorem dX11_init_273 : decode cX11_init 273 = .ok (.aload_n 0, 1) := by decide +kernel
theorem dX11_init_274 : decode cX11_init 274 = .ok (.bipush 35, 2) := by decide +kernel
theorem dX11_init_276 : decode cX11_init 276 = .ok (.newarray .int, 2) := by decide +kernel
theorem dX11_init_278 : decode cX11_init 278 = .ok (.putfield 114, 3) := by decide +kernel
theorem dX11_init_281 : decode cX11_init 281 = .ok (.aload_n 0, 1) := by decide +kernel
theorem dX11_init_282 : decode cX11_init 282 = .ok (.bipush 10, 2) := by decide +kernel
theorem dX11_init_284 : decode cX11_init 284 = .ok (.newarray .int, 2) := by decide +kernel
theorem dX11_init_286 : decode cX11_init 286 = .ok (.putfield 117, 3) := by decide +kernel
theorem dX11_init_289 : decode cX11_init 289 = .ok (.aload_n 0, 1) := by decide +kernel
theorem dX11_init_290 : decode cX11_init 290 = .ok (.bipush 7, 2) := by decide +kernel
theorem dX11_init_292 : decode cX11_init 292 = .ok (.newarray .int, 2) := by decide +kernel
theorem dX11_init_294 : decode cX11_init 294 = .ok (.putfield 120, 3) := by decide +kernel
theorem dX11_init_297 : decode cX11_init 297 = .ok (.aload_n 0, 1) := by decide +kernel
theorem dX11_init_298 : decode cX11_init 298 = .ok (.iconst (-1), 1) := by decide +kernel
theorem dX11_init_299 : decode cX11_init 299 = .ok (.putfield 123, 3) := by decide +kernel
theorem dX11_init_302 : decode cX11_init 302 = .ok (.aload_n 0, 1) := by decide +kernel
theorem dX11_init_303 : decode cX11_init 303 = .ok (.bipush 24, 2) := by decide +kernel
theorem dX11_init_305 : decode cX11_init 305 = .ok (.newarray .int, 2) := by decide +kernel
theorem dX11_init_307 : decode cX11_init 307 = .ok (.putfield 126, 3) := by decide +kernel
theorem dX11_init_310 : decode cX11_init 310 = .ok (.aload_n 0, 1) := by decide +kernel
theorem dX11_init_311 : decode cX11_init 311 = .ok (.bipush 24, 2) := by decide +kernel
theorem dX11_init_313 : decode cX11_init 313 = .ok (.newarray .int, 2) := by decide +kernel
theorem dX11_init_315 : decode cX11_init 315 = .ok (.putfield 129, 3) := by decide +kernel
theorem dX11_init_318 : decode cX11_init 318 = .ok (.aload_n 0, 1) := by decide +kernel
theorem dX11_init_319 : decode cX11_init 319 = .ok (.bipush 24, 2) := by decide +kernel
theorem dX11_init_321 : decode cX11_init 321 = .ok (.newarray .int, 2) := by decide +kernel
theorem dX11_init_323 : decode cX11_init 323 = .ok (.putfield 132, 3) := by decide +kernel
theorem dX11_init_326 : decode cX11_init 326 = .ok (.aload_n 0, 1) := by decide +kernel
theorem dX11_init_327 : decode cX11_init 327 = .ok (.bipush 24, 2) := by decide +kernel
theorem dX11_init_329 : decode cX11_init 329 = .ok (.newarray .boolean, 2) := by decide +kernel
theorem dX11_init_331 : decode cX11_init 331 = .ok (.putfield 135, 3) := by decide +kernel
theorem dX11_init_334 : decode cX11_init 334 = .ok (.aload_n 0, 1) := by decide +kernel
theorem dX11_init_335 : decode cX11_init 335 = .ok (.bipush 24, 2) := by decide +kernel
theorem dX11_init_337 : decode cX11_init 337 = .ok (.newarray .int, 2) := by decide +kernel
theorem dX11_init_339 : decode cX11_init 339 = .ok (.putfield 139, 3) := by decide +kernel
theorem dX11_init_342 : decode cX11_init 342 = .ok (.aload_n 0, 1) := by decide +kernel
theorem dX11_init_343 : decode cX11_init 343 = .ok (.bipush 24, 2) := by decide +kernel
theorem dX11_init_345 : decode cX11_init 345 = .ok (.newarray .boolean, 2) := by decide +kernel
theorem dX11_init_347 : decode cX11_init 347 = .ok (.putfield 142, 3) := by decide +kernel
theorem dX11_init_350 : decode cX11_init 350 = .ok (.aload_n 0, 1) := by decide +kernel
theorem dX11_init_351 : decode cX11_init 351 = .ok (.sipush 610, 3) := by decide +kernel
theorem dX11_init_354 : decode cX11_init 354 = .ok (.newarray .int, 2) := by decide +kernel
theorem dX11_init_356 : decode cX11_init 356 = .ok (.putfield 145, 3) := by decide +kernel
theorem dX11_init_359 : decode cX11_init 359 = .ok (.aload_n 0, 1) := by decide +kernel
theorem dX11_init_360 : decode cX11_init 360 = .ok (.invokevirtual 148, 3) := by decide +kernel
theorem dX11_init_363 : decode cX11_init 363 = .ok (.return_, 1) := by decide +kernel
theorem dX11_thrown_0 : decode cX11_thrown 0 = .ok (.aload_n 0, 1) := by decide +kernel
theorem dX11_thrown_1 : decode cX11_thrown 1 = .ok (.getfield 151, 3) := by decide +kernel
theorem dX11_thrown_4 : decode cX11_thrown 4 = .ok (.ireturn, 1) := by decide +kernel
theorem dX11_feed_0 : decode cX11_feed 0 = .ok (.aload_n 0, 1) := by decide +kernel
theorem dX11_feed_1 : decode cX11_feed 1 = .ok (.iconst 0, 1) := by decide +kernel
theorem dX11_feed_2 : decode cX11_feed 2 = .ok (.putfield 151, 3) := by decide +kernel
theorem dX11_feed_5 : decode cX11_feed 5 = .ok (.aload_n 0, 1) := by decide +kernel
theorem dX11_feed_6 : decode cX11_feed 6 = .ok (.getfield 154, 3) := by decide +kernel
theorem dX11_feed_9 : decode cX11_feed 9 = .ok (.sipush 680, 3) := by decide +kernel
theorem dX11_feed_12 : decode cX11_feed 12 = .ok (.if_icmp .le 5, 3) := by decide +kernel
theorem dX11_feed_15 : decode cX11_feed 15 = .ok (.iconst (-1), 1) := by decide +kernel
theorem dX11_feed_16 : decode cX11_feed 16 = .ok (.ireturn, 1) := by decide +kernel
theorem dX11_feed_17 : decode cX11_feed 17 = .ok (.iconst 0, 1) := by decide +kernel
theorem dX11_feed_18 : decode cX11_feed 18 = .ok (.istore 6, 2) := by decide +kernel
theorem dX11_feed_20 : decode cX11_feed 20 = .ok (.iload 6, 2) := by decide +kernel
theorem dX11_feed_22 : decode cX11_feed 22 = .ok (.bipush 20, 2) := by decide +kernel
theorem dX11_feed_24 : decode cX11_feed 24 = .ok (.if_icmp .ge 86, 3) := by decide +kernel
theorem dX11_feed_27 : decode cX11_feed 27 = .ok (.iload 6, 2) := by decide +kernel
theorem dX11_feed_29 : decode cX11_feed 29 = .ok (.iconst 4, 1) := by decide +kernel
theorem dX11_feed_30 : decode cX11_feed 30 = .ok (.if_icmp .ge 7, 3) := by decide +kernel
theorem dX11_feed_33 : decode cX11_feed 33 = .ok (.iload_n 1, 1) := by decide +kernel
theorem dX11_feed_34 : decode cX11_feed 34 = .ok (.goto 39, 3) := by decide +kernel
theorem dX11_feed_37 : decode cX11_feed 37 = .ok (.iload 6, 2) := by decide +kernel
theorem dX11_feed_39 : decode cX11_feed 39 = .ok (.bipush 8, 2) := by decide +kernel
theorem dX11_feed_41 : decode cX11_feed 41 = .ok (.if_icmp .ge 7, 3) := by decide +kernel
theorem dX11_feed_44 : decode cX11_feed 44 = .ok (.iload_n 2, 1) := by decide +kernel
theorem dX11_feed_45 : decode cX11_feed 45 = .ok (.goto 28, 3) := by decide +kernel
theorem dX11_feed_48 : decode cX11_feed 48 = .ok (.iload 6, 2) := by decide +kernel
theorem dX11_feed_50 : decode cX11_feed 50 = .ok (.bipush 12, 2) := by decide +kernel
theorem dX11_feed_52 : decode cX11_feed 52 = .ok (.if_icmp .ge 7, 3) := by decide +kernel
theorem dX11_feed_55 : decode cX11_feed 55 = .ok (.iload_n 3, 1) := by decide +kernel
theorem dX11_feed_56 : decode cX11_feed 56 = .ok (.goto 17, 3) := by decide +kernel
theorem dX11_feed_59 : decode cX11_feed 59 = .ok (.iload 6, 2) := by decide +kernel
theorem dX11_feed_61 : decode cX11_feed 61 = .ok (.bipush 16, 2) := by decide +kernel
theorem dX11_feed_63 : decode cX11_feed 63 = .ok (.if_icmp .ge 8, 3) := by decide +kernel
theorem dX11_feed_66 : decode cX11_feed 66 = .ok (.iload 4, 2) := by decide +kernel
theorem dX11_feed_68 : decode cX11_feed 68 = .ok (.goto 5, 3) := by decide +kernel
theorem dX11_feed_71 : decode cX11_feed 71 = .ok (.iload 5, 2) := by decide +kernel
theorem dX11_feed_73 : decode cX11_feed 73 = .ok (.istore 7, 2) := by decide +kernel
theorem dX11_feed_75 : decode cX11_feed 75 = .ok (.aload_n 0, 1) := by decide +kernel
theorem dX11_feed_76 : decode cX11_feed 76 = .ok (.getfield 7, 3) := by decide +kernel
theorem dX11_feed_79 : decode cX11_feed 79 = .ok (.aload_n 0, 1) := by decide +kernel
theorem dX11_feed_80 : decode cX11_feed 80 = .ok (.getfield 154, 3) := by decide +kernel
theorem dX11_feed_83 : decode cX11_feed 83 = .ok (.iload 6, 2) := by decide +kernel
theorem dX11_feed_85 : decode cX11_feed 85 = .ok (.iadd, 1) := by decide +kernel
theorem dX11_feed_86 : decode cX11_feed 86 = .ok (.iload 7, 2) := by decide +kernel
theorem dX11_feed_88 : decode cX11_feed 88 = .ok (.bipush 24, 2) := by decide +kernel
theorem dX11_feed_90 : decode cX11_feed 90 = .ok (.bipush 8, 2) := by decide +kernel
theorem dX11_feed_92 : decode cX11_feed 92 = .ok (.iload 6, 2) := by decide +kernel
theorem dX11_feed_94 : decode cX11_feed 94 = .ok (.iconst 4, 1) := by decide +kernel
theorem dX11_feed_95 : decode cX11_feed 95 = .ok (.irem, 1) := by decide +kernel
theorem dX11_feed_96 : decode cX11_feed 96 = .ok (.imul, 1) := by decide +kernel
theorem dX11_feed_97 : decode cX11_feed 97 = .ok (.isub, 1) := by decide +kernel
theorem dX11_feed_98 : decode cX11_feed 98 = .ok (.ishr, 1) := by decide +kernel
theorem dX11_feed_99 : decode cX11_feed 99 = .ok (.sipush 255, 3) := by decide +kernel
theorem dX11_feed_102 : decode cX11_feed 102 = .ok (.iand, 1) := by decide +kernel
theorem dX11_feed_103 : decode cX11_feed 103 = .ok (.iastore, 1) := by decide +kernel
theorem dX11_feed_104 : decode cX11_feed 104 = .ok (.iinc 6 1, 3) := by decide +kernel
theorem dX11_feed_107 : decode cX11_feed 107 = .ok (.goto (-87), 3) := by decide +kernel
theorem dX11_feed_110 : decode cX11_feed 110 = .ok (.aload_n 0, 1) := by decide +kernel
theorem dX11_feed_111 : decode cX11_feed 111 = .ok (.dup, 1) := by decide +kernel
theorem dX11_feed_112 : decode cX11_feed 112 = .ok (.getfield 154, 3) := by decide +kernel
theorem dX11_feed_115 : decode cX11_feed 115 = .ok (.bipush 20, 2) := by decide +kernel
theorem dX11_feed_117 : decode cX11_feed 117 = .ok (.iadd, 1) := by decide +kernel
theorem dX11_feed_118 : decode cX11_feed 118 = .ok (.putfield 154, 3) := by decide +kernel
theorem dX11_feed_121 : decode cX11_feed 121 = .ok (.aload_n 0, 1) := by decide +kernel
theorem dX11_feed_122 : decode cX11_feed 122 = .ok (.getfield 154, 3) := by decide +kernel
theorem dX11_feed_125 : decode cX11_feed 125 = .ok (.ireturn, 1) := by decide +kernel
theorem dX11_here_0 : decode cX11_here 0 = .ok (.aload_n 0, 1) := by decide +kernel
theorem dX11_here_1 : decode cX11_here 1 = .ok (.getfield 157, 3) := by decide +kernel
theorem dX11_here_4 : decode cX11_here 4 = .ok (.aload_n 0, 1) := by decide +kernel
theorem dX11_here_5 : decode cX11_here 5 = .ok (.getfield 160, 3) := by decide +kernel
theorem dX11_here_8 : decode cX11_here 8 = .ok (.if_icmp .ge 15, 3) := by decide +kernel
theorem dX11_here_11 : decode cX11_here 11 = .ok (.aload_n 0, 1) := by decide +kernel
theorem dX11_here_12 : decode cX11_here 12 = .ok (.getfield 7, 3) := by decide +kernel
theorem dX11_here_15 : decode cX11_here 15 = .ok (.aload_n 0, 1) := by decide +kernel
theorem dX11_here_16 : decode cX11_here 16 = .ok (.getfield 157, 3) := by decide +kernel
theorem dX11_here_19 : decode cX11_here 19 = .ok (.iaload, 1) := by decide +kernel
theorem dX11_here_20 : decode cX11_here 20 = .ok (.goto 4, 3) := by decide +kernel
theorem dX11_here_23 : decode cX11_here 23 = .ok (.iconst (-1), 1) := by decide +kernel
theorem dX11_here_24 : decode cX11_here 24 = .ok (.ireturn, 1) := by decide +kernel
theorem dX11_isSmall_0 : decode cX11_isSmall 0 = .ok (.iload_n 0, 1) := by decide +kernel
theorem dX11_isSmall_1 : decode cX11_isSmall 1 = .ok (.bipush 97, 2) := by decide +kernel
theorem dX11_isSmall_3 : decode cX11_isSmall 3 = .ok (.if_icmp .lt 13, 3) := by decide +kernel
theorem dX11_isSmall_6 : decode cX11_isSmall 6 = .ok (.iload_n 0, 1) := by decide +kernel
theorem dX11_isSmall_7 : decode cX11_isSmall 7 = .ok (.bipush 122, 2) := by decide +kernel
theorem dX11_isSmall_9 : decode cX11_isSmall 9 = .ok (.if_icmp .gt 7, 3) := by decide +kernel
theorem dX11_isSmall_12 : decode cX11_isSmall 12 = .ok (.iconst 1, 1) := by decide +kernel
theorem dX11_isSmall_13 : decode cX11_isSmall 13 = .ok (.goto 4, 3) := by decide +kernel
theorem dX11_isSmall_16 : decode cX11_isSmall 16 = .ok (.iconst 0, 1) := by decide +kernel
theorem dX11_isSmall_17 : decode cX11_isSmall 17 = .ok (.ireturn, 1) := by decide +kernel
theorem dX11_isDigit_0 : decode cX11_isDigit 0 = .ok (.iload_n 0, 1) := by decide +kernel
theorem dX11_isDigit_1 : decode cX11_isDigit 1 = .ok (.bipush 48, 2) := by decide +kernel
theorem dX11_isDigit_3 : decode cX11_isDigit 3 = .ok (.if_icmp .lt 13, 3) := by decide +kernel
theorem dX11_isDigit_6 : decode cX11_isDigit 6 = .ok (.iload_n 0, 1) := by decide +kernel
theorem dX11_isDigit_7 : decode cX11_isDigit 7 = .ok (.bipush 57, 2) := by decide +kernel
theorem dX11_isDigit_9 : decode cX11_isDigit 9 = .ok (.if_icmp .gt 7, 3) := by decide +kernel
theorem dX11_isDigit_12 : decode cX11_isDigit 12 = .ok (.iconst 1, 1) := by decide +kernel
theorem dX11_isDigit_13 : decode cX11_isDigit 13 = .ok (.goto 4, 3) := by decide +kernel
theorem dX11_isDigit_16 : decode cX11_isDigit 16 = .ok (.iconst 0, 1) := by decide +kernel
theorem dX11_isDigit_17 : decode cX11_isDigit 17 = .ok (.ireturn, 1) := by decide +kernel
theorem dX11_token_0 : decode cX11_token 0 = .ok (.aload_n 0, 1) := by decide +kernel
theorem dX11_token_1 : decode cX11_token 1 = .ok (.invokevirtual 163, 3) := by decide +kernel
theorem dX11_token_4 : decode cX11_token 4 = .ok (.bipush 10, 2) := by decide +kernel
theorem dX11_token_6 : decode cX11_token 6 = .ok (.if_icmp .eq 12, 3) := by decide +kernel
theorem dX11_token_9 : decode cX11_token 9 = .ok (.aload_n 0, 1) := by decide +kernel
theorem dX11_token_10 : decode cX11_token 10 = .ok (.invokevirtual 163, 3) := by decide +kernel
theorem dX11_token_13 : decode cX11_token 13 = .ok (.bipush 32, 2) := by decide +kernel
theorem dX11_token_15 : decode cX11_token 15 = .ok (.if_icmp .ne 16, 3) := by decide +kernel
theorem dX11_token_18 : decode cX11_token 18 = .ok (.aload_n 0, 1) := by decide +kernel
theorem dX11_token_19 : decode cX11_token 19 = .ok (.dup, 1) := by decide +kernel
theorem dX11_token_20 : decode cX11_token 20 = .ok (.getfield 157, 3) := by decide +kernel
theorem dX11_token_23 : decode cX11_token 23 = .ok (.iconst 1, 1) := by decide +kernel
theorem dX11_token_24 : decode cX11_token 24 = .ok (.iadd, 1) := by decide +kernel
theorem dX11_token_25 : decode cX11_token 25 = .ok (.putfield 157, 3) := by decide +kernel
theorem dX11_token_28 : decode cX11_token 28 = .ok (.goto (-28), 3) := by decide +kernel
theorem dX11_token_31 : decode cX11_token 31 = .ok (.aload_n 0, 1) := by decide +kernel
theorem dX11_token_32 : decode cX11_token 32 = .ok (.aload_n 0, 1) := by decide +kernel
theorem dX11_token_33 : decode cX11_token 33 = .ok (.getfield 157, 3) := by decide +kernel
theorem dX11_token_36 : decode cX11_token 36 = .ok (.putfield 167, 3) := by decide +kernel
theorem dX11_token_39 : decode cX11_token 39 = .ok (.aload_n 0, 1) := by decide +kernel
theorem dX11_token_40 : decode cX11_token 40 = .ok (.invokevirtual 163, 3) := by decide +kernel
theorem dX11_token_43 : decode cX11_token 43 = .ok (.istore_n 1, 1) := by decide +kernel
theorem dX11_token_44 : decode cX11_token 44 = .ok (.iload_n 1, 1) := by decide +kernel
theorem dX11_token_45 : decode cX11_token 45 = .ok (.iconst (-1), 1) := by decide +kernel
theorem dX11_token_46 : decode cX11_token 46 = .ok (.if_icmp .ne 11, 3) := by decide +kernel
theorem dX11_token_49 : decode cX11_token 49 = .ok (.aload_n 0, 1) := by decide +kernel
theorem dX11_token_50 : decode cX11_token 50 = .ok (.iconst 4, 1) := by decide +kernel
theorem dX11_token_51 : decode cX11_token 51 = .ok (.putfield 170, 3) := by decide +kernel
theorem dX11_token_54 : decode cX11_token 54 = .ok (.goto 171, 3) := by decide +kernel
theorem dX11_token_57 : decode cX11_token 57 = .ok (.iload_n 1, 1) := by decide +kernel
theorem dX11_token_58 : decode cX11_token 58 = .ok (.invokestatic 173, 3) := by decide +kernel
theorem dX11_token_61 : decode cX11_token 61 = .ok (.ifCond .eq 84, 3) := by decide +kernel
theorem dX11_token_64 : decode cX11_token 64 = .ok (.aload_n 0, 1) := by decide +kernel
theorem dX11_token_65 : decode cX11_token 65 = .ok (.invokevirtual 163, 3) := by decide +kernel
theorem dX11_token_68 : decode cX11_token 68 = .ok (.invokestatic 173, 3) := by decide +kernel
theorem dX11_token_71 : decode cX11_token 71 = .ok (.ifCond .eq 16, 3) := by decide +kernel
theorem dX11_token_74 : decode cX11_token 74 = .ok (.aload_n 0, 1) := by decide +kernel
theorem dX11_token_75 : decode cX11_token 75 = .ok (.dup, 1) := by decide +kernel
theorem dX11_token_76 : decode cX11_token 76 = .ok (.getfield 157, 3) := by decide +kernel
theorem dX11_token_79 : decode cX11_token 79 = .ok (.iconst 1, 1) := by decide +kernel
theorem dX11_token_80 : decode cX11_token 80 = .ok (.iadd, 1) := by decide +kernel
theorem dX11_token_81 : decode cX11_token 81 = .ok (.putfield 157, 3) := by decide +kernel
theorem dX11_token_84 : decode cX11_token 84 = .ok (.goto (-20), 3) := by decide +kernel
theorem dX11_token_87 : decode cX11_token 87 = .ok (.aload_n 0, 1) := by decide +kernel
theorem dX11_token_88 : decode cX11_token 88 = .ok (.aload_n 0, 1) := by decide +kernel
theorem dX11_token_89 : decode cX11_token 89 = .ok (.invokevirtual 177, 3) := by decide +kernel
theorem dX11_token_92 : decode cX11_token 92 = .ok (.putfield 180, 3) := by decide +kernel
theorem dX11_token_95 : decode cX11_token 95 = .ok (.aload_n 0, 1) := by decide +kernel
theorem dX11_token_96 : decode cX11_token 96 = .ok (.aload_n 0, 1) := by decide +kernel
theorem dX11_token_97 : decode cX11_token 97 = .ok (.getfield 180, 3) := by decide +kernel
theorem dX11_token_100 : decode cX11_token 100 = .ok (.iconst (-1), 1) := by decide +kernel
theorem dX11_token_101 : decode cX11_token 101 = .ok (.if_icmp .eq 7, 3) := by decide +kernel
theorem dX11_token_104 : decode cX11_token 104 = .ok (.iconst 0, 1) := by decide +kernel
theorem dX11_token_105 : decode cX11_token 105 = .ok (.goto 22, 3) := by decide +kernel
theorem dX11_token_108 : decode cX11_token 108 = .ok (.aload_n 0, 1) := by decide +kernel
theorem dX11_token_109 : decode cX11_token 109 = .ok (.getfield 157, 3) := by decide +kernel
theorem dX11_token_112 : decode cX11_token 112 = .ok (.aload_n 0, 1) := by decide +kernel
theorem dX11_token_113 : decode cX11_token 113 = .ok (.getfield 167, 3) := by decide +kernel
theorem dX11_token_116 : decode cX11_token 116 = .ok (.isub, 1) := by decide +kernel
theorem dX11_token_117 : decode cX11_token 117 = .ok (.bipush 6, 2) := by decide +kernel
theorem dX11_token_119 : decode cX11_token 119 = .ok (.if_icmp .le 7, 3) := by decide +kernel
theorem dX11_token_122 : decode cX11_token 122 = .ok (.iconst 5, 1) := by decide +kernel
theorem dX11_token_123 : decode cX11_token 123 = .ok (.goto 4, 3) := by decide +kernel
theorem dX11_token_126 : decode cX11_token 126 = .ok (.iconst 1, 1) := by decide +kernel
theorem dX11_token_127 : decode cX11_token 127 = .ok (.putfield 170, 3) := by decide +kernel
theorem dX11_token_130 : decode cX11_token 130 = .ok (.aload_n 0, 1) := by decide +kernel
theorem dX11_token_131 : decode cX11_token 131 = .ok (.getfield 170, 3) := by decide +kernel
theorem dX11_token_134 : decode cX11_token 134 = .ok (.iconst 1, 1) := by decide +kernel
theorem dX11_token_135 : decode cX11_token 135 = .ok (.if_icmp .ne 90, 3) := by decide +kernel
theorem dX11_token_138 : decode cX11_token 138 = .ok (.aload_n 0, 1) := by decide +kernel
theorem dX11_token_139 : decode cX11_token 139 = .ok (.invokevirtual 183, 3) := by decide +kernel
theorem dX11_token_142 : decode cX11_token 142 = .ok (.goto 83, 3) := by decide +kernel
theorem dX11_token_145 : decode cX11_token 145 = .ok (.iload_n 1, 1) := by decide +kernel
theorem dX11_token_146 : decode cX11_token 146 = .ok (.invokestatic 186, 3) := by decide +kernel
theorem dX11_token_149 : decode cX11_token 149 = .ok (.ifCond .eq 71, 3) := by decide +kernel
theorem dX11_token_152 : decode cX11_token 152 = .ok (.aload_n 0, 1) := by decide +kernel
theorem dX11_token_153 : decode cX11_token 153 = .ok (.iconst 2, 1) := by decide +kernel
theorem dX11_token_154 : decode cX11_token 154 = .ok (.putfield 170, 3) := by decide +kernel
theorem dX11_token_157 : decode cX11_token 157 = .ok (.aload_n 0, 1) := by decide +kernel
theorem dX11_token_158 : decode cX11_token 158 = .ok (.iconst 0, 1) := by decide +kernel
theorem dX11_token_159 : decode cX11_token 159 = .ok (.putfield 180, 3) := by decide +kernel
theorem dX11_token_162 : decode cX11_token 162 = .ok (.aload_n 0, 1) := by decide +kernel
theorem dX11_token_163 : decode cX11_token 163 = .ok (.invokevirtual 163, 3) := by decide +kernel
theorem dX11_token_166 : decode cX11_token 166 = .ok (.invokestatic 186, 3) := by decide +kernel
theorem dX11_token_169 : decode cX11_token 169 = .ok (.ifCond .eq 56, 3) := by decide +kernel
theorem dX11_token_172 : decode cX11_token 172 = .ok (.aload_n 0, 1) := by decide +kernel
theorem dX11_token_173 : decode cX11_token 173 = .ok (.aload_n 0, 1) := by decide +kernel
theorem dX11_token_174 : decode cX11_token 174 = .ok (.getfield 180, 3) := by decide +kernel
theorem dX11_token_177 : decode cX11_token 177 = .ok (.ldc 189, 2) := by decide +kernel
theorem dX11_token_179 : decode cX11_token 179 = .ok (.if_icmp .le 10, 3) := by decide +kernel
theorem dX11_token_182 : decode cX11_token 182 = .ok (.aload_n 0, 1) := by decide +kernel
theorem dX11_token_183 : decode cX11_token 183 = .ok (.getfield 180, 3) := by decide +kernel
theorem dX11_token_186 : decode cX11_token 186 = .ok (.goto 18, 3) := by decide +kernel
theorem dX11_token_189 : decode cX11_token 189 = .ok (.bipush 10, 2) := by decide +kernel
theorem dX11_token_191 : decode cX11_token 191 = .ok (.aload_n 0, 1) := by decide +kernel
theorem dX11_token_192 : decode cX11_token 192 = .ok (.getfield 180, 3) := by decide +kernel
theorem dX11_token_195 : decode cX11_token 195 = .ok (.imul, 1) := by decide +kernel
theorem dX11_token_196 : decode cX11_token 196 = .ok (.aload_n 0, 1) := by decide +kernel
theorem dX11_token_197 : decode cX11_token 197 = .ok (.invokevirtual 163, 3) := by decide +kernel
theorem dX11_token_200 : decode cX11_token 200 = .ok (.iadd, 1) := by decide +kernel
theorem dX11_token_201 : decode cX11_token 201 = .ok (.bipush 48, 2) := by decide +kernel
theorem dX11_token_203 : decode cX11_token 203 = .ok (.isub, 1) := by decide +kernel
theorem dX11_token_204 : decode cX11_token 204 = .ok (.putfield 180, 3) := by decide +kernel
theorem dX11_token_207 : decode cX11_token 207 = .ok (.aload_n 0, 1) := by decide +kernel
theorem dX11_token_208 : decode cX11_token 208 = .ok (.dup, 1) := by decide +kernel
theorem dX11_token_209 : decode cX11_token 209 = .ok (.getfield 157, 3) := by decide +kernel
theorem dX11_token_212 : decode cX11_token 212 = .ok (.iconst 1, 1) := by decide +kernel
theorem dX11_token_213 : decode cX11_token 213 = .ok (.iadd, 1) := by decide +kernel
theorem dX11_token_214 : decode cX11_token 214 = .ok (.putfield 157, 3) := by decide +kernel
theorem dX11_token_217 : decode cX11_token 217 = .ok (.goto (-55), 3) := by decide +kernel
theorem dX11_token_220 : decode cX11_token 220 = .ok (.aload_n 0, 1) := by decide +kernel
theorem dX11_token_221 : decode cX11_token 221 = .ok (.iload_n 1, 1) := by decide +kernel
theorem dX11_token_222 : decode cX11_token 222 = .ok (.invokevirtual 190, 3) := by decide +kernel
theorem dX11_token_225 : decode cX11_token 225 = .ok (.return_, 1) := by decide +kernel
theorem dX11_sign_0 : decode cX11_sign 0 = .ok (.aload_n 0, 1) := by decide +kernel
theorem dX11_sign_1 : decode cX11_sign 1 = .ok (.dup, 1) := by decide +kernel
theorem dX11_sign_2 : decode cX11_sign 2 = .ok (.getfield 157, 3) := by decide +kernel
theorem dX11_sign_5 : decode cX11_sign 5 = .ok (.iconst 1, 1) := by decide +kernel
theorem dX11_sign_6 : decode cX11_sign 6 = .ok (.iadd, 1) := by decide +kernel
theorem dX11_sign_7 : decode cX11_sign 7 = .ok (.putfield 157, 3) := by decide +kernel
theorem dX11_sign_10 : decode cX11_sign 10 = .ok (.aload_n 0, 1) := by decide +kernel
theorem dX11_sign_11 : decode cX11_sign 11 = .ok (.iload_n 1, 1) := by decide +kernel
theorem dX11_sign_12 : decode cX11_sign 12 = .ok (.bipush 59, 2) := by decide +kernel
theorem dX11_sign_14 : decode cX11_sign 14 = .ok (.if_icmp .eq 57, 3) := by decide +kernel
theorem dX11_sign_17 : decode cX11_sign 17 = .ok (.iload_n 1, 1) := by decide +kernel
theorem dX11_sign_18 : decode cX11_sign 18 = .ok (.bipush 40, 2) := by decide +kernel
theorem dX11_sign_20 : decode cX11_sign 20 = .ok (.if_icmp .eq 51, 3) := by decide +kernel
theorem dX11_sign_23 : decode cX11_sign 23 = .ok (.iload_n 1, 1) := by decide +kernel
theorem dX11_sign_24 : decode cX11_sign 24 = .ok (.bipush 41, 2) := by decide +kernel
theorem dX11_sign_26 : decode cX11_sign 26 = .ok (.if_icmp .eq 45, 3) := by decide +kernel
theorem dX11_sign_29 : decode cX11_sign 29 = .ok (.iload_n 1, 1) := by decide +kernel
theorem dX11_sign_30 : decode cX11_sign 30 = .ok (.bipush 43, 2) := by decide +kernel
theorem dX11_sign_32 : decode cX11_sign 32 = .ok (.if_icmp .eq 39, 3) := by decide +kernel
theorem dX11_sign_35 : decode cX11_sign 35 = .ok (.iload_n 1, 1) := by decide +kernel
theorem dX11_sign_36 : decode cX11_sign 36 = .ok (.bipush 45, 2) := by decide +kernel
theorem dX11_sign_38 : decode cX11_sign 38 = .ok (.if_icmp .eq 33, 3) := by decide +kernel
theorem dX11_sign_41 : decode cX11_sign 41 = .ok (.iload_n 1, 1) := by decide +kernel
theorem dX11_sign_42 : decode cX11_sign 42 = .ok (.bipush 42, 2) := by decide +kernel
theorem dX11_sign_44 : decode cX11_sign 44 = .ok (.if_icmp .eq 27, 3) := by decide +kernel
theorem dX11_sign_47 : decode cX11_sign 47 = .ok (.iload_n 1, 1) := by decide +kernel
theorem dX11_sign_48 : decode cX11_sign 48 = .ok (.bipush 47, 2) := by decide +kernel
theorem dX11_sign_50 : decode cX11_sign 50 = .ok (.if_icmp .eq 21, 3) := by decide +kernel
theorem dX11_sign_53 : decode cX11_sign 53 = .ok (.iload_n 1, 1) := by decide +kernel
theorem dX11_sign_54 : decode cX11_sign 54 = .ok (.bipush 60, 2) := by decide +kernel
theorem dX11_sign_56 : decode cX11_sign 56 = .ok (.if_icmp .eq 15, 3) := by decide +kernel
theorem dX11_sign_59 : decode cX11_sign 59 = .ok (.iload_n 1, 1) := by decide +kernel
theorem dX11_sign_60 : decode cX11_sign 60 = .ok (.bipush 61, 2) := by decide +kernel
theorem dX11_sign_62 : decode cX11_sign 62 = .ok (.if_icmp .eq 9, 3) := by decide +kernel
theorem dX11_sign_65 : decode cX11_sign 65 = .ok (.iload_n 1, 1) := by decide +kernel
theorem dX11_sign_66 : decode cX11_sign 66 = .ok (.bipush 62, 2) := by decide +kernel
theorem dX11_sign_68 : decode cX11_sign 68 = .ok (.if_icmp .ne 7, 3) := by decide +kernel
theorem dX11_sign_71 : decode cX11_sign 71 = .ok (.iconst 3, 1) := by decide +kernel
theorem dX11_sign_72 : decode cX11_sign 72 = .ok (.goto 4, 3) := by decide +kernel
theorem dX11_sign_75 : decode cX11_sign 75 = .ok (.iconst 5, 1) := by decide +kernel
theorem dX11_sign_76 : decode cX11_sign 76 = .ok (.putfield 170, 3) := by decide +kernel
theorem dX11_sign_79 : decode cX11_sign 79 = .ok (.aload_n 0, 1) := by decide +kernel
theorem dX11_sign_80 : decode cX11_sign 80 = .ok (.iload_n 1, 1) := by decide +kernel
theorem dX11_sign_81 : decode cX11_sign 81 = .ok (.putfield 180, 3) := by decide +kernel
theorem dX11_sign_84 : decode cX11_sign 84 = .ok (.iload_n 1, 1) := by decide +kernel
theorem dX11_sign_85 : decode cX11_sign 85 = .ok (.bipush 60, 2) := by decide +kernel
theorem dX11_sign_87 : decode cX11_sign 87 = .ok (.if_icmp .ne 19, 3) := by decide +kernel
theorem dX11_sign_90 : decode cX11_sign 90 = .ok (.aload_n 0, 1) := by decide +kernel
theorem dX11_sign_91 : decode cX11_sign 91 = .ok (.invokevirtual 163, 3) := by decide +kernel
theorem dX11_sign_94 : decode cX11_sign 94 = .ok (.bipush 61, 2) := by decide +kernel
theorem dX11_sign_96 : decode cX11_sign 96 = .ok (.if_icmp .ne 10, 3) := by decide +kernel
theorem dX11_sign_99 : decode cX11_sign 99 = .ok (.aload_n 0, 1) := by decide +kernel
theorem dX11_sign_100 : decode cX11_sign 100 = .ok (.sipush 256, 3) := by decide +kernel
theorem dX11_sign_103 : decode cX11_sign 103 = .ok (.putfield 180, 3) := by decide +kernel
theorem dX11_sign_106 : decode cX11_sign 106 = .ok (.iload_n 1, 1) := by decide +kernel
theorem dX11_sign_107 : decode cX11_sign 107 = .ok (.bipush 60, 2) := by decide +kernel
theorem dX11_sign_109 : decode cX11_sign 109 = .ok (.if_icmp .ne 19, 3) := by decide +kernel
theorem dX11_sign_112 : decode cX11_sign 112 = .ok (.aload_n 0, 1) := by decide +kernel
theorem dX11_sign_113 : decode cX11_sign 113 = .ok (.invokevirtual 163, 3) := by decide +kernel
theorem dX11_sign_116 : decode cX11_sign 116 = .ok (.bipush 62, 2) := by decide +kernel
theorem dX11_sign_118 : decode cX11_sign 118 = .ok (.if_icmp .ne 10, 3) := by decide +kernel
theorem dX11_sign_121 : decode cX11_sign 121 = .ok (.aload_n 0, 1) := by decide +kernel
theorem dX11_sign_122 : decode cX11_sign 122 = .ok (.sipush 257, 3) := by decide +kernel
theorem dX11_sign_125 : decode cX11_sign 125 = .ok (.putfield 180, 3) := by decide +kernel
theorem dX11_sign_128 : decode cX11_sign 128 = .ok (.iload_n 1, 1) := by decide +kernel
theorem dX11_sign_129 : decode cX11_sign 129 = .ok (.bipush 62, 2) := by decide +kernel
theorem dX11_sign_131 : decode cX11_sign 131 = .ok (.if_icmp .ne 19, 3) := by decide +kernel
theorem dX11_sign_134 : decode cX11_sign 134 = .ok (.aload_n 0, 1) := by decide +kernel
theorem dX11_sign_135 : decode cX11_sign 135 = .ok (.invokevirtual 163, 3) := by decide +kernel
theorem dX11_sign_138 : decode cX11_sign 138 = .ok (.bipush 61, 2) := by decide +kernel
theorem dX11_sign_140 : decode cX11_sign 140 = .ok (.if_icmp .ne 10, 3) := by decide +kernel
theorem dX11_sign_143 : decode cX11_sign 143 = .ok (.aload_n 0, 1) := by decide +kernel
theorem dX11_sign_144 : decode cX11_sign 144 = .ok (.sipush 258, 3) := by decide +kernel
theorem dX11_sign_147 : decode cX11_sign 147 = .ok (.putfield 180, 3) := by decide +kernel
theorem dX11_sign_150 : decode cX11_sign 150 = .ok (.aload_n 0, 1) := by decide +kernel
theorem dX11_sign_151 : decode cX11_sign 151 = .ok (.getfield 180, 3) := by decide +kernel
theorem dX11_sign_154 : decode cX11_sign 154 = .ok (.sipush 256, 3) := by decide +kernel
theorem dX11_sign_157 : decode cX11_sign 157 = .ok (.if_icmp .lt 13, 3) := by decide +kernel
theorem dX11_sign_160 : decode cX11_sign 160 = .ok (.aload_n 0, 1) := by decide +kernel
theorem dX11_sign_161 : decode cX11_sign 161 = .ok (.dup, 1) := by decide +kernel
theorem dX11_sign_162 : decode cX11_sign 162 = .ok (.getfield 157, 3) := by decide +kernel
theorem dX11_sign_165 : decode cX11_sign 165 = .ok (.iconst 1, 1) := by decide +kernel
theorem dX11_sign_166 : decode cX11_sign 166 = .ok (.iadd, 1) := by decide +kernel
theorem dX11_sign_167 : decode cX11_sign 167 = .ok (.putfield 157, 3) := by decide +kernel
theorem dX11_sign_170 : decode cX11_sign 170 = .ok (.return_, 1) := by decide +kernel
theorem dX11_word_0 : decode cX11_word 0 = .ok (.iconst 0, 1) := by decide +kernel
theorem dX11_word_1 : decode cX11_word 1 = .ok (.istore_n 1, 1) := by decide +kernel
theorem dX11_word_2 : decode cX11_word 2 = .ok (.iconst 0, 1) := by decide +kernel
theorem dX11_word_3 : decode cX11_word 3 = .ok (.istore_n 2, 1) := by decide +kernel
theorem dX11_word_4 : decode cX11_word 4 = .ok (.iload_n 2, 1) := by decide +kernel
theorem dX11_word_5 : decode cX11_word 5 = .ok (.ldc 194, 2) := by decide +kernel
theorem dX11_word_7 : decode cX11_word 7 = .ok (.invokevirtual 196, 3) := by decide +kernel
theorem dX11_word_10 : decode cX11_word 10 = .ok (.if_icmp .ge 113, 3) := by decide +kernel
theorem dX11_word_13 : decode cX11_word 13 = .ok (.iconst 0, 1) := by decide +kernel
theorem dX11_word_14 : decode cX11_word 14 = .ok (.istore_n 3, 1) := by decide +kernel
theorem dX11_word_15 : decode cX11_word 15 = .ok (.ldc 194, 2) := by decide +kernel
theorem dX11_word_17 : decode cX11_word 17 = .ok (.iload_n 2, 1) := by decide +kernel
theorem dX11_word_18 : decode cX11_word 18 = .ok (.iload_n 3, 1) := by decide +kernel
theorem dX11_word_19 : decode cX11_word 19 = .ok (.iadd, 1) := by decide +kernel
theorem dX11_word_20 : decode cX11_word 20 = .ok (.invokevirtual 201, 3) := by decide +kernel
theorem dX11_word_23 : decode cX11_word 23 = .ok (.bipush 32, 2) := by decide +kernel
theorem dX11_word_25 : decode cX11_word 25 = .ok (.if_icmp .eq 44, 3) := by decide +kernel
theorem dX11_word_28 : decode cX11_word 28 = .ok (.aload_n 0, 1) := by decide +kernel
theorem dX11_word_29 : decode cX11_word 29 = .ok (.getfield 167, 3) := by decide +kernel
theorem dX11_word_32 : decode cX11_word 32 = .ok (.iload_n 3, 1) := by decide +kernel
theorem dX11_word_33 : decode cX11_word 33 = .ok (.iadd, 1) := by decide +kernel
theorem dX11_word_34 : decode cX11_word 34 = .ok (.aload_n 0, 1) := by decide +kernel
theorem dX11_word_35 : decode cX11_word 35 = .ok (.getfield 157, 3) := by decide +kernel
theorem dX11_word_38 : decode cX11_word 38 = .ok (.if_icmp .ge 31, 3) := by decide +kernel
theorem dX11_word_41 : decode cX11_word 41 = .ok (.aload_n 0, 1) := by decide +kernel
theorem dX11_word_42 : decode cX11_word 42 = .ok (.getfield 7, 3) := by decide +kernel
theorem dX11_word_45 : decode cX11_word 45 = .ok (.aload_n 0, 1) := by decide +kernel
theorem dX11_word_46 : decode cX11_word 46 = .ok (.getfield 167, 3) := by decide +kernel
theorem dX11_word_49 : decode cX11_word 49 = .ok (.iload_n 3, 1) := by decide +kernel
theorem dX11_word_50 : decode cX11_word 50 = .ok (.iadd, 1) := by decide +kernel
theorem dX11_word_51 : decode cX11_word 51 = .ok (.iaload, 1) := by decide +kernel
theorem dX11_word_52 : decode cX11_word 52 = .ok (.ldc 194, 2) := by decide +kernel
theorem dX11_word_54 : decode cX11_word 54 = .ok (.iload_n 2, 1) := by decide +kernel
theorem dX11_word_55 : decode cX11_word 55 = .ok (.iload_n 3, 1) := by decide +kernel
theorem dX11_word_56 : decode cX11_word 56 = .ok (.iadd, 1) := by decide +kernel
theorem dX11_word_57 : decode cX11_word 57 = .ok (.invokevirtual 201, 3) := by decide +kernel
theorem dX11_word_60 : decode cX11_word 60 = .ok (.if_icmp .ne 9, 3) := by decide +kernel
theorem dX11_word_63 : decode cX11_word 63 = .ok (.iinc 3 1, 3) := by decide +kernel
theorem dX11_word_66 : decode cX11_word 66 = .ok (.goto (-51), 3) := by decide +kernel
theorem dX11_word_69 : decode cX11_word 69 = .ok (.ldc 194, 2) := by decide +kernel
theorem dX11_word_71 : decode cX11_word 71 = .ok (.iload_n 2, 1) := by decide +kernel
theorem dX11_word_72 : decode cX11_word 72 = .ok (.iload_n 3, 1) := by decide +kernel
theorem dX11_word_73 : decode cX11_word 73 = .ok (.iadd, 1) := by decide +kernel
theorem dX11_word_74 : decode cX11_word 74 = .ok (.invokevirtual 201, 3) := by decide +kernel
theorem dX11_word_77 : decode cX11_word 77 = .ok (.bipush 32, 2) := by decide +kernel
theorem dX11_word_79 : decode cX11_word 79 = .ok (.if_icmp .ne 18, 3) := by decide +kernel
theorem dX11_word_82 : decode cX11_word 82 = .ok (.aload_n 0, 1) := by decide +kernel
theorem dX11_word_83 : decode cX11_word 83 = .ok (.getfield 167, 3) := by decide +kernel
theorem dX11_word_86 : decode cX11_word 86 = .ok (.iload_n 3, 1) := by decide +kernel
theorem dX11_word_87 : decode cX11_word 87 = .ok (.iadd, 1) := by decide +kernel
theorem dX11_word_88 : decode cX11_word 88 = .ok (.aload_n 0, 1) := by decide +kernel
theorem dX11_word_89 : decode cX11_word 89 = .ok (.getfield 157, 3) := by decide +kernel
theorem dX11_word_92 : decode cX11_word 92 = .ok (.if_icmp .ne 5, 3) := by decide +kernel
theorem dX11_word_95 : decode cX11_word 95 = .ok (.iload_n 1, 1) := by decide +kernel
theorem dX11_word_96 : decode cX11_word 96 = .ok (.ireturn, 1) := by decide +kernel
theorem dX11_word_97 : decode cX11_word 97 = .ok (.ldc 194, 2) := by decide +kernel
theorem dX11_word_99 : decode cX11_word 99 = .ok (.iload_n 2, 1) := by decide +kernel
theorem dX11_word_100 : decode cX11_word 100 = .ok (.invokevirtual 201, 3) := by decide +kernel
theorem dX11_word_103 : decode cX11_word 103 = .ok (.bipush 32, 2) := by decide +kernel
theorem dX11_word_105 : decode cX11_word 105 = .ok (.if_icmp .eq 9, 3) := by decide +kernel
theorem dX11_word_108 : decode cX11_word 108 = .ok (.iinc 2 1, 3) := by decide +kernel
theorem dX11_word_111 : decode cX11_word 111 = .ok (.goto (-14), 3) := by decide +kernel
theorem dX11_word_114 : decode cX11_word 114 = .ok (.iinc 2 1, 3) := by decide +kernel
theorem dX11_word_117 : decode cX11_word 117 = .ok (.iinc 1 1, 3) := by decide +kernel
theorem dX11_word_120 : decode cX11_word 120 = .ok (.goto (-116), 3) := by decide +kernel
theorem dX11_word_123 : decode cX11_word 123 = .ok (.iconst (-1), 1) := by decide +kernel
theorem dX11_word_124 : decode cX11_word 124 = .ok (.ireturn, 1) := by decide +kernel
theorem dX11_name_0 : decode cX11_name 0 = .ok (.aload_n 0, 1) := by decide +kernel
theorem dX11_name_1 : decode cX11_name 1 = .ok (.iconst 0, 1) := by decide +kernel
theorem dX11_name_2 : decode cX11_name 2 = .ok (.putfield 180, 3) := by decide +kernel
theorem dX11_name_5 : decode cX11_name 5 = .ok (.iconst 0, 1) := by decide +kernel
theorem dX11_name_6 : decode cX11_name 6 = .ok (.istore_n 1, 1) := by decide +kernel
theorem dX11_name_7 : decode cX11_name 7 = .ok (.iload_n 1, 1) := by decide +kernel
theorem dX11_name_8 : decode cX11_name 8 = .ok (.bipush 6, 2) := by decide +kernel
theorem dX11_name_10 : decode cX11_name 10 = .ok (.if_icmp .ge 53, 3) := by decide +kernel
theorem dX11_name_13 : decode cX11_name 13 = .ok (.aload_n 0, 1) := by decide +kernel
theorem dX11_name_14 : decode cX11_name 14 = .ok (.aload_n 0, 1) := by decide +kernel
theorem dX11_name_15 : decode cX11_name 15 = .ok (.getfield 180, 3) := by decide +kernel
theorem dX11_name_18 : decode cX11_name 18 = .ok (.iconst 5, 1) := by decide +kernel
theorem dX11_name_19 : decode cX11_name 19 = .ok (.ishl, 1) := by decide +kernel
theorem dX11_name_20 : decode cX11_name 20 = .ok (.aload_n 0, 1) := by decide +kernel
theorem dX11_name_21 : decode cX11_name 21 = .ok (.getfield 167, 3) := by decide +kernel
theorem dX11_name_24 : decode cX11_name 24 = .ok (.iload_n 1, 1) := by decide +kernel
theorem dX11_name_25 : decode cX11_name 25 = .ok (.iadd, 1) := by decide +kernel
theorem dX11_name_26 : decode cX11_name 26 = .ok (.aload_n 0, 1) := by decide +kernel
theorem dX11_name_27 : decode cX11_name 27 = .ok (.getfield 157, 3) := by decide +kernel
theorem dX11_name_30 : decode cX11_name 30 = .ok (.if_icmp .ge 22, 3) := by decide +kernel
theorem dX11_name_33 : decode cX11_name 33 = .ok (.aload_n 0, 1) := by decide +kernel
theorem dX11_name_34 : decode cX11_name 34 = .ok (.getfield 7, 3) := by decide +kernel
theorem dX11_name_37 : decode cX11_name 37 = .ok (.aload_n 0, 1) := by decide +kernel
theorem dX11_name_38 : decode cX11_name 38 = .ok (.getfield 167, 3) := by decide +kernel
theorem dX11_name_41 : decode cX11_name 41 = .ok (.iload_n 1, 1) := by decide +kernel
theorem dX11_name_42 : decode cX11_name 42 = .ok (.iadd, 1) := by decide +kernel
theorem dX11_name_43 : decode cX11_name 43 = .ok (.iaload, 1) := by decide +kernel
theorem dX11_name_44 : decode cX11_name 44 = .ok (.bipush 97, 2) := by decide +kernel
theorem dX11_name_46 : decode cX11_name 46 = .ok (.isub, 1) := by decide +kernel
theorem dX11_name_47 : decode cX11_name 47 = .ok (.iconst 1, 1) := by decide +kernel
theorem dX11_name_48 : decode cX11_name 48 = .ok (.iadd, 1) := by decide +kernel
theorem dX11_name_49 : decode cX11_name 49 = .ok (.goto 4, 3) := by decide +kernel
theorem dX11_name_52 : decode cX11_name 52 = .ok (.iconst 0, 1) := by decide +kernel
theorem dX11_name_53 : decode cX11_name 53 = .ok (.ior, 1) := by decide +kernel
theorem dX11_name_54 : decode cX11_name 54 = .ok (.putfield 180, 3) := by decide +kernel
theorem dX11_name_57 : decode cX11_name 57 = .ok (.iinc 1 1, 3) := by decide +kernel
theorem dX11_name_60 : decode cX11_name 60 = .ok (.goto (-53), 3) := by decide +kernel
theorem dX11_name_63 : decode cX11_name 63 = .ok (.return_, 1) := by decide +kernel
theorem dX11_wrong_0 : decode cX11_wrong 0 = .ok (.aload_n 0, 1) := by decide +kernel
theorem dX11_wrong_1 : decode cX11_wrong 1 = .ok (.getfield 205, 3) := by decide +kernel
theorem dX11_wrong_4 : decode cX11_wrong 4 = .ok (.ifCond .eq 4, 3) := by decide +kernel
theorem dX11_wrong_7 : decode cX11_wrong 7 = .ok (.return_, 1) := by decide +kernel
theorem dX11_wrong_8 : decode cX11_wrong 8 = .ok (.aload_n 0, 1) := by decide +kernel
theorem dX11_wrong_9 : decode cX11_wrong 9 = .ok (.iload_n 1, 1) := by decide +kernel
theorem dX11_wrong_10 : decode cX11_wrong 10 = .ok (.putfield 205, 3) := by decide +kernel
theorem dX11_wrong_13 : decode cX11_wrong 13 = .ok (.aload_n 0, 1) := by decide +kernel
theorem dX11_wrong_14 : decode cX11_wrong 14 = .ok (.aload_n 0, 1) := by decide +kernel
theorem dX11_wrong_15 : decode cX11_wrong 15 = .ok (.getfield 167, 3) := by decide +kernel
theorem dX11_wrong_18 : decode cX11_wrong 18 = .ok (.putfield 208, 3) := by decide +kernel
theorem dX11_wrong_21 : decode cX11_wrong 21 = .ok (.return_, 1) := by decide +kernel
theorem dX11_isWord_0 : decode cX11_isWord 0 = .ok (.aload_n 0, 1) := by decide +kernel
theorem dX11_isWord_1 : decode cX11_isWord 1 = .ok (.getfield 205, 3) := by decide +kernel
theorem dX11_isWord_4 : decode cX11_isWord 4 = .ok (.ifCond .ne 22, 3) := by decide +kernel
theorem dX11_isWord_7 : decode cX11_isWord 7 = .ok (.aload_n 0, 1) := by decide +kernel
theorem dX11_isWord_8 : decode cX11_isWord 8 = .ok (.getfield 170, 3) := by decide +kernel
theorem dX11_isWord_11 : decode cX11_isWord 11 = .ok (.ifCond .ne 15, 3) := by decide +kernel
theorem dX11_isWord_14 : decode cX11_isWord 14 = .ok (.aload_n 0, 1) := by decide +kernel
theorem dX11_isWord_15 : decode cX11_isWord 15 = .ok (.getfield 180, 3) := by decide +kernel
theorem dX11_isWord_18 : decode cX11_isWord 18 = .ok (.iload_n 1, 1) := by decide +kernel
theorem dX11_isWord_19 : decode cX11_isWord 19 = .ok (.if_icmp .ne 7, 3) := by decide +kernel
theorem dX11_isWord_22 : decode cX11_isWord 22 = .ok (.iconst 1, 1) := by decide +kernel
theorem dX11_isWord_23 : decode cX11_isWord 23 = .ok (.goto 4, 3) := by decide +kernel
theorem dX11_isWord_26 : decode cX11_isWord 26 = .ok (.iconst 0, 1) := by decide +kernel
theorem dX11_isWord_27 : decode cX11_isWord 27 = .ok (.ireturn, 1) := by decide +kernel
theorem dX11_isSign_0 : decode cX11_isSign 0 = .ok (.aload_n 0, 1) := by decide +kernel
theorem dX11_isSign_1 : decode cX11_isSign 1 = .ok (.getfield 205, 3) := by decide +kernel
theorem dX11_isSign_4 : decode cX11_isSign 4 = .ok (.ifCond .ne 23, 3) := by decide +kernel
theorem dX11_isSign_7 : decode cX11_isSign 7 = .ok (.aload_n 0, 1) := by decide +kernel
theorem dX11_isSign_8 : decode cX11_isSign 8 = .ok (.getfield 170, 3) := by decide +kernel
theorem dX11_isSign_11 : decode cX11_isSign 11 = .ok (.iconst 3, 1) := by decide +kernel
theorem dX11_isSign_12 : decode cX11_isSign 12 = .ok (.if_icmp .ne 15, 3) := by decide +kernel
theorem dX11_isSign_15 : decode cX11_isSign 15 = .ok (.aload_n 0, 1) := by decide +kernel
theorem dX11_isSign_16 : decode cX11_isSign 16 = .ok (.getfield 180, 3) := by decide +kernel
theorem dX11_isSign_19 : decode cX11_isSign 19 = .ok (.iload_n 1, 1) := by decide +kernel
theorem dX11_isSign_20 : decode cX11_isSign 20 = .ok (.if_icmp .ne 7, 3) := by decide +kernel
theorem dX11_isSign_23 : decode cX11_isSign 23 = .ok (.iconst 1, 1) := by decide +kernel
theorem dX11_isSign_24 : decode cX11_isSign 24 = .ok (.goto 4, 3) := by decide +kernel
theorem dX11_isSign_27 : decode cX11_isSign 27 = .ok (.iconst 0, 1) := by decide +kernel
theorem dX11_isSign_28 : decode cX11_isSign 28 = .ok (.ireturn, 1) := by decide +kernel
theorem dX11_goOn_0 : decode cX11_goOn 0 = .ok (.aload_n 0, 1) := by decide +kernel
theorem dX11_goOn_1 : decode cX11_goOn 1 = .ok (.getfield 205, 3) := by decide +kernel
theorem dX11_goOn_4 : decode cX11_goOn 4 = .ok (.ifCond .ne 7, 3) := by decide +kernel
theorem dX11_goOn_7 : decode cX11_goOn 7 = .ok (.aload_n 0, 1) := by decide +kernel
theorem dX11_goOn_8 : decode cX11_goOn 8 = .ok (.invokevirtual 211, 3) := by decide +kernel
theorem dX11_goOn_11 : decode cX11_goOn 11 = .ok (.return_, 1) := by decide +kernel
theorem dX11_numeral_0 : decode cX11_numeral 0 = .ok (.aload_n 0, 1) := by decide +kernel
theorem dX11_numeral_1 : decode cX11_numeral 1 = .ok (.getfield 205, 3) := by decide +kernel
theorem dX11_numeral_4 : decode cX11_numeral 4 = .ok (.ifCond .eq 5, 3) := by decide +kernel
theorem dX11_numeral_7 : decode cX11_numeral 7 = .ok (.iload_n 1, 1) := by decide +kernel
theorem dX11_numeral_8 : decode cX11_numeral 8 = .ok (.ireturn, 1) := by decide +kernel
theorem dX11_numeral_9 : decode cX11_numeral 9 = .ok (.aload_n 0, 1) := by decide +kernel
theorem dX11_numeral_10 : decode cX11_numeral 10 = .ok (.getfield 170, 3) := by decide +kernel
theorem dX11_numeral_13 : decode cX11_numeral 13 = .ok (.iconst 2, 1) := by decide +kernel
theorem dX11_numeral_14 : decode cX11_numeral 14 = .ok (.if_icmp .eq 11, 3) := by decide +kernel
theorem dX11_numeral_17 : decode cX11_numeral 17 = .ok (.aload_n 0, 1) := by decide +kernel
theorem dX11_numeral_18 : decode cX11_numeral 18 = .ok (.iconst 1, 1) := by decide +kernel
theorem dX11_numeral_19 : decode cX11_numeral 19 = .ok (.invokevirtual 214, 3) := by decide +kernel
theorem dX11_numeral_22 : decode cX11_numeral 22 = .ok (.goto 24, 3) := by decide +kernel
theorem dX11_numeral_25 : decode cX11_numeral 25 = .ok (.aload_n 0, 1) := by decide +kernel
theorem dX11_numeral_26 : decode cX11_numeral 26 = .ok (.getfield 180, 3) := by decide +kernel
theorem dX11_numeral_29 : decode cX11_numeral 29 = .ok (.iload_n 1, 1) := by decide +kernel
theorem dX11_numeral_30 : decode cX11_numeral 30 = .ok (.if_icmp .lt 11, 3) := by decide +kernel
theorem dX11_numeral_33 : decode cX11_numeral 33 = .ok (.aload_n 0, 1) := by decide +kernel
theorem dX11_numeral_34 : decode cX11_numeral 34 = .ok (.getfield 180, 3) := by decide +kernel
theorem dX11_numeral_37 : decode cX11_numeral 37 = .ok (.iload_n 2, 1) := by decide +kernel
theorem dX11_numeral_38 : decode cX11_numeral 38 = .ok (.if_icmp .le 8, 3) := by decide +kernel
theorem dX11_numeral_41 : decode cX11_numeral 41 = .ok (.aload_n 0, 1) := by decide +kernel
theorem dX11_numeral_42 : decode cX11_numeral 42 = .ok (.iconst 2, 1) := by decide +kernel
theorem dX11_numeral_43 : decode cX11_numeral 43 = .ok (.invokevirtual 214, 3) := by decide +kernel
theorem dX11_numeral_46 : decode cX11_numeral 46 = .ok (.aload_n 0, 1) := by decide +kernel
theorem dX11_numeral_47 : decode cX11_numeral 47 = .ok (.getfield 205, 3) := by decide +kernel
theorem dX11_numeral_50 : decode cX11_numeral 50 = .ok (.ifCond .eq 5, 3) := by decide +kernel
theorem dX11_numeral_53 : decode cX11_numeral 53 = .ok (.iload_n 1, 1) := by decide +kernel
theorem dX11_numeral_54 : decode cX11_numeral 54 = .ok (.ireturn, 1) := by decide +kernel
theorem dX11_numeral_55 : decode cX11_numeral 55 = .ok (.aload_n 0, 1) := by decide +kernel
theorem dX11_numeral_56 : decode cX11_numeral 56 = .ok (.getfield 180, 3) := by decide +kernel
theorem dX11_numeral_59 : decode cX11_numeral 59 = .ok (.istore_n 3, 1) := by decide +kernel
theorem dX11_numeral_60 : decode cX11_numeral 60 = .ok (.aload_n 0, 1) := by decide +kernel
theorem dX11_numeral_61 : decode cX11_numeral 61 = .ok (.invokevirtual 211, 3) := by decide +kernel
theorem dX11_numeral_64 : decode cX11_numeral 64 = .ok (.iload_n 3, 1) := by decide +kernel
theorem dX11_numeral_65 : decode cX11_numeral 65 = .ok (.ireturn, 1) := by decide +kernel
theorem dX11_found_0 : decode cX11_found 0 = .ok (.iconst 0, 1) := by decide +kernel
theorem dX11_found_1 : decode cX11_found 1 = .ok (.istore 4, 2) := by decide +kernel
theorem dX11_found_3 : decode cX11_found 3 = .ok (.iload 4, 2) := by decide +kernel
theorem dX11_found_5 : decode cX11_found 5 = .ok (.iload_n 2, 1) := by decide +kernel
theorem dX11_found_6 : decode cX11_found 6 = .ok (.if_icmp .ge 22, 3) := by decide +kernel
theorem dX11_found_9 : decode cX11_found 9 = .ok (.aload_n 0, 1) := by decide +kernel
theorem dX11_found_10 : decode cX11_found 10 = .ok (.iload_n 1, 1) := by decide +kernel
theorem dX11_found_11 : decode cX11_found 11 = .ok (.iload 4, 2) := by decide +kernel
theorem dX11_found_13 : decode cX11_found 13 = .ok (.iadd, 1) := by decide +kernel
theorem dX11_found_14 : decode cX11_found 14 = .ok (.iaload, 1) := by decide +kernel
theorem dX11_found_15 : decode cX11_found 15 = .ok (.iload_n 3, 1) := by decide +kernel
theorem dX11_found_16 : decode cX11_found 16 = .ok (.if_icmp .ne 6, 3) := by decide +kernel
theorem dX11_found_19 : decode cX11_found 19 = .ok (.iload 4, 2) := by decide +kernel
theorem dX11_found_21 : decode cX11_found 21 = .ok (.ireturn, 1) := by decide +kernel
theorem dX11_found_22 : decode cX11_found 22 = .ok (.iinc 4 1, 3) := by decide +kernel
theorem dX11_found_25 : decode cX11_found 25 = .ok (.goto (-22), 3) := by decide +kernel
theorem dX11_found_28 : decode cX11_found 28 = .ok (.iconst (-1), 1) := by decide +kernel
theorem dX11_found_29 : decode cX11_found 29 = .ok (.ireturn, 1) := by decide +kernel
theorem dX11_fresh_0 : decode cX11_fresh 0 = .ok (.aload_n 0, 1) := by decide +kernel
theorem dX11_fresh_1 : decode cX11_fresh 1 = .ok (.getfield 205, 3) := by decide +kernel
theorem dX11_fresh_4 : decode cX11_fresh 4 = .ok (.ifCond .eq 5, 3) := by decide +kernel
theorem dX11_fresh_7 : decode cX11_fresh 7 = .ok (.iconst 0, 1) := by decide +kernel
theorem dX11_fresh_8 : decode cX11_fresh 8 = .ok (.ireturn, 1) := by decide +kernel
theorem dX11_fresh_9 : decode cX11_fresh 9 = .ok (.aload_n 0, 1) := by decide +kernel
theorem dX11_fresh_10 : decode cX11_fresh 10 = .ok (.getfield 170, 3) := by decide +kernel
theorem dX11_fresh_13 : decode cX11_fresh 13 = .ok (.iconst 1, 1) := by decide +kernel
theorem dX11_fresh_14 : decode cX11_fresh 14 = .ok (.if_icmp .eq 11, 3) := by decide +kernel
theorem dX11_fresh_17 : decode cX11_fresh 17 = .ok (.aload_n 0, 1) := by decide +kernel
theorem dX11_fresh_18 : decode cX11_fresh 18 = .ok (.iconst 1, 1) := by decide +kernel
theorem dX11_fresh_19 : decode cX11_fresh 19 = .ok (.invokevirtual 214, 3) := by decide +kernel
theorem dX11_fresh_22 : decode cX11_fresh 22 = .ok (.goto 22, 3) := by decide +kernel
theorem dX11_fresh_25 : decode cX11_fresh 25 = .ok (.aload_n 1, 1) := by decide +kernel
theorem dX11_fresh_26 : decode cX11_fresh 26 = .ok (.iload_n 2, 1) := by decide +kernel
theorem dX11_fresh_27 : decode cX11_fresh 27 = .ok (.iload_n 3, 1) := by decide +kernel
theorem dX11_fresh_28 : decode cX11_fresh 28 = .ok (.aload_n 0, 1) := by decide +kernel
theorem dX11_fresh_29 : decode cX11_fresh 29 = .ok (.getfield 180, 3) := by decide +kernel
theorem dX11_fresh_32 : decode cX11_fresh 32 = .ok (.invokestatic 217, 3) := by decide +kernel
theorem dX11_fresh_35 : decode cX11_fresh 35 = .ok (.iconst (-1), 1) := by decide +kernel
theorem dX11_fresh_36 : decode cX11_fresh 36 = .ok (.if_icmp .eq 8, 3) := by decide +kernel
theorem dX11_fresh_39 : decode cX11_fresh 39 = .ok (.aload_n 0, 1) := by decide +kernel
theorem dX11_fresh_40 : decode cX11_fresh 40 = .ok (.iconst 3, 1) := by decide +kernel
theorem dX11_fresh_41 : decode cX11_fresh 41 = .ok (.invokevirtual 214, 3) := by decide +kernel
theorem dX11_fresh_44 : decode cX11_fresh 44 = .ok (.aload_n 0, 1) := by decide +kernel
theorem dX11_fresh_45 : decode cX11_fresh 45 = .ok (.getfield 205, 3) := by decide +kernel
theorem dX11_fresh_48 : decode cX11_fresh 48 = .ok (.ifCond .eq 5, 3) := by decide +kernel
theorem dX11_fresh_51 : decode cX11_fresh 51 = .ok (.iconst 0, 1) := by decide +kernel
theorem dX11_fresh_52 : decode cX11_fresh 52 = .ok (.ireturn, 1) := by decide +kernel
theorem dX11_fresh_53 : decode cX11_fresh 53 = .ok (.aload_n 0, 1) := by decide +kernel
theorem dX11_fresh_54 : decode cX11_fresh 54 = .ok (.getfield 180, 3) := by decide +kernel
theorem dX11_fresh_57 : decode cX11_fresh 57 = .ok (.istore 4, 2) := by decide +kernel
theorem dX11_fresh_59 : decode cX11_fresh 59 = .ok (.aload_n 0, 1) := by decide +kernel
theorem dX11_fresh_60 : decode cX11_fresh 60 = .ok (.invokevirtual 211, 3) := by decide +kernel
theorem dX11_fresh_63 : decode cX11_fresh 63 = .ok (.iload 4, 2) := by decide +kernel
theorem dX11_fresh_65 : decode cX11_fresh 65 = .ok (.ireturn, 1) := by decide +kernel
theorem dX11_fresher_0 : decode cX11_fresher 0 = .ok (.aload_n 0, 1) := by decide +kernel
theorem dX11_fresher_1 : decode cX11_fresher 1 = .ok (.getfield 13, 3) := by decide +kernel
theorem dX11_fresher_4 : decode cX11_fresher 4 = .ok (.bipush 9, 2) := by decide +kernel
theorem dX11_fresher_6 : decode cX11_fresher 6 = .ok (.iload_n 1, 1) := by decide +kernel
theorem dX11_fresher_7 : decode cX11_fresher 7 = .ok (.iadd, 1) := by decide +kernel
theorem dX11_fresher_8 : decode cX11_fresher 8 = .ok (.iaload, 1) := by decide +kernel
theorem dX11_fresher_9 : decode cX11_fresher 9 = .ok (.ireturn, 1) := by decide +kernel
theorem dX11_reads_0 : decode cX11_reads 0 = .ok (.aload_n 0, 1) := by decide +kernel
theorem dX11_reads_1 : decode cX11_reads 1 = .ok (.getfield 13, 3) := by decide +kernel
theorem dX11_reads_4 : decode cX11_reads 4 = .ok (.bipush 9, 2) := by decide +kernel
theorem dX11_reads_6 : decode cX11_reads 6 = .ok (.iload_n 1, 1) := by decide +kernel
theorem dX11_reads_7 : decode cX11_reads 7 = .ok (.iadd, 1) := by decide +kernel
theorem dX11_reads_8 : decode cX11_reads 8 = .ok (.iload_n 2, 1) := by decide +kernel
theorem dX11_reads_9 : decode cX11_reads 9 = .ok (.iastore, 1) := by decide +kernel
theorem dX11_reads_10 : decode cX11_reads 10 = .ok (.return_, 1) := by decide +kernel
theorem dX11_pondAtHand_0 : decode cX11_pondAtHand 0 = .ok (.aload_n 0, 1) := by decide +kernel
theorem dX11_pondAtHand_1 : decode cX11_pondAtHand 1 = .ok (.getfield 205, 3) := by decide +kernel
theorem dX11_pondAtHand_4 : decode cX11_pondAtHand 4 = .ok (.ifCond .eq 5, 3) := by decide +kernel
theorem dX11_pondAtHand_7 : decode cX11_pondAtHand 7 = .ok (.iconst 0, 1) := by decide +kernel
theorem dX11_pondAtHand_8 : decode cX11_pondAtHand 8 = .ok (.ireturn, 1) := by decide +kernel
theorem dX11_pondAtHand_9 : decode cX11_pondAtHand 9 = .ok (.aload_n 0, 1) := by decide +kernel
theorem dX11_pondAtHand_10 : decode cX11_pondAtHand 10 = .ok (.getfield 170, 3) := by decide +kernel
theorem dX11_pondAtHand_13 : decode cX11_pondAtHand 13 = .ok (.iconst 1, 1) := by decide +kernel
theorem dX11_pondAtHand_14 : decode cX11_pondAtHand 14 = .ok (.if_icmp .eq 8, 3) := by decide +kernel
theorem dX11_pondAtHand_17 : decode cX11_pondAtHand 17 = .ok (.aload_n 0, 1) := by decide +kernel
theorem dX11_pondAtHand_18 : decode cX11_pondAtHand 18 = .ok (.iconst 1, 1) := by decide +kernel
theorem dX11_pondAtHand_19 : decode cX11_pondAtHand 19 = .ok (.invokevirtual 214, 3) := by decide +kernel
theorem dX11_pondAtHand_22 : decode cX11_pondAtHand 22 = .ok (.aload_n 0, 1) := by decide +kernel
theorem dX11_pondAtHand_23 : decode cX11_pondAtHand 23 = .ok (.getfield 205, 3) := by decide +kernel
theorem dX11_pondAtHand_26 : decode cX11_pondAtHand 26 = .ok (.ifCond .ne 24, 3) := by decide +kernel
theorem dX11_pondAtHand_29 : decode cX11_pondAtHand 29 = .ok (.aload_n 0, 1) := by decide +kernel
theorem dX11_pondAtHand_30 : decode cX11_pondAtHand 30 = .ok (.getfield 16, 3) := by decide +kernel
theorem dX11_pondAtHand_33 : decode cX11_pondAtHand 33 = .ok (.bipush 7, 2) := by decide +kernel
theorem dX11_pondAtHand_35 : decode cX11_pondAtHand 35 = .ok (.aload_n 0, 1) := by decide +kernel
theorem dX11_pondAtHand_36 : decode cX11_pondAtHand 36 = .ok (.iconst 0, 1) := by decide +kernel
theorem dX11_pondAtHand_37 : decode cX11_pondAtHand 37 = .ok (.invokevirtual 221, 3) := by decide +kernel
theorem dX11_pondAtHand_40 : decode cX11_pondAtHand 40 = .ok (.aload_n 0, 1) := by decide +kernel
theorem dX11_pondAtHand_41 : decode cX11_pondAtHand 41 = .ok (.getfield 180, 3) := by decide +kernel
theorem dX11_pondAtHand_44 : decode cX11_pondAtHand 44 = .ok (.invokestatic 217, 3) := by decide +kernel
theorem dX11_pondAtHand_47 : decode cX11_pondAtHand 47 = .ok (.goto 4, 3) := by decide +kernel
theorem dX11_pondAtHand_50 : decode cX11_pondAtHand 50 = .ok (.iconst 0, 1) := by decide +kernel
theorem dX11_pondAtHand_51 : decode cX11_pondAtHand 51 = .ok (.istore_n 1, 1) := by decide +kernel
theorem dX11_pondAtHand_52 : decode cX11_pondAtHand 52 = .ok (.aload_n 0, 1) := by decide +kernel
theorem dX11_pondAtHand_53 : decode cX11_pondAtHand 53 = .ok (.getfield 205, 3) := by decide +kernel
theorem dX11_pondAtHand_56 : decode cX11_pondAtHand 56 = .ok (.ifCond .ne 13, 3) := by decide +kernel
theorem dX11_pondAtHand_59 : decode cX11_pondAtHand 59 = .ok (.iload_n 1, 1) := by decide +kernel
theorem dX11_pondAtHand_60 : decode cX11_pondAtHand 60 = .ok (.iconst (-1), 1) := by decide +kernel
theorem dX11_pondAtHand_61 : decode cX11_pondAtHand 61 = .ok (.if_icmp .ne 8, 3) := by decide +kernel
theorem dX11_pondAtHand_64 : decode cX11_pondAtHand 64 = .ok (.aload_n 0, 1) := by decide +kernel
theorem dX11_pondAtHand_65 : decode cX11_pondAtHand 65 = .ok (.iconst 4, 1) := by decide +kernel
theorem dX11_pondAtHand_66 : decode cX11_pondAtHand 66 = .ok (.invokevirtual 214, 3) := by decide +kernel
theorem dX11_pondAtHand_69 : decode cX11_pondAtHand 69 = .ok (.aload_n 0, 1) := by decide +kernel
theorem dX11_pondAtHand_70 : decode cX11_pondAtHand 70 = .ok (.getfield 205, 3) := by decide +kernel
theorem dX11_pondAtHand_73 : decode cX11_pondAtHand 73 = .ok (.ifCond .eq 7, 3) := by decide +kernel
theorem dX11_pondAtHand_76 : decode cX11_pondAtHand 76 = .ok (.iconst 0, 1) := by decide +kernel
theorem dX11_pondAtHand_77 : decode cX11_pondAtHand 77 = .ok (.goto 4, 3) := by decide +kernel
theorem dX11_pondAtHand_80 : decode cX11_pondAtHand 80 = .ok (.iload_n 1, 1) := by decide +kernel
theorem dX11_pondAtHand_81 : decode cX11_pondAtHand 81 = .ok (.ireturn, 1) := by decide +kernel
theorem dX11_lockWith_0 : decode cX11_lockWith 0 = .ok (.iconst 0, 1) := by decide +kernel
theorem dX11_lockWith_1 : decode cX11_lockWith 1 = .ok (.istore_n 2, 1) := by decide +kernel
theorem dX11_lockWith_2 : decode cX11_lockWith 2 = .ok (.iload_n 2, 1) := by decide +kernel
theorem dX11_lockWith_3 : decode cX11_lockWith 3 = .ok (.aload_n 0, 1) := by decide +kernel
theorem dX11_lockWith_4 : decode cX11_lockWith 4 = .ok (.iconst 1, 1) := by decide +kernel
theorem dX11_lockWith_5 : decode cX11_lockWith 5 = .ok (.invokevirtual 221, 3) := by decide +kernel
theorem dX11_lockWith_8 : decode cX11_lockWith 8 = .ok (.if_icmp .ge 23, 3) := by decide +kernel
theorem dX11_lockWith_11 : decode cX11_lockWith 11 = .ok (.aload_n 0, 1) := by decide +kernel
theorem dX11_lockWith_12 : decode cX11_lockWith 12 = .ok (.getfield 31, 3) := by decide +kernel
theorem dX11_lockWith_15 : decode cX11_lockWith 15 = .ok (.iconst 3, 1) := by decide +kernel
theorem dX11_lockWith_16 : decode cX11_lockWith 16 = .ok (.iload_n 2, 1) := by decide +kernel
theorem dX11_lockWith_17 : decode cX11_lockWith 17 = .ok (.iadd, 1) := by decide +kernel
theorem dX11_lockWith_18 : decode cX11_lockWith 18 = .ok (.iaload, 1) := by decide +kernel
theorem dX11_lockWith_19 : decode cX11_lockWith 19 = .ok (.iload_n 1, 1) := by decide +kernel
theorem dX11_lockWith_20 : decode cX11_lockWith 20 = .ok (.if_icmp .ne 5, 3) := by decide +kernel
theorem dX11_lockWith_23 : decode cX11_lockWith 23 = .ok (.iload_n 2, 1) := by decide +kernel
theorem dX11_lockWith_24 : decode cX11_lockWith 24 = .ok (.ireturn, 1) := by decide +kernel
theorem dX11_lockWith_25 : decode cX11_lockWith 25 = .ok (.iinc 2 1, 3) := by decide +kernel
theorem dX11_lockWith_28 : decode cX11_lockWith 28 = .ok (.goto (-26), 3) := by decide +kernel
theorem dX11_lockWith_31 : decode cX11_lockWith 31 = .ok (.iconst (-1), 1) := by decide +kernel
theorem dX11_lockWith_32 : decode cX11_lockWith 32 = .ok (.ireturn, 1) := by decide +kernel
theorem dX11_isFull_0 : decode cX11_isFull 0 = .ok (.iload_n 1, 1) := by decide +kernel
theorem dX11_isFull_1 : decode cX11_isFull 1 = .ok (.tableswitch 114 0 4 #[35, 51, 66, 82, 98], 35) := by decide +kernel
theorem dX11_isFull_36 : decode cX11_isFull 36 = .ok (.aload_n 0, 1) := by decide +kernel
theorem dX11_isFull_37 : decode cX11_isFull 37 = .ok (.iconst 0, 1) := by decide +kernel
theorem dX11_isFull_38 : decode cX11_isFull 38 = .ok (.invokevirtual 221, 3) := by decide +kernel
theorem dX11_isFull_41 : decode cX11_isFull 41 = .ok (.bipush 7, 2) := by decide +kernel
theorem dX11_isFull_43 : decode cX11_isFull 43 = .ok (.if_icmp .ne 7, 3) := by decide +kernel
theorem dX11_isFull_46 : decode cX11_isFull 46 = .ok (.iconst 1, 1) := by decide +kernel
theorem dX11_isFull_47 : decode cX11_isFull 47 = .ok (.goto 4, 3) := by decide +kernel
theorem dX11_isFull_50 : decode cX11_isFull 50 = .ok (.iconst 0, 1) := by decide +kernel
theorem dX11_isFull_51 : decode cX11_isFull 51 = .ok (.ireturn, 1) := by decide +kernel
theorem dX11_isFull_52 : decode cX11_isFull 52 = .ok (.aload_n 0, 1) := by decide +kernel
theorem dX11_isFull_53 : decode cX11_isFull 53 = .ok (.iconst 1, 1) := by decide +kernel
theorem dX11_isFull_54 : decode cX11_isFull 54 = .ok (.invokevirtual 221, 3) := by decide +kernel
theorem dX11_isFull_57 : decode cX11_isFull 57 = .ok (.iconst 3, 1) := by decide +kernel
theorem dX11_isFull_58 : decode cX11_isFull 58 = .ok (.if_icmp .ne 7, 3) := by decide +kernel
theorem dX11_isFull_61 : decode cX11_isFull 61 = .ok (.iconst 1, 1) := by decide +kernel
theorem dX11_isFull_62 : decode cX11_isFull 62 = .ok (.goto 4, 3) := by decide +kernel
theorem dX11_isFull_65 : decode cX11_isFull 65 = .ok (.iconst 0, 1) := by decide +kernel
theorem dX11_isFull_66 : decode cX11_isFull 66 = .ok (.ireturn, 1) := by decide +kernel
theorem dX11_isFull_67 : decode cX11_isFull 67 = .ok (.aload_n 0, 1) := by decide +kernel
theorem dX11_isFull_68 : decode cX11_isFull 68 = .ok (.iconst 2, 1) := by decide +kernel
theorem dX11_isFull_69 : decode cX11_isFull 69 = .ok (.invokevirtual 221, 3) := by decide +kernel
theorem dX11_isFull_72 : decode cX11_isFull 72 = .ok (.bipush 10, 2) := by decide +kernel
theorem dX11_isFull_74 : decode cX11_isFull 74 = .ok (.if_icmp .ne 7, 3) := by decide +kernel
theorem dX11_isFull_77 : decode cX11_isFull 77 = .ok (.iconst 1, 1) := by decide +kernel
theorem dX11_isFull_78 : decode cX11_isFull 78 = .ok (.goto 4, 3) := by decide +kernel
theorem dX11_isFull_81 : decode cX11_isFull 81 = .ok (.iconst 0, 1) := by decide +kernel
theorem dX11_isFull_82 : decode cX11_isFull 82 = .ok (.ireturn, 1) := by decide +kernel
theorem dX11_isFull_83 : decode cX11_isFull 83 = .ok (.aload_n 0, 1) := by decide +kernel
theorem dX11_isFull_84 : decode cX11_isFull 84 = .ok (.iconst 3, 1) := by decide +kernel
theorem dX11_isFull_85 : decode cX11_isFull 85 = .ok (.invokevirtual 221, 3) := by decide +kernel
theorem dX11_isFull_88 : decode cX11_isFull 88 = .ok (.bipush 12, 2) := by decide +kernel
theorem dX11_isFull_90 : decode cX11_isFull 90 = .ok (.if_icmp .ne 7, 3) := by decide +kernel
theorem dX11_isFull_93 : decode cX11_isFull 93 = .ok (.iconst 1, 1) := by decide +kernel
theorem dX11_isFull_94 : decode cX11_isFull 94 = .ok (.goto 4, 3) := by decide +kernel
theorem dX11_isFull_97 : decode cX11_isFull 97 = .ok (.iconst 0, 1) := by decide +kernel
theorem dX11_isFull_98 : decode cX11_isFull 98 = .ok (.ireturn, 1) := by decide +kernel
theorem dX11_isFull_99 : decode cX11_isFull 99 = .ok (.aload_n 0, 1) := by decide +kernel
theorem dX11_isFull_100 : decode cX11_isFull 100 = .ok (.iconst 4, 1) := by decide +kernel
theorem dX11_isFull_101 : decode cX11_isFull 101 = .ok (.invokevirtual 221, 3) := by decide +kernel
theorem dX11_isFull_104 : decode cX11_isFull 104 = .ok (.bipush 8, 2) := by decide +kernel
theorem dX11_isFull_106 : decode cX11_isFull 106 = .ok (.if_icmp .ne 7, 3) := by decide +kernel
theorem dX11_isFull_109 : decode cX11_isFull 109 = .ok (.iconst 1, 1) := by decide +kernel
theorem dX11_isFull_110 : decode cX11_isFull 110 = .ok (.goto 4, 3) := by decide +kernel
theorem dX11_isFull_113 : decode cX11_isFull 113 = .ok (.iconst 0, 1) := by decide +kernel
theorem dX11_isFull_114 : decode cX11_isFull 114 = .ok (.ireturn, 1) := by decide +kernel
theorem dX11_isFull_115 : decode cX11_isFull 115 = .ok (.iconst 0, 1) := by decide +kernel
theorem dX11_isFull_116 : decode cX11_isFull 116 = .ok (.ireturn, 1) := by decide +kernel
theorem dX11_line_0 : decode cX11_line 0 = .ok (.aload_n 0, 1) := by decide +kernel
theorem dX11_line_1 : decode cX11_line 1 = .ok (.getfield 170, 3) := by decide +kernel
theorem dX11_line_4 : decode cX11_line 4 = .ok (.ifCond .ne 12, 3) := by decide +kernel
theorem dX11_line_7 : decode cX11_line 7 = .ok (.aload_n 0, 1) := by decide +kernel
theorem dX11_line_8 : decode cX11_line 8 = .ok (.getfield 180, 3) := by decide +kernel
theorem dX11_line_11 : decode cX11_line 11 = .ok (.bipush 8, 2) := by decide +kernel
theorem dX11_line_13 : decode cX11_line 13 = .ok (.if_icmp .le 9, 3) := by decide +kernel
theorem dX11_line_16 : decode cX11_line 16 = .ok (.aload_n 0, 1) := by decide +kernel
theorem dX11_line_17 : decode cX11_line 17 = .ok (.iconst 1, 1) := by decide +kernel
theorem dX11_line_18 : decode cX11_line 18 = .ok (.invokevirtual 214, 3) := by decide +kernel
theorem dX11_line_21 : decode cX11_line 21 = .ok (.return_, 1) := by decide +kernel
theorem dX11_line_22 : decode cX11_line 22 = .ok (.aload_n 0, 1) := by decide +kernel
theorem dX11_line_23 : decode cX11_line 23 = .ok (.getfield 180, 3) := by decide +kernel
theorem dX11_line_26 : decode cX11_line 26 = .ok (.istore_n 1, 1) := by decide +kernel
theorem dX11_line_27 : decode cX11_line 27 = .ok (.aload_n 0, 1) := by decide +kernel
theorem dX11_line_28 : decode cX11_line 28 = .ok (.iload_n 1, 1) := by decide +kernel
theorem dX11_line_29 : decode cX11_line 29 = .ok (.invokevirtual 225, 3) := by decide +kernel
theorem dX11_line_32 : decode cX11_line 32 = .ok (.ifCond .eq 11, 3) := by decide +kernel
theorem dX11_line_35 : decode cX11_line 35 = .ok (.aload_n 0, 1) := by decide +kernel
theorem dX11_line_36 : decode cX11_line 36 = .ok (.iconst 2, 1) := by decide +kernel
theorem dX11_line_37 : decode cX11_line 37 = .ok (.invokevirtual 214, 3) := by decide +kernel
theorem dX11_line_40 : decode cX11_line 40 = .ok (.goto 32, 3) := by decide +kernel
theorem dX11_line_43 : decode cX11_line 43 = .ok (.iload_n 1, 1) := by decide +kernel
theorem dX11_line_44 : decode cX11_line 44 = .ok (.bipush 6, 2) := by decide +kernel
theorem dX11_line_46 : decode cX11_line 46 = .ok (.if_icmp .eq 9, 3) := by decide +kernel
theorem dX11_line_49 : decode cX11_line 49 = .ok (.iload_n 1, 1) := by decide +kernel
theorem dX11_line_50 : decode cX11_line 50 = .ok (.bipush 7, 2) := by decide +kernel
theorem dX11_line_52 : decode cX11_line 52 = .ok (.if_icmp .ne 20, 3) := by decide +kernel
theorem dX11_line_55 : decode cX11_line 55 = .ok (.aload_n 0, 1) := by decide +kernel
theorem dX11_line_56 : decode cX11_line 56 = .ok (.getfield 228, 3) := by decide +kernel
theorem dX11_line_59 : decode cX11_line 59 = .ok (.iload_n 1, 1) := by decide +kernel
theorem dX11_line_60 : decode cX11_line 60 = .ok (.ishr, 1) := by decide +kernel
theorem dX11_line_61 : decode cX11_line 61 = .ok (.iconst 1, 1) := by decide +kernel
theorem dX11_line_62 : decode cX11_line 62 = .ok (.iand, 1) := by decide +kernel
theorem dX11_line_63 : decode cX11_line 63 = .ok (.iconst 1, 1) := by decide +kernel
theorem dX11_line_64 : decode cX11_line 64 = .ok (.if_icmp .ne 8, 3) := by decide +kernel
theorem dX11_line_67 : decode cX11_line 67 = .ok (.aload_n 0, 1) := by decide +kernel
theorem dX11_line_68 : decode cX11_line 68 = .ok (.iconst 3, 1) := by decide +kernel
theorem dX11_line_69 : decode cX11_line 69 = .ok (.invokevirtual 214, 3) := by decide +kernel
theorem dX11_line_72 : decode cX11_line 72 = .ok (.aload_n 0, 1) := by decide +kernel
theorem dX11_line_73 : decode cX11_line 73 = .ok (.getfield 205, 3) := by decide +kernel
theorem dX11_line_76 : decode cX11_line 76 = .ok (.ifCond .eq 4, 3) := by decide +kernel
theorem dX11_line_79 : decode cX11_line 79 = .ok (.return_, 1) := by decide +kernel
theorem dX11_line_80 : decode cX11_line 80 = .ok (.aload_n 0, 1) := by decide +kernel
theorem dX11_line_81 : decode cX11_line 81 = .ok (.dup, 1) := by decide +kernel
theorem dX11_line_82 : decode cX11_line 82 = .ok (.getfield 228, 3) := by decide +kernel
theorem dX11_line_85 : decode cX11_line 85 = .ok (.iconst 1, 1) := by decide +kernel
theorem dX11_line_86 : decode cX11_line 86 = .ok (.iload_n 1, 1) := by decide +kernel
theorem dX11_line_87 : decode cX11_line 87 = .ok (.ishl, 1) := by decide +kernel
theorem dX11_line_88 : decode cX11_line 88 = .ok (.ior, 1) := by decide +kernel
theorem dX11_line_89 : decode cX11_line 89 = .ok (.putfield 228, 3) := by decide +kernel
theorem dX11_line_92 : decode cX11_line 92 = .ok (.aload_n 0, 1) := by decide +kernel
theorem dX11_line_93 : decode cX11_line 93 = .ok (.invokevirtual 211, 3) := by decide +kernel
theorem dX11_line_96 : decode cX11_line 96 = .ok (.iload_n 1, 1) := by decide +kernel
theorem dX11_line_97 : decode cX11_line 97 = .ok (.tableswitch 340 0 7 #[47, 139, 146, 153, 160, 237, 308, 324], 47) := by decide +kernel
theorem dX11_line_144 : decode cX11_line 144 = .ok (.bipush 7, 2) := by decide +kernel
theorem dX11_line_146 : decode cX11_line 146 = .ok (.aload_n 0, 1) := by decide +kernel
theorem dX11_line_147 : decode cX11_line 147 = .ok (.iconst 0, 1) := by decide +kernel
theorem dX11_line_148 : decode cX11_line 148 = .ok (.invokevirtual 221, 3) := by decide +kernel
theorem dX11_line_151 : decode cX11_line 151 = .ok (.iadd, 1) := by decide +kernel
theorem dX11_line_152 : decode cX11_line 152 = .ok (.istore_n 2, 1) := by decide +kernel
theorem dX11_line_153 : decode cX11_line 153 = .ok (.aload_n 0, 1) := by decide +kernel
theorem dX11_line_154 : decode cX11_line 154 = .ok (.getfield 16, 3) := by decide +kernel
theorem dX11_line_157 : decode cX11_line 157 = .ok (.iload_n 2, 1) := by decide +kernel
theorem dX11_line_158 : decode cX11_line 158 = .ok (.aload_n 0, 1) := by decide +kernel
theorem dX11_line_159 : decode cX11_line 159 = .ok (.aload_n 0, 1) := by decide +kernel
theorem dX11_line_160 : decode cX11_line 160 = .ok (.getfield 16, 3) := by decide +kernel
theorem dX11_line_163 : decode cX11_line 163 = .ok (.bipush 7, 2) := by decide +kernel
theorem dX11_line_165 : decode cX11_line 165 = .ok (.aload_n 0, 1) := by decide +kernel
theorem dX11_line_166 : decode cX11_line 166 = .ok (.iconst 0, 1) := by decide +kernel
theorem dX11_line_167 : decode cX11_line 167 = .ok (.invokevirtual 221, 3) := by decide +kernel
theorem dX11_line_170 : decode cX11_line 170 = .ok (.invokevirtual 231, 3) := by decide +kernel
theorem dX11_line_173 : decode cX11_line 173 = .ok (.iastore, 1) := by decide +kernel
theorem dX11_line_174 : decode cX11_line 174 = .ok (.aload_n 0, 1) := by decide +kernel
theorem dX11_line_175 : decode cX11_line 175 = .ok (.getfield 19, 3) := by decide +kernel
theorem dX11_line_178 : decode cX11_line 178 = .ok (.iload_n 2, 1) := by decide +kernel
theorem dX11_line_179 : decode cX11_line 179 = .ok (.aload_n 0, 1) := by decide +kernel
theorem dX11_line_180 : decode cX11_line 180 = .ok (.iconst 1, 1) := by decide +kernel
theorem dX11_line_181 : decode cX11_line 181 = .ok (.bipush 20, 2) := by decide +kernel
theorem dX11_line_183 : decode cX11_line 183 = .ok (.invokevirtual 235, 3) := by decide +kernel
theorem dX11_line_186 : decode cX11_line 186 = .ok (.iastore, 1) := by decide +kernel
theorem dX11_line_187 : decode cX11_line 187 = .ok (.aload_n 0, 1) := by decide +kernel
theorem dX11_line_188 : decode cX11_line 188 = .ok (.getfield 22, 3) := by decide +kernel
theorem dX11_line_191 : decode cX11_line 191 = .ok (.iload_n 2, 1) := by decide +kernel
theorem dX11_line_192 : decode cX11_line 192 = .ok (.aload_n 0, 1) := by decide +kernel
theorem dX11_line_193 : decode cX11_line 193 = .ok (.iconst 0, 1) := by decide +kernel
theorem dX11_line_194 : decode cX11_line 194 = .ok (.bipush 99, 2) := by decide +kernel
theorem dX11_line_196 : decode cX11_line 196 = .ok (.invokevirtual 235, 3) := by decide +kernel
theorem dX11_line_199 : decode cX11_line 199 = .ok (.iastore, 1) := by decide +kernel
theorem dX11_line_200 : decode cX11_line 200 = .ok (.aload_n 0, 1) := by decide +kernel
theorem dX11_line_201 : decode cX11_line 201 = .ok (.getfield 25, 3) := by decide +kernel
theorem dX11_line_204 : decode cX11_line 204 = .ok (.iload_n 2, 1) := by decide +kernel
theorem dX11_line_205 : decode cX11_line 205 = .ok (.aload_n 0, 1) := by decide +kernel
theorem dX11_line_206 : decode cX11_line 206 = .ok (.iconst 0, 1) := by decide +kernel
theorem dX11_line_207 : decode cX11_line 207 = .ok (.sipush 999, 3) := by decide +kernel
theorem dX11_line_210 : decode cX11_line 210 = .ok (.invokevirtual 235, 3) := by decide +kernel
theorem dX11_line_213 : decode cX11_line 213 = .ok (.iastore, 1) := by decide +kernel
theorem dX11_line_214 : decode cX11_line 214 = .ok (.aload_n 0, 1) := by decide +kernel
theorem dX11_line_215 : decode cX11_line 215 = .ok (.getfield 28, 3) := by decide +kernel
theorem dX11_line_218 : decode cX11_line 218 = .ok (.iload_n 2, 1) := by decide +kernel
theorem dX11_line_219 : decode cX11_line 219 = .ok (.iconst 0, 1) := by decide +kernel
theorem dX11_line_220 : decode cX11_line 220 = .ok (.iastore, 1) := by decide +kernel
theorem dX11_line_221 : decode cX11_line 221 = .ok (.aload_n 0, 1) := by decide +kernel
theorem dX11_line_222 : decode cX11_line 222 = .ok (.iconst 0, 1) := by decide +kernel
theorem dX11_line_223 : decode cX11_line 223 = .ok (.aload_n 0, 1) := by decide +kernel
theorem dX11_line_224 : decode cX11_line 224 = .ok (.iconst 0, 1) := by decide +kernel
theorem dX11_line_225 : decode cX11_line 225 = .ok (.invokevirtual 221, 3) := by decide +kernel
theorem dX11_line_228 : decode cX11_line 228 = .ok (.iconst 1, 1) := by decide +kernel
theorem dX11_line_229 : decode cX11_line 229 = .ok (.iadd, 1) := by decide +kernel
theorem dX11_line_230 : decode cX11_line 230 = .ok (.invokevirtual 239, 3) := by decide +kernel
theorem dX11_line_233 : decode cX11_line 233 = .ok (.goto 208, 3) := by decide +kernel
theorem dX11_line_236 : decode cX11_line 236 = .ok (.aload_n 0, 1) := by decide +kernel
theorem dX11_line_237 : decode cX11_line 237 = .ok (.invokevirtual 243, 3) := by decide +kernel
theorem dX11_line_240 : decode cX11_line 240 = .ok (.goto 201, 3) := by decide +kernel
theorem dX11_line_243 : decode cX11_line 243 = .ok (.aload_n 0, 1) := by decide +kernel
theorem dX11_line_244 : decode cX11_line 244 = .ok (.invokevirtual 246, 3) := by decide +kernel
theorem dX11_line_247 : decode cX11_line 247 = .ok (.goto 194, 3) := by decide +kernel
theorem dX11_line_250 : decode cX11_line 250 = .ok (.aload_n 0, 1) := by decide +kernel
theorem dX11_line_251 : decode cX11_line 251 = .ok (.invokevirtual 249, 3) := by decide +kernel
theorem dX11_line_254 : decode cX11_line 254 = .ok (.goto 187, 3) := by decide +kernel
theorem dX11_line_257 : decode cX11_line 257 = .ok (.bipush 8, 2) := by decide +kernel
theorem dX11_line_259 : decode cX11_line 259 = .ok (.aload_n 0, 1) := by decide +kernel
theorem dX11_line_260 : decode cX11_line 260 = .ok (.iconst 4, 1) := by decide +kernel
theorem dX11_line_261 : decode cX11_line 261 = .ok (.invokevirtual 221, 3) := by decide +kernel
theorem dX11_line_264 : decode cX11_line 264 = .ok (.iadd, 1) := by decide +kernel
theorem dX11_line_265 : decode cX11_line 265 = .ok (.istore_n 3, 1) := by decide +kernel
theorem dX11_line_266 : decode cX11_line 266 = .ok (.aload_n 0, 1) := by decide +kernel
theorem dX11_line_267 : decode cX11_line 267 = .ok (.getfield 58, 3) := by decide +kernel
theorem dX11_line_270 : decode cX11_line 270 = .ok (.iload_n 3, 1) := by decide +kernel
theorem dX11_line_271 : decode cX11_line 271 = .ok (.aload_n 0, 1) := by decide +kernel
theorem dX11_line_272 : decode cX11_line 272 = .ok (.aload_n 0, 1) := by decide +kernel
theorem dX11_line_273 : decode cX11_line 273 = .ok (.invokevirtual 252, 3) := by decide +kernel
theorem dX11_line_276 : decode cX11_line 276 = .ok (.invokevirtual 255, 3) := by decide +kernel
theorem dX11_line_279 : decode cX11_line 279 = .ok (.iastore, 1) := by decide +kernel
theorem dX11_line_280 : decode cX11_line 280 = .ok (.aload_n 0, 1) := by decide +kernel
theorem dX11_line_281 : decode cX11_line 281 = .ok (.getfield 205, 3) := by decide +kernel
theorem dX11_line_284 : decode cX11_line 284 = .ok (.ifCond .ne 18, 3) := by decide +kernel
theorem dX11_line_287 : decode cX11_line 287 = .ok (.aload_n 0, 1) := by decide +kernel
theorem dX11_line_288 : decode cX11_line 288 = .ok (.getfield 58, 3) := by decide +kernel
theorem dX11_line_291 : decode cX11_line 291 = .ok (.iload_n 3, 1) := by decide +kernel
theorem dX11_line_292 : decode cX11_line 292 = .ok (.iaload, 1) := by decide +kernel
theorem dX11_line_293 : decode cX11_line 293 = .ok (.iconst (-1), 1) := by decide +kernel
theorem dX11_line_294 : decode cX11_line 294 = .ok (.if_icmp .ne 8, 3) := by decide +kernel
theorem dX11_line_297 : decode cX11_line 297 = .ok (.aload_n 0, 1) := by decide +kernel
theorem dX11_line_298 : decode cX11_line 298 = .ok (.iconst 4, 1) := by decide +kernel
theorem dX11_line_299 : decode cX11_line 299 = .ok (.invokevirtual 214, 3) := by decide +kernel
theorem dX11_line_302 : decode cX11_line 302 = .ok (.aload_n 0, 1) := by decide +kernel
theorem dX11_line_303 : decode cX11_line 303 = .ok (.invokevirtual 258, 3) := by decide +kernel
theorem dX11_line_306 : decode cX11_line 306 = .ok (.aload_n 0, 1) := by decide +kernel
theorem dX11_line_307 : decode cX11_line 307 = .ok (.getfield 61, 3) := by decide +kernel
theorem dX11_line_310 : decode cX11_line 310 = .ok (.iload_n 3, 1) := by decide +kernel
theorem dX11_line_311 : decode cX11_line 311 = .ok (.aload_n 0, 1) := by decide +kernel
theorem dX11_line_312 : decode cX11_line 312 = .ok (.iconst 0, 1) := by decide +kernel
theorem dX11_line_313 : decode cX11_line 313 = .ok (.bipush 99, 2) := by decide +kernel
theorem dX11_line_315 : decode cX11_line 315 = .ok (.invokevirtual 235, 3) := by decide +kernel
theorem dX11_line_318 : decode cX11_line 318 = .ok (.iastore, 1) := by decide +kernel
theorem dX11_line_319 : decode cX11_line 319 = .ok (.aload_n 0, 1) := by decide +kernel
theorem dX11_line_320 : decode cX11_line 320 = .ok (.iconst 4, 1) := by decide +kernel
theorem dX11_line_321 : decode cX11_line 321 = .ok (.aload_n 0, 1) := by decide +kernel
theorem dX11_line_322 : decode cX11_line 322 = .ok (.iconst 4, 1) := by decide +kernel
theorem dX11_line_323 : decode cX11_line 323 = .ok (.invokevirtual 221, 3) := by decide +kernel
theorem dX11_line_326 : decode cX11_line 326 = .ok (.iconst 1, 1) := by decide +kernel
theorem dX11_line_327 : decode cX11_line 327 = .ok (.iadd, 1) := by decide +kernel
theorem dX11_line_328 : decode cX11_line 328 = .ok (.invokevirtual 239, 3) := by decide +kernel
theorem dX11_line_331 : decode cX11_line 331 = .ok (.goto 110, 3) := by decide +kernel
theorem dX11_line_334 : decode cX11_line 334 = .ok (.aload_n 0, 1) := by decide +kernel
theorem dX11_line_335 : decode cX11_line 335 = .ok (.invokevirtual 252, 3) := by decide +kernel
theorem dX11_line_338 : decode cX11_line 338 = .ok (.istore 4, 2) := by decide +kernel
theorem dX11_line_340 : decode cX11_line 340 = .ok (.aload_n 0, 1) := by decide +kernel
theorem dX11_line_341 : decode cX11_line 341 = .ok (.getfield 205, 3) := by decide +kernel
theorem dX11_line_344 : decode cX11_line 344 = .ok (.ifCond .ne 22, 3) := by decide +kernel
theorem dX11_line_347 : decode cX11_line 347 = .ok (.aload_n 0, 1) := by decide +kernel
theorem dX11_line_348 : decode cX11_line 348 = .ok (.iconst 5, 1) := by decide +kernel
theorem dX11_line_349 : decode cX11_line 349 = .ok (.invokevirtual 221, 3) := by decide +kernel
theorem dX11_line_352 : decode cX11_line 352 = .ok (.iload 4, 2) := by decide +kernel
theorem dX11_line_354 : decode cX11_line 354 = .ok (.ishr, 1) := by decide +kernel
theorem dX11_line_355 : decode cX11_line 355 = .ok (.iconst 1, 1) := by decide +kernel
theorem dX11_line_356 : decode cX11_line 356 = .ok (.iand, 1) := by decide +kernel
theorem dX11_line_357 : decode cX11_line 357 = .ok (.iconst 1, 1) := by decide +kernel
theorem dX11_line_358 : decode cX11_line 358 = .ok (.if_icmp .ne 8, 3) := by decide +kernel
theorem dX11_line_361 : decode cX11_line 361 = .ok (.aload_n 0, 1) := by decide +kernel
theorem dX11_line_362 : decode cX11_line 362 = .ok (.iconst 3, 1) := by decide +kernel
theorem dX11_line_363 : decode cX11_line 363 = .ok (.invokevirtual 214, 3) := by decide +kernel
theorem dX11_line_366 : decode cX11_line 366 = .ok (.aload_n 0, 1) := by decide +kernel
theorem dX11_line_367 : decode cX11_line 367 = .ok (.invokevirtual 258, 3) := by decide +kernel
theorem dX11_line_370 : decode cX11_line 370 = .ok (.aload_n 0, 1) := by decide +kernel
theorem dX11_line_371 : decode cX11_line 371 = .ok (.getfield 28, 3) := by decide +kernel
theorem dX11_line_374 : decode cX11_line 374 = .ok (.bipush 7, 2) := by decide +kernel
theorem dX11_line_376 : decode cX11_line 376 = .ok (.iload 4, 2) := by decide +kernel
theorem dX11_line_378 : decode cX11_line 378 = .ok (.iadd, 1) := by decide +kernel
theorem dX11_line_379 : decode cX11_line 379 = .ok (.aload_n 0, 1) := by decide +kernel
theorem dX11_line_380 : decode cX11_line 380 = .ok (.iconst 0, 1) := by decide +kernel
theorem dX11_line_381 : decode cX11_line 381 = .ok (.bipush 9, 2) := by decide +kernel
theorem dX11_line_383 : decode cX11_line 383 = .ok (.invokevirtual 235, 3) := by decide +kernel
theorem dX11_line_386 : decode cX11_line 386 = .ok (.iastore, 1) := by decide +kernel
theorem dX11_line_387 : decode cX11_line 387 = .ok (.aload_n 0, 1) := by decide +kernel
theorem dX11_line_388 : decode cX11_line 388 = .ok (.iconst 5, 1) := by decide +kernel
theorem dX11_line_389 : decode cX11_line 389 = .ok (.aload_n 0, 1) := by decide +kernel
theorem dX11_line_390 : decode cX11_line 390 = .ok (.iconst 5, 1) := by decide +kernel
theorem dX11_line_391 : decode cX11_line 391 = .ok (.invokevirtual 221, 3) := by decide +kernel
theorem dX11_line_394 : decode cX11_line 394 = .ok (.iconst 1, 1) := by decide +kernel
theorem dX11_line_395 : decode cX11_line 395 = .ok (.iload 4, 2) := by decide +kernel
theorem dX11_line_397 : decode cX11_line 397 = .ok (.ishl, 1) := by decide +kernel
theorem dX11_line_398 : decode cX11_line 398 = .ok (.ior, 1) := by decide +kernel
theorem dX11_line_399 : decode cX11_line 399 = .ok (.invokevirtual 239, 3) := by decide +kernel
theorem dX11_line_402 : decode cX11_line 402 = .ok (.goto 39, 3) := by decide +kernel
theorem dX11_line_405 : decode cX11_line 405 = .ok (.aload_n 0, 1) := by decide +kernel
theorem dX11_line_406 : decode cX11_line 406 = .ok (.bipush 6, 2) := by decide +kernel
theorem dX11_line_408 : decode cX11_line 408 = .ok (.aload_n 0, 1) := by decide +kernel
theorem dX11_line_409 : decode cX11_line 409 = .ok (.iconst 0, 1) := by decide +kernel
theorem dX11_line_410 : decode cX11_line 410 = .ok (.bipush 100, 2) := by decide +kernel
theorem dX11_line_412 : decode cX11_line 412 = .ok (.invokevirtual 235, 3) := by decide +kernel
theorem dX11_line_415 : decode cX11_line 415 = .ok (.invokevirtual 239, 3) := by decide +kernel
theorem dX11_line_418 : decode cX11_line 418 = .ok (.goto 23, 3) := by decide +kernel
theorem dX11_line_421 : decode cX11_line 421 = .ok (.aload_n 0, 1) := by decide +kernel
theorem dX11_line_422 : decode cX11_line 422 = .ok (.bipush 7, 2) := by decide +kernel
theorem dX11_line_424 : decode cX11_line 424 = .ok (.aload_n 0, 1) := by decide +kernel
theorem dX11_line_425 : decode cX11_line 425 = .ok (.iconst 0, 1) := by decide +kernel
theorem dX11_line_426 : decode cX11_line 426 = .ok (.ldc 189, 2) := by decide +kernel
theorem dX11_line_428 : decode cX11_line 428 = .ok (.invokevirtual 235, 3) := by decide +kernel
theorem dX11_line_431 : decode cX11_line 431 = .ok (.invokevirtual 239, 3) := by decide +kernel
theorem dX11_line_434 : decode cX11_line 434 = .ok (.goto 7, 3) := by decide +kernel
theorem dX11_line_437 : decode cX11_line 437 = .ok (.aload_n 0, 1) := by decide +kernel
theorem dX11_line_438 : decode cX11_line 438 = .ok (.invokevirtual 261, 3) := by decide +kernel
theorem dX11_line_441 : decode cX11_line 441 = .ok (.aload_n 0, 1) := by decide +kernel
theorem dX11_line_442 : decode cX11_line 442 = .ok (.getfield 205, 3) := by decide +kernel
theorem dX11_line_445 : decode cX11_line 445 = .ok (.ifCond .eq 4, 3) := by decide +kernel
theorem dX11_line_448 : decode cX11_line 448 = .ok (.return_, 1) := by decide +kernel
theorem dX11_line_449 : decode cX11_line 449 = .ok (.aload_n 0, 1) := by decide +kernel
theorem dX11_line_450 : decode cX11_line 450 = .ok (.bipush 59, 2) := by decide +kernel
theorem dX11_line_452 : decode cX11_line 452 = .ok (.invokevirtual 264, 3) := by decide +kernel
theorem dX11_line_455 : decode cX11_line 455 = .ok (.ifCond .ne 11, 3) := by decide +kernel
theorem dX11_line_458 : decode cX11_line 458 = .ok (.aload_n 0, 1) := by decide +kernel
theorem dX11_line_459 : decode cX11_line 459 = .ok (.iconst 1, 1) := by decide +kernel
theorem dX11_line_460 : decode cX11_line 460 = .ok (.invokevirtual 214, 3) := by decide +kernel
theorem dX11_line_463 : decode cX11_line 463 = .ok (.goto 7, 3) := by decide +kernel
theorem dX11_line_466 : decode cX11_line 466 = .ok (.aload_n 0, 1) := by decide +kernel
theorem dX11_line_467 : decode cX11_line 467 = .ok (.invokevirtual 211, 3) := by decide +kernel
theorem dX11_line_470 : decode cX11_line 470 = .ok (.aload_n 0, 1) := by decide +kernel
theorem dX11_line_471 : decode cX11_line 471 = .ok (.dup, 1) := by decide +kernel
theorem dX11_line_472 : decode cX11_line 472 = .ok (.getfield 267, 3) := by decide +kernel
theorem dX11_line_475 : decode cX11_line 475 = .ok (.iconst 1, 1) := by decide +kernel
theorem dX11_line_476 : decode cX11_line 476 = .ok (.iadd, 1) := by decide +kernel
theorem dX11_line_477 : decode cX11_line 477 = .ok (.putfield 267, 3) := by decide +kernel
theorem dX11_line_480 : decode cX11_line 480 = .ok (.return_, 1) := by decide +kernel
theorem dX11_lockLine_0 : decode cX11_lockLine 0 = .ok (.iconst 3, 1) := by decide +kernel
theorem dX11_lockLine_1 : decode cX11_lockLine 1 = .ok (.aload_n 0, 1) := by decide +kernel
theorem dX11_lockLine_2 : decode cX11_lockLine 2 = .ok (.iconst 1, 1) := by decide +kernel
theorem dX11_lockLine_3 : decode cX11_lockLine 3 = .ok (.invokevirtual 221, 3) := by decide +kernel
theorem dX11_lockLine_6 : decode cX11_lockLine 6 = .ok (.iadd, 1) := by decide +kernel
theorem dX11_lockLine_7 : decode cX11_lockLine 7 = .ok (.istore_n 1, 1) := by decide +kernel
theorem dX11_lockLine_8 : decode cX11_lockLine 8 = .ok (.aload_n 0, 1) := by decide +kernel
theorem dX11_lockLine_9 : decode cX11_lockLine 9 = .ok (.getfield 31, 3) := by decide +kernel
theorem dX11_lockLine_12 : decode cX11_lockLine 12 = .ok (.iload_n 1, 1) := by decide +kernel
theorem dX11_lockLine_13 : decode cX11_lockLine 13 = .ok (.aload_n 0, 1) := by decide +kernel
theorem dX11_lockLine_14 : decode cX11_lockLine 14 = .ok (.invokevirtual 252, 3) := by decide +kernel
theorem dX11_lockLine_17 : decode cX11_lockLine 17 = .ok (.iastore, 1) := by decide +kernel
theorem dX11_lockLine_18 : decode cX11_lockLine 18 = .ok (.aload_n 0, 1) := by decide +kernel
theorem dX11_lockLine_19 : decode cX11_lockLine 19 = .ok (.getfield 205, 3) := by decide +kernel
theorem dX11_lockLine_22 : decode cX11_lockLine 22 = .ok (.ifCond .ne 22, 3) := by decide +kernel
theorem dX11_lockLine_25 : decode cX11_lockLine 25 = .ok (.aload_n 0, 1) := by decide +kernel
theorem dX11_lockLine_26 : decode cX11_lockLine 26 = .ok (.aload_n 0, 1) := by decide +kernel
theorem dX11_lockLine_27 : decode cX11_lockLine 27 = .ok (.getfield 31, 3) := by decide +kernel
theorem dX11_lockLine_30 : decode cX11_lockLine 30 = .ok (.iload_n 1, 1) := by decide +kernel
theorem dX11_lockLine_31 : decode cX11_lockLine 31 = .ok (.iaload, 1) := by decide +kernel
theorem dX11_lockLine_32 : decode cX11_lockLine 32 = .ok (.invokevirtual 255, 3) := by decide +kernel
theorem dX11_lockLine_35 : decode cX11_lockLine 35 = .ok (.iconst (-1), 1) := by decide +kernel
theorem dX11_lockLine_36 : decode cX11_lockLine 36 = .ok (.if_icmp .eq 8, 3) := by decide +kernel
theorem dX11_lockLine_39 : decode cX11_lockLine 39 = .ok (.aload_n 0, 1) := by decide +kernel
theorem dX11_lockLine_40 : decode cX11_lockLine 40 = .ok (.iconst 3, 1) := by decide +kernel
theorem dX11_lockLine_41 : decode cX11_lockLine 41 = .ok (.invokevirtual 214, 3) := by decide +kernel
theorem dX11_lockLine_44 : decode cX11_lockLine 44 = .ok (.aload_n 0, 1) := by decide +kernel
theorem dX11_lockLine_45 : decode cX11_lockLine 45 = .ok (.invokevirtual 258, 3) := by decide +kernel
theorem dX11_lockLine_48 : decode cX11_lockLine 48 = .ok (.aload_n 0, 1) := by decide +kernel
theorem dX11_lockLine_49 : decode cX11_lockLine 49 = .ok (.getfield 34, 3) := by decide +kernel
theorem dX11_lockLine_52 : decode cX11_lockLine 52 = .ok (.iload_n 1, 1) := by decide +kernel
theorem dX11_lockLine_53 : decode cX11_lockLine 53 = .ok (.aload_n 0, 1) := by decide +kernel
theorem dX11_lockLine_54 : decode cX11_lockLine 54 = .ok (.iconst 0, 1) := by decide +kernel
theorem dX11_lockLine_55 : decode cX11_lockLine 55 = .ok (.sipush 199, 3) := by decide +kernel
theorem dX11_lockLine_58 : decode cX11_lockLine 58 = .ok (.invokevirtual 235, 3) := by decide +kernel
theorem dX11_lockLine_61 : decode cX11_lockLine 61 = .ok (.iastore, 1) := by decide +kernel
theorem dX11_lockLine_62 : decode cX11_lockLine 62 = .ok (.aload_n 0, 1) := by decide +kernel
theorem dX11_lockLine_63 : decode cX11_lockLine 63 = .ok (.getfield 37, 3) := by decide +kernel
theorem dX11_lockLine_66 : decode cX11_lockLine 66 = .ok (.iload_n 1, 1) := by decide +kernel
theorem dX11_lockLine_67 : decode cX11_lockLine 67 = .ok (.aload_n 0, 1) := by decide +kernel
theorem dX11_lockLine_68 : decode cX11_lockLine 68 = .ok (.iconst 0, 1) := by decide +kernel
theorem dX11_lockLine_69 : decode cX11_lockLine 69 = .ok (.sipush 199, 3) := by decide +kernel
theorem dX11_lockLine_72 : decode cX11_lockLine 72 = .ok (.invokevirtual 235, 3) := by decide +kernel
theorem dX11_lockLine_75 : decode cX11_lockLine 75 = .ok (.iastore, 1) := by decide +kernel
theorem dX11_lockLine_76 : decode cX11_lockLine 76 = .ok (.aload_n 0, 1) := by decide +kernel
theorem dX11_lockLine_77 : decode cX11_lockLine 77 = .ok (.iconst 1, 1) := by decide +kernel
theorem dX11_lockLine_78 : decode cX11_lockLine 78 = .ok (.aload_n 0, 1) := by decide +kernel
theorem dX11_lockLine_79 : decode cX11_lockLine 79 = .ok (.iconst 1, 1) := by decide +kernel
theorem dX11_lockLine_80 : decode cX11_lockLine 80 = .ok (.invokevirtual 221, 3) := by decide +kernel
theorem dX11_lockLine_83 : decode cX11_lockLine 83 = .ok (.iconst 1, 1) := by decide +kernel
theorem dX11_lockLine_84 : decode cX11_lockLine 84 = .ok (.iadd, 1) := by decide +kernel
theorem dX11_lockLine_85 : decode cX11_lockLine 85 = .ok (.invokevirtual 239, 3) := by decide +kernel
theorem dX11_lockLine_88 : decode cX11_lockLine 88 = .ok (.return_, 1) := by decide +kernel
theorem dX11_pipeLine_0 : decode cX11_pipeLine 0 = .ok (.bipush 10, 2) := by decide +kernel
theorem dX11_pipeLine_2 : decode cX11_pipeLine 2 = .ok (.aload_n 0, 1) := by decide +kernel
theorem dX11_pipeLine_3 : decode cX11_pipeLine 3 = .ok (.iconst 2, 1) := by decide +kernel
theorem dX11_pipeLine_4 : decode cX11_pipeLine 4 = .ok (.invokevirtual 221, 3) := by decide +kernel
theorem dX11_pipeLine_7 : decode cX11_pipeLine 7 = .ok (.iadd, 1) := by decide +kernel
theorem dX11_pipeLine_8 : decode cX11_pipeLine 8 = .ok (.istore_n 1, 1) := by decide +kernel
theorem dX11_pipeLine_9 : decode cX11_pipeLine 9 = .ok (.aload_n 0, 1) := by decide +kernel
theorem dX11_pipeLine_10 : decode cX11_pipeLine 10 = .ok (.getfield 40, 3) := by decide +kernel
theorem dX11_pipeLine_13 : decode cX11_pipeLine 13 = .ok (.iload_n 1, 1) := by decide +kernel
theorem dX11_pipeLine_14 : decode cX11_pipeLine 14 = .ok (.aload_n 0, 1) := by decide +kernel
theorem dX11_pipeLine_15 : decode cX11_pipeLine 15 = .ok (.invokevirtual 252, 3) := by decide +kernel
theorem dX11_pipeLine_18 : decode cX11_pipeLine 18 = .ok (.iastore, 1) := by decide +kernel
theorem dX11_pipeLine_19 : decode cX11_pipeLine 19 = .ok (.aload_n 0, 1) := by decide +kernel
theorem dX11_pipeLine_20 : decode cX11_pipeLine 20 = .ok (.invokevirtual 258, 3) := by decide +kernel
theorem dX11_pipeLine_23 : decode cX11_pipeLine 23 = .ok (.aload_n 0, 1) := by decide +kernel
theorem dX11_pipeLine_24 : decode cX11_pipeLine 24 = .ok (.getfield 43, 3) := by decide +kernel
theorem dX11_pipeLine_27 : decode cX11_pipeLine 27 = .ok (.iload_n 1, 1) := by decide +kernel
theorem dX11_pipeLine_28 : decode cX11_pipeLine 28 = .ok (.aload_n 0, 1) := by decide +kernel
theorem dX11_pipeLine_29 : decode cX11_pipeLine 29 = .ok (.invokevirtual 252, 3) := by decide +kernel
theorem dX11_pipeLine_32 : decode cX11_pipeLine 32 = .ok (.iastore, 1) := by decide +kernel
theorem dX11_pipeLine_33 : decode cX11_pipeLine 33 = .ok (.aload_n 0, 1) := by decide +kernel
theorem dX11_pipeLine_34 : decode cX11_pipeLine 34 = .ok (.getfield 205, 3) := by decide +kernel
theorem dX11_pipeLine_37 : decode cX11_pipeLine 37 = .ok (.ifCond .ne 23, 3) := by decide +kernel
theorem dX11_pipeLine_40 : decode cX11_pipeLine 40 = .ok (.aload_n 0, 1) := by decide +kernel
theorem dX11_pipeLine_41 : decode cX11_pipeLine 41 = .ok (.getfield 40, 3) := by decide +kernel
theorem dX11_pipeLine_44 : decode cX11_pipeLine 44 = .ok (.iload_n 1, 1) := by decide +kernel
theorem dX11_pipeLine_45 : decode cX11_pipeLine 45 = .ok (.iaload, 1) := by decide +kernel
theorem dX11_pipeLine_46 : decode cX11_pipeLine 46 = .ok (.aload_n 0, 1) := by decide +kernel
theorem dX11_pipeLine_47 : decode cX11_pipeLine 47 = .ok (.getfield 43, 3) := by decide +kernel
theorem dX11_pipeLine_50 : decode cX11_pipeLine 50 = .ok (.iload_n 1, 1) := by decide +kernel
theorem dX11_pipeLine_51 : decode cX11_pipeLine 51 = .ok (.iaload, 1) := by decide +kernel
theorem dX11_pipeLine_52 : decode cX11_pipeLine 52 = .ok (.if_icmp .ne 8, 3) := by decide +kernel
theorem dX11_pipeLine_55 : decode cX11_pipeLine 55 = .ok (.aload_n 0, 1) := by decide +kernel
theorem dX11_pipeLine_56 : decode cX11_pipeLine 56 = .ok (.iconst 5, 1) := by decide +kernel
theorem dX11_pipeLine_57 : decode cX11_pipeLine 57 = .ok (.invokevirtual 214, 3) := by decide +kernel
theorem dX11_pipeLine_60 : decode cX11_pipeLine 60 = .ok (.bipush 10, 2) := by decide +kernel
theorem dX11_pipeLine_62 : decode cX11_pipeLine 62 = .ok (.istore_n 2, 1) := by decide +kernel
theorem dX11_pipeLine_63 : decode cX11_pipeLine 63 = .ok (.iload_n 2, 1) := by decide +kernel
theorem dX11_pipeLine_64 : decode cX11_pipeLine 64 = .ok (.iload_n 1, 1) := by decide +kernel
theorem dX11_pipeLine_65 : decode cX11_pipeLine 65 = .ok (.if_icmp .ge 79, 3) := by decide +kernel
theorem dX11_pipeLine_68 : decode cX11_pipeLine 68 = .ok (.aload_n 0, 1) := by decide +kernel
theorem dX11_pipeLine_69 : decode cX11_pipeLine 69 = .ok (.getfield 205, 3) := by decide +kernel
theorem dX11_pipeLine_72 : decode cX11_pipeLine 72 = .ok (.ifCond .ne 72, 3) := by decide +kernel
theorem dX11_pipeLine_75 : decode cX11_pipeLine 75 = .ok (.aload_n 0, 1) := by decide +kernel
theorem dX11_pipeLine_76 : decode cX11_pipeLine 76 = .ok (.getfield 40, 3) := by decide +kernel
theorem dX11_pipeLine_79 : decode cX11_pipeLine 79 = .ok (.iload_n 2, 1) := by decide +kernel
theorem dX11_pipeLine_80 : decode cX11_pipeLine 80 = .ok (.iaload, 1) := by decide +kernel
theorem dX11_pipeLine_81 : decode cX11_pipeLine 81 = .ok (.aload_n 0, 1) := by decide +kernel
theorem dX11_pipeLine_82 : decode cX11_pipeLine 82 = .ok (.getfield 43, 3) := by decide +kernel
theorem dX11_pipeLine_85 : decode cX11_pipeLine 85 = .ok (.iload_n 2, 1) := by decide +kernel
theorem dX11_pipeLine_86 : decode cX11_pipeLine 86 = .ok (.iaload, 1) := by decide +kernel
theorem dX11_pipeLine_87 : decode cX11_pipeLine 87 = .ok (.iadd, 1) := by decide +kernel
theorem dX11_pipeLine_88 : decode cX11_pipeLine 88 = .ok (.aload_n 0, 1) := by decide +kernel
theorem dX11_pipeLine_89 : decode cX11_pipeLine 89 = .ok (.getfield 40, 3) := by decide +kernel
theorem dX11_pipeLine_92 : decode cX11_pipeLine 92 = .ok (.iload_n 1, 1) := by decide +kernel
theorem dX11_pipeLine_93 : decode cX11_pipeLine 93 = .ok (.iaload, 1) := by decide +kernel
theorem dX11_pipeLine_94 : decode cX11_pipeLine 94 = .ok (.aload_n 0, 1) := by decide +kernel
theorem dX11_pipeLine_95 : decode cX11_pipeLine 95 = .ok (.getfield 43, 3) := by decide +kernel
theorem dX11_pipeLine_98 : decode cX11_pipeLine 98 = .ok (.iload_n 1, 1) := by decide +kernel
theorem dX11_pipeLine_99 : decode cX11_pipeLine 99 = .ok (.iaload, 1) := by decide +kernel
theorem dX11_pipeLine_100 : decode cX11_pipeLine 100 = .ok (.iadd, 1) := by decide +kernel
theorem dX11_pipeLine_101 : decode cX11_pipeLine 101 = .ok (.if_icmp .ne 37, 3) := by decide +kernel
theorem dX11_pipeLine_104 : decode cX11_pipeLine 104 = .ok (.aload_n 0, 1) := by decide +kernel
theorem dX11_pipeLine_105 : decode cX11_pipeLine 105 = .ok (.getfield 40, 3) := by decide +kernel
theorem dX11_pipeLine_108 : decode cX11_pipeLine 108 = .ok (.iload_n 2, 1) := by decide +kernel
theorem dX11_pipeLine_109 : decode cX11_pipeLine 109 = .ok (.iaload, 1) := by decide +kernel
theorem dX11_pipeLine_110 : decode cX11_pipeLine 110 = .ok (.aload_n 0, 1) := by decide +kernel
theorem dX11_pipeLine_111 : decode cX11_pipeLine 111 = .ok (.getfield 43, 3) := by decide +kernel
theorem dX11_pipeLine_114 : decode cX11_pipeLine 114 = .ok (.iload_n 2, 1) := by decide +kernel
theorem dX11_pipeLine_115 : decode cX11_pipeLine 115 = .ok (.iaload, 1) := by decide +kernel
theorem dX11_pipeLine_116 : decode cX11_pipeLine 116 = .ok (.imul, 1) := by decide +kernel
theorem dX11_pipeLine_117 : decode cX11_pipeLine 117 = .ok (.aload_n 0, 1) := by decide +kernel
theorem dX11_pipeLine_118 : decode cX11_pipeLine 118 = .ok (.getfield 40, 3) := by decide +kernel
theorem dX11_pipeLine_121 : decode cX11_pipeLine 121 = .ok (.iload_n 1, 1) := by decide +kernel
theorem dX11_pipeLine_122 : decode cX11_pipeLine 122 = .ok (.iaload, 1) := by decide +kernel
theorem dX11_pipeLine_123 : decode cX11_pipeLine 123 = .ok (.aload_n 0, 1) := by decide +kernel
theorem dX11_pipeLine_124 : decode cX11_pipeLine 124 = .ok (.getfield 43, 3) := by decide +kernel
theorem dX11_pipeLine_127 : decode cX11_pipeLine 127 = .ok (.iload_n 1, 1) := by decide +kernel
theorem dX11_pipeLine_128 : decode cX11_pipeLine 128 = .ok (.iaload, 1) := by decide +kernel
theorem dX11_pipeLine_129 : decode cX11_pipeLine 129 = .ok (.imul, 1) := by decide +kernel
theorem dX11_pipeLine_130 : decode cX11_pipeLine 130 = .ok (.if_icmp .ne 8, 3) := by decide +kernel
theorem dX11_pipeLine_133 : decode cX11_pipeLine 133 = .ok (.aload_n 0, 1) := by decide +kernel
theorem dX11_pipeLine_134 : decode cX11_pipeLine 134 = .ok (.iconst 3, 1) := by decide +kernel
theorem dX11_pipeLine_135 : decode cX11_pipeLine 135 = .ok (.invokevirtual 214, 3) := by decide +kernel
theorem dX11_pipeLine_138 : decode cX11_pipeLine 138 = .ok (.iinc 2 1, 3) := by decide +kernel
theorem dX11_pipeLine_141 : decode cX11_pipeLine 141 = .ok (.goto (-78), 3) := by decide +kernel
theorem dX11_pipeLine_144 : decode cX11_pipeLine 144 = .ok (.aload_n 0, 1) := by decide +kernel
theorem dX11_pipeLine_145 : decode cX11_pipeLine 145 = .ok (.invokevirtual 258, 3) := by decide +kernel
theorem dX11_pipeLine_148 : decode cX11_pipeLine 148 = .ok (.aload_n 0, 1) := by decide +kernel
theorem dX11_pipeLine_149 : decode cX11_pipeLine 149 = .ok (.getfield 46, 3) := by decide +kernel
theorem dX11_pipeLine_152 : decode cX11_pipeLine 152 = .ok (.iload_n 1, 1) := by decide +kernel
theorem dX11_pipeLine_153 : decode cX11_pipeLine 153 = .ok (.aload_n 0, 1) := by decide +kernel
theorem dX11_pipeLine_154 : decode cX11_pipeLine 154 = .ok (.iconst 1, 1) := by decide +kernel
theorem dX11_pipeLine_155 : decode cX11_pipeLine 155 = .ok (.bipush 99, 2) := by decide +kernel
theorem dX11_pipeLine_157 : decode cX11_pipeLine 157 = .ok (.invokevirtual 235, 3) := by decide +kernel
theorem dX11_pipeLine_160 : decode cX11_pipeLine 160 = .ok (.iastore, 1) := by decide +kernel
theorem dX11_pipeLine_161 : decode cX11_pipeLine 161 = .ok (.aload_n 0, 1) := by decide +kernel
theorem dX11_pipeLine_162 : decode cX11_pipeLine 162 = .ok (.iconst 2, 1) := by decide +kernel
theorem dX11_pipeLine_163 : decode cX11_pipeLine 163 = .ok (.aload_n 0, 1) := by decide +kernel
theorem dX11_pipeLine_164 : decode cX11_pipeLine 164 = .ok (.iconst 2, 1) := by decide +kernel
theorem dX11_pipeLine_165 : decode cX11_pipeLine 165 = .ok (.invokevirtual 221, 3) := by decide +kernel
theorem dX11_pipeLine_168 : decode cX11_pipeLine 168 = .ok (.iconst 1, 1) := by decide +kernel
theorem dX11_pipeLine_169 : decode cX11_pipeLine 169 = .ok (.iadd, 1) := by decide +kernel
theorem dX11_pipeLine_170 : decode cX11_pipeLine 170 = .ok (.invokevirtual 239, 3) := by decide +kernel
theorem dX11_pipeLine_173 : decode cX11_pipeLine 173 = .ok (.return_, 1) := by decide +kernel
theorem dX11_turnLine_0 : decode cX11_turnLine 0 = .ok (.bipush 12, 2) := by decide +kernel
theorem dX11_turnLine_2 : decode cX11_turnLine 2 = .ok (.aload_n 0, 1) := by decide +kernel
theorem dX11_turnLine_3 : decode cX11_turnLine 3 = .ok (.iconst 3, 1) := by decide +kernel
theorem dX11_turnLine_4 : decode cX11_turnLine 4 = .ok (.invokevirtual 221, 3) := by decide +kernel
theorem dX11_turnLine_7 : decode cX11_turnLine 7 = .ok (.iadd, 1) := by decide +kernel
theorem dX11_turnLine_8 : decode cX11_turnLine 8 = .ok (.istore_n 1, 1) := by decide +kernel
theorem dX11_turnLine_9 : decode cX11_turnLine 9 = .ok (.aload_n 0, 1) := by decide +kernel
theorem dX11_turnLine_10 : decode cX11_turnLine 10 = .ok (.getfield 170, 3) := by decide +kernel
theorem dX11_turnLine_13 : decode cX11_turnLine 13 = .ok (.iconst 2, 1) := by decide +kernel
theorem dX11_turnLine_14 : decode cX11_turnLine 14 = .ok (.if_icmp .ne 29, 3) := by decide +kernel
theorem dX11_turnLine_17 : decode cX11_turnLine 17 = .ok (.aload_n 0, 1) := by decide +kernel
theorem dX11_turnLine_18 : decode cX11_turnLine 18 = .ok (.getfield 180, 3) := by decide +kernel
theorem dX11_turnLine_21 : decode cX11_turnLine 21 = .ok (.bipush 10, 2) := by decide +kernel
theorem dX11_turnLine_23 : decode cX11_turnLine 23 = .ok (.if_icmp .ge 20, 3) := by decide +kernel
theorem dX11_turnLine_26 : decode cX11_turnLine 26 = .ok (.aload_n 0, 1) := by decide +kernel
theorem dX11_turnLine_27 : decode cX11_turnLine 27 = .ok (.getfield 180, 3) := by decide +kernel
theorem dX11_turnLine_30 : decode cX11_turnLine 30 = .ok (.aload_n 0, 1) := by decide +kernel
theorem dX11_turnLine_31 : decode cX11_turnLine 31 = .ok (.iconst 2, 1) := by decide +kernel
theorem dX11_turnLine_32 : decode cX11_turnLine 32 = .ok (.invokevirtual 221, 3) := by decide +kernel
theorem dX11_turnLine_35 : decode cX11_turnLine 35 = .ok (.if_icmp .lt 8, 3) := by decide +kernel
theorem dX11_turnLine_38 : decode cX11_turnLine 38 = .ok (.aload_n 0, 1) := by decide +kernel
theorem dX11_turnLine_39 : decode cX11_turnLine 39 = .ok (.iconst 4, 1) := by decide +kernel
theorem dX11_turnLine_40 : decode cX11_turnLine 40 = .ok (.invokevirtual 214, 3) := by decide +kernel
theorem dX11_turnLine_43 : decode cX11_turnLine 43 = .ok (.aload_n 0, 1) := by decide +kernel
theorem dX11_turnLine_44 : decode cX11_turnLine 44 = .ok (.getfield 49, 3) := by decide +kernel
theorem dX11_turnLine_47 : decode cX11_turnLine 47 = .ok (.iload_n 1, 1) := by decide +kernel
theorem dX11_turnLine_48 : decode cX11_turnLine 48 = .ok (.aload_n 0, 1) := by decide +kernel
theorem dX11_turnLine_49 : decode cX11_turnLine 49 = .ok (.iconst 0, 1) := by decide +kernel
theorem dX11_turnLine_50 : decode cX11_turnLine 50 = .ok (.bipush 9, 2) := by decide +kernel
theorem dX11_turnLine_52 : decode cX11_turnLine 52 = .ok (.invokevirtual 235, 3) := by decide +kernel
theorem dX11_turnLine_55 : decode cX11_turnLine 55 = .ok (.iastore, 1) := by decide +kernel
theorem dX11_turnLine_56 : decode cX11_turnLine 56 = .ok (.aload_n 0, 1) := by decide +kernel
theorem dX11_turnLine_57 : decode cX11_turnLine 57 = .ok (.getfield 52, 3) := by decide +kernel
theorem dX11_turnLine_60 : decode cX11_turnLine 60 = .ok (.iload_n 1, 1) := by decide +kernel
theorem dX11_turnLine_61 : decode cX11_turnLine 61 = .ok (.aload_n 0, 1) := by decide +kernel
theorem dX11_turnLine_62 : decode cX11_turnLine 62 = .ok (.iconst 0, 1) := by decide +kernel
theorem dX11_turnLine_63 : decode cX11_turnLine 63 = .ok (.bipush 99, 2) := by decide +kernel
theorem dX11_turnLine_65 : decode cX11_turnLine 65 = .ok (.invokevirtual 235, 3) := by decide +kernel
theorem dX11_turnLine_68 : decode cX11_turnLine 68 = .ok (.iastore, 1) := by decide +kernel
theorem dX11_turnLine_69 : decode cX11_turnLine 69 = .ok (.aload_n 0, 1) := by decide +kernel
theorem dX11_turnLine_70 : decode cX11_turnLine 70 = .ok (.getfield 55, 3) := by decide +kernel
theorem dX11_turnLine_73 : decode cX11_turnLine 73 = .ok (.iload_n 1, 1) := by decide +kernel
theorem dX11_turnLine_74 : decode cX11_turnLine 74 = .ok (.aload_n 0, 1) := by decide +kernel
theorem dX11_turnLine_75 : decode cX11_turnLine 75 = .ok (.iconst 1, 1) := by decide +kernel
theorem dX11_turnLine_76 : decode cX11_turnLine 76 = .ok (.bipush 20, 2) := by decide +kernel
theorem dX11_turnLine_78 : decode cX11_turnLine 78 = .ok (.invokevirtual 235, 3) := by decide +kernel
theorem dX11_turnLine_81 : decode cX11_turnLine 81 = .ok (.iastore, 1) := by decide +kernel
theorem dX11_turnLine_82 : decode cX11_turnLine 82 = .ok (.aload_n 0, 1) := by decide +kernel
theorem dX11_turnLine_83 : decode cX11_turnLine 83 = .ok (.iconst 3, 1) := by decide +kernel
theorem dX11_turnLine_84 : decode cX11_turnLine 84 = .ok (.aload_n 0, 1) := by decide +kernel
theorem dX11_turnLine_85 : decode cX11_turnLine 85 = .ok (.iconst 3, 1) := by decide +kernel
theorem dX11_turnLine_86 : decode cX11_turnLine 86 = .ok (.invokevirtual 221, 3) := by decide +kernel
theorem dX11_turnLine_89 : decode cX11_turnLine 89 = .ok (.iconst 1, 1) := by decide +kernel
theorem dX11_turnLine_90 : decode cX11_turnLine 90 = .ok (.iadd, 1) := by decide +kernel
theorem dX11_turnLine_91 : decode cX11_turnLine 91 = .ok (.invokevirtual 239, 3) := by decide +kernel
theorem dX11_turnLine_94 : decode cX11_turnLine 94 = .ok (.return_, 1) := by decide +kernel
theorem dX11_lawLine_0 : decode cX11_lawLine 0 = .ok (.aload_n 0, 1) := by decide +kernel
theorem dX11_lawLine_1 : decode cX11_lawLine 1 = .ok (.getfield 170, 3) := by decide +kernel
theorem dX11_lawLine_4 : decode cX11_lawLine 4 = .ok (.ifCond .ne 21, 3) := by decide +kernel
theorem dX11_lawLine_7 : decode cX11_lawLine 7 = .ok (.aload_n 0, 1) := by decide +kernel
theorem dX11_lawLine_8 : decode cX11_lawLine 8 = .ok (.getfield 180, 3) := by decide +kernel
theorem dX11_lawLine_11 : decode cX11_lawLine 11 = .ok (.bipush 9, 2) := by decide +kernel
theorem dX11_lawLine_13 : decode cX11_lawLine 13 = .ok (.if_icmp .lt 12, 3) := by decide +kernel
theorem dX11_lawLine_16 : decode cX11_lawLine 16 = .ok (.aload_n 0, 1) := by decide +kernel
theorem dX11_lawLine_17 : decode cX11_lawLine 17 = .ok (.getfield 180, 3) := by decide +kernel
theorem dX11_lawLine_20 : decode cX11_lawLine 20 = .ok (.bipush 11, 2) := by decide +kernel
theorem dX11_lawLine_22 : decode cX11_lawLine 22 = .ok (.if_icmp .le 8, 3) := by decide +kernel
theorem dX11_lawLine_25 : decode cX11_lawLine 25 = .ok (.aload_n 0, 1) := by decide +kernel
theorem dX11_lawLine_26 : decode cX11_lawLine 26 = .ok (.iconst 1, 1) := by decide +kernel
theorem dX11_lawLine_27 : decode cX11_lawLine 27 = .ok (.invokevirtual 214, 3) := by decide +kernel
theorem dX11_lawLine_30 : decode cX11_lawLine 30 = .ok (.aload_n 0, 1) := by decide +kernel
theorem dX11_lawLine_31 : decode cX11_lawLine 31 = .ok (.getfield 180, 3) := by decide +kernel
theorem dX11_lawLine_34 : decode cX11_lawLine 34 = .ok (.bipush 9, 2) := by decide +kernel
theorem dX11_lawLine_36 : decode cX11_lawLine 36 = .ok (.isub, 1) := by decide +kernel
theorem dX11_lawLine_37 : decode cX11_lawLine 37 = .ok (.istore_n 1, 1) := by decide +kernel
theorem dX11_lawLine_38 : decode cX11_lawLine 38 = .ok (.aload_n 0, 1) := by decide +kernel
theorem dX11_lawLine_39 : decode cX11_lawLine 39 = .ok (.getfield 205, 3) := by decide +kernel
theorem dX11_lawLine_42 : decode cX11_lawLine 42 = .ok (.ifCond .ne 23, 3) := by decide +kernel
theorem dX11_lawLine_45 : decode cX11_lawLine 45 = .ok (.aload_n 0, 1) := by decide +kernel
theorem dX11_lawLine_46 : decode cX11_lawLine 46 = .ok (.getfield 228, 3) := by decide +kernel
theorem dX11_lawLine_49 : decode cX11_lawLine 49 = .ok (.bipush 16, 2) := by decide +kernel
theorem dX11_lawLine_51 : decode cX11_lawLine 51 = .ok (.iload_n 1, 1) := by decide +kernel
theorem dX11_lawLine_52 : decode cX11_lawLine 52 = .ok (.iadd, 1) := by decide +kernel
theorem dX11_lawLine_53 : decode cX11_lawLine 53 = .ok (.ishr, 1) := by decide +kernel
theorem dX11_lawLine_54 : decode cX11_lawLine 54 = .ok (.iconst 1, 1) := by decide +kernel
theorem dX11_lawLine_55 : decode cX11_lawLine 55 = .ok (.iand, 1) := by decide +kernel
theorem dX11_lawLine_56 : decode cX11_lawLine 56 = .ok (.iconst 1, 1) := by decide +kernel
theorem dX11_lawLine_57 : decode cX11_lawLine 57 = .ok (.if_icmp .ne 8, 3) := by decide +kernel
theorem dX11_lawLine_60 : decode cX11_lawLine 60 = .ok (.aload_n 0, 1) := by decide +kernel
theorem dX11_lawLine_61 : decode cX11_lawLine 61 = .ok (.iconst 3, 1) := by decide +kernel
theorem dX11_lawLine_62 : decode cX11_lawLine 62 = .ok (.invokevirtual 214, 3) := by decide +kernel
theorem dX11_lawLine_65 : decode cX11_lawLine 65 = .ok (.aload_n 0, 1) := by decide +kernel
theorem dX11_lawLine_66 : decode cX11_lawLine 66 = .ok (.getfield 205, 3) := by decide +kernel
theorem dX11_lawLine_69 : decode cX11_lawLine 69 = .ok (.ifCond .eq 4, 3) := by decide +kernel
theorem dX11_lawLine_72 : decode cX11_lawLine 72 = .ok (.return_, 1) := by decide +kernel
theorem dX11_lawLine_73 : decode cX11_lawLine 73 = .ok (.aload_n 0, 1) := by decide +kernel
theorem dX11_lawLine_74 : decode cX11_lawLine 74 = .ok (.dup, 1) := by decide +kernel
theorem dX11_lawLine_75 : decode cX11_lawLine 75 = .ok (.getfield 228, 3) := by decide +kernel
theorem dX11_lawLine_78 : decode cX11_lawLine 78 = .ok (.iconst 1, 1) := by decide +kernel
theorem dX11_lawLine_79 : decode cX11_lawLine 79 = .ok (.bipush 16, 2) := by decide +kernel
theorem dX11_lawLine_81 : decode cX11_lawLine 81 = .ok (.iload_n 1, 1) := by decide +kernel
theorem dX11_lawLine_82 : decode cX11_lawLine 82 = .ok (.iadd, 1) := by decide +kernel
theorem dX11_lawLine_83 : decode cX11_lawLine 83 = .ok (.ishl, 1) := by decide +kernel
theorem dX11_lawLine_84 : decode cX11_lawLine 84 = .ok (.ior, 1) := by decide +kernel
theorem dX11_lawLine_85 : decode cX11_lawLine 85 = .ok (.putfield 228, 3) := by decide +kernel
theorem dX11_lawLine_88 : decode cX11_lawLine 88 = .ok (.aload_n 0, 1) := by decide +kernel
theorem dX11_lawLine_89 : decode cX11_lawLine 89 = .ok (.invokevirtual 211, 3) := by decide +kernel
theorem dX11_lawLine_92 : decode cX11_lawLine 92 = .ok (.aload_n 0, 1) := by decide +kernel
theorem dX11_lawLine_93 : decode cX11_lawLine 93 = .ok (.getfield 64, 3) := by decide +kernel
theorem dX11_lawLine_96 : decode cX11_lawLine 96 = .ok (.iconst 3, 1) := by decide +kernel
theorem dX11_lawLine_97 : decode cX11_lawLine 97 = .ok (.iload_n 1, 1) := by decide +kernel
theorem dX11_lawLine_98 : decode cX11_lawLine 98 = .ok (.iadd, 1) := by decide +kernel
theorem dX11_lawLine_99 : decode cX11_lawLine 99 = .ok (.aload_n 0, 1) := by decide +kernel
theorem dX11_lawLine_100 : decode cX11_lawLine 100 = .ok (.bipush 8, 2) := by decide +kernel
theorem dX11_lawLine_102 : decode cX11_lawLine 102 = .ok (.invokevirtual 221, 3) := by decide +kernel
theorem dX11_lawLine_105 : decode cX11_lawLine 105 = .ok (.iastore, 1) := by decide +kernel
theorem dX11_lawLine_106 : decode cX11_lawLine 106 = .ok (.aload_n 0, 1) := by decide +kernel
theorem dX11_lawLine_107 : decode cX11_lawLine 107 = .ok (.invokevirtual 270, 3) := by decide +kernel
theorem dX11_lawLine_110 : decode cX11_lawLine 110 = .ok (.aload_n 0, 1) := by decide +kernel
theorem dX11_lawLine_111 : decode cX11_lawLine 111 = .ok (.getfield 67, 3) := by decide +kernel
theorem dX11_lawLine_114 : decode cX11_lawLine 114 = .ok (.iconst 3, 1) := by decide +kernel
theorem dX11_lawLine_115 : decode cX11_lawLine 115 = .ok (.iload_n 1, 1) := by decide +kernel
theorem dX11_lawLine_116 : decode cX11_lawLine 116 = .ok (.iadd, 1) := by decide +kernel
theorem dX11_lawLine_117 : decode cX11_lawLine 117 = .ok (.aload_n 0, 1) := by decide +kernel
theorem dX11_lawLine_118 : decode cX11_lawLine 118 = .ok (.bipush 8, 2) := by decide +kernel
theorem dX11_lawLine_120 : decode cX11_lawLine 120 = .ok (.invokevirtual 221, 3) := by decide +kernel
theorem dX11_lawLine_123 : decode cX11_lawLine 123 = .ok (.iastore, 1) := by decide +kernel
theorem dX11_lawLine_124 : decode cX11_lawLine 124 = .ok (.return_, 1) := by decide +kernel
theorem dX11_puts_0 : decode cX11_puts 0 = .ok (.aload_n 0, 1) := by decide +kernel
theorem dX11_puts_1 : decode cX11_puts 1 = .ok (.getfield 205, 3) := by decide +kernel
theorem dX11_puts_4 : decode cX11_puts 4 = .ok (.ifCond .eq 4, 3) := by decide +kernel
theorem dX11_puts_7 : decode cX11_puts 7 = .ok (.return_, 1) := by decide +kernel
theorem dX11_puts_8 : decode cX11_puts 8 = .ok (.aload_n 0, 1) := by decide +kernel
theorem dX11_puts_9 : decode cX11_puts 9 = .ok (.getfield 70, 3) := by decide +kernel
theorem dX11_puts_12 : decode cX11_puts 12 = .ok (.bipush 64, 2) := by decide +kernel
theorem dX11_puts_14 : decode cX11_puts 14 = .ok (.aload_n 0, 1) := by decide +kernel
theorem dX11_puts_15 : decode cX11_puts 15 = .ok (.bipush 8, 2) := by decide +kernel
theorem dX11_puts_17 : decode cX11_puts 17 = .ok (.invokevirtual 221, 3) := by decide +kernel
theorem dX11_puts_20 : decode cX11_puts 20 = .ok (.iadd, 1) := by decide +kernel
theorem dX11_puts_21 : decode cX11_puts 21 = .ok (.iload_n 1, 1) := by decide +kernel
theorem dX11_puts_22 : decode cX11_puts 22 = .ok (.iastore, 1) := by decide +kernel
theorem dX11_puts_23 : decode cX11_puts 23 = .ok (.aload_n 0, 1) := by decide +kernel
theorem dX11_puts_24 : decode cX11_puts 24 = .ok (.getfield 73, 3) := by decide +kernel
theorem dX11_puts_27 : decode cX11_puts 27 = .ok (.bipush 64, 2) := by decide +kernel
theorem dX11_puts_29 : decode cX11_puts 29 = .ok (.aload_n 0, 1) := by decide +kernel
theorem dX11_puts_30 : decode cX11_puts 30 = .ok (.bipush 8, 2) := by decide +kernel
theorem dX11_puts_32 : decode cX11_puts 32 = .ok (.invokevirtual 221, 3) := by decide +kernel
theorem dX11_puts_35 : decode cX11_puts 35 = .ok (.iadd, 1) := by decide +kernel
theorem dX11_puts_36 : decode cX11_puts 36 = .ok (.iload_n 2, 1) := by decide +kernel
theorem dX11_puts_37 : decode cX11_puts 37 = .ok (.iastore, 1) := by decide +kernel
theorem dX11_puts_38 : decode cX11_puts 38 = .ok (.aload_n 0, 1) := by decide +kernel
theorem dX11_puts_39 : decode cX11_puts 39 = .ok (.bipush 8, 2) := by decide +kernel
theorem dX11_puts_41 : decode cX11_puts 41 = .ok (.aload_n 0, 1) := by decide +kernel
theorem dX11_puts_42 : decode cX11_puts 42 = .ok (.bipush 8, 2) := by decide +kernel
theorem dX11_puts_44 : decode cX11_puts 44 = .ok (.invokevirtual 221, 3) := by decide +kernel
theorem dX11_puts_47 : decode cX11_puts 47 = .ok (.iconst 1, 1) := by decide +kernel
theorem dX11_puts_48 : decode cX11_puts 48 = .ok (.iadd, 1) := by decide +kernel
theorem dX11_puts_49 : decode cX11_puts 49 = .ok (.invokevirtual 239, 3) := by decide +kernel
theorem dX11_puts_52 : decode cX11_puts 52 = .ok (.return_, 1) := by decide +kernel
theorem dX11_knot_0 : decode cX11_knot 0 = .ok (.aload_n 0, 1) := by decide +kernel
theorem dX11_knot_1 : decode cX11_knot 1 = .ok (.getfield 205, 3) := by decide +kernel
theorem dX11_knot_4 : decode cX11_knot 4 = .ok (.ifCond .eq 4, 3) := by decide +kernel
theorem dX11_knot_7 : decode cX11_knot 7 = .ok (.return_, 1) := by decide +kernel
theorem dX11_knot_8 : decode cX11_knot 8 = .ok (.aload_n 0, 1) := by decide +kernel
theorem dX11_knot_9 : decode cX11_knot 9 = .ok (.getfield 273, 3) := by decide +kernel
theorem dX11_knot_12 : decode cX11_knot 12 = .ok (.bipush 64, 2) := by decide +kernel
theorem dX11_knot_14 : decode cX11_knot 14 = .ok (.if_icmp .ne 11, 3) := by decide +kernel
theorem dX11_knot_17 : decode cX11_knot 17 = .ok (.aload_n 0, 1) := by decide +kernel
theorem dX11_knot_18 : decode cX11_knot 18 = .ok (.iconst 2, 1) := by decide +kernel
theorem dX11_knot_19 : decode cX11_knot 19 = .ok (.invokevirtual 214, 3) := by decide +kernel
theorem dX11_knot_22 : decode cX11_knot 22 = .ok (.goto 13, 3) := by decide +kernel
theorem dX11_knot_25 : decode cX11_knot 25 = .ok (.aload_n 0, 1) := by decide +kernel
theorem dX11_knot_26 : decode cX11_knot 26 = .ok (.dup, 1) := by decide +kernel
theorem dX11_knot_27 : decode cX11_knot 27 = .ok (.getfield 273, 3) := by decide +kernel
theorem dX11_knot_30 : decode cX11_knot 30 = .ok (.iconst 1, 1) := by decide +kernel
theorem dX11_knot_31 : decode cX11_knot 31 = .ok (.iadd, 1) := by decide +kernel
theorem dX11_knot_32 : decode cX11_knot 32 = .ok (.putfield 273, 3) := by decide +kernel
theorem dX11_knot_35 : decode cX11_knot 35 = .ok (.return_, 1) := by decide +kernel
theorem dX11_expression_0 : decode cX11_expression 0 = .ok (.aload_n 0, 1) := by decide +kernel
theorem dX11_expression_1 : decode cX11_expression 1 = .ok (.invokevirtual 276, 3) := by decide +kernel
theorem dX11_expression_4 : decode cX11_expression 4 = .ok (.aload_n 0, 1) := by decide +kernel
theorem dX11_expression_5 : decode cX11_expression 5 = .ok (.bipush 12, 2) := by decide +kernel
theorem dX11_expression_7 : decode cX11_expression 7 = .ok (.invokevirtual 279, 3) := by decide +kernel
theorem dX11_expression_10 : decode cX11_expression 10 = .ok (.ifCond .eq 26, 3) := by decide +kernel
theorem dX11_expression_13 : decode cX11_expression 13 = .ok (.aload_n 0, 1) := by decide +kernel
theorem dX11_expression_14 : decode cX11_expression 14 = .ok (.invokevirtual 282, 3) := by decide +kernel
theorem dX11_expression_17 : decode cX11_expression 17 = .ok (.aload_n 0, 1) := by decide +kernel
theorem dX11_expression_18 : decode cX11_expression 18 = .ok (.invokevirtual 258, 3) := by decide +kernel
theorem dX11_expression_21 : decode cX11_expression 21 = .ok (.aload_n 0, 1) := by decide +kernel
theorem dX11_expression_22 : decode cX11_expression 22 = .ok (.invokevirtual 276, 3) := by decide +kernel
theorem dX11_expression_25 : decode cX11_expression 25 = .ok (.aload_n 0, 1) := by decide +kernel
theorem dX11_expression_26 : decode cX11_expression 26 = .ok (.iconst 2, 1) := by decide +kernel
theorem dX11_expression_27 : decode cX11_expression 27 = .ok (.sipush 262, 3) := by decide +kernel
theorem dX11_expression_30 : decode cX11_expression 30 = .ok (.invokevirtual 285, 3) := by decide +kernel
theorem dX11_expression_33 : decode cX11_expression 33 = .ok (.goto (-29), 3) := by decide +kernel
theorem dX11_expression_36 : decode cX11_expression 36 = .ok (.return_, 1) := by decide +kernel
theorem dX11_conjunction_0 : decode cX11_conjunction 0 = .ok (.aload_n 0, 1) := by decide +kernel
theorem dX11_conjunction_1 : decode cX11_conjunction 1 = .ok (.invokevirtual 288, 3) := by decide +kernel
theorem dX11_conjunction_4 : decode cX11_conjunction 4 = .ok (.aload_n 0, 1) := by decide +kernel
theorem dX11_conjunction_5 : decode cX11_conjunction 5 = .ok (.bipush 13, 2) := by decide +kernel
theorem dX11_conjunction_7 : decode cX11_conjunction 7 = .ok (.invokevirtual 279, 3) := by decide +kernel
theorem dX11_conjunction_10 : decode cX11_conjunction 10 = .ok (.ifCond .eq 26, 3) := by decide +kernel
theorem dX11_conjunction_13 : decode cX11_conjunction 13 = .ok (.aload_n 0, 1) := by decide +kernel
theorem dX11_conjunction_14 : decode cX11_conjunction 14 = .ok (.invokevirtual 282, 3) := by decide +kernel
theorem dX11_conjunction_17 : decode cX11_conjunction 17 = .ok (.aload_n 0, 1) := by decide +kernel
theorem dX11_conjunction_18 : decode cX11_conjunction 18 = .ok (.invokevirtual 258, 3) := by decide +kernel
theorem dX11_conjunction_21 : decode cX11_conjunction 21 = .ok (.aload_n 0, 1) := by decide +kernel
theorem dX11_conjunction_22 : decode cX11_conjunction 22 = .ok (.invokevirtual 288, 3) := by decide +kernel
theorem dX11_conjunction_25 : decode cX11_conjunction 25 = .ok (.aload_n 0, 1) := by decide +kernel
theorem dX11_conjunction_26 : decode cX11_conjunction 26 = .ok (.iconst 2, 1) := by decide +kernel
theorem dX11_conjunction_27 : decode cX11_conjunction 27 = .ok (.sipush 261, 3) := by decide +kernel
theorem dX11_conjunction_30 : decode cX11_conjunction 30 = .ok (.invokevirtual 285, 3) := by decide +kernel
theorem dX11_conjunction_33 : decode cX11_conjunction 33 = .ok (.goto (-29), 3) := by decide +kernel
theorem dX11_conjunction_36 : decode cX11_conjunction 36 = .ok (.return_, 1) := by decide +kernel
theorem dX11_negation_0 : decode cX11_negation 0 = .ok (.aload_n 0, 1) := by decide +kernel
theorem dX11_negation_1 : decode cX11_negation 1 = .ok (.bipush 14, 2) := by decide +kernel
theorem dX11_negation_3 : decode cX11_negation 3 = .ok (.invokevirtual 279, 3) := by decide +kernel
theorem dX11_negation_6 : decode cX11_negation 6 = .ok (.ifCond .eq 24, 3) := by decide +kernel
theorem dX11_negation_9 : decode cX11_negation 9 = .ok (.aload_n 0, 1) := by decide +kernel
theorem dX11_negation_10 : decode cX11_negation 10 = .ok (.invokevirtual 282, 3) := by decide +kernel
theorem dX11_negation_13 : decode cX11_negation 13 = .ok (.aload_n 0, 1) := by decide +kernel
theorem dX11_negation_14 : decode cX11_negation 14 = .ok (.invokevirtual 258, 3) := by decide +kernel
theorem dX11_negation_17 : decode cX11_negation 17 = .ok (.aload_n 0, 1) := by decide +kernel
theorem dX11_negation_18 : decode cX11_negation 18 = .ok (.invokevirtual 288, 3) := by decide +kernel
theorem dX11_negation_21 : decode cX11_negation 21 = .ok (.aload_n 0, 1) := by decide +kernel
theorem dX11_negation_22 : decode cX11_negation 22 = .ok (.iconst 2, 1) := by decide +kernel
theorem dX11_negation_23 : decode cX11_negation 23 = .ok (.sipush 260, 3) := by decide +kernel
theorem dX11_negation_26 : decode cX11_negation 26 = .ok (.invokevirtual 285, 3) := by decide +kernel
theorem dX11_negation_29 : decode cX11_negation 29 = .ok (.return_, 1) := by decide +kernel
theorem dX11_negation_30 : decode cX11_negation 30 = .ok (.aload_n 0, 1) := by decide +kernel
theorem dX11_negation_31 : decode cX11_negation 31 = .ok (.invokevirtual 291, 3) := by decide +kernel
theorem dX11_negation_34 : decode cX11_negation 34 = .ok (.aload_n 0, 1) := by decide +kernel
theorem dX11_negation_35 : decode cX11_negation 35 = .ok (.getfield 205, 3) := by decide +kernel
theorem dX11_negation_38 : decode cX11_negation 38 = .ok (.ifCond .ne 48, 3) := by decide +kernel
theorem dX11_negation_41 : decode cX11_negation 41 = .ok (.aload_n 0, 1) := by decide +kernel
theorem dX11_negation_42 : decode cX11_negation 42 = .ok (.getfield 170, 3) := by decide +kernel
theorem dX11_negation_45 : decode cX11_negation 45 = .ok (.iconst 3, 1) := by decide +kernel
theorem dX11_negation_46 : decode cX11_negation 46 = .ok (.if_icmp .ne 40, 3) := by decide +kernel
theorem dX11_negation_49 : decode cX11_negation 49 = .ok (.aload_n 0, 1) := by decide +kernel
theorem dX11_negation_50 : decode cX11_negation 50 = .ok (.getfield 180, 3) := by decide +kernel
theorem dX11_negation_53 : decode cX11_negation 53 = .ok (.bipush 60, 2) := by decide +kernel
theorem dX11_negation_55 : decode cX11_negation 55 = .ok (.if_icmp .eq 32, 3) := by decide +kernel
theorem dX11_negation_58 : decode cX11_negation 58 = .ok (.aload_n 0, 1) := by decide +kernel
theorem dX11_negation_59 : decode cX11_negation 59 = .ok (.getfield 180, 3) := by decide +kernel
theorem dX11_negation_62 : decode cX11_negation 62 = .ok (.bipush 62, 2) := by decide +kernel
theorem dX11_negation_64 : decode cX11_negation 64 = .ok (.if_icmp .eq 23, 3) := by decide +kernel
theorem dX11_negation_67 : decode cX11_negation 67 = .ok (.aload_n 0, 1) := by decide +kernel
theorem dX11_negation_68 : decode cX11_negation 68 = .ok (.getfield 180, 3) := by decide +kernel
theorem dX11_negation_71 : decode cX11_negation 71 = .ok (.bipush 61, 2) := by decide +kernel
theorem dX11_negation_73 : decode cX11_negation 73 = .ok (.if_icmp .eq 14, 3) := by decide +kernel
theorem dX11_negation_76 : decode cX11_negation 76 = .ok (.aload_n 0, 1) := by decide +kernel
theorem dX11_negation_77 : decode cX11_negation 77 = .ok (.getfield 180, 3) := by decide +kernel
theorem dX11_negation_80 : decode cX11_negation 80 = .ok (.sipush 256, 3) := by decide +kernel
theorem dX11_negation_83 : decode cX11_negation 83 = .ok (.if_icmp .ge 4, 3) := by decide +kernel
theorem dX11_negation_86 : decode cX11_negation 86 = .ok (.return_, 1) := by decide +kernel
theorem dX11_negation_87 : decode cX11_negation 87 = .ok (.aload_n 0, 1) := by decide +kernel
theorem dX11_negation_88 : decode cX11_negation 88 = .ok (.getfield 180, 3) := by decide +kernel
theorem dX11_negation_91 : decode cX11_negation 91 = .ok (.istore_n 1, 1) := by decide +kernel
theorem dX11_negation_92 : decode cX11_negation 92 = .ok (.aload_n 0, 1) := by decide +kernel
theorem dX11_negation_93 : decode cX11_negation 93 = .ok (.invokevirtual 282, 3) := by decide +kernel
theorem dX11_negation_96 : decode cX11_negation 96 = .ok (.aload_n 0, 1) := by decide +kernel
theorem dX11_negation_97 : decode cX11_negation 97 = .ok (.invokevirtual 258, 3) := by decide +kernel
theorem dX11_negation_100 : decode cX11_negation 100 = .ok (.aload_n 0, 1) := by decide +kernel
theorem dX11_negation_101 : decode cX11_negation 101 = .ok (.invokevirtual 291, 3) := by decide +kernel
theorem dX11_negation_104 : decode cX11_negation 104 = .ok (.aload_n 0, 1) := by decide +kernel
theorem dX11_negation_105 : decode cX11_negation 105 = .ok (.iconst 2, 1) := by decide +kernel
theorem dX11_negation_106 : decode cX11_negation 106 = .ok (.iload_n 1, 1) := by decide +kernel
theorem dX11_negation_107 : decode cX11_negation 107 = .ok (.invokevirtual 285, 3) := by decide +kernel
theorem dX11_negation_110 : decode cX11_negation 110 = .ok (.return_, 1) := by decide +kernel
theorem dX11_sum_0 : decode cX11_sum 0 = .ok (.aload_n 0, 1) := by decide +kernel
theorem dX11_sum_1 : decode cX11_sum 1 = .ok (.invokevirtual 294, 3) := by decide +kernel
theorem dX11_sum_4 : decode cX11_sum 4 = .ok (.aload_n 0, 1) := by decide +kernel
theorem dX11_sum_5 : decode cX11_sum 5 = .ok (.bipush 43, 2) := by decide +kernel
theorem dX11_sum_7 : decode cX11_sum 7 = .ok (.invokevirtual 264, 3) := by decide +kernel
theorem dX11_sum_10 : decode cX11_sum 10 = .ok (.ifCond .ne 12, 3) := by decide +kernel
theorem dX11_sum_13 : decode cX11_sum 13 = .ok (.aload_n 0, 1) := by decide +kernel
theorem dX11_sum_14 : decode cX11_sum 14 = .ok (.bipush 45, 2) := by decide +kernel
theorem dX11_sum_16 : decode cX11_sum 16 = .ok (.invokevirtual 264, 3) := by decide +kernel
theorem dX11_sum_19 : decode cX11_sum 19 = .ok (.ifCond .eq 29, 3) := by decide +kernel
theorem dX11_sum_22 : decode cX11_sum 22 = .ok (.aload_n 0, 1) := by decide +kernel
theorem dX11_sum_23 : decode cX11_sum 23 = .ok (.getfield 180, 3) := by decide +kernel
theorem dX11_sum_26 : decode cX11_sum 26 = .ok (.istore_n 1, 1) := by decide +kernel
theorem dX11_sum_27 : decode cX11_sum 27 = .ok (.aload_n 0, 1) := by decide +kernel
theorem dX11_sum_28 : decode cX11_sum 28 = .ok (.invokevirtual 282, 3) := by decide +kernel
theorem dX11_sum_31 : decode cX11_sum 31 = .ok (.aload_n 0, 1) := by decide +kernel
theorem dX11_sum_32 : decode cX11_sum 32 = .ok (.invokevirtual 258, 3) := by decide +kernel
theorem dX11_sum_35 : decode cX11_sum 35 = .ok (.aload_n 0, 1) := by decide +kernel
theorem dX11_sum_36 : decode cX11_sum 36 = .ok (.invokevirtual 294, 3) := by decide +kernel
theorem dX11_sum_39 : decode cX11_sum 39 = .ok (.aload_n 0, 1) := by decide +kernel
theorem dX11_sum_40 : decode cX11_sum 40 = .ok (.iconst 2, 1) := by decide +kernel
theorem dX11_sum_41 : decode cX11_sum 41 = .ok (.iload_n 1, 1) := by decide +kernel
theorem dX11_sum_42 : decode cX11_sum 42 = .ok (.invokevirtual 285, 3) := by decide +kernel
theorem dX11_sum_45 : decode cX11_sum 45 = .ok (.goto (-41), 3) := by decide +kernel
theorem dX11_sum_48 : decode cX11_sum 48 = .ok (.return_, 1) := by decide +kernel
theorem dX11_product_0 : decode cX11_product 0 = .ok (.aload_n 0, 1) := by decide +kernel
theorem dX11_product_1 : decode cX11_product 1 = .ok (.invokevirtual 297, 3) := by decide +kernel
theorem dX11_product_4 : decode cX11_product 4 = .ok (.aload_n 0, 1) := by decide +kernel
theorem dX11_product_5 : decode cX11_product 5 = .ok (.bipush 42, 2) := by decide +kernel
theorem dX11_product_7 : decode cX11_product 7 = .ok (.invokevirtual 264, 3) := by decide +kernel
theorem dX11_product_10 : decode cX11_product 10 = .ok (.ifCond .ne 12, 3) := by decide +kernel
theorem dX11_product_13 : decode cX11_product 13 = .ok (.aload_n 0, 1) := by decide +kernel
theorem dX11_product_14 : decode cX11_product 14 = .ok (.bipush 47, 2) := by decide +kernel
theorem dX11_product_16 : decode cX11_product 16 = .ok (.invokevirtual 264, 3) := by decide +kernel
theorem dX11_product_19 : decode cX11_product 19 = .ok (.ifCond .eq 29, 3) := by decide +kernel
theorem dX11_product_22 : decode cX11_product 22 = .ok (.aload_n 0, 1) := by decide +kernel
theorem dX11_product_23 : decode cX11_product 23 = .ok (.getfield 180, 3) := by decide +kernel
theorem dX11_product_26 : decode cX11_product 26 = .ok (.istore_n 1, 1) := by decide +kernel
theorem dX11_product_27 : decode cX11_product 27 = .ok (.aload_n 0, 1) := by decide +kernel
theorem dX11_product_28 : decode cX11_product 28 = .ok (.invokevirtual 282, 3) := by decide +kernel
theorem dX11_product_31 : decode cX11_product 31 = .ok (.aload_n 0, 1) := by decide +kernel
theorem dX11_product_32 : decode cX11_product 32 = .ok (.invokevirtual 258, 3) := by decide +kernel
theorem dX11_product_35 : decode cX11_product 35 = .ok (.aload_n 0, 1) := by decide +kernel
theorem dX11_product_36 : decode cX11_product 36 = .ok (.invokevirtual 297, 3) := by decide +kernel
theorem dX11_product_39 : decode cX11_product 39 = .ok (.aload_n 0, 1) := by decide +kernel
theorem dX11_product_40 : decode cX11_product 40 = .ok (.iconst 2, 1) := by decide +kernel
theorem dX11_product_41 : decode cX11_product 41 = .ok (.iload_n 1, 1) := by decide +kernel
theorem dX11_product_42 : decode cX11_product 42 = .ok (.invokevirtual 285, 3) := by decide +kernel
theorem dX11_product_45 : decode cX11_product 45 = .ok (.goto (-41), 3) := by decide +kernel
theorem dX11_product_48 : decode cX11_product 48 = .ok (.return_, 1) := by decide +kernel
theorem dX11_primary_0 : decode cX11_primary 0 = .ok (.aload_n 0, 1) := by decide +kernel
theorem dX11_primary_1 : decode cX11_primary 1 = .ok (.getfield 205, 3) := by decide +kernel
theorem dX11_primary_4 : decode cX11_primary 4 = .ok (.ifCond .eq 4, 3) := by decide +kernel
theorem dX11_primary_7 : decode cX11_primary 7 = .ok (.return_, 1) := by decide +kernel
theorem dX11_primary_8 : decode cX11_primary 8 = .ok (.aload_n 0, 1) := by decide +kernel
theorem dX11_primary_9 : decode cX11_primary 9 = .ok (.bipush 40, 2) := by decide +kernel
theorem dX11_primary_11 : decode cX11_primary 11 = .ok (.invokevirtual 264, 3) := by decide +kernel
theorem dX11_primary_14 : decode cX11_primary 14 = .ok (.ifCond .eq 87, 3) := by decide +kernel
theorem dX11_primary_17 : decode cX11_primary 17 = .ok (.aload_n 0, 1) := by decide +kernel
theorem dX11_primary_18 : decode cX11_primary 18 = .ok (.getfield 300, 3) := by decide +kernel
theorem dX11_primary_21 : decode cX11_primary 21 = .ok (.bipush 8, 2) := by decide +kernel
theorem dX11_primary_23 : decode cX11_primary 23 = .ok (.if_icmp .ne 8, 3) := by decide +kernel
theorem dX11_primary_26 : decode cX11_primary 26 = .ok (.aload_n 0, 1) := by decide +kernel
theorem dX11_primary_27 : decode cX11_primary 27 = .ok (.iconst 2, 1) := by decide +kernel
theorem dX11_primary_28 : decode cX11_primary 28 = .ok (.invokevirtual 214, 3) := by decide +kernel
theorem dX11_primary_31 : decode cX11_primary 31 = .ok (.aload_n 0, 1) := by decide +kernel
theorem dX11_primary_32 : decode cX11_primary 32 = .ok (.getfield 205, 3) := by decide +kernel
theorem dX11_primary_35 : decode cX11_primary 35 = .ok (.ifCond .eq 4, 3) := by decide +kernel
theorem dX11_primary_38 : decode cX11_primary 38 = .ok (.return_, 1) := by decide +kernel
theorem dX11_primary_39 : decode cX11_primary 39 = .ok (.aload_n 0, 1) := by decide +kernel
theorem dX11_primary_40 : decode cX11_primary 40 = .ok (.dup, 1) := by decide +kernel
theorem dX11_primary_41 : decode cX11_primary 41 = .ok (.getfield 300, 3) := by decide +kernel
theorem dX11_primary_44 : decode cX11_primary 44 = .ok (.iconst 1, 1) := by decide +kernel
theorem dX11_primary_45 : decode cX11_primary 45 = .ok (.iadd, 1) := by decide +kernel
theorem dX11_primary_46 : decode cX11_primary 46 = .ok (.putfield 300, 3) := by decide +kernel
theorem dX11_primary_49 : decode cX11_primary 49 = .ok (.aload_n 0, 1) := by decide +kernel
theorem dX11_primary_50 : decode cX11_primary 50 = .ok (.invokevirtual 211, 3) := by decide +kernel
theorem dX11_primary_53 : decode cX11_primary 53 = .ok (.aload_n 0, 1) := by decide +kernel
theorem dX11_primary_54 : decode cX11_primary 54 = .ok (.invokevirtual 270, 3) := by decide +kernel
theorem dX11_primary_57 : decode cX11_primary 57 = .ok (.aload_n 0, 1) := by decide +kernel
theorem dX11_primary_58 : decode cX11_primary 58 = .ok (.getfield 205, 3) := by decide +kernel
theorem dX11_primary_61 : decode cX11_primary 61 = .ok (.ifCond .ne 17, 3) := by decide +kernel
theorem dX11_primary_64 : decode cX11_primary 64 = .ok (.aload_n 0, 1) := by decide +kernel
theorem dX11_primary_65 : decode cX11_primary 65 = .ok (.bipush 41, 2) := by decide +kernel
theorem dX11_primary_67 : decode cX11_primary 67 = .ok (.invokevirtual 264, 3) := by decide +kernel
theorem dX11_primary_70 : decode cX11_primary 70 = .ok (.ifCond .ne 8, 3) := by decide +kernel
theorem dX11_primary_73 : decode cX11_primary 73 = .ok (.aload_n 0, 1) := by decide +kernel
theorem dX11_primary_74 : decode cX11_primary 74 = .ok (.iconst 1, 1) := by decide +kernel
theorem dX11_primary_75 : decode cX11_primary 75 = .ok (.invokevirtual 214, 3) := by decide +kernel
theorem dX11_primary_78 : decode cX11_primary 78 = .ok (.aload_n 0, 1) := by decide +kernel
theorem dX11_primary_79 : decode cX11_primary 79 = .ok (.getfield 205, 3) := by decide +kernel
theorem dX11_primary_82 : decode cX11_primary 82 = .ok (.ifCond .eq 4, 3) := by decide +kernel
theorem dX11_primary_85 : decode cX11_primary 85 = .ok (.return_, 1) := by decide +kernel
theorem dX11_primary_86 : decode cX11_primary 86 = .ok (.aload_n 0, 1) := by decide +kernel
theorem dX11_primary_87 : decode cX11_primary 87 = .ok (.dup, 1) := by decide +kernel
theorem dX11_primary_88 : decode cX11_primary 88 = .ok (.getfield 300, 3) := by decide +kernel
theorem dX11_primary_91 : decode cX11_primary 91 = .ok (.iconst 1, 1) := by decide +kernel
theorem dX11_primary_92 : decode cX11_primary 92 = .ok (.isub, 1) := by decide +kernel
theorem dX11_primary_93 : decode cX11_primary 93 = .ok (.putfield 300, 3) := by decide +kernel
theorem dX11_primary_96 : decode cX11_primary 96 = .ok (.aload_n 0, 1) := by decide +kernel
theorem dX11_primary_97 : decode cX11_primary 97 = .ok (.invokevirtual 211, 3) := by decide +kernel
theorem dX11_primary_100 : decode cX11_primary 100 = .ok (.return_, 1) := by decide +kernel
theorem dX11_primary_101 : decode cX11_primary 101 = .ok (.aload_n 0, 1) := by decide +kernel
theorem dX11_primary_102 : decode cX11_primary 102 = .ok (.getfield 170, 3) := by decide +kernel
theorem dX11_primary_105 : decode cX11_primary 105 = .ok (.iconst 2, 1) := by decide +kernel
theorem dX11_primary_106 : decode cX11_primary 106 = .ok (.if_icmp .ne 7, 3) := by decide +kernel
theorem dX11_primary_109 : decode cX11_primary 109 = .ok (.iconst 1, 1) := by decide +kernel
theorem dX11_primary_110 : decode cX11_primary 110 = .ok (.goto 4, 3) := by decide +kernel
theorem dX11_primary_113 : decode cX11_primary 113 = .ok (.iconst 0, 1) := by decide +kernel
theorem dX11_primary_114 : decode cX11_primary 114 = .ok (.istore_n 1, 1) := by decide +kernel
theorem dX11_primary_115 : decode cX11_primary 115 = .ok (.iload_n 1, 1) := by decide +kernel
theorem dX11_primary_116 : decode cX11_primary 116 = .ok (.ifCond .eq 21, 3) := by decide +kernel
theorem dX11_primary_119 : decode cX11_primary 119 = .ok (.aload_n 0, 1) := by decide +kernel
theorem dX11_primary_120 : decode cX11_primary 120 = .ok (.getfield 180, 3) := by decide +kernel
theorem dX11_primary_123 : decode cX11_primary 123 = .ok (.sipush 9999, 3) := by decide +kernel
theorem dX11_primary_126 : decode cX11_primary 126 = .ok (.if_icmp .le 11, 3) := by decide +kernel
theorem dX11_primary_129 : decode cX11_primary 129 = .ok (.aload_n 0, 1) := by decide +kernel
theorem dX11_primary_130 : decode cX11_primary 130 = .ok (.iconst 2, 1) := by decide +kernel
theorem dX11_primary_131 : decode cX11_primary 131 = .ok (.invokevirtual 214, 3) := by decide +kernel
theorem dX11_primary_134 : decode cX11_primary 134 = .ok (.goto 28, 3) := by decide +kernel
theorem dX11_primary_137 : decode cX11_primary 137 = .ok (.iload_n 1, 1) := by decide +kernel
theorem dX11_primary_138 : decode cX11_primary 138 = .ok (.ifCond .ne 24, 3) := by decide +kernel
theorem dX11_primary_141 : decode cX11_primary 141 = .ok (.aload_n 0, 1) := by decide +kernel
theorem dX11_primary_142 : decode cX11_primary 142 = .ok (.getfield 170, 3) := by decide +kernel
theorem dX11_primary_145 : decode cX11_primary 145 = .ok (.ifCond .ne 12, 3) := by decide +kernel
theorem dX11_primary_148 : decode cX11_primary 148 = .ok (.aload_n 0, 1) := by decide +kernel
theorem dX11_primary_149 : decode cX11_primary 149 = .ok (.getfield 180, 3) := by decide +kernel
theorem dX11_primary_152 : decode cX11_primary 152 = .ok (.bipush 15, 2) := by decide +kernel
theorem dX11_primary_154 : decode cX11_primary 154 = .ok (.if_icmp .ge 8, 3) := by decide +kernel
theorem dX11_primary_157 : decode cX11_primary 157 = .ok (.aload_n 0, 1) := by decide +kernel
theorem dX11_primary_158 : decode cX11_primary 158 = .ok (.iconst 1, 1) := by decide +kernel
theorem dX11_primary_159 : decode cX11_primary 159 = .ok (.invokevirtual 214, 3) := by decide +kernel
theorem dX11_primary_162 : decode cX11_primary 162 = .ok (.aload_n 0, 1) := by decide +kernel
theorem dX11_primary_163 : decode cX11_primary 163 = .ok (.invokevirtual 282, 3) := by decide +kernel
theorem dX11_primary_166 : decode cX11_primary 166 = .ok (.aload_n 0, 1) := by decide +kernel
theorem dX11_primary_167 : decode cX11_primary 167 = .ok (.iload_n 1, 1) := by decide +kernel
theorem dX11_primary_168 : decode cX11_primary 168 = .ok (.ifCond .eq 7, 3) := by decide +kernel
theorem dX11_primary_171 : decode cX11_primary 171 = .ok (.iconst 0, 1) := by decide +kernel
theorem dX11_primary_172 : decode cX11_primary 172 = .ok (.goto 4, 3) := by decide +kernel
theorem dX11_primary_175 : decode cX11_primary 175 = .ok (.iconst 1, 1) := by decide +kernel
theorem dX11_primary_176 : decode cX11_primary 176 = .ok (.iload_n 1, 1) := by decide +kernel
theorem dX11_primary_177 : decode cX11_primary 177 = .ok (.ifCond .eq 10, 3) := by decide +kernel
theorem dX11_primary_180 : decode cX11_primary 180 = .ok (.aload_n 0, 1) := by decide +kernel
theorem dX11_primary_181 : decode cX11_primary 181 = .ok (.getfield 180, 3) := by decide +kernel
theorem dX11_primary_184 : decode cX11_primary 184 = .ok (.goto 10, 3) := by decide +kernel
theorem dX11_primary_187 : decode cX11_primary 187 = .ok (.aload_n 0, 1) := by decide +kernel
theorem dX11_primary_188 : decode cX11_primary 188 = .ok (.getfield 180, 3) := by decide +kernel
theorem dX11_primary_191 : decode cX11_primary 191 = .ok (.bipush 15, 2) := by decide +kernel
theorem dX11_primary_193 : decode cX11_primary 193 = .ok (.isub, 1) := by decide +kernel
theorem dX11_primary_194 : decode cX11_primary 194 = .ok (.invokevirtual 285, 3) := by decide +kernel
theorem dX11_primary_197 : decode cX11_primary 197 = .ok (.aload_n 0, 1) := by decide +kernel
theorem dX11_primary_198 : decode cX11_primary 198 = .ok (.invokevirtual 258, 3) := by decide +kernel
theorem dX11_primary_201 : decode cX11_primary 201 = .ok (.return_, 1) := by decide +kernel
theorem dX11_half_0 : decode cX11_half 0 = .ok (.aload_n 0, 1) := by decide +kernel
theorem dX11_half_1 : decode cX11_half 1 = .ok (.arraylength, 1) := by decide +kernel
theorem dX11_half_2 : decode cX11_half 2 = .ok (.iconst 2, 1) := by decide +kernel
theorem dX11_half_3 : decode cX11_half 3 = .ok (.idiv, 1) := by decide +kernel
theorem dX11_half_4 : decode cX11_half 4 = .ok (.istore_n 1, 1) := by decide +kernel
theorem dX11_half_5 : decode cX11_half 5 = .ok (.iconst 0, 1) := by decide +kernel
theorem dX11_half_6 : decode cX11_half 6 = .ok (.istore_n 2, 1) := by decide +kernel
theorem dX11_half_7 : decode cX11_half 7 = .ok (.iload_n 2, 1) := by decide +kernel
theorem dX11_half_8 : decode cX11_half 8 = .ok (.iload_n 1, 1) := by decide +kernel
theorem dX11_half_9 : decode cX11_half 9 = .ok (.if_icmp .ge 17, 3) := by decide +kernel
theorem dX11_half_12 : decode cX11_half 12 = .ok (.aload_n 0, 1) := by decide +kernel
theorem dX11_half_13 : decode cX11_half 13 = .ok (.iload_n 2, 1) := by decide +kernel
theorem dX11_half_14 : decode cX11_half 14 = .ok (.aload_n 0, 1) := by decide +kernel
theorem dX11_half_15 : decode cX11_half 15 = .ok (.iload_n 1, 1) := by decide +kernel
theorem dX11_half_16 : decode cX11_half 16 = .ok (.iload_n 2, 1) := by decide +kernel
theorem dX11_half_17 : decode cX11_half 17 = .ok (.iadd, 1) := by decide +kernel
theorem dX11_half_18 : decode cX11_half 18 = .ok (.iaload, 1) := by decide +kernel
theorem dX11_half_19 : decode cX11_half 19 = .ok (.iastore, 1) := by decide +kernel
theorem dX11_half_20 : decode cX11_half 20 = .ok (.iinc 2 1, 3) := by decide +kernel
theorem dX11_half_23 : decode cX11_half 23 = .ok (.goto (-16), 3) := by decide +kernel
theorem dX11_half_26 : decode cX11_half 26 = .ok (.return_, 1) := by decide +kernel
theorem dX11_text_0 : decode cX11_text 0 = .ok (.aload_n 0, 1) := by decide +kernel
theorem dX11_text_1 : decode cX11_text 1 = .ok (.iconst 0, 1) := by decide +kernel
theorem dX11_text_2 : decode cX11_text 2 = .ok (.putfield 151, 3) := by decide +kernel
theorem dX11_text_5 : decode cX11_text 5 = .ok (.iload_n 1, 1) := by decide +kernel
theorem dX11_text_6 : decode cX11_text 6 = .ok (.ifCond .lt 11, 3) := by decide +kernel
theorem dX11_text_9 : decode cX11_text 9 = .ok (.iload_n 1, 1) := by decide +kernel
theorem dX11_text_10 : decode cX11_text 10 = .ok (.aload_n 0, 1) := by decide +kernel
theorem dX11_text_11 : decode cX11_text 11 = .ok (.getfield 154, 3) := by decide +kernel
theorem dX11_text_14 : decode cX11_text 14 = .ok (.if_icmp .le 6, 3) := by decide +kernel
theorem dX11_text_17 : decode cX11_text 17 = .ok (.bipush (-2), 2) := by decide +kernel
theorem dX11_text_19 : decode cX11_text 19 = .ok (.ireturn, 1) := by decide +kernel
theorem dX11_text_20 : decode cX11_text 20 = .ok (.aload_n 0, 1) := by decide +kernel
theorem dX11_text_21 : decode cX11_text 21 = .ok (.iload_n 1, 1) := by decide +kernel
theorem dX11_text_22 : decode cX11_text 22 = .ok (.putfield 160, 3) := by decide +kernel
theorem dX11_text_25 : decode cX11_text 25 = .ok (.aload_n 0, 1) := by decide +kernel
theorem dX11_text_26 : decode cX11_text 26 = .ok (.iconst 0, 1) := by decide +kernel
theorem dX11_text_27 : decode cX11_text 27 = .ok (.putfield 154, 3) := by decide +kernel
theorem dX11_text_30 : decode cX11_text 30 = .ok (.aload_n 0, 1) := by decide +kernel
theorem dX11_text_31 : decode cX11_text 31 = .ok (.iconst 0, 1) := by decide +kernel
theorem dX11_text_32 : decode cX11_text 32 = .ok (.putfield 157, 3) := by decide +kernel
theorem dX11_text_35 : decode cX11_text 35 = .ok (.aload_n 0, 1) := by decide +kernel
theorem dX11_text_36 : decode cX11_text 36 = .ok (.iconst 0, 1) := by decide +kernel
theorem dX11_text_37 : decode cX11_text 37 = .ok (.putfield 205, 3) := by decide +kernel
theorem dX11_text_40 : decode cX11_text 40 = .ok (.aload_n 0, 1) := by decide +kernel
theorem dX11_text_41 : decode cX11_text 41 = .ok (.iconst (-1), 1) := by decide +kernel
theorem dX11_text_42 : decode cX11_text 42 = .ok (.putfield 208, 3) := by decide +kernel
theorem dX11_text_45 : decode cX11_text 45 = .ok (.iconst 0, 1) := by decide +kernel
theorem dX11_text_46 : decode cX11_text 46 = .ok (.istore_n 2, 1) := by decide +kernel
theorem dX11_text_47 : decode cX11_text 47 = .ok (.iload_n 2, 1) := by decide +kernel
theorem dX11_text_48 : decode cX11_text 48 = .ok (.bipush 9, 2) := by decide +kernel
theorem dX11_text_50 : decode cX11_text 50 = .ok (.if_icmp .ge 15, 3) := by decide +kernel
theorem dX11_text_53 : decode cX11_text 53 = .ok (.aload_n 0, 1) := by decide +kernel
theorem dX11_text_54 : decode cX11_text 54 = .ok (.iload_n 2, 1) := by decide +kernel
theorem dX11_text_55 : decode cX11_text 55 = .ok (.iconst 0, 1) := by decide +kernel
theorem dX11_text_56 : decode cX11_text 56 = .ok (.invokevirtual 239, 3) := by decide +kernel
theorem dX11_text_59 : decode cX11_text 59 = .ok (.iinc 2 1, 3) := by decide +kernel
theorem dX11_text_62 : decode cX11_text 62 = .ok (.goto (-15), 3) := by decide +kernel
theorem dX11_text_65 : decode cX11_text 65 = .ok (.iconst 3, 1) := by decide +kernel
theorem dX11_text_66 : decode cX11_text 66 = .ok (.istore_n 2, 1) := by decide +kernel
theorem dX11_text_67 : decode cX11_text 67 = .ok (.iload_n 2, 1) := by decide +kernel
theorem dX11_text_68 : decode cX11_text 68 = .ok (.bipush 6, 2) := by decide +kernel
theorem dX11_text_70 : decode cX11_text 70 = .ok (.if_icmp .ge 23, 3) := by decide +kernel
theorem dX11_text_73 : decode cX11_text 73 = .ok (.aload_n 0, 1) := by decide +kernel
theorem dX11_text_74 : decode cX11_text 74 = .ok (.getfield 64, 3) := by decide +kernel
theorem dX11_text_77 : decode cX11_text 77 = .ok (.iload_n 2, 1) := by decide +kernel
theorem dX11_text_78 : decode cX11_text 78 = .ok (.iconst 0, 1) := by decide +kernel
theorem dX11_text_79 : decode cX11_text 79 = .ok (.iastore, 1) := by decide +kernel
theorem dX11_text_80 : decode cX11_text 80 = .ok (.aload_n 0, 1) := by decide +kernel
theorem dX11_text_81 : decode cX11_text 81 = .ok (.getfield 67, 3) := by decide +kernel
theorem dX11_text_84 : decode cX11_text 84 = .ok (.iload_n 2, 1) := by decide +kernel
theorem dX11_text_85 : decode cX11_text 85 = .ok (.iconst 0, 1) := by decide +kernel
theorem dX11_text_86 : decode cX11_text 86 = .ok (.iastore, 1) := by decide +kernel
theorem dX11_text_87 : decode cX11_text 87 = .ok (.iinc 2 1, 3) := by decide +kernel
theorem dX11_text_90 : decode cX11_text 90 = .ok (.goto (-23), 3) := by decide +kernel
theorem dX11_text_93 : decode cX11_text 93 = .ok (.aload_n 0, 1) := by decide +kernel
theorem dX11_text_94 : decode cX11_text 94 = .ok (.iconst 0, 1) := by decide +kernel
theorem dX11_text_95 : decode cX11_text 95 = .ok (.putfield 228, 3) := by decide +kernel
theorem dX11_text_98 : decode cX11_text 98 = .ok (.aload_n 0, 1) := by decide +kernel
theorem dX11_text_99 : decode cX11_text 99 = .ok (.iconst 0, 1) := by decide +kernel
theorem dX11_text_100 : decode cX11_text 100 = .ok (.putfield 267, 3) := by decide +kernel
theorem dX11_text_103 : decode cX11_text 103 = .ok (.aload_n 0, 1) := by decide +kernel
theorem dX11_text_104 : decode cX11_text 104 = .ok (.iconst 0, 1) := by decide +kernel
theorem dX11_text_105 : decode cX11_text 105 = .ok (.putfield 300, 3) := by decide +kernel
theorem dX11_text_108 : decode cX11_text 108 = .ok (.aload_n 0, 1) := by decide +kernel
theorem dX11_text_109 : decode cX11_text 109 = .ok (.iconst 0, 1) := by decide +kernel
theorem dX11_text_110 : decode cX11_text 110 = .ok (.putfield 273, 3) := by decide +kernel
theorem dX11_text_113 : decode cX11_text 113 = .ok (.aload_n 0, 1) := by decide +kernel
theorem dX11_text_114 : decode cX11_text 114 = .ok (.invokevirtual 211, 3) := by decide +kernel
theorem dX11_text_117 : decode cX11_text 117 = .ok (.aload_n 0, 1) := by decide +kernel
theorem dX11_text_118 : decode cX11_text 118 = .ok (.getfield 205, 3) := by decide +kernel
theorem dX11_text_121 : decode cX11_text 121 = .ok (.ifCond .ne 18, 3) := by decide +kernel
theorem dX11_text_124 : decode cX11_text 124 = .ok (.aload_n 0, 1) := by decide +kernel
theorem dX11_text_125 : decode cX11_text 125 = .ok (.getfield 170, 3) := by decide +kernel
theorem dX11_text_128 : decode cX11_text 128 = .ok (.iconst 4, 1) := by decide +kernel
theorem dX11_text_129 : decode cX11_text 129 = .ok (.if_icmp .eq 10, 3) := by decide +kernel
theorem dX11_text_132 : decode cX11_text 132 = .ok (.aload_n 0, 1) := by decide +kernel
theorem dX11_text_133 : decode cX11_text 133 = .ok (.invokevirtual 303, 3) := by decide +kernel
theorem dX11_text_136 : decode cX11_text 136 = .ok (.goto (-19), 3) := by decide +kernel
theorem dX11_text_139 : decode cX11_text 139 = .ok (.aload_n 0, 1) := by decide +kernel
theorem dX11_text_140 : decode cX11_text 140 = .ok (.aload_n 0, 1) := by decide +kernel
theorem dX11_text_141 : decode cX11_text 141 = .ok (.getfield 205, 3) := by decide +kernel
theorem dX11_text_144 : decode cX11_text 144 = .ok (.putfield 306, 3) := by decide +kernel
theorem dX11_text_147 : decode cX11_text 147 = .ok (.aload_n 0, 1) := by decide +kernel
theorem dX11_text_148 : decode cX11_text 148 = .ok (.aload_n 0, 1) := by decide +kernel
theorem dX11_text_149 : decode cX11_text 149 = .ok (.getfield 208, 3) := by decide +kernel
theorem dX11_text_152 : decode cX11_text 152 = .ok (.putfield 76, 3) := by decide +kernel
theorem dX11_text_155 : decode cX11_text 155 = .ok (.aload_n 0, 1) := by decide +kernel
theorem dX11_text_156 : decode cX11_text 156 = .ok (.getfield 205, 3) := by decide +kernel
theorem dX11_text_159 : decode cX11_text 159 = .ok (.ifCond .eq 5, 3) := by decide +kernel
theorem dX11_text_162 : decode cX11_text 162 = .ok (.iconst (-1), 1) := by decide +kernel
theorem dX11_text_163 : decode cX11_text 163 = .ok (.ireturn, 1) := by decide +kernel
theorem dX11_text_164 : decode cX11_text 164 = .ok (.aload_n 0, 1) := by decide +kernel
theorem dX11_text_165 : decode cX11_text 165 = .ok (.getfield 13, 3) := by decide +kernel
theorem dX11_text_168 : decode cX11_text 168 = .ok (.invokestatic 309, 3) := by decide +kernel
theorem dX11_text_171 : decode cX11_text 171 = .ok (.aload_n 0, 1) := by decide +kernel
theorem dX11_text_172 : decode cX11_text 172 = .ok (.getfield 16, 3) := by decide +kernel
theorem dX11_text_175 : decode cX11_text 175 = .ok (.invokestatic 309, 3) := by decide +kernel
theorem dX11_text_178 : decode cX11_text 178 = .ok (.aload_n 0, 1) := by decide +kernel
theorem dX11_text_179 : decode cX11_text 179 = .ok (.getfield 19, 3) := by decide +kernel
theorem dX11_text_182 : decode cX11_text 182 = .ok (.invokestatic 309, 3) := by decide +kernel
theorem dX11_text_185 : decode cX11_text 185 = .ok (.aload_n 0, 1) := by decide +kernel
theorem dX11_text_186 : decode cX11_text 186 = .ok (.getfield 22, 3) := by decide +kernel
theorem dX11_text_189 : decode cX11_text 189 = .ok (.invokestatic 309, 3) := by decide +kernel
theorem dX11_text_192 : decode cX11_text 192 = .ok (.aload_n 0, 1) := by decide +kernel
theorem dX11_text_193 : decode cX11_text 193 = .ok (.getfield 25, 3) := by decide +kernel
theorem dX11_text_196 : decode cX11_text 196 = .ok (.invokestatic 309, 3) := by decide +kernel
theorem dX11_text_199 : decode cX11_text 199 = .ok (.aload_n 0, 1) := by decide +kernel
theorem dX11_text_200 : decode cX11_text 200 = .ok (.getfield 28, 3) := by decide +kernel
theorem dX11_text_203 : decode cX11_text 203 = .ok (.invokestatic 309, 3) := by decide +kernel
theorem dX11_text_206 : decode cX11_text 206 = .ok (.aload_n 0, 1) := by decide +kernel
theorem dX11_text_207 : decode cX11_text 207 = .ok (.getfield 31, 3) := by decide +kernel
theorem dX11_text_210 : decode cX11_text 210 = .ok (.invokestatic 309, 3) := by decide +kernel
theorem dX11_text_213 : decode cX11_text 213 = .ok (.aload_n 0, 1) := by decide +kernel
theorem dX11_text_214 : decode cX11_text 214 = .ok (.getfield 34, 3) := by decide +kernel
theorem dX11_text_217 : decode cX11_text 217 = .ok (.invokestatic 309, 3) := by decide +kernel
theorem dX11_text_220 : decode cX11_text 220 = .ok (.aload_n 0, 1) := by decide +kernel
theorem dX11_text_221 : decode cX11_text 221 = .ok (.getfield 37, 3) := by decide +kernel
theorem dX11_text_224 : decode cX11_text 224 = .ok (.invokestatic 309, 3) := by decide +kernel
theorem dX11_text_227 : decode cX11_text 227 = .ok (.aload_n 0, 1) := by decide +kernel
theorem dX11_text_228 : decode cX11_text 228 = .ok (.getfield 40, 3) := by decide +kernel
theorem dX11_text_231 : decode cX11_text 231 = .ok (.invokestatic 309, 3) := by decide +kernel
theorem dX11_text_234 : decode cX11_text 234 = .ok (.aload_n 0, 1) := by decide +kernel
theorem dX11_text_235 : decode cX11_text 235 = .ok (.getfield 43, 3) := by decide +kernel
theorem dX11_text_238 : decode cX11_text 238 = .ok (.invokestatic 309, 3) := by decide +kernel
theorem dX11_text_241 : decode cX11_text 241 = .ok (.aload_n 0, 1) := by decide +kernel
theorem dX11_text_242 : decode cX11_text 242 = .ok (.getfield 46, 3) := by decide +kernel
theorem dX11_text_245 : decode cX11_text 245 = .ok (.invokestatic 309, 3) := by decide +kernel
theorem dX11_text_248 : decode cX11_text 248 = .ok (.aload_n 0, 1) := by decide +kernel
theorem dX11_text_249 : decode cX11_text 249 = .ok (.getfield 49, 3) := by decide +kernel
theorem dX11_text_252 : decode cX11_text 252 = .ok (.invokestatic 309, 3) := by decide +kernel
theorem dX11_text_255 : decode cX11_text 255 = .ok (.aload_n 0, 1) := by decide +kernel
theorem dX11_text_256 : decode cX11_text 256 = .ok (.getfield 52, 3) := by decide +kernel
theorem dX11_text_259 : decode cX11_text 259 = .ok (.invokestatic 309, 3) := by decide +kernel
theorem dX11_text_262 : decode cX11_text 262 = .ok (.aload_n 0, 1) := by decide +kernel
theorem dX11_text_263 : decode cX11_text 263 = .ok (.getfield 55, 3) := by decide +kernel
theorem dX11_text_266 : decode cX11_text 266 = .ok (.invokestatic 309, 3) := by decide +kernel
theorem dX11_text_269 : decode cX11_text 269 = .ok (.aload_n 0, 1) := by decide +kernel
theorem dX11_text_270 : decode cX11_text 270 = .ok (.getfield 58, 3) := by decide +kernel
theorem dX11_text_273 : decode cX11_text 273 = .ok (.invokestatic 309, 3) := by decide +kernel
theorem dX11_text_276 : decode cX11_text 276 = .ok (.aload_n 0, 1) := by decide +kernel
theorem dX11_text_277 : decode cX11_text 277 = .ok (.getfield 61, 3) := by decide +kernel
theorem dX11_text_280 : decode cX11_text 280 = .ok (.invokestatic 309, 3) := by decide +kernel
theorem dX11_text_283 : decode cX11_text 283 = .ok (.aload_n 0, 1) := by decide +kernel
theorem dX11_text_284 : decode cX11_text 284 = .ok (.getfield 64, 3) := by decide +kernel
theorem dX11_text_287 : decode cX11_text 287 = .ok (.invokestatic 309, 3) := by decide +kernel
theorem dX11_text_290 : decode cX11_text 290 = .ok (.aload_n 0, 1) := by decide +kernel
theorem dX11_text_291 : decode cX11_text 291 = .ok (.getfield 67, 3) := by decide +kernel
theorem dX11_text_294 : decode cX11_text 294 = .ok (.invokestatic 309, 3) := by decide +kernel
theorem dX11_text_297 : decode cX11_text 297 = .ok (.aload_n 0, 1) := by decide +kernel
theorem dX11_text_298 : decode cX11_text 298 = .ok (.getfield 70, 3) := by decide +kernel
theorem dX11_text_301 : decode cX11_text 301 = .ok (.invokestatic 309, 3) := by decide +kernel
theorem dX11_text_304 : decode cX11_text 304 = .ok (.aload_n 0, 1) := by decide +kernel
theorem dX11_text_305 : decode cX11_text 305 = .ok (.getfield 73, 3) := by decide +kernel
theorem dX11_text_308 : decode cX11_text 308 = .ok (.invokestatic 309, 3) := by decide +kernel
theorem dX11_text_311 : decode cX11_text 311 = .ok (.aload_n 0, 1) := by decide +kernel
theorem dX11_text_312 : decode cX11_text 312 = .ok (.iconst 0, 1) := by decide +kernel
theorem dX11_text_313 : decode cX11_text 313 = .ok (.putfield 313, 3) := by decide +kernel
theorem dX11_text_316 : decode cX11_text 316 = .ok (.aload_n 0, 1) := by decide +kernel
theorem dX11_text_317 : decode cX11_text 317 = .ok (.iconst (-1), 1) := by decide +kernel
theorem dX11_text_318 : decode cX11_text 318 = .ok (.putfield 123, 3) := by decide +kernel
theorem dX11_text_321 : decode cX11_text 321 = .ok (.aload_n 0, 1) := by decide +kernel
theorem dX11_text_322 : decode cX11_text 322 = .ok (.iconst 0, 1) := by decide +kernel
theorem dX11_text_323 : decode cX11_text 323 = .ok (.putfield 316, 3) := by decide +kernel
theorem dX11_text_326 : decode cX11_text 326 = .ok (.aload_n 0, 1) := by decide +kernel
theorem dX11_text_327 : decode cX11_text 327 = .ok (.iconst 0, 1) := by decide +kernel
theorem dX11_text_328 : decode cX11_text 328 = .ok (.putfield 320, 3) := by decide +kernel
theorem dX11_text_331 : decode cX11_text 331 = .ok (.aload_n 0, 1) := by decide +kernel
theorem dX11_text_332 : decode cX11_text 332 = .ok (.invokevirtual 148, 3) := by decide +kernel
theorem dX11_text_335 : decode cX11_text 335 = .ok (.aload_n 0, 1) := by decide +kernel
theorem dX11_text_336 : decode cX11_text 336 = .ok (.getfield 267, 3) := by decide +kernel
theorem dX11_text_339 : decode cX11_text 339 = .ok (.ireturn, 1) := by decide +kernel
theorem dX11_fault_0 : decode cX11_fault 0 = .ok (.aload_n 0, 1) := by decide +kernel
theorem dX11_fault_1 : decode cX11_fault 1 = .ok (.iconst 0, 1) := by decide +kernel
theorem dX11_fault_2 : decode cX11_fault 2 = .ok (.putfield 151, 3) := by decide +kernel
theorem dX11_fault_5 : decode cX11_fault 5 = .ok (.iload_n 1, 1) := by decide +kernel
theorem dX11_fault_6 : decode cX11_fault 6 = .ok (.ifCond .ne 10, 3) := by decide +kernel
theorem dX11_fault_9 : decode cX11_fault 9 = .ok (.aload_n 0, 1) := by decide +kernel
theorem dX11_fault_10 : decode cX11_fault 10 = .ok (.getfield 306, 3) := by decide +kernel
theorem dX11_fault_13 : decode cX11_fault 13 = .ok (.goto 16, 3) := by decide +kernel
theorem dX11_fault_16 : decode cX11_fault 16 = .ok (.iload_n 1, 1) := by decide +kernel
theorem dX11_fault_17 : decode cX11_fault 17 = .ok (.iconst 1, 1) := by decide +kernel
theorem dX11_fault_18 : decode cX11_fault 18 = .ok (.if_icmp .ne 10, 3) := by decide +kernel
theorem dX11_fault_21 : decode cX11_fault 21 = .ok (.aload_n 0, 1) := by decide +kernel
theorem dX11_fault_22 : decode cX11_fault 22 = .ok (.getfield 76, 3) := by decide +kernel
theorem dX11_fault_25 : decode cX11_fault 25 = .ok (.goto 4, 3) := by decide +kernel
theorem dX11_fault_28 : decode cX11_fault 28 = .ok (.iconst (-1), 1) := by decide +kernel
theorem dX11_fault_29 : decode cX11_fault 29 = .ok (.ireturn, 1) := by decide +kernel
theorem dX11_named_0 : decode cX11_named 0 = .ok (.aload_n 0, 1) := by decide +kernel
theorem dX11_named_1 : decode cX11_named 1 = .ok (.iconst 0, 1) := by decide +kernel
theorem dX11_named_2 : decode cX11_named 2 = .ok (.putfield 151, 3) := by decide +kernel
theorem dX11_named_5 : decode cX11_named 5 = .ok (.aload_n 0, 1) := by decide +kernel
theorem dX11_named_6 : decode cX11_named 6 = .ok (.getfield 16, 3) := by decide +kernel
theorem dX11_named_9 : decode cX11_named 9 = .ok (.iconst 0, 1) := by decide +kernel
theorem dX11_named_10 : decode cX11_named 10 = .ok (.aload_n 0, 1) := by decide +kernel
theorem dX11_named_11 : decode cX11_named 11 = .ok (.getfield 13, 3) := by decide +kernel
theorem dX11_named_14 : decode cX11_named 14 = .ok (.iconst 0, 1) := by decide +kernel
theorem dX11_named_15 : decode cX11_named 15 = .ok (.iaload, 1) := by decide +kernel
theorem dX11_named_16 : decode cX11_named 16 = .ok (.iload_n 1, 1) := by decide +kernel
theorem dX11_named_17 : decode cX11_named 17 = .ok (.invokestatic 217, 3) := by decide +kernel
theorem dX11_named_20 : decode cX11_named 20 = .ok (.ireturn, 1) := by decide +kernel
theorem dX11_is_0 : decode cX11_is 0 = .ok (.iload_n 0, 1) := by decide +kernel
theorem dX11_is_1 : decode cX11_is 1 = .ok (.ifCond .eq 7, 3) := by decide +kernel
theorem dX11_is_4 : decode cX11_is 4 = .ok (.lconst 1, 1) := by decide +kernel
theorem dX11_is_5 : decode cX11_is 5 = .ok (.goto 4, 3) := by decide +kernel
theorem dX11_is_8 : decode cX11_is 8 = .ok (.lconst 0, 1) := by decide +kernel
theorem dX11_is_9 : decode cX11_is 9 = .ok (.lreturn, 1) := by decide +kernel
theorem dX11_works_0 : decode cX11_works 0 = .ok (.aload_n 0, 1) := by decide +kernel
theorem dX11_works_1 : decode cX11_works 1 = .ok (.getfield 84, 3) := by decide +kernel
theorem dX11_works_4 : decode cX11_works 4 = .ok (.aload_n 0, 1) := by decide +kernel
theorem dX11_works_5 : decode cX11_works 5 = .ok (.getfield 323, 3) := by decide +kernel
theorem dX11_works_8 : decode cX11_works 8 = .ok (.iconst 1, 1) := by decide +kernel
theorem dX11_works_9 : decode cX11_works 9 = .ok (.isub, 1) := by decide +kernel
theorem dX11_works_10 : decode cX11_works 10 = .ok (.laload, 1) := by decide +kernel
theorem dX11_works_11 : decode cX11_works 11 = .ok (.lstore_n 2, 1) := by decide +kernel
theorem dX11_works_12 : decode cX11_works 12 = .ok (.iload_n 1, 1) := by decide +kernel
theorem dX11_works_13 : decode cX11_works 13 = .ok (.sipush 260, 3) := by decide +kernel
theorem dX11_works_16 : decode cX11_works 16 = .ok (.if_icmp .ne 30, 3) := by decide +kernel
theorem dX11_works_19 : decode cX11_works 19 = .ok (.aload_n 0, 1) := by decide +kernel
theorem dX11_works_20 : decode cX11_works 20 = .ok (.getfield 84, 3) := by decide +kernel
theorem dX11_works_23 : decode cX11_works 23 = .ok (.aload_n 0, 1) := by decide +kernel
theorem dX11_works_24 : decode cX11_works 24 = .ok (.getfield 323, 3) := by decide +kernel
theorem dX11_works_27 : decode cX11_works 27 = .ok (.iconst 1, 1) := by decide +kernel
theorem dX11_works_28 : decode cX11_works 28 = .ok (.isub, 1) := by decide +kernel
theorem dX11_works_29 : decode cX11_works 29 = .ok (.lload_n 2, 1) := by decide +kernel
theorem dX11_works_30 : decode cX11_works 30 = .ok (.lconst 0, 1) := by decide +kernel
theorem dX11_works_31 : decode cX11_works 31 = .ok (.lcmp, 1) := by decide +kernel
theorem dX11_works_32 : decode cX11_works 32 = .ok (.ifCond .ne 7, 3) := by decide +kernel
theorem dX11_works_35 : decode cX11_works 35 = .ok (.iconst 1, 1) := by decide +kernel
theorem dX11_works_36 : decode cX11_works 36 = .ok (.goto 4, 3) := by decide +kernel
theorem dX11_works_39 : decode cX11_works 39 = .ok (.iconst 0, 1) := by decide +kernel
theorem dX11_works_40 : decode cX11_works 40 = .ok (.invokestatic 326, 3) := by decide +kernel
theorem dX11_works_43 : decode cX11_works 43 = .ok (.lastore, 1) := by decide +kernel
theorem dX11_works_44 : decode cX11_works 44 = .ok (.iconst 1, 1) := by decide +kernel
theorem dX11_works_45 : decode cX11_works 45 = .ok (.ireturn, 1) := by decide +kernel
theorem dX11_works_46 : decode cX11_works 46 = .ok (.aload_n 0, 1) := by decide +kernel
theorem dX11_works_47 : decode cX11_works 47 = .ok (.getfield 84, 3) := by decide +kernel
theorem dX11_works_50 : decode cX11_works 50 = .ok (.aload_n 0, 1) := by decide +kernel
theorem dX11_works_51 : decode cX11_works 51 = .ok (.getfield 323, 3) := by decide +kernel
theorem dX11_works_54 : decode cX11_works 54 = .ok (.iconst 2, 1) := by decide +kernel
theorem dX11_works_55 : decode cX11_works 55 = .ok (.isub, 1) := by decide +kernel
theorem dX11_works_56 : decode cX11_works 56 = .ok (.laload, 1) := by decide +kernel
theorem dX11_works_57 : decode cX11_works 57 = .ok (.lstore 4, 2) := by decide +kernel
theorem dX11_works_59 : decode cX11_works 59 = .ok (.aload_n 0, 1) := by decide +kernel
theorem dX11_works_60 : decode cX11_works 60 = .ok (.dup, 1) := by decide +kernel
theorem dX11_works_61 : decode cX11_works 61 = .ok (.getfield 323, 3) := by decide +kernel
theorem dX11_works_64 : decode cX11_works 64 = .ok (.iconst 1, 1) := by decide +kernel
theorem dX11_works_65 : decode cX11_works 65 = .ok (.isub, 1) := by decide +kernel
theorem dX11_works_66 : decode cX11_works 66 = .ok (.putfield 323, 3) := by decide +kernel
theorem dX11_works_69 : decode cX11_works 69 = .ok (.iload_n 1, 1) := by decide +kernel
theorem dX11_works_70 : decode cX11_works 70 = .ok (.lookupswitch 314 #[(42, 116), (43, 98), (45, 107), (47, 151), (60, 168), (61, 208), (62, 188), (256, 228), (257, 268), (258, 248), (261, 288)], 98) := by decide +kernel
theorem dX11_works_168 : decode cX11_works 168 = .ok (.lload 4, 2) := by decide +kernel
theorem dX11_works_170 : decode cX11_works 170 = .ok (.lload_n 2, 1) := by decide +kernel
theorem dX11_works_171 : decode cX11_works 171 = .ok (.ladd, 1) := by decide +kernel
theorem dX11_works_172 : decode cX11_works 172 = .ok (.lstore 6, 2) := by decide +kernel
theorem dX11_works_174 : decode cX11_works 174 = .ok (.goto 233, 3) := by decide +kernel
theorem dX11_works_177 : decode cX11_works 177 = .ok (.lload 4, 2) := by decide +kernel
theorem dX11_works_179 : decode cX11_works 179 = .ok (.lload_n 2, 1) := by decide +kernel
theorem dX11_works_180 : decode cX11_works 180 = .ok (.lsub, 1) := by decide +kernel
theorem dX11_works_181 : decode cX11_works 181 = .ok (.lstore 6, 2) := by decide +kernel
theorem dX11_works_183 : decode cX11_works 183 = .ok (.goto 224, 3) := by decide +kernel
theorem dX11_works_186 : decode cX11_works 186 = .ok (.lload 4, 2) := by decide +kernel
theorem dX11_works_188 : decode cX11_works 188 = .ok (.lconst 0, 1) := by decide +kernel
theorem dX11_works_189 : decode cX11_works 189 = .ok (.lcmp, 1) := by decide +kernel
theorem dX11_works_190 : decode cX11_works 190 = .ok (.ifCond .eq 22, 3) := by decide +kernel
theorem dX11_works_193 : decode cX11_works 193 = .ok (.lload_n 2, 1) := by decide +kernel
theorem dX11_works_194 : decode cX11_works 194 = .ok (.invokestatic 330, 3) := by decide +kernel
theorem dX11_works_197 : decode cX11_works 197 = .ok (.ldc2_w 336, 3) := by decide +kernel
theorem dX11_works_200 : decode cX11_works 200 = .ok (.lload 4, 2) := by decide +kernel
theorem dX11_works_202 : decode cX11_works 202 = .ok (.invokestatic 330, 3) := by decide +kernel
theorem dX11_works_205 : decode cX11_works 205 = .ok (.ldiv, 1) := by decide +kernel
theorem dX11_works_206 : decode cX11_works 206 = .ok (.lcmp, 1) := by decide +kernel
theorem dX11_works_207 : decode cX11_works 207 = .ok (.ifCond .le 5, 3) := by decide +kernel
theorem dX11_works_210 : decode cX11_works 210 = .ok (.iconst 0, 1) := by decide +kernel
theorem dX11_works_211 : decode cX11_works 211 = .ok (.ireturn, 1) := by decide +kernel
theorem dX11_works_212 : decode cX11_works 212 = .ok (.lload 4, 2) := by decide +kernel
theorem dX11_works_214 : decode cX11_works 214 = .ok (.lload_n 2, 1) := by decide +kernel
theorem dX11_works_215 : decode cX11_works 215 = .ok (.lmul, 1) := by decide +kernel
theorem dX11_works_216 : decode cX11_works 216 = .ok (.lstore 6, 2) := by decide +kernel
theorem dX11_works_218 : decode cX11_works 218 = .ok (.goto 189, 3) := by decide +kernel
theorem dX11_works_221 : decode cX11_works 221 = .ok (.lload_n 2, 1) := by decide +kernel
theorem dX11_works_222 : decode cX11_works 222 = .ok (.lconst 0, 1) := by decide +kernel
theorem dX11_works_223 : decode cX11_works 223 = .ok (.lcmp, 1) := by decide +kernel
theorem dX11_works_224 : decode cX11_works 224 = .ok (.ifCond .ne 5, 3) := by decide +kernel
theorem dX11_works_227 : decode cX11_works 227 = .ok (.iconst 0, 1) := by decide +kernel
theorem dX11_works_228 : decode cX11_works 228 = .ok (.ireturn, 1) := by decide +kernel
theorem dX11_works_229 : decode cX11_works 229 = .ok (.lload 4, 2) := by decide +kernel
theorem dX11_works_231 : decode cX11_works 231 = .ok (.lload_n 2, 1) := by decide +kernel
theorem dX11_works_232 : decode cX11_works 232 = .ok (.ldiv, 1) := by decide +kernel
theorem dX11_works_233 : decode cX11_works 233 = .ok (.lstore 6, 2) := by decide +kernel
theorem dX11_works_235 : decode cX11_works 235 = .ok (.goto 172, 3) := by decide +kernel
theorem dX11_works_238 : decode cX11_works 238 = .ok (.lload 4, 2) := by decide +kernel
theorem dX11_works_240 : decode cX11_works 240 = .ok (.lload_n 2, 1) := by decide +kernel
theorem dX11_works_241 : decode cX11_works 241 = .ok (.lcmp, 1) := by decide +kernel
theorem dX11_works_242 : decode cX11_works 242 = .ok (.ifCond .ge 7, 3) := by decide +kernel
theorem dX11_works_245 : decode cX11_works 245 = .ok (.iconst 1, 1) := by decide +kernel
theorem dX11_works_246 : decode cX11_works 246 = .ok (.goto 4, 3) := by decide +kernel
theorem dX11_works_249 : decode cX11_works 249 = .ok (.iconst 0, 1) := by decide +kernel
theorem dX11_works_250 : decode cX11_works 250 = .ok (.invokestatic 326, 3) := by decide +kernel
theorem dX11_works_253 : decode cX11_works 253 = .ok (.lstore 6, 2) := by decide +kernel
theorem dX11_works_255 : decode cX11_works 255 = .ok (.goto 152, 3) := by decide +kernel
theorem dX11_works_258 : decode cX11_works 258 = .ok (.lload 4, 2) := by decide +kernel
theorem dX11_works_260 : decode cX11_works 260 = .ok (.lload_n 2, 1) := by decide +kernel
theorem dX11_works_261 : decode cX11_works 261 = .ok (.lcmp, 1) := by decide +kernel
theorem dX11_works_262 : decode cX11_works 262 = .ok (.ifCond .le 7, 3) := by decide +kernel
theorem dX11_works_265 : decode cX11_works 265 = .ok (.iconst 1, 1) := by decide +kernel
theorem dX11_works_266 : decode cX11_works 266 = .ok (.goto 4, 3) := by decide +kernel
theorem dX11_works_269 : decode cX11_works 269 = .ok (.iconst 0, 1) := by decide +kernel
theorem dX11_works_270 : decode cX11_works 270 = .ok (.invokestatic 326, 3) := by decide +kernel
theorem dX11_works_273 : decode cX11_works 273 = .ok (.lstore 6, 2) := by decide +kernel
theorem dX11_works_275 : decode cX11_works 275 = .ok (.goto 132, 3) := by decide +kernel
theorem dX11_works_278 : decode cX11_works 278 = .ok (.lload 4, 2) := by decide +kernel
theorem dX11_works_280 : decode cX11_works 280 = .ok (.lload_n 2, 1) := by decide +kernel
theorem dX11_works_281 : decode cX11_works 281 = .ok (.lcmp, 1) := by decide +kernel
theorem dX11_works_282 : decode cX11_works 282 = .ok (.ifCond .ne 7, 3) := by decide +kernel
theorem dX11_works_285 : decode cX11_works 285 = .ok (.iconst 1, 1) := by decide +kernel
theorem dX11_works_286 : decode cX11_works 286 = .ok (.goto 4, 3) := by decide +kernel
theorem dX11_works_289 : decode cX11_works 289 = .ok (.iconst 0, 1) := by decide +kernel
theorem dX11_works_290 : decode cX11_works 290 = .ok (.invokestatic 326, 3) := by decide +kernel
theorem dX11_works_293 : decode cX11_works 293 = .ok (.lstore 6, 2) := by decide +kernel
theorem dX11_works_295 : decode cX11_works 295 = .ok (.goto 112, 3) := by decide +kernel
theorem dX11_works_298 : decode cX11_works 298 = .ok (.lload 4, 2) := by decide +kernel
theorem dX11_works_300 : decode cX11_works 300 = .ok (.lload_n 2, 1) := by decide +kernel
theorem dX11_works_301 : decode cX11_works 301 = .ok (.lcmp, 1) := by decide +kernel
theorem dX11_works_302 : decode cX11_works 302 = .ok (.ifCond .gt 7, 3) := by decide +kernel
theorem dX11_works_305 : decode cX11_works 305 = .ok (.iconst 1, 1) := by decide +kernel
theorem dX11_works_306 : decode cX11_works 306 = .ok (.goto 4, 3) := by decide +kernel
theorem dX11_works_309 : decode cX11_works 309 = .ok (.iconst 0, 1) := by decide +kernel
theorem dX11_works_310 : decode cX11_works 310 = .ok (.invokestatic 326, 3) := by decide +kernel
theorem dX11_works_313 : decode cX11_works 313 = .ok (.lstore 6, 2) := by decide +kernel
theorem dX11_works_315 : decode cX11_works 315 = .ok (.goto 92, 3) := by decide +kernel
theorem dX11_works_318 : decode cX11_works 318 = .ok (.lload 4, 2) := by decide +kernel
theorem dX11_works_320 : decode cX11_works 320 = .ok (.lload_n 2, 1) := by decide +kernel
theorem dX11_works_321 : decode cX11_works 321 = .ok (.lcmp, 1) := by decide +kernel
theorem dX11_works_322 : decode cX11_works 322 = .ok (.ifCond .lt 7, 3) := by decide +kernel
theorem dX11_works_325 : decode cX11_works 325 = .ok (.iconst 1, 1) := by decide +kernel
theorem dX11_works_326 : decode cX11_works 326 = .ok (.goto 4, 3) := by decide +kernel
theorem dX11_works_329 : decode cX11_works 329 = .ok (.iconst 0, 1) := by decide +kernel
theorem dX11_works_330 : decode cX11_works 330 = .ok (.invokestatic 326, 3) := by decide +kernel
theorem dX11_works_333 : decode cX11_works 333 = .ok (.lstore 6, 2) := by decide +kernel
theorem dX11_works_335 : decode cX11_works 335 = .ok (.goto 72, 3) := by decide +kernel
theorem dX11_works_338 : decode cX11_works 338 = .ok (.lload 4, 2) := by decide +kernel
theorem dX11_works_340 : decode cX11_works 340 = .ok (.lload_n 2, 1) := by decide +kernel
theorem dX11_works_341 : decode cX11_works 341 = .ok (.lcmp, 1) := by decide +kernel
theorem dX11_works_342 : decode cX11_works 342 = .ok (.ifCond .eq 7, 3) := by decide +kernel
theorem dX11_works_345 : decode cX11_works 345 = .ok (.iconst 1, 1) := by decide +kernel
theorem dX11_works_346 : decode cX11_works 346 = .ok (.goto 4, 3) := by decide +kernel
theorem dX11_works_349 : decode cX11_works 349 = .ok (.iconst 0, 1) := by decide +kernel
theorem dX11_works_350 : decode cX11_works 350 = .ok (.invokestatic 326, 3) := by decide +kernel
theorem dX11_works_353 : decode cX11_works 353 = .ok (.lstore 6, 2) := by decide +kernel
theorem dX11_works_355 : decode cX11_works 355 = .ok (.goto 52, 3) := by decide +kernel
theorem dX11_works_358 : decode cX11_works 358 = .ok (.lload 4, 2) := by decide +kernel
theorem dX11_works_360 : decode cX11_works 360 = .ok (.lconst 0, 1) := by decide +kernel
theorem dX11_works_361 : decode cX11_works 361 = .ok (.lcmp, 1) := by decide +kernel
theorem dX11_works_362 : decode cX11_works 362 = .ok (.ifCond .eq 13, 3) := by decide +kernel
theorem dX11_works_365 : decode cX11_works 365 = .ok (.lload_n 2, 1) := by decide +kernel
theorem dX11_works_366 : decode cX11_works 366 = .ok (.lconst 0, 1) := by decide +kernel
theorem dX11_works_367 : decode cX11_works 367 = .ok (.lcmp, 1) := by decide +kernel
theorem dX11_works_368 : decode cX11_works 368 = .ok (.ifCond .eq 7, 3) := by decide +kernel
theorem dX11_works_371 : decode cX11_works 371 = .ok (.iconst 1, 1) := by decide +kernel
theorem dX11_works_372 : decode cX11_works 372 = .ok (.goto 4, 3) := by decide +kernel
theorem dX11_works_375 : decode cX11_works 375 = .ok (.iconst 0, 1) := by decide +kernel
theorem dX11_works_376 : decode cX11_works 376 = .ok (.invokestatic 326, 3) := by decide +kernel
theorem dX11_works_379 : decode cX11_works 379 = .ok (.lstore 6, 2) := by decide +kernel
theorem dX11_works_381 : decode cX11_works 381 = .ok (.goto 26, 3) := by decide +kernel
theorem dX11_works_384 : decode cX11_works 384 = .ok (.lload 4, 2) := by decide +kernel
theorem dX11_works_386 : decode cX11_works 386 = .ok (.lconst 0, 1) := by decide +kernel
theorem dX11_works_387 : decode cX11_works 387 = .ok (.lcmp, 1) := by decide +kernel
theorem dX11_works_388 : decode cX11_works 388 = .ok (.ifCond .ne 9, 3) := by decide +kernel
theorem dX11_works_391 : decode cX11_works 391 = .ok (.lload_n 2, 1) := by decide +kernel
theorem dX11_works_392 : decode cX11_works 392 = .ok (.lconst 0, 1) := by decide +kernel
theorem dX11_works_393 : decode cX11_works 393 = .ok (.lcmp, 1) := by decide +kernel
theorem dX11_works_394 : decode cX11_works 394 = .ok (.ifCond .eq 7, 3) := by decide +kernel
theorem dX11_works_397 : decode cX11_works 397 = .ok (.iconst 1, 1) := by decide +kernel
theorem dX11_works_398 : decode cX11_works 398 = .ok (.goto 4, 3) := by decide +kernel
theorem dX11_works_401 : decode cX11_works 401 = .ok (.iconst 0, 1) := by decide +kernel
theorem dX11_works_402 : decode cX11_works 402 = .ok (.invokestatic 326, 3) := by decide +kernel
theorem dX11_works_405 : decode cX11_works 405 = .ok (.lstore 6, 2) := by decide +kernel
theorem dX11_works_407 : decode cX11_works 407 = .ok (.aload_n 0, 1) := by decide +kernel
theorem dX11_works_408 : decode cX11_works 408 = .ok (.getfield 84, 3) := by decide +kernel
theorem dX11_works_411 : decode cX11_works 411 = .ok (.aload_n 0, 1) := by decide +kernel
theorem dX11_works_412 : decode cX11_works 412 = .ok (.getfield 323, 3) := by decide +kernel
theorem dX11_works_415 : decode cX11_works 415 = .ok (.iconst 1, 1) := by decide +kernel
theorem dX11_works_416 : decode cX11_works 416 = .ok (.isub, 1) := by decide +kernel
theorem dX11_works_417 : decode cX11_works 417 = .ok (.lload 6, 2) := by decide +kernel
theorem dX11_works_419 : decode cX11_works 419 = .ok (.lastore, 1) := by decide +kernel
theorem dX11_works_420 : decode cX11_works 420 = .ok (.lload 6, 2) := by decide +kernel
theorem dX11_works_422 : decode cX11_works 422 = .ok (.ldc2_w 336, 3) := by decide +kernel
theorem dX11_works_425 : decode cX11_works 425 = .ok (.lcmp, 1) := by decide +kernel
theorem dX11_works_426 : decode cX11_works 426 = .ok (.ifCond .gt 16, 3) := by decide +kernel
theorem dX11_works_429 : decode cX11_works 429 = .ok (.lload 6, 2) := by decide +kernel
theorem dX11_works_431 : decode cX11_works 431 = .ok (.ldc2_w 338, 3) := by decide +kernel
theorem dX11_works_434 : decode cX11_works 434 = .ok (.lcmp, 1) := by decide +kernel
theorem dX11_works_435 : decode cX11_works 435 = .ok (.ifCond .lt 7, 3) := by decide +kernel
theorem dX11_works_438 : decode cX11_works 438 = .ok (.iconst 1, 1) := by decide +kernel
theorem dX11_works_439 : decode cX11_works 439 = .ok (.goto 4, 3) := by decide +kernel
theorem dX11_works_442 : decode cX11_works 442 = .ok (.iconst 0, 1) := by decide +kernel
theorem dX11_works_443 : decode cX11_works 443 = .ok (.ireturn, 1) := by decide +kernel
theorem dX11_goes_0 : decode cX11_goes 0 = .ok (.aload_n 0, 1) := by decide +kernel
theorem dX11_goes_1 : decode cX11_goes 1 = .ok (.iconst 0, 1) := by decide +kernel
theorem dX11_goes_2 : decode cX11_goes 2 = .ok (.putfield 323, 3) := by decide +kernel
theorem dX11_goes_5 : decode cX11_goes 5 = .ok (.aload_n 0, 1) := by decide +kernel
theorem dX11_goes_6 : decode cX11_goes 6 = .ok (.getfield 64, 3) := by decide +kernel
theorem dX11_goes_9 : decode cX11_goes 9 = .ok (.iload_n 1, 1) := by decide +kernel
theorem dX11_goes_10 : decode cX11_goes 10 = .ok (.iaload, 1) := by decide +kernel
theorem dX11_goes_11 : decode cX11_goes 11 = .ok (.istore_n 2, 1) := by decide +kernel
theorem dX11_goes_12 : decode cX11_goes 12 = .ok (.iload_n 2, 1) := by decide +kernel
theorem dX11_goes_13 : decode cX11_goes 13 = .ok (.aload_n 0, 1) := by decide +kernel
theorem dX11_goes_14 : decode cX11_goes 14 = .ok (.getfield 67, 3) := by decide +kernel
theorem dX11_goes_17 : decode cX11_goes 17 = .ok (.iload_n 1, 1) := by decide +kernel
theorem dX11_goes_18 : decode cX11_goes 18 = .ok (.iaload, 1) := by decide +kernel
theorem dX11_goes_19 : decode cX11_goes 19 = .ok (.if_icmp .ge 83, 3) := by decide +kernel
theorem dX11_goes_22 : decode cX11_goes 22 = .ok (.aload_n 0, 1) := by decide +kernel
theorem dX11_goes_23 : decode cX11_goes 23 = .ok (.getfield 70, 3) := by decide +kernel
theorem dX11_goes_26 : decode cX11_goes 26 = .ok (.iload_n 2, 1) := by decide +kernel
theorem dX11_goes_27 : decode cX11_goes 27 = .ok (.iaload, 1) := by decide +kernel
theorem dX11_goes_28 : decode cX11_goes 28 = .ok (.iconst 2, 1) := by decide +kernel
theorem dX11_goes_29 : decode cX11_goes 29 = .ok (.if_icmp .ne 18, 3) := by decide +kernel
theorem dX11_goes_32 : decode cX11_goes 32 = .ok (.aload_n 0, 1) := by decide +kernel
theorem dX11_goes_33 : decode cX11_goes 33 = .ok (.aload_n 0, 1) := by decide +kernel
theorem dX11_goes_34 : decode cX11_goes 34 = .ok (.getfield 73, 3) := by decide +kernel
theorem dX11_goes_37 : decode cX11_goes 37 = .ok (.iload_n 2, 1) := by decide +kernel
theorem dX11_goes_38 : decode cX11_goes 38 = .ok (.iaload, 1) := by decide +kernel
theorem dX11_goes_39 : decode cX11_goes 39 = .ok (.invokevirtual 340, 3) := by decide +kernel
theorem dX11_goes_42 : decode cX11_goes 42 = .ok (.ifCond .ne 54, 3) := by decide +kernel
theorem dX11_goes_45 : decode cX11_goes 45 = .ok (.iconst 0, 1) := by decide +kernel
theorem dX11_goes_46 : decode cX11_goes 46 = .ok (.ireturn, 1) := by decide +kernel
theorem dX11_goes_47 : decode cX11_goes 47 = .ok (.aload_n 0, 1) := by decide +kernel
theorem dX11_goes_48 : decode cX11_goes 48 = .ok (.getfield 84, 3) := by decide +kernel
theorem dX11_goes_51 : decode cX11_goes 51 = .ok (.aload_n 0, 1) := by decide +kernel
theorem dX11_goes_52 : decode cX11_goes 52 = .ok (.getfield 323, 3) := by decide +kernel
theorem dX11_goes_55 : decode cX11_goes 55 = .ok (.aload_n 0, 1) := by decide +kernel
theorem dX11_goes_56 : decode cX11_goes 56 = .ok (.getfield 70, 3) := by decide +kernel
theorem dX11_goes_59 : decode cX11_goes 59 = .ok (.iload_n 2, 1) := by decide +kernel
theorem dX11_goes_60 : decode cX11_goes 60 = .ok (.iaload, 1) := by decide +kernel
theorem dX11_goes_61 : decode cX11_goes 61 = .ok (.ifCond .ne 13, 3) := by decide +kernel
theorem dX11_goes_64 : decode cX11_goes 64 = .ok (.aload_n 0, 1) := by decide +kernel
theorem dX11_goes_65 : decode cX11_goes 65 = .ok (.getfield 73, 3) := by decide +kernel
theorem dX11_goes_68 : decode cX11_goes 68 = .ok (.iload_n 2, 1) := by decide +kernel
theorem dX11_goes_69 : decode cX11_goes 69 = .ok (.iaload, 1) := by decide +kernel
theorem dX11_goes_70 : decode cX11_goes 70 = .ok (.i2l, 1) := by decide +kernel
theorem dX11_goes_71 : decode cX11_goes 71 = .ok (.goto 14, 3) := by decide +kernel
theorem dX11_goes_74 : decode cX11_goes 74 = .ok (.aload_n 0, 1) := by decide +kernel
theorem dX11_goes_75 : decode cX11_goes 75 = .ok (.getfield 80, 3) := by decide +kernel
theorem dX11_goes_78 : decode cX11_goes 78 = .ok (.aload_n 0, 1) := by decide +kernel
theorem dX11_goes_79 : decode cX11_goes 79 = .ok (.getfield 73, 3) := by decide +kernel
theorem dX11_goes_82 : decode cX11_goes 82 = .ok (.iload_n 2, 1) := by decide +kernel
theorem dX11_goes_83 : decode cX11_goes 83 = .ok (.iaload, 1) := by decide +kernel
theorem dX11_goes_84 : decode cX11_goes 84 = .ok (.laload, 1) := by decide +kernel
theorem dX11_goes_85 : decode cX11_goes 85 = .ok (.lastore, 1) := by decide +kernel
theorem dX11_goes_86 : decode cX11_goes 86 = .ok (.aload_n 0, 1) := by decide +kernel
theorem dX11_goes_87 : decode cX11_goes 87 = .ok (.dup, 1) := by decide +kernel
theorem dX11_goes_88 : decode cX11_goes 88 = .ok (.getfield 323, 3) := by decide +kernel
theorem dX11_goes_91 : decode cX11_goes 91 = .ok (.iconst 1, 1) := by decide +kernel
theorem dX11_goes_92 : decode cX11_goes 92 = .ok (.iadd, 1) := by decide +kernel
theorem dX11_goes_93 : decode cX11_goes 93 = .ok (.putfield 323, 3) := by decide +kernel
theorem dX11_goes_96 : decode cX11_goes 96 = .ok (.iinc 2 1, 3) := by decide +kernel
theorem dX11_goes_99 : decode cX11_goes 99 = .ok (.goto (-87), 3) := by decide +kernel
theorem dX11_goes_102 : decode cX11_goes 102 = .ok (.iconst 1, 1) := by decide +kernel
theorem dX11_goes_103 : decode cX11_goes 103 = .ok (.ireturn, 1) := by decide +kernel
theorem dX11_hasLaw_0 : decode cX11_hasLaw 0 = .ok (.aload_n 0, 1) := by decide +kernel
theorem dX11_hasLaw_1 : decode cX11_hasLaw 1 = .ok (.getfield 67, 3) := by decide +kernel
theorem dX11_hasLaw_4 : decode cX11_hasLaw 4 = .ok (.iload_n 1, 1) := by decide +kernel
theorem dX11_hasLaw_5 : decode cX11_hasLaw 5 = .ok (.iaload, 1) := by decide +kernel
theorem dX11_hasLaw_6 : decode cX11_hasLaw 6 = .ok (.aload_n 0, 1) := by decide +kernel
theorem dX11_hasLaw_7 : decode cX11_hasLaw 7 = .ok (.getfield 64, 3) := by decide +kernel
theorem dX11_hasLaw_10 : decode cX11_hasLaw 10 = .ok (.iload_n 1, 1) := by decide +kernel
theorem dX11_hasLaw_11 : decode cX11_hasLaw 11 = .ok (.iaload, 1) := by decide +kernel
theorem dX11_hasLaw_12 : decode cX11_hasLaw 12 = .ok (.if_icmp .le 7, 3) := by decide +kernel
theorem dX11_hasLaw_15 : decode cX11_hasLaw 15 = .ok (.iconst 1, 1) := by decide +kernel
theorem dX11_hasLaw_16 : decode cX11_hasLaw 16 = .ok (.goto 4, 3) := by decide +kernel
theorem dX11_hasLaw_19 : decode cX11_hasLaw 19 = .ok (.iconst 0, 1) := by decide +kernel
theorem dX11_hasLaw_20 : decode cX11_hasLaw 20 = .ok (.ireturn, 1) := by decide +kernel
theorem dX11_starts_0 : decode cX11_starts 0 = .ok (.aload_n 0, 1) := by decide +kernel
theorem dX11_starts_1 : decode cX11_starts 1 = .ok (.getfield 87, 3) := by decide +kernel
theorem dX11_starts_4 : decode cX11_starts 4 = .ok (.iload_n 1, 1) := by decide +kernel
theorem dX11_starts_5 : decode cX11_starts 5 = .ok (.iconst 0, 1) := by decide +kernel
theorem dX11_starts_6 : decode cX11_starts 6 = .ok (.iastore, 1) := by decide +kernel
theorem dX11_starts_7 : decode cX11_starts 7 = .ok (.aload_n 0, 1) := by decide +kernel
theorem dX11_starts_8 : decode cX11_starts 8 = .ok (.getfield 90, 3) := by decide +kernel
theorem dX11_starts_11 : decode cX11_starts 11 = .ok (.iload_n 1, 1) := by decide +kernel
theorem dX11_starts_12 : decode cX11_starts 12 = .ok (.aload_n 0, 1) := by decide +kernel
theorem dX11_starts_13 : decode cX11_starts 13 = .ok (.getfield 13, 3) := by decide +kernel
theorem dX11_starts_16 : decode cX11_starts 16 = .ok (.bipush 7, 2) := by decide +kernel
theorem dX11_starts_18 : decode cX11_starts 18 = .ok (.iaload, 1) := by decide +kernel
theorem dX11_starts_19 : decode cX11_starts 19 = .ok (.iastore, 1) := by decide +kernel
theorem dX11_starts_20 : decode cX11_starts 20 = .ok (.aload_n 0, 1) := by decide +kernel
theorem dX11_starts_21 : decode cX11_starts 21 = .ok (.getfield 93, 3) := by decide +kernel
theorem dX11_starts_24 : decode cX11_starts 24 = .ok (.iload_n 1, 1) := by decide +kernel
theorem dX11_starts_25 : decode cX11_starts 25 = .ok (.iconst 0, 1) := by decide +kernel
theorem dX11_starts_26 : decode cX11_starts 26 = .ok (.iastore, 1) := by decide +kernel
theorem dX11_starts_27 : decode cX11_starts 27 = .ok (.aload_n 0, 1) := by decide +kernel
theorem dX11_starts_28 : decode cX11_starts 28 = .ok (.getfield 96, 3) := by decide +kernel
theorem dX11_starts_31 : decode cX11_starts 31 = .ok (.iload_n 1, 1) := by decide +kernel
theorem dX11_starts_32 : decode cX11_starts 32 = .ok (.iconst 0, 1) := by decide +kernel
theorem dX11_starts_33 : decode cX11_starts 33 = .ok (.iastore, 1) := by decide +kernel
theorem dX11_starts_34 : decode cX11_starts 34 = .ok (.iconst 0, 1) := by decide +kernel
theorem dX11_starts_35 : decode cX11_starts 35 = .ok (.istore_n 2, 1) := by decide +kernel
theorem dX11_starts_36 : decode cX11_starts 36 = .ok (.iload_n 2, 1) := by decide +kernel
theorem dX11_starts_37 : decode cX11_starts 37 = .ok (.bipush 7, 2) := by decide +kernel
theorem dX11_starts_39 : decode cX11_starts 39 = .ok (.if_icmp .ge 40, 3) := by decide +kernel
theorem dX11_starts_42 : decode cX11_starts 42 = .ok (.aload_n 0, 1) := by decide +kernel
theorem dX11_starts_43 : decode cX11_starts 43 = .ok (.getfield 99, 3) := by decide +kernel
theorem dX11_starts_46 : decode cX11_starts 46 = .ok (.bipush 7, 2) := by decide +kernel
theorem dX11_starts_48 : decode cX11_starts 48 = .ok (.iload_n 1, 1) := by decide +kernel
theorem dX11_starts_49 : decode cX11_starts 49 = .ok (.imul, 1) := by decide +kernel
theorem dX11_starts_50 : decode cX11_starts 50 = .ok (.iload_n 2, 1) := by decide +kernel
theorem dX11_starts_51 : decode cX11_starts 51 = .ok (.iadd, 1) := by decide +kernel
theorem dX11_starts_52 : decode cX11_starts 52 = .ok (.iload_n 2, 1) := by decide +kernel
theorem dX11_starts_53 : decode cX11_starts 53 = .ok (.aload_n 0, 1) := by decide +kernel
theorem dX11_starts_54 : decode cX11_starts 54 = .ok (.getfield 13, 3) := by decide +kernel
theorem dX11_starts_57 : decode cX11_starts 57 = .ok (.iconst 0, 1) := by decide +kernel
theorem dX11_starts_58 : decode cX11_starts 58 = .ok (.iaload, 1) := by decide +kernel
theorem dX11_starts_59 : decode cX11_starts 59 = .ok (.if_icmp .ge 12, 3) := by decide +kernel
theorem dX11_starts_62 : decode cX11_starts 62 = .ok (.aload_n 0, 1) := by decide +kernel
theorem dX11_starts_63 : decode cX11_starts 63 = .ok (.getfield 25, 3) := by decide +kernel
theorem dX11_starts_66 : decode cX11_starts 66 = .ok (.iload_n 2, 1) := by decide +kernel
theorem dX11_starts_67 : decode cX11_starts 67 = .ok (.iaload, 1) := by decide +kernel
theorem dX11_starts_68 : decode cX11_starts 68 = .ok (.goto 4, 3) := by decide +kernel
theorem dX11_starts_71 : decode cX11_starts 71 = .ok (.iconst 0, 1) := by decide +kernel
theorem dX11_starts_72 : decode cX11_starts 72 = .ok (.iastore, 1) := by decide +kernel
theorem dX11_starts_73 : decode cX11_starts 73 = .ok (.iinc 2 1, 3) := by decide +kernel
theorem dX11_starts_76 : decode cX11_starts 76 = .ok (.goto (-40), 3) := by decide +kernel
theorem dX11_starts_79 : decode cX11_starts 79 = .ok (.iconst 0, 1) := by decide +kernel
theorem dX11_starts_80 : decode cX11_starts 80 = .ok (.istore_n 2, 1) := by decide +kernel
theorem dX11_starts_81 : decode cX11_starts 81 = .ok (.iload_n 2, 1) := by decide +kernel
theorem dX11_starts_82 : decode cX11_starts 82 = .ok (.bipush 8, 2) := by decide +kernel
theorem dX11_starts_84 : decode cX11_starts 84 = .ok (.if_icmp .ge 33, 3) := by decide +kernel
theorem dX11_starts_87 : decode cX11_starts 87 = .ok (.aload_n 0, 1) := by decide +kernel
theorem dX11_starts_88 : decode cX11_starts 88 = .ok (.getfield 102, 3) := by decide +kernel
theorem dX11_starts_91 : decode cX11_starts 91 = .ok (.bipush 8, 2) := by decide +kernel
theorem dX11_starts_93 : decode cX11_starts 93 = .ok (.iload_n 1, 1) := by decide +kernel
theorem dX11_starts_94 : decode cX11_starts 94 = .ok (.imul, 1) := by decide +kernel
theorem dX11_starts_95 : decode cX11_starts 95 = .ok (.iload_n 2, 1) := by decide +kernel
theorem dX11_starts_96 : decode cX11_starts 96 = .ok (.iadd, 1) := by decide +kernel
theorem dX11_starts_97 : decode cX11_starts 97 = .ok (.iconst 0, 1) := by decide +kernel
theorem dX11_starts_98 : decode cX11_starts 98 = .ok (.iastore, 1) := by decide +kernel
theorem dX11_starts_99 : decode cX11_starts 99 = .ok (.aload_n 0, 1) := by decide +kernel
theorem dX11_starts_100 : decode cX11_starts 100 = .ok (.getfield 105, 3) := by decide +kernel
theorem dX11_starts_103 : decode cX11_starts 103 = .ok (.bipush 8, 2) := by decide +kernel
theorem dX11_starts_105 : decode cX11_starts 105 = .ok (.iload_n 1, 1) := by decide +kernel
theorem dX11_starts_106 : decode cX11_starts 106 = .ok (.imul, 1) := by decide +kernel
theorem dX11_starts_107 : decode cX11_starts 107 = .ok (.iload_n 2, 1) := by decide +kernel
theorem dX11_starts_108 : decode cX11_starts 108 = .ok (.iadd, 1) := by decide +kernel
theorem dX11_starts_109 : decode cX11_starts 109 = .ok (.iconst 0, 1) := by decide +kernel
theorem dX11_starts_110 : decode cX11_starts 110 = .ok (.iastore, 1) := by decide +kernel
theorem dX11_starts_111 : decode cX11_starts 111 = .ok (.iinc 2 1, 3) := by decide +kernel
theorem dX11_starts_114 : decode cX11_starts 114 = .ok (.goto (-33), 3) := by decide +kernel
theorem dX11_starts_117 : decode cX11_starts 117 = .ok (.return_, 1) := by decide +kernel
theorem dX11_begins_0 : decode cX11_begins 0 = .ok (.aload_n 0, 1) := by decide +kernel
theorem dX11_begins_1 : decode cX11_begins 1 = .ok (.iconst 0, 1) := by decide +kernel
theorem dX11_begins_2 : decode cX11_begins 2 = .ok (.invokevirtual 343, 3) := by decide +kernel
theorem dX11_begins_5 : decode cX11_begins 5 = .ok (.return_, 1) := by decide +kernel
theorem dX11_copies_0 : decode cX11_copies 0 = .ok (.aload_n 0, 1) := by decide +kernel
theorem dX11_copies_1 : decode cX11_copies 1 = .ok (.getfield 87, 3) := by decide +kernel
theorem dX11_copies_4 : decode cX11_copies 4 = .ok (.iload_n 1, 1) := by decide +kernel
theorem dX11_copies_5 : decode cX11_copies 5 = .ok (.aload_n 0, 1) := by decide +kernel
theorem dX11_copies_6 : decode cX11_copies 6 = .ok (.getfield 87, 3) := by decide +kernel
theorem dX11_copies_9 : decode cX11_copies 9 = .ok (.iload_n 2, 1) := by decide +kernel
theorem dX11_copies_10 : decode cX11_copies 10 = .ok (.iaload, 1) := by decide +kernel
theorem dX11_copies_11 : decode cX11_copies 11 = .ok (.iastore, 1) := by decide +kernel
theorem dX11_copies_12 : decode cX11_copies 12 = .ok (.aload_n 0, 1) := by decide +kernel
theorem dX11_copies_13 : decode cX11_copies 13 = .ok (.getfield 90, 3) := by decide +kernel
theorem dX11_copies_16 : decode cX11_copies 16 = .ok (.iload_n 1, 1) := by decide +kernel
theorem dX11_copies_17 : decode cX11_copies 17 = .ok (.aload_n 0, 1) := by decide +kernel
theorem dX11_copies_18 : decode cX11_copies 18 = .ok (.getfield 90, 3) := by decide +kernel
theorem dX11_copies_21 : decode cX11_copies 21 = .ok (.iload_n 2, 1) := by decide +kernel
theorem dX11_copies_22 : decode cX11_copies 22 = .ok (.iaload, 1) := by decide +kernel
theorem dX11_copies_23 : decode cX11_copies 23 = .ok (.iastore, 1) := by decide +kernel
theorem dX11_copies_24 : decode cX11_copies 24 = .ok (.aload_n 0, 1) := by decide +kernel
theorem dX11_copies_25 : decode cX11_copies 25 = .ok (.getfield 93, 3) := by decide +kernel
theorem dX11_copies_28 : decode cX11_copies 28 = .ok (.iload_n 1, 1) := by decide +kernel
theorem dX11_copies_29 : decode cX11_copies 29 = .ok (.aload_n 0, 1) := by decide +kernel
theorem dX11_copies_30 : decode cX11_copies 30 = .ok (.getfield 93, 3) := by decide +kernel
theorem dX11_copies_33 : decode cX11_copies 33 = .ok (.iload_n 2, 1) := by decide +kernel
theorem dX11_copies_34 : decode cX11_copies 34 = .ok (.iaload, 1) := by decide +kernel
theorem dX11_copies_35 : decode cX11_copies 35 = .ok (.iastore, 1) := by decide +kernel
theorem dX11_copies_36 : decode cX11_copies 36 = .ok (.aload_n 0, 1) := by decide +kernel
theorem dX11_copies_37 : decode cX11_copies 37 = .ok (.getfield 96, 3) := by decide +kernel
theorem dX11_copies_40 : decode cX11_copies 40 = .ok (.iload_n 1, 1) := by decide +kernel
theorem dX11_copies_41 : decode cX11_copies 41 = .ok (.aload_n 0, 1) := by decide +kernel
theorem dX11_copies_42 : decode cX11_copies 42 = .ok (.getfield 96, 3) := by decide +kernel
theorem dX11_copies_45 : decode cX11_copies 45 = .ok (.iload_n 2, 1) := by decide +kernel
theorem dX11_copies_46 : decode cX11_copies 46 = .ok (.iaload, 1) := by decide +kernel
theorem dX11_copies_47 : decode cX11_copies 47 = .ok (.iastore, 1) := by decide +kernel
theorem dX11_copies_48 : decode cX11_copies 48 = .ok (.iconst 0, 1) := by decide +kernel
theorem dX11_copies_49 : decode cX11_copies 49 = .ok (.istore_n 3, 1) := by decide +kernel
theorem dX11_copies_50 : decode cX11_copies 50 = .ok (.iload_n 3, 1) := by decide +kernel
theorem dX11_copies_51 : decode cX11_copies 51 = .ok (.bipush 7, 2) := by decide +kernel
theorem dX11_copies_53 : decode cX11_copies 53 = .ok (.if_icmp .ge 31, 3) := by decide +kernel
theorem dX11_copies_56 : decode cX11_copies 56 = .ok (.aload_n 0, 1) := by decide +kernel
theorem dX11_copies_57 : decode cX11_copies 57 = .ok (.getfield 99, 3) := by decide +kernel
theorem dX11_copies_60 : decode cX11_copies 60 = .ok (.bipush 7, 2) := by decide +kernel
theorem dX11_copies_62 : decode cX11_copies 62 = .ok (.iload_n 1, 1) := by decide +kernel
theorem dX11_copies_63 : decode cX11_copies 63 = .ok (.imul, 1) := by decide +kernel
theorem dX11_copies_64 : decode cX11_copies 64 = .ok (.iload_n 3, 1) := by decide +kernel
theorem dX11_copies_65 : decode cX11_copies 65 = .ok (.iadd, 1) := by decide +kernel
theorem dX11_copies_66 : decode cX11_copies 66 = .ok (.aload_n 0, 1) := by decide +kernel
theorem dX11_copies_67 : decode cX11_copies 67 = .ok (.getfield 99, 3) := by decide +kernel
theorem dX11_copies_70 : decode cX11_copies 70 = .ok (.bipush 7, 2) := by decide +kernel
theorem dX11_copies_72 : decode cX11_copies 72 = .ok (.iload_n 2, 1) := by decide +kernel
theorem dX11_copies_73 : decode cX11_copies 73 = .ok (.imul, 1) := by decide +kernel
theorem dX11_copies_74 : decode cX11_copies 74 = .ok (.iload_n 3, 1) := by decide +kernel
theorem dX11_copies_75 : decode cX11_copies 75 = .ok (.iadd, 1) := by decide +kernel
theorem dX11_copies_76 : decode cX11_copies 76 = .ok (.iaload, 1) := by decide +kernel
theorem dX11_copies_77 : decode cX11_copies 77 = .ok (.iastore, 1) := by decide +kernel
theorem dX11_copies_78 : decode cX11_copies 78 = .ok (.iinc 3 1, 3) := by decide +kernel
theorem dX11_copies_81 : decode cX11_copies 81 = .ok (.goto (-31), 3) := by decide +kernel
theorem dX11_copies_84 : decode cX11_copies 84 = .ok (.iconst 0, 1) := by decide +kernel
theorem dX11_copies_85 : decode cX11_copies 85 = .ok (.istore_n 3, 1) := by decide +kernel
theorem dX11_copies_86 : decode cX11_copies 86 = .ok (.iload_n 3, 1) := by decide +kernel
theorem dX11_copies_87 : decode cX11_copies 87 = .ok (.bipush 8, 2) := by decide +kernel
theorem dX11_copies_89 : decode cX11_copies 89 = .ok (.if_icmp .ge 53, 3) := by decide +kernel
theorem dX11_copies_92 : decode cX11_copies 92 = .ok (.aload_n 0, 1) := by decide +kernel
theorem dX11_copies_93 : decode cX11_copies 93 = .ok (.getfield 102, 3) := by decide +kernel
theorem dX11_copies_96 : decode cX11_copies 96 = .ok (.bipush 8, 2) := by decide +kernel
theorem dX11_copies_98 : decode cX11_copies 98 = .ok (.iload_n 1, 1) := by decide +kernel
theorem dX11_copies_99 : decode cX11_copies 99 = .ok (.imul, 1) := by decide +kernel
theorem dX11_copies_100 : decode cX11_copies 100 = .ok (.iload_n 3, 1) := by decide +kernel
theorem dX11_copies_101 : decode cX11_copies 101 = .ok (.iadd, 1) := by decide +kernel
theorem dX11_copies_102 : decode cX11_copies 102 = .ok (.aload_n 0, 1) := by decide +kernel
theorem dX11_copies_103 : decode cX11_copies 103 = .ok (.getfield 102, 3) := by decide +kernel
theorem dX11_copies_106 : decode cX11_copies 106 = .ok (.bipush 8, 2) := by decide +kernel
theorem dX11_copies_108 : decode cX11_copies 108 = .ok (.iload_n 2, 1) := by decide +kernel
theorem dX11_copies_109 : decode cX11_copies 109 = .ok (.imul, 1) := by decide +kernel
theorem dX11_copies_110 : decode cX11_copies 110 = .ok (.iload_n 3, 1) := by decide +kernel
theorem dX11_copies_111 : decode cX11_copies 111 = .ok (.iadd, 1) := by decide +kernel
theorem dX11_copies_112 : decode cX11_copies 112 = .ok (.iaload, 1) := by decide +kernel
theorem dX11_copies_113 : decode cX11_copies 113 = .ok (.iastore, 1) := by decide +kernel
theorem dX11_copies_114 : decode cX11_copies 114 = .ok (.aload_n 0, 1) := by decide +kernel
theorem dX11_copies_115 : decode cX11_copies 115 = .ok (.getfield 105, 3) := by decide +kernel
theorem dX11_copies_118 : decode cX11_copies 118 = .ok (.bipush 8, 2) := by decide +kernel
theorem dX11_copies_120 : decode cX11_copies 120 = .ok (.iload_n 1, 1) := by decide +kernel
theorem dX11_copies_121 : decode cX11_copies 121 = .ok (.imul, 1) := by decide +kernel
theorem dX11_copies_122 : decode cX11_copies 122 = .ok (.iload_n 3, 1) := by decide +kernel
theorem dX11_copies_123 : decode cX11_copies 123 = .ok (.iadd, 1) := by decide +kernel
theorem dX11_copies_124 : decode cX11_copies 124 = .ok (.aload_n 0, 1) := by decide +kernel
theorem dX11_copies_125 : decode cX11_copies 125 = .ok (.getfield 105, 3) := by decide +kernel
theorem dX11_copies_128 : decode cX11_copies 128 = .ok (.bipush 8, 2) := by decide +kernel
theorem dX11_copies_130 : decode cX11_copies 130 = .ok (.iload_n 2, 1) := by decide +kernel
theorem dX11_copies_131 : decode cX11_copies 131 = .ok (.imul, 1) := by decide +kernel
theorem dX11_copies_132 : decode cX11_copies 132 = .ok (.iload_n 3, 1) := by decide +kernel
theorem dX11_copies_133 : decode cX11_copies 133 = .ok (.iadd, 1) := by decide +kernel
theorem dX11_copies_134 : decode cX11_copies 134 = .ok (.iaload, 1) := by decide +kernel
theorem dX11_copies_135 : decode cX11_copies 135 = .ok (.iastore, 1) := by decide +kernel
theorem dX11_copies_136 : decode cX11_copies 136 = .ok (.iinc 3 1, 3) := by decide +kernel
theorem dX11_copies_139 : decode cX11_copies 139 = .ok (.goto (-53), 3) := by decide +kernel
theorem dX11_copies_142 : decode cX11_copies 142 = .ok (.return_, 1) := by decide +kernel
theorem dX11_isPond_0 : decode cX11_isPond 0 = .ok (.iload_n 1, 1) := by decide +kernel
theorem dX11_isPond_1 : decode cX11_isPond 1 = .ok (.ifCond .lt 17, 3) := by decide +kernel
theorem dX11_isPond_4 : decode cX11_isPond 4 = .ok (.iload_n 1, 1) := by decide +kernel
theorem dX11_isPond_5 : decode cX11_isPond 5 = .ok (.aload_n 0, 1) := by decide +kernel
theorem dX11_isPond_6 : decode cX11_isPond 6 = .ok (.getfield 13, 3) := by decide +kernel
theorem dX11_isPond_9 : decode cX11_isPond 9 = .ok (.iconst 0, 1) := by decide +kernel
theorem dX11_isPond_10 : decode cX11_isPond 10 = .ok (.iaload, 1) := by decide +kernel
theorem dX11_isPond_11 : decode cX11_isPond 11 = .ok (.if_icmp .ge 7, 3) := by decide +kernel
theorem dX11_isPond_14 : decode cX11_isPond 14 = .ok (.iconst 1, 1) := by decide +kernel
theorem dX11_isPond_15 : decode cX11_isPond 15 = .ok (.goto 4, 3) := by decide +kernel
theorem dX11_isPond_18 : decode cX11_isPond 18 = .ok (.iconst 0, 1) := by decide +kernel
theorem dX11_isPond_19 : decode cX11_isPond 19 = .ok (.ireturn, 1) := by decide +kernel
theorem dX11_isPipe_0 : decode cX11_isPipe 0 = .ok (.iload_n 1, 1) := by decide +kernel
theorem dX11_isPipe_1 : decode cX11_isPipe 1 = .ok (.ifCond .lt 17, 3) := by decide +kernel
theorem dX11_isPipe_4 : decode cX11_isPipe 4 = .ok (.iload_n 1, 1) := by decide +kernel
theorem dX11_isPipe_5 : decode cX11_isPipe 5 = .ok (.aload_n 0, 1) := by decide +kernel
theorem dX11_isPipe_6 : decode cX11_isPipe 6 = .ok (.getfield 13, 3) := by decide +kernel
theorem dX11_isPipe_9 : decode cX11_isPipe 9 = .ok (.iconst 2, 1) := by decide +kernel
theorem dX11_isPipe_10 : decode cX11_isPipe 10 = .ok (.iaload, 1) := by decide +kernel
theorem dX11_isPipe_11 : decode cX11_isPipe 11 = .ok (.if_icmp .ge 7, 3) := by decide +kernel
theorem dX11_isPipe_14 : decode cX11_isPipe 14 = .ok (.iconst 1, 1) := by decide +kernel
theorem dX11_isPipe_15 : decode cX11_isPipe 15 = .ok (.goto 4, 3) := by decide +kernel
theorem dX11_isPipe_18 : decode cX11_isPipe 18 = .ok (.iconst 0, 1) := by decide +kernel
theorem dX11_isPipe_19 : decode cX11_isPipe 19 = .ok (.ireturn, 1) := by decide +kernel
theorem dX11_isLock_0 : decode cX11_isLock 0 = .ok (.iload_n 1, 1) := by decide +kernel
theorem dX11_isLock_1 : decode cX11_isLock 1 = .ok (.ifCond .lt 17, 3) := by decide +kernel
theorem dX11_isLock_4 : decode cX11_isLock 4 = .ok (.iload_n 1, 1) := by decide +kernel
theorem dX11_isLock_5 : decode cX11_isLock 5 = .ok (.aload_n 0, 1) := by decide +kernel
theorem dX11_isLock_6 : decode cX11_isLock 6 = .ok (.getfield 13, 3) := by decide +kernel
theorem dX11_isLock_9 : decode cX11_isLock 9 = .ok (.iconst 1, 1) := by decide +kernel
theorem dX11_isLock_10 : decode cX11_isLock 10 = .ok (.iaload, 1) := by decide +kernel
theorem dX11_isLock_11 : decode cX11_isLock 11 = .ok (.if_icmp .ge 7, 3) := by decide +kernel
theorem dX11_isLock_14 : decode cX11_isLock 14 = .ok (.iconst 1, 1) := by decide +kernel
theorem dX11_isLock_15 : decode cX11_isLock 15 = .ok (.goto 4, 3) := by decide +kernel
theorem dX11_isLock_18 : decode cX11_isLock 18 = .ok (.iconst 0, 1) := by decide +kernel
theorem dX11_isLock_19 : decode cX11_isLock 19 = .ok (.ireturn, 1) := by decide +kernel
theorem dX11_isBoat_0 : decode cX11_isBoat 0 = .ok (.iload_n 1, 1) := by decide +kernel
theorem dX11_isBoat_1 : decode cX11_isBoat 1 = .ok (.ifCond .lt 17, 3) := by decide +kernel
theorem dX11_isBoat_4 : decode cX11_isBoat 4 = .ok (.iload_n 1, 1) := by decide +kernel
theorem dX11_isBoat_5 : decode cX11_isBoat 5 = .ok (.aload_n 0, 1) := by decide +kernel
theorem dX11_isBoat_6 : decode cX11_isBoat 6 = .ok (.getfield 13, 3) := by decide +kernel
theorem dX11_isBoat_9 : decode cX11_isBoat 9 = .ok (.iconst 4, 1) := by decide +kernel
theorem dX11_isBoat_10 : decode cX11_isBoat 10 = .ok (.iaload, 1) := by decide +kernel
theorem dX11_isBoat_11 : decode cX11_isBoat 11 = .ok (.if_icmp .ge 7, 3) := by decide +kernel
theorem dX11_isBoat_14 : decode cX11_isBoat 14 = .ok (.iconst 1, 1) := by decide +kernel
theorem dX11_isBoat_15 : decode cX11_isBoat 15 = .ok (.goto 4, 3) := by decide +kernel
theorem dX11_isBoat_18 : decode cX11_isBoat 18 = .ok (.iconst 0, 1) := by decide +kernel
theorem dX11_isBoat_19 : decode cX11_isBoat 19 = .ok (.ireturn, 1) := by decide +kernel
theorem dX11_bitsOf_0 : decode cX11_bitsOf 0 = .ok (.iconst 0, 1) := by decide +kernel
theorem dX11_bitsOf_1 : decode cX11_bitsOf 1 = .ok (.istore_n 1, 1) := by decide +kernel
theorem dX11_bitsOf_2 : decode cX11_bitsOf 2 = .ok (.iconst 0, 1) := by decide +kernel
theorem dX11_bitsOf_3 : decode cX11_bitsOf 3 = .ok (.istore_n 2, 1) := by decide +kernel
theorem dX11_bitsOf_4 : decode cX11_bitsOf 4 = .ok (.iload_n 2, 1) := by decide +kernel
theorem dX11_bitsOf_5 : decode cX11_bitsOf 5 = .ok (.bipush 10, 2) := by decide +kernel
theorem dX11_bitsOf_7 : decode cX11_bitsOf 7 = .ok (.if_icmp .ge 17, 3) := by decide +kernel
theorem dX11_bitsOf_10 : decode cX11_bitsOf 10 = .ok (.iload_n 1, 1) := by decide +kernel
theorem dX11_bitsOf_11 : decode cX11_bitsOf 11 = .ok (.iload_n 0, 1) := by decide +kernel
theorem dX11_bitsOf_12 : decode cX11_bitsOf 12 = .ok (.iload_n 2, 1) := by decide +kernel
theorem dX11_bitsOf_13 : decode cX11_bitsOf 13 = .ok (.ishr, 1) := by decide +kernel
theorem dX11_bitsOf_14 : decode cX11_bitsOf 14 = .ok (.iconst 1, 1) := by decide +kernel
theorem dX11_bitsOf_15 : decode cX11_bitsOf 15 = .ok (.iand, 1) := by decide +kernel
theorem dX11_bitsOf_16 : decode cX11_bitsOf 16 = .ok (.iadd, 1) := by decide +kernel
theorem dX11_bitsOf_17 : decode cX11_bitsOf 17 = .ok (.istore_n 1, 1) := by decide +kernel
theorem dX11_bitsOf_18 : decode cX11_bitsOf 18 = .ok (.iinc 2 1, 3) := by decide +kernel
theorem dX11_bitsOf_21 : decode cX11_bitsOf 21 = .ok (.goto (-17), 3) := by decide +kernel
theorem dX11_bitsOf_24 : decode cX11_bitsOf 24 = .ok (.iload_n 1, 1) := by decide +kernel
theorem dX11_bitsOf_25 : decode cX11_bitsOf 25 = .ok (.ireturn, 1) := by decide +kernel
theorem dX11_fullOf_0 : decode cX11_fullOf 0 = .ok (.aload_n 0, 1) := by decide +kernel
theorem dX11_fullOf_1 : decode cX11_fullOf 1 = .ok (.getfield 22, 3) := by decide +kernel
theorem dX11_fullOf_4 : decode cX11_fullOf 4 = .ok (.iload_n 2, 1) := by decide +kernel
theorem dX11_fullOf_5 : decode cX11_fullOf 5 = .ok (.iaload, 1) := by decide +kernel
theorem dX11_fullOf_6 : decode cX11_fullOf 6 = .ok (.aload_n 0, 1) := by decide +kernel
theorem dX11_fullOf_7 : decode cX11_fullOf 7 = .ok (.getfield 19, 3) := by decide +kernel
theorem dX11_fullOf_10 : decode cX11_fullOf 10 = .ok (.iload_n 2, 1) := by decide +kernel
theorem dX11_fullOf_11 : decode cX11_fullOf 11 = .ok (.iaload, 1) := by decide +kernel
theorem dX11_fullOf_12 : decode cX11_fullOf 12 = .ok (.imul, 1) := by decide +kernel
theorem dX11_fullOf_13 : decode cX11_fullOf 13 = .ok (.aload_n 0, 1) := by decide +kernel
theorem dX11_fullOf_14 : decode cX11_fullOf 14 = .ok (.getfield 99, 3) := by decide +kernel
theorem dX11_fullOf_17 : decode cX11_fullOf 17 = .ok (.bipush 7, 2) := by decide +kernel
theorem dX11_fullOf_19 : decode cX11_fullOf 19 = .ok (.iload_n 1, 1) := by decide +kernel
theorem dX11_fullOf_20 : decode cX11_fullOf 20 = .ok (.imul, 1) := by decide +kernel
theorem dX11_fullOf_21 : decode cX11_fullOf 21 = .ok (.iload_n 2, 1) := by decide +kernel
theorem dX11_fullOf_22 : decode cX11_fullOf 22 = .ok (.iadd, 1) := by decide +kernel
theorem dX11_fullOf_23 : decode cX11_fullOf 23 = .ok (.iaload, 1) := by decide +kernel
theorem dX11_fullOf_24 : decode cX11_fullOf 24 = .ok (.iadd, 1) := by decide +kernel
theorem dX11_fullOf_25 : decode cX11_fullOf 25 = .ok (.ireturn, 1) := by decide +kernel
theorem dX11_higherBy_0 : decode cX11_higherBy 0 = .ok (.aload_n 0, 1) := by decide +kernel
theorem dX11_higherBy_1 : decode cX11_higherBy 1 = .ok (.iload_n 1, 1) := by decide +kernel
theorem dX11_higherBy_2 : decode cX11_higherBy 2 = .ok (.iload_n 2, 1) := by decide +kernel
theorem dX11_higherBy_3 : decode cX11_higherBy 3 = .ok (.invokevirtual 346, 3) := by decide +kernel
theorem dX11_higherBy_6 : decode cX11_higherBy 6 = .ok (.aload_n 0, 1) := by decide +kernel
theorem dX11_higherBy_7 : decode cX11_higherBy 7 = .ok (.getfield 19, 3) := by decide +kernel
theorem dX11_higherBy_10 : decode cX11_higherBy 10 = .ok (.iload_n 3, 1) := by decide +kernel
theorem dX11_higherBy_11 : decode cX11_higherBy 11 = .ok (.iaload, 1) := by decide +kernel
theorem dX11_higherBy_12 : decode cX11_higherBy 12 = .ok (.imul, 1) := by decide +kernel
theorem dX11_higherBy_13 : decode cX11_higherBy 13 = .ok (.aload_n 0, 1) := by decide +kernel
theorem dX11_higherBy_14 : decode cX11_higherBy 14 = .ok (.iload_n 1, 1) := by decide +kernel
theorem dX11_higherBy_15 : decode cX11_higherBy 15 = .ok (.iload_n 3, 1) := by decide +kernel
theorem dX11_higherBy_16 : decode cX11_higherBy 16 = .ok (.invokevirtual 346, 3) := by decide +kernel
theorem dX11_higherBy_19 : decode cX11_higherBy 19 = .ok (.aload_n 0, 1) := by decide +kernel
theorem dX11_higherBy_20 : decode cX11_higherBy 20 = .ok (.getfield 19, 3) := by decide +kernel
theorem dX11_higherBy_23 : decode cX11_higherBy 23 = .ok (.iload_n 2, 1) := by decide +kernel
theorem dX11_higherBy_24 : decode cX11_higherBy 24 = .ok (.iaload, 1) := by decide +kernel
theorem dX11_higherBy_25 : decode cX11_higherBy 25 = .ok (.imul, 1) := by decide +kernel
theorem dX11_higherBy_26 : decode cX11_higherBy 26 = .ok (.isub, 1) := by decide +kernel
theorem dX11_higherBy_27 : decode cX11_higherBy 27 = .ok (.ireturn, 1) := by decide +kernel
theorem dX11_isHigh_0 : decode cX11_isHigh 0 = .ok (.aload_n 0, 1) := by decide +kernel
theorem dX11_isHigh_1 : decode cX11_isHigh 1 = .ok (.iload_n 1, 1) := by decide +kernel
theorem dX11_isHigh_2 : decode cX11_isHigh 2 = .ok (.iload_n 2, 1) := by decide +kernel
theorem dX11_isHigh_3 : decode cX11_isHigh 3 = .ok (.invokevirtual 346, 3) := by decide +kernel
theorem dX11_isHigh_6 : decode cX11_isHigh 6 = .ok (.iload_n 3, 1) := by decide +kernel
theorem dX11_isHigh_7 : decode cX11_isHigh 7 = .ok (.aload_n 0, 1) := by decide +kernel
theorem dX11_isHigh_8 : decode cX11_isHigh 8 = .ok (.getfield 19, 3) := by decide +kernel
theorem dX11_isHigh_11 : decode cX11_isHigh 11 = .ok (.iload_n 2, 1) := by decide +kernel
theorem dX11_isHigh_12 : decode cX11_isHigh 12 = .ok (.iaload, 1) := by decide +kernel
theorem dX11_isHigh_13 : decode cX11_isHigh 13 = .ok (.imul, 1) := by decide +kernel
theorem dX11_isHigh_14 : decode cX11_isHigh 14 = .ok (.if_icmp .lt 7, 3) := by decide +kernel
theorem dX11_isHigh_17 : decode cX11_isHigh 17 = .ok (.iconst 1, 1) := by decide +kernel
theorem dX11_isHigh_18 : decode cX11_isHigh 18 = .ok (.goto 4, 3) := by decide +kernel
theorem dX11_isHigh_21 : decode cX11_isHigh 21 = .ok (.iconst 0, 1) := by decide +kernel
theorem dX11_isHigh_22 : decode cX11_isHigh 22 = .ok (.ireturn, 1) := by decide +kernel
theorem dX11_sourceOf_0 : decode cX11_sourceOf 0 = .ok (.aload_n 0, 1) := by decide +kernel
theorem dX11_sourceOf_1 : decode cX11_sourceOf 1 = .ok (.iload_n 1, 1) := by decide +kernel
theorem dX11_sourceOf_2 : decode cX11_sourceOf 2 = .ok (.aload_n 0, 1) := by decide +kernel
theorem dX11_sourceOf_3 : decode cX11_sourceOf 3 = .ok (.getfield 40, 3) := by decide +kernel
theorem dX11_sourceOf_6 : decode cX11_sourceOf 6 = .ok (.iload_n 2, 1) := by decide +kernel
theorem dX11_sourceOf_7 : decode cX11_sourceOf 7 = .ok (.iaload, 1) := by decide +kernel
theorem dX11_sourceOf_8 : decode cX11_sourceOf 8 = .ok (.aload_n 0, 1) := by decide +kernel
theorem dX11_sourceOf_9 : decode cX11_sourceOf 9 = .ok (.getfield 43, 3) := by decide +kernel
theorem dX11_sourceOf_12 : decode cX11_sourceOf 12 = .ok (.iload_n 2, 1) := by decide +kernel
theorem dX11_sourceOf_13 : decode cX11_sourceOf 13 = .ok (.iaload, 1) := by decide +kernel
theorem dX11_sourceOf_14 : decode cX11_sourceOf 14 = .ok (.invokevirtual 349, 3) := by decide +kernel
theorem dX11_sourceOf_17 : decode cX11_sourceOf 17 = .ok (.ifCond .lt 12, 3) := by decide +kernel
theorem dX11_sourceOf_20 : decode cX11_sourceOf 20 = .ok (.aload_n 0, 1) := by decide +kernel
theorem dX11_sourceOf_21 : decode cX11_sourceOf 21 = .ok (.getfield 40, 3) := by decide +kernel
theorem dX11_sourceOf_24 : decode cX11_sourceOf 24 = .ok (.iload_n 2, 1) := by decide +kernel
theorem dX11_sourceOf_25 : decode cX11_sourceOf 25 = .ok (.iaload, 1) := by decide +kernel
theorem dX11_sourceOf_26 : decode cX11_sourceOf 26 = .ok (.goto 9, 3) := by decide +kernel
theorem dX11_sourceOf_29 : decode cX11_sourceOf 29 = .ok (.aload_n 0, 1) := by decide +kernel
theorem dX11_sourceOf_30 : decode cX11_sourceOf 30 = .ok (.getfield 43, 3) := by decide +kernel
theorem dX11_sourceOf_33 : decode cX11_sourceOf 33 = .ok (.iload_n 2, 1) := by decide +kernel
theorem dX11_sourceOf_34 : decode cX11_sourceOf 34 = .ok (.iaload, 1) := by decide +kernel
theorem dX11_sourceOf_35 : decode cX11_sourceOf 35 = .ok (.ireturn, 1) := by decide +kernel
theorem dX11_sinkOf_0 : decode cX11_sinkOf 0 = .ok (.aload_n 0, 1) := by decide +kernel
theorem dX11_sinkOf_1 : decode cX11_sinkOf 1 = .ok (.iload_n 1, 1) := by decide +kernel
theorem dX11_sinkOf_2 : decode cX11_sinkOf 2 = .ok (.iload_n 2, 1) := by decide +kernel
theorem dX11_sinkOf_3 : decode cX11_sinkOf 3 = .ok (.invokevirtual 353, 3) := by decide +kernel
theorem dX11_sinkOf_6 : decode cX11_sinkOf 6 = .ok (.aload_n 0, 1) := by decide +kernel
theorem dX11_sinkOf_7 : decode cX11_sinkOf 7 = .ok (.getfield 40, 3) := by decide +kernel
theorem dX11_sinkOf_10 : decode cX11_sinkOf 10 = .ok (.iload_n 2, 1) := by decide +kernel
theorem dX11_sinkOf_11 : decode cX11_sinkOf 11 = .ok (.iaload, 1) := by decide +kernel
theorem dX11_sinkOf_12 : decode cX11_sinkOf 12 = .ok (.if_icmp .ne 12, 3) := by decide +kernel
theorem dX11_sinkOf_15 : decode cX11_sinkOf 15 = .ok (.aload_n 0, 1) := by decide +kernel
theorem dX11_sinkOf_16 : decode cX11_sinkOf 16 = .ok (.getfield 43, 3) := by decide +kernel
theorem dX11_sinkOf_19 : decode cX11_sinkOf 19 = .ok (.iload_n 2, 1) := by decide +kernel
theorem dX11_sinkOf_20 : decode cX11_sinkOf 20 = .ok (.iaload, 1) := by decide +kernel
theorem dX11_sinkOf_21 : decode cX11_sinkOf 21 = .ok (.goto 9, 3) := by decide +kernel
theorem dX11_sinkOf_24 : decode cX11_sinkOf 24 = .ok (.aload_n 0, 1) := by decide +kernel
theorem dX11_sinkOf_25 : decode cX11_sinkOf 25 = .ok (.getfield 40, 3) := by decide +kernel
theorem dX11_sinkOf_28 : decode cX11_sinkOf 28 = .ok (.iload_n 2, 1) := by decide +kernel
theorem dX11_sinkOf_29 : decode cX11_sinkOf 29 = .ok (.iaload, 1) := by decide +kernel
theorem dX11_sinkOf_30 : decode cX11_sinkOf 30 = .ok (.ireturn, 1) := by decide +kernel
theorem dX11_runOf_0 : decode cX11_runOf 0 = .ok (.aload_n 0, 1) := by decide +kernel
theorem dX11_runOf_1 : decode cX11_runOf 1 = .ok (.iload_n 1, 1) := by decide +kernel
theorem dX11_runOf_2 : decode cX11_runOf 2 = .ok (.iload_n 2, 1) := by decide +kernel
theorem dX11_runOf_3 : decode cX11_runOf 3 = .ok (.invokevirtual 353, 3) := by decide +kernel
theorem dX11_runOf_6 : decode cX11_runOf 6 = .ok (.istore_n 3, 1) := by decide +kernel
theorem dX11_runOf_7 : decode cX11_runOf 7 = .ok (.aload_n 0, 1) := by decide +kernel
theorem dX11_runOf_8 : decode cX11_runOf 8 = .ok (.iload_n 1, 1) := by decide +kernel
theorem dX11_runOf_9 : decode cX11_runOf 9 = .ok (.iload_n 2, 1) := by decide +kernel
theorem dX11_runOf_10 : decode cX11_runOf 10 = .ok (.invokevirtual 356, 3) := by decide +kernel
theorem dX11_runOf_13 : decode cX11_runOf 13 = .ok (.istore 4, 2) := by decide +kernel
theorem dX11_runOf_15 : decode cX11_runOf 15 = .ok (.aload_n 0, 1) := by decide +kernel
theorem dX11_runOf_16 : decode cX11_runOf 16 = .ok (.getfield 99, 3) := by decide +kernel
theorem dX11_runOf_19 : decode cX11_runOf 19 = .ok (.bipush 7, 2) := by decide +kernel
theorem dX11_runOf_21 : decode cX11_runOf 21 = .ok (.iload_n 1, 1) := by decide +kernel
theorem dX11_runOf_22 : decode cX11_runOf 22 = .ok (.imul, 1) := by decide +kernel
theorem dX11_runOf_23 : decode cX11_runOf 23 = .ok (.iload_n 3, 1) := by decide +kernel
theorem dX11_runOf_24 : decode cX11_runOf 24 = .ok (.iadd, 1) := by decide +kernel
theorem dX11_runOf_25 : decode cX11_runOf 25 = .ok (.iaload, 1) := by decide +kernel
theorem dX11_runOf_26 : decode cX11_runOf 26 = .ok (.aload_n 0, 1) := by decide +kernel
theorem dX11_runOf_27 : decode cX11_runOf 27 = .ok (.iload_n 1, 1) := by decide +kernel
theorem dX11_runOf_28 : decode cX11_runOf 28 = .ok (.iload_n 3, 1) := by decide +kernel
theorem dX11_runOf_29 : decode cX11_runOf 29 = .ok (.iload 4, 2) := by decide +kernel
theorem dX11_runOf_31 : decode cX11_runOf 31 = .ok (.invokevirtual 349, 3) := by decide +kernel
theorem dX11_runOf_34 : decode cX11_runOf 34 = .ok (.aload_n 0, 1) := by decide +kernel
theorem dX11_runOf_35 : decode cX11_runOf 35 = .ok (.getfield 19, 3) := by decide +kernel
theorem dX11_runOf_38 : decode cX11_runOf 38 = .ok (.iload_n 3, 1) := by decide +kernel
theorem dX11_runOf_39 : decode cX11_runOf 39 = .ok (.iaload, 1) := by decide +kernel
theorem dX11_runOf_40 : decode cX11_runOf 40 = .ok (.aload_n 0, 1) := by decide +kernel
theorem dX11_runOf_41 : decode cX11_runOf 41 = .ok (.getfield 19, 3) := by decide +kernel
theorem dX11_runOf_44 : decode cX11_runOf 44 = .ok (.iload 4, 2) := by decide +kernel
theorem dX11_runOf_46 : decode cX11_runOf 46 = .ok (.iaload, 1) := by decide +kernel
theorem dX11_runOf_47 : decode cX11_runOf 47 = .ok (.iadd, 1) := by decide +kernel
theorem dX11_runOf_48 : decode cX11_runOf 48 = .ok (.idiv, 1) := by decide +kernel
theorem dX11_runOf_49 : decode cX11_runOf 49 = .ok (.invokestatic 359, 3) := by decide +kernel
theorem dX11_runOf_52 : decode cX11_runOf 52 = .ok (.ireturn, 1) := by decide +kernel
theorem dX11_flows_0 : decode cX11_flows 0 = .ok (.iload_n 3, 1) := by decide +kernel
theorem dX11_flows_1 : decode cX11_flows 1 = .ok (.aload_n 0, 1) := by decide +kernel
theorem dX11_flows_2 : decode cX11_flows 2 = .ok (.iload_n 1, 1) := by decide +kernel
theorem dX11_flows_3 : decode cX11_flows 3 = .ok (.iload_n 2, 1) := by decide +kernel
theorem dX11_flows_4 : decode cX11_flows 4 = .ok (.invokevirtual 362, 3) := by decide +kernel
theorem dX11_flows_7 : decode cX11_flows 7 = .ok (.invokestatic 359, 3) := by decide +kernel
theorem dX11_flows_10 : decode cX11_flows 10 = .ok (.istore 4, 2) := by decide +kernel
theorem dX11_flows_12 : decode cX11_flows 12 = .ok (.aload_n 0, 1) := by decide +kernel
theorem dX11_flows_13 : decode cX11_flows 13 = .ok (.iload_n 1, 1) := by decide +kernel
theorem dX11_flows_14 : decode cX11_flows 14 = .ok (.iload_n 2, 1) := by decide +kernel
theorem dX11_flows_15 : decode cX11_flows 15 = .ok (.invokevirtual 353, 3) := by decide +kernel
theorem dX11_flows_18 : decode cX11_flows 18 = .ok (.istore 5, 2) := by decide +kernel
theorem dX11_flows_20 : decode cX11_flows 20 = .ok (.aload_n 0, 1) := by decide +kernel
theorem dX11_flows_21 : decode cX11_flows 21 = .ok (.iload_n 1, 1) := by decide +kernel
theorem dX11_flows_22 : decode cX11_flows 22 = .ok (.iload_n 2, 1) := by decide +kernel
theorem dX11_flows_23 : decode cX11_flows 23 = .ok (.invokevirtual 356, 3) := by decide +kernel
theorem dX11_flows_26 : decode cX11_flows 26 = .ok (.istore 6, 2) := by decide +kernel
theorem dX11_flows_28 : decode cX11_flows 28 = .ok (.aload_n 0, 1) := by decide +kernel
theorem dX11_flows_29 : decode cX11_flows 29 = .ok (.getfield 99, 3) := by decide +kernel
theorem dX11_flows_32 : decode cX11_flows 32 = .ok (.bipush 7, 2) := by decide +kernel
theorem dX11_flows_34 : decode cX11_flows 34 = .ok (.iload_n 1, 1) := by decide +kernel
theorem dX11_flows_35 : decode cX11_flows 35 = .ok (.imul, 1) := by decide +kernel
theorem dX11_flows_36 : decode cX11_flows 36 = .ok (.iload 5, 2) := by decide +kernel
theorem dX11_flows_38 : decode cX11_flows 38 = .ok (.iadd, 1) := by decide +kernel
theorem dX11_flows_39 : decode cX11_flows 39 = .ok (.dup2, 1) := by decide +kernel
theorem dX11_flows_40 : decode cX11_flows 40 = .ok (.iaload, 1) := by decide +kernel
theorem dX11_flows_41 : decode cX11_flows 41 = .ok (.iload 4, 2) := by decide +kernel
theorem dX11_flows_43 : decode cX11_flows 43 = .ok (.isub, 1) := by decide +kernel
theorem dX11_flows_44 : decode cX11_flows 44 = .ok (.iastore, 1) := by decide +kernel
theorem dX11_flows_45 : decode cX11_flows 45 = .ok (.aload_n 0, 1) := by decide +kernel
theorem dX11_flows_46 : decode cX11_flows 46 = .ok (.getfield 99, 3) := by decide +kernel
theorem dX11_flows_49 : decode cX11_flows 49 = .ok (.bipush 7, 2) := by decide +kernel
theorem dX11_flows_51 : decode cX11_flows 51 = .ok (.iload_n 1, 1) := by decide +kernel
theorem dX11_flows_52 : decode cX11_flows 52 = .ok (.imul, 1) := by decide +kernel
theorem dX11_flows_53 : decode cX11_flows 53 = .ok (.iload 6, 2) := by decide +kernel
theorem dX11_flows_55 : decode cX11_flows 55 = .ok (.iadd, 1) := by decide +kernel
theorem dX11_flows_56 : decode cX11_flows 56 = .ok (.dup2, 1) := by decide +kernel
theorem dX11_flows_57 : decode cX11_flows 57 = .ok (.iaload, 1) := by decide +kernel
theorem dX11_flows_58 : decode cX11_flows 58 = .ok (.iload 4, 2) := by decide +kernel
theorem dX11_flows_60 : decode cX11_flows 60 = .ok (.iadd, 1) := by decide +kernel
theorem dX11_flows_61 : decode cX11_flows 61 = .ok (.iastore, 1) := by decide +kernel
theorem dX11_flows_62 : decode cX11_flows 62 = .ok (.iload 4, 2) := by decide +kernel
theorem dX11_flows_64 : decode cX11_flows 64 = .ok (.ireturn, 1) := by decide +kernel
theorem dX11_isJammed_0 : decode cX11_isJammed 0 = .ok (.aload_n 0, 1) := by decide +kernel
theorem dX11_isJammed_1 : decode cX11_isJammed 1 = .ok (.getfield 96, 3) := by decide +kernel
theorem dX11_isJammed_4 : decode cX11_isJammed 4 = .ok (.iload_n 1, 1) := by decide +kernel
theorem dX11_isJammed_5 : decode cX11_isJammed 5 = .ok (.iaload, 1) := by decide +kernel
theorem dX11_isJammed_6 : decode cX11_isJammed 6 = .ok (.iload_n 2, 1) := by decide +kernel
theorem dX11_isJammed_7 : decode cX11_isJammed 7 = .ok (.ishr, 1) := by decide +kernel
theorem dX11_isJammed_8 : decode cX11_isJammed 8 = .ok (.iconst 1, 1) := by decide +kernel
theorem dX11_isJammed_9 : decode cX11_isJammed 9 = .ok (.iand, 1) := by decide +kernel
theorem dX11_isJammed_10 : decode cX11_isJammed 10 = .ok (.iconst 1, 1) := by decide +kernel
theorem dX11_isJammed_11 : decode cX11_isJammed 11 = .ok (.if_icmp .ne 7, 3) := by decide +kernel
theorem dX11_isJammed_14 : decode cX11_isJammed 14 = .ok (.iconst 1, 1) := by decide +kernel
theorem dX11_isJammed_15 : decode cX11_isJammed 15 = .ok (.goto 4, 3) := by decide +kernel
theorem dX11_isJammed_18 : decode cX11_isJammed 18 = .ok (.iconst 0, 1) := by decide +kernel
theorem dX11_isJammed_19 : decode cX11_isJammed 19 = .ok (.ireturn, 1) := by decide +kernel
theorem dX11_isTurned_0 : decode cX11_isTurned 0 = .ok (.iconst 0, 1) := by decide +kernel
theorem dX11_isTurned_1 : decode cX11_isTurned 1 = .ok (.istore_n 3, 1) := by decide +kernel
theorem dX11_isTurned_2 : decode cX11_isTurned 2 = .ok (.iload_n 3, 1) := by decide +kernel
theorem dX11_isTurned_3 : decode cX11_isTurned 3 = .ok (.aload_n 0, 1) := by decide +kernel
theorem dX11_isTurned_4 : decode cX11_isTurned 4 = .ok (.getfield 13, 3) := by decide +kernel
theorem dX11_isTurned_7 : decode cX11_isTurned 7 = .ok (.iconst 3, 1) := by decide +kernel
theorem dX11_isTurned_8 : decode cX11_isTurned 8 = .ok (.iaload, 1) := by decide +kernel
theorem dX11_isTurned_9 : decode cX11_isTurned 9 = .ok (.if_icmp .ge 58, 3) := by decide +kernel
theorem dX11_isTurned_12 : decode cX11_isTurned 12 = .ok (.aload_n 0, 1) := by decide +kernel
theorem dX11_isTurned_13 : decode cX11_isTurned 13 = .ok (.getfield 49, 3) := by decide +kernel
theorem dX11_isTurned_16 : decode cX11_isTurned 16 = .ok (.iload_n 3, 1) := by decide +kernel
theorem dX11_isTurned_17 : decode cX11_isTurned 17 = .ok (.iaload, 1) := by decide +kernel
theorem dX11_isTurned_18 : decode cX11_isTurned 18 = .ok (.iload_n 2, 1) := by decide +kernel
theorem dX11_isTurned_19 : decode cX11_isTurned 19 = .ok (.if_icmp .ne 42, 3) := by decide +kernel
theorem dX11_isTurned_22 : decode cX11_isTurned 22 = .ok (.aload_n 0, 1) := by decide +kernel
theorem dX11_isTurned_23 : decode cX11_isTurned 23 = .ok (.getfield 87, 3) := by decide +kernel
theorem dX11_isTurned_26 : decode cX11_isTurned 26 = .ok (.iload_n 1, 1) := by decide +kernel
theorem dX11_isTurned_27 : decode cX11_isTurned 27 = .ok (.iaload, 1) := by decide +kernel
theorem dX11_isTurned_28 : decode cX11_isTurned 28 = .ok (.aload_n 0, 1) := by decide +kernel
theorem dX11_isTurned_29 : decode cX11_isTurned 29 = .ok (.getfield 52, 3) := by decide +kernel
theorem dX11_isTurned_32 : decode cX11_isTurned 32 = .ok (.iload_n 3, 1) := by decide +kernel
theorem dX11_isTurned_33 : decode cX11_isTurned 33 = .ok (.iaload, 1) := by decide +kernel
theorem dX11_isTurned_34 : decode cX11_isTurned 34 = .ok (.if_icmp .lt 27, 3) := by decide +kernel
theorem dX11_isTurned_37 : decode cX11_isTurned 37 = .ok (.aload_n 0, 1) := by decide +kernel
theorem dX11_isTurned_38 : decode cX11_isTurned 38 = .ok (.getfield 87, 3) := by decide +kernel
theorem dX11_isTurned_41 : decode cX11_isTurned 41 = .ok (.iload_n 1, 1) := by decide +kernel
theorem dX11_isTurned_42 : decode cX11_isTurned 42 = .ok (.iaload, 1) := by decide +kernel
theorem dX11_isTurned_43 : decode cX11_isTurned 43 = .ok (.aload_n 0, 1) := by decide +kernel
theorem dX11_isTurned_44 : decode cX11_isTurned 44 = .ok (.getfield 52, 3) := by decide +kernel
theorem dX11_isTurned_47 : decode cX11_isTurned 47 = .ok (.iload_n 3, 1) := by decide +kernel
theorem dX11_isTurned_48 : decode cX11_isTurned 48 = .ok (.iaload, 1) := by decide +kernel
theorem dX11_isTurned_49 : decode cX11_isTurned 49 = .ok (.aload_n 0, 1) := by decide +kernel
theorem dX11_isTurned_50 : decode cX11_isTurned 50 = .ok (.getfield 55, 3) := by decide +kernel
theorem dX11_isTurned_53 : decode cX11_isTurned 53 = .ok (.iload_n 3, 1) := by decide +kernel
theorem dX11_isTurned_54 : decode cX11_isTurned 54 = .ok (.iaload, 1) := by decide +kernel
theorem dX11_isTurned_55 : decode cX11_isTurned 55 = .ok (.iadd, 1) := by decide +kernel
theorem dX11_isTurned_56 : decode cX11_isTurned 56 = .ok (.if_icmp .ge 5, 3) := by decide +kernel
theorem dX11_isTurned_59 : decode cX11_isTurned 59 = .ok (.iconst 1, 1) := by decide +kernel
theorem dX11_isTurned_60 : decode cX11_isTurned 60 = .ok (.ireturn, 1) := by decide +kernel
theorem dX11_isTurned_61 : decode cX11_isTurned 61 = .ok (.iinc 3 1, 3) := by decide +kernel
theorem dX11_isTurned_64 : decode cX11_isTurned 64 = .ok (.goto (-62), 3) := by decide +kernel
theorem dX11_isTurned_67 : decode cX11_isTurned 67 = .ok (.iconst 0, 1) := by decide +kernel
theorem dX11_isTurned_68 : decode cX11_isTurned 68 = .ok (.ireturn, 1) := by decide +kernel
theorem dX11_isOpen_0 : decode cX11_isOpen 0 = .ok (.aload_n 0, 1) := by decide +kernel
theorem dX11_isOpen_1 : decode cX11_isOpen 1 = .ok (.getfield 365, 3) := by decide +kernel
theorem dX11_isOpen_4 : decode cX11_isOpen 4 = .ok (.iconst 4, 1) := by decide +kernel
theorem dX11_isOpen_5 : decode cX11_isOpen 5 = .ok (.if_icmp .ne 5, 3) := by decide +kernel
theorem dX11_isOpen_8 : decode cX11_isOpen 8 = .ok (.iconst 1, 1) := by decide +kernel
theorem dX11_isOpen_9 : decode cX11_isOpen 9 = .ok (.ireturn, 1) := by decide +kernel
theorem dX11_isOpen_10 : decode cX11_isOpen 10 = .ok (.aload_n 0, 1) := by decide +kernel
theorem dX11_isOpen_11 : decode cX11_isOpen 11 = .ok (.getfield 365, 3) := by decide +kernel
theorem dX11_isOpen_14 : decode cX11_isOpen 14 = .ok (.iconst 2, 1) := by decide +kernel
theorem dX11_isOpen_15 : decode cX11_isOpen 15 = .ok (.if_icmp .ne 11, 3) := by decide +kernel
theorem dX11_isOpen_18 : decode cX11_isOpen 18 = .ok (.iload_n 2, 1) := by decide +kernel
theorem dX11_isOpen_19 : decode cX11_isOpen 19 = .ok (.aload_n 0, 1) := by decide +kernel
theorem dX11_isOpen_20 : decode cX11_isOpen 20 = .ok (.getfield 108, 3) := by decide +kernel
theorem dX11_isOpen_23 : decode cX11_isOpen 23 = .ok (.if_icmp .eq 25, 3) := by decide +kernel
theorem dX11_isOpen_26 : decode cX11_isOpen 26 = .ok (.aload_n 0, 1) := by decide +kernel
theorem dX11_isOpen_27 : decode cX11_isOpen 27 = .ok (.iload_n 1, 1) := by decide +kernel
theorem dX11_isOpen_28 : decode cX11_isOpen 28 = .ok (.iload_n 2, 1) := by decide +kernel
theorem dX11_isOpen_29 : decode cX11_isOpen 29 = .ok (.invokevirtual 368, 3) := by decide +kernel
theorem dX11_isOpen_32 : decode cX11_isOpen 32 = .ok (.ifCond .ne 16, 3) := by decide +kernel
theorem dX11_isOpen_35 : decode cX11_isOpen 35 = .ok (.aload_n 0, 1) := by decide +kernel
theorem dX11_isOpen_36 : decode cX11_isOpen 36 = .ok (.iload_n 1, 1) := by decide +kernel
theorem dX11_isOpen_37 : decode cX11_isOpen 37 = .ok (.iload_n 2, 1) := by decide +kernel
theorem dX11_isOpen_38 : decode cX11_isOpen 38 = .ok (.invokevirtual 372, 3) := by decide +kernel
theorem dX11_isOpen_41 : decode cX11_isOpen 41 = .ok (.ifCond .eq 7, 3) := by decide +kernel
theorem dX11_isOpen_44 : decode cX11_isOpen 44 = .ok (.iconst 1, 1) := by decide +kernel
theorem dX11_isOpen_45 : decode cX11_isOpen 45 = .ok (.goto 4, 3) := by decide +kernel
theorem dX11_isOpen_48 : decode cX11_isOpen 48 = .ok (.iconst 0, 1) := by decide +kernel
theorem dX11_isOpen_49 : decode cX11_isOpen 49 = .ok (.ireturn, 1) := by decide +kernel
theorem dX11_openMany_0 : decode cX11_openMany 0 = .ok (.iconst 0, 1) := by decide +kernel
theorem dX11_openMany_1 : decode cX11_openMany 1 = .ok (.istore_n 2, 1) := by decide +kernel
theorem dX11_openMany_2 : decode cX11_openMany 2 = .ok (.iconst 0, 1) := by decide +kernel
theorem dX11_openMany_3 : decode cX11_openMany 3 = .ok (.istore_n 3, 1) := by decide +kernel
theorem dX11_openMany_4 : decode cX11_openMany 4 = .ok (.iload_n 3, 1) := by decide +kernel
theorem dX11_openMany_5 : decode cX11_openMany 5 = .ok (.aload_n 0, 1) := by decide +kernel
theorem dX11_openMany_6 : decode cX11_openMany 6 = .ok (.getfield 13, 3) := by decide +kernel
theorem dX11_openMany_9 : decode cX11_openMany 9 = .ok (.iconst 2, 1) := by decide +kernel
theorem dX11_openMany_10 : decode cX11_openMany 10 = .ok (.iaload, 1) := by decide +kernel
theorem dX11_openMany_11 : decode cX11_openMany 11 = .ok (.if_icmp .ge 26, 3) := by decide +kernel
theorem dX11_openMany_14 : decode cX11_openMany 14 = .ok (.iload_n 2, 1) := by decide +kernel
theorem dX11_openMany_15 : decode cX11_openMany 15 = .ok (.aload_n 0, 1) := by decide +kernel
theorem dX11_openMany_16 : decode cX11_openMany 16 = .ok (.iload_n 1, 1) := by decide +kernel
theorem dX11_openMany_17 : decode cX11_openMany 17 = .ok (.iload_n 3, 1) := by decide +kernel
theorem dX11_openMany_18 : decode cX11_openMany 18 = .ok (.invokevirtual 375, 3) := by decide +kernel
theorem dX11_openMany_21 : decode cX11_openMany 21 = .ok (.ifCond .eq 7, 3) := by decide +kernel
theorem dX11_openMany_24 : decode cX11_openMany 24 = .ok (.iconst 1, 1) := by decide +kernel
theorem dX11_openMany_25 : decode cX11_openMany 25 = .ok (.goto 4, 3) := by decide +kernel
theorem dX11_openMany_28 : decode cX11_openMany 28 = .ok (.iconst 0, 1) := by decide +kernel
theorem dX11_openMany_29 : decode cX11_openMany 29 = .ok (.iadd, 1) := by decide +kernel
theorem dX11_openMany_30 : decode cX11_openMany 30 = .ok (.istore_n 2, 1) := by decide +kernel
theorem dX11_openMany_31 : decode cX11_openMany 31 = .ok (.iinc 3 1, 3) := by decide +kernel
theorem dX11_openMany_34 : decode cX11_openMany 34 = .ok (.goto (-30), 3) := by decide +kernel
theorem dX11_openMany_37 : decode cX11_openMany 37 = .ok (.iload_n 2, 1) := by decide +kernel
theorem dX11_openMany_38 : decode cX11_openMany 38 = .ok (.ireturn, 1) := by decide +kernel
theorem dX11_boatsOf_0 : decode cX11_boatsOf 0 = .ok (.iconst 0, 1) := by decide +kernel
theorem dX11_boatsOf_1 : decode cX11_boatsOf 1 = .ok (.istore_n 3, 1) := by decide +kernel
theorem dX11_boatsOf_2 : decode cX11_boatsOf 2 = .ok (.iconst 0, 1) := by decide +kernel
theorem dX11_boatsOf_3 : decode cX11_boatsOf 3 = .ok (.istore 4, 2) := by decide +kernel
theorem dX11_boatsOf_5 : decode cX11_boatsOf 5 = .ok (.iload 4, 2) := by decide +kernel
theorem dX11_boatsOf_7 : decode cX11_boatsOf 7 = .ok (.aload_n 0, 1) := by decide +kernel
theorem dX11_boatsOf_8 : decode cX11_boatsOf 8 = .ok (.getfield 13, 3) := by decide +kernel
theorem dX11_boatsOf_11 : decode cX11_boatsOf 11 = .ok (.iconst 4, 1) := by decide +kernel
theorem dX11_boatsOf_12 : decode cX11_boatsOf 12 = .ok (.iaload, 1) := by decide +kernel
theorem dX11_boatsOf_13 : decode cX11_boatsOf 13 = .ok (.if_icmp .ge 33, 3) := by decide +kernel
theorem dX11_boatsOf_16 : decode cX11_boatsOf 16 = .ok (.iload_n 3, 1) := by decide +kernel
theorem dX11_boatsOf_17 : decode cX11_boatsOf 17 = .ok (.aload_n 0, 1) := by decide +kernel
theorem dX11_boatsOf_18 : decode cX11_boatsOf 18 = .ok (.getfield 102, 3) := by decide +kernel
theorem dX11_boatsOf_21 : decode cX11_boatsOf 21 = .ok (.bipush 8, 2) := by decide +kernel
theorem dX11_boatsOf_23 : decode cX11_boatsOf 23 = .ok (.iload_n 1, 1) := by decide +kernel
theorem dX11_boatsOf_24 : decode cX11_boatsOf 24 = .ok (.imul, 1) := by decide +kernel
theorem dX11_boatsOf_25 : decode cX11_boatsOf 25 = .ok (.iload 4, 2) := by decide +kernel
theorem dX11_boatsOf_27 : decode cX11_boatsOf 27 = .ok (.iadd, 1) := by decide +kernel
theorem dX11_boatsOf_28 : decode cX11_boatsOf 28 = .ok (.iaload, 1) := by decide +kernel
theorem dX11_boatsOf_29 : decode cX11_boatsOf 29 = .ok (.iload_n 2, 1) := by decide +kernel
theorem dX11_boatsOf_30 : decode cX11_boatsOf 30 = .ok (.if_icmp .ne 7, 3) := by decide +kernel
theorem dX11_boatsOf_33 : decode cX11_boatsOf 33 = .ok (.iconst 1, 1) := by decide +kernel
theorem dX11_boatsOf_34 : decode cX11_boatsOf 34 = .ok (.goto 4, 3) := by decide +kernel
theorem dX11_boatsOf_37 : decode cX11_boatsOf 37 = .ok (.iconst 0, 1) := by decide +kernel
theorem dX11_boatsOf_38 : decode cX11_boatsOf 38 = .ok (.iadd, 1) := by decide +kernel
theorem dX11_boatsOf_39 : decode cX11_boatsOf 39 = .ok (.istore_n 3, 1) := by decide +kernel
theorem dX11_boatsOf_40 : decode cX11_boatsOf 40 = .ok (.iinc 4 1, 3) := by decide +kernel
theorem dX11_boatsOf_43 : decode cX11_boatsOf 43 = .ok (.goto (-38), 3) := by decide +kernel
theorem dX11_boatsOf_46 : decode cX11_boatsOf 46 = .ok (.iload_n 3, 1) := by decide +kernel
theorem dX11_boatsOf_47 : decode cX11_boatsOf 47 = .ok (.ireturn, 1) := by decide +kernel
theorem dX11_calls_0 : decode cX11_calls 0 = .ok (.aload_n 0, 1) := by decide +kernel
theorem dX11_calls_1 : decode cX11_calls 1 = .ok (.getfield 80, 3) := by decide +kernel
theorem dX11_calls_4 : decode cX11_calls 4 = .ok (.iconst 0, 1) := by decide +kernel
theorem dX11_calls_5 : decode cX11_calls 5 = .ok (.aload_n 0, 1) := by decide +kernel
theorem dX11_calls_6 : decode cX11_calls 6 = .ok (.getfield 19, 3) := by decide +kernel
theorem dX11_calls_9 : decode cX11_calls 9 = .ok (.iload_n 2, 1) := by decide +kernel
theorem dX11_calls_10 : decode cX11_calls 10 = .ok (.iaload, 1) := by decide +kernel
theorem dX11_calls_11 : decode cX11_calls 11 = .ok (.i2l, 1) := by decide +kernel
theorem dX11_calls_12 : decode cX11_calls 12 = .ok (.lastore, 1) := by decide +kernel
theorem dX11_calls_13 : decode cX11_calls 13 = .ok (.aload_n 0, 1) := by decide +kernel
theorem dX11_calls_14 : decode cX11_calls 14 = .ok (.getfield 80, 3) := by decide +kernel
theorem dX11_calls_17 : decode cX11_calls 17 = .ok (.iconst 1, 1) := by decide +kernel
theorem dX11_calls_18 : decode cX11_calls 18 = .ok (.aload_n 0, 1) := by decide +kernel
theorem dX11_calls_19 : decode cX11_calls 19 = .ok (.getfield 22, 3) := by decide +kernel
theorem dX11_calls_22 : decode cX11_calls 22 = .ok (.iload_n 2, 1) := by decide +kernel
theorem dX11_calls_23 : decode cX11_calls 23 = .ok (.iaload, 1) := by decide +kernel
theorem dX11_calls_24 : decode cX11_calls 24 = .ok (.i2l, 1) := by decide +kernel
theorem dX11_calls_25 : decode cX11_calls 25 = .ok (.lastore, 1) := by decide +kernel
theorem dX11_calls_26 : decode cX11_calls 26 = .ok (.aload_n 0, 1) := by decide +kernel
theorem dX11_calls_27 : decode cX11_calls 27 = .ok (.getfield 80, 3) := by decide +kernel
theorem dX11_calls_30 : decode cX11_calls 30 = .ok (.iconst 2, 1) := by decide +kernel
theorem dX11_calls_31 : decode cX11_calls 31 = .ok (.aload_n 0, 1) := by decide +kernel
theorem dX11_calls_32 : decode cX11_calls 32 = .ok (.getfield 99, 3) := by decide +kernel
theorem dX11_calls_35 : decode cX11_calls 35 = .ok (.bipush 7, 2) := by decide +kernel
theorem dX11_calls_37 : decode cX11_calls 37 = .ok (.iload_n 1, 1) := by decide +kernel
theorem dX11_calls_38 : decode cX11_calls 38 = .ok (.imul, 1) := by decide +kernel
theorem dX11_calls_39 : decode cX11_calls 39 = .ok (.iload_n 2, 1) := by decide +kernel
theorem dX11_calls_40 : decode cX11_calls 40 = .ok (.iadd, 1) := by decide +kernel
theorem dX11_calls_41 : decode cX11_calls 41 = .ok (.iaload, 1) := by decide +kernel
theorem dX11_calls_42 : decode cX11_calls 42 = .ok (.i2l, 1) := by decide +kernel
theorem dX11_calls_43 : decode cX11_calls 43 = .ok (.lastore, 1) := by decide +kernel
theorem dX11_calls_44 : decode cX11_calls 44 = .ok (.aload_n 0, 1) := by decide +kernel
theorem dX11_calls_45 : decode cX11_calls 45 = .ok (.getfield 80, 3) := by decide +kernel
theorem dX11_calls_48 : decode cX11_calls 48 = .ok (.iconst 3, 1) := by decide +kernel
theorem dX11_calls_49 : decode cX11_calls 49 = .ok (.iload_n 3, 1) := by decide +kernel
theorem dX11_calls_50 : decode cX11_calls 50 = .ok (.i2l, 1) := by decide +kernel
theorem dX11_calls_51 : decode cX11_calls 51 = .ok (.lastore, 1) := by decide +kernel
theorem dX11_calls_52 : decode cX11_calls 52 = .ok (.aload_n 0, 1) := by decide +kernel
theorem dX11_calls_53 : decode cX11_calls 53 = .ok (.getfield 80, 3) := by decide +kernel
theorem dX11_calls_56 : decode cX11_calls 56 = .ok (.iconst 4, 1) := by decide +kernel
theorem dX11_calls_57 : decode cX11_calls 57 = .ok (.aload_n 0, 1) := by decide +kernel
theorem dX11_calls_58 : decode cX11_calls 58 = .ok (.iload_n 1, 1) := by decide +kernel
theorem dX11_calls_59 : decode cX11_calls 59 = .ok (.invokevirtual 378, 3) := by decide +kernel
theorem dX11_calls_62 : decode cX11_calls 62 = .ok (.i2l, 1) := by decide +kernel
theorem dX11_calls_63 : decode cX11_calls 63 = .ok (.lastore, 1) := by decide +kernel
theorem dX11_calls_64 : decode cX11_calls 64 = .ok (.aload_n 0, 1) := by decide +kernel
theorem dX11_calls_65 : decode cX11_calls 65 = .ok (.getfield 80, 3) := by decide +kernel
theorem dX11_calls_68 : decode cX11_calls 68 = .ok (.iconst 5, 1) := by decide +kernel
theorem dX11_calls_69 : decode cX11_calls 69 = .ok (.aload_n 0, 1) := by decide +kernel
theorem dX11_calls_70 : decode cX11_calls 70 = .ok (.iload_n 1, 1) := by decide +kernel
theorem dX11_calls_71 : decode cX11_calls 71 = .ok (.iconst 1, 1) := by decide +kernel
theorem dX11_calls_72 : decode cX11_calls 72 = .ok (.invokevirtual 381, 3) := by decide +kernel
theorem dX11_calls_75 : decode cX11_calls 75 = .ok (.i2l, 1) := by decide +kernel
theorem dX11_calls_76 : decode cX11_calls 76 = .ok (.lastore, 1) := by decide +kernel
theorem dX11_calls_77 : decode cX11_calls 77 = .ok (.aload_n 0, 1) := by decide +kernel
theorem dX11_calls_78 : decode cX11_calls 78 = .ok (.getfield 80, 3) := by decide +kernel
theorem dX11_calls_81 : decode cX11_calls 81 = .ok (.bipush 6, 2) := by decide +kernel
theorem dX11_calls_83 : decode cX11_calls 83 = .ok (.aload_n 0, 1) := by decide +kernel
theorem dX11_calls_84 : decode cX11_calls 84 = .ok (.getfield 87, 3) := by decide +kernel
theorem dX11_calls_87 : decode cX11_calls 87 = .ok (.iload_n 1, 1) := by decide +kernel
theorem dX11_calls_88 : decode cX11_calls 88 = .ok (.iaload, 1) := by decide +kernel
theorem dX11_calls_89 : decode cX11_calls 89 = .ok (.i2l, 1) := by decide +kernel
theorem dX11_calls_90 : decode cX11_calls 90 = .ok (.lastore, 1) := by decide +kernel
theorem dX11_calls_91 : decode cX11_calls 91 = .ok (.return_, 1) := by decide +kernel
theorem dX11_within_0 : decode cX11_within 0 = .ok (.aload_n 0, 1) := by decide +kernel
theorem dX11_within_1 : decode cX11_within 1 = .ok (.iload_n 1, 1) := by decide +kernel
theorem dX11_within_2 : decode cX11_within 2 = .ok (.invokevirtual 384, 3) := by decide +kernel
theorem dX11_within_5 : decode cX11_within 5 = .ok (.ifCond .eq 11, 3) := by decide +kernel
theorem dX11_within_8 : decode cX11_within 8 = .ok (.aload_n 0, 1) := by decide +kernel
theorem dX11_within_9 : decode cX11_within 9 = .ok (.iload_n 1, 1) := by decide +kernel
theorem dX11_within_10 : decode cX11_within 10 = .ok (.invokevirtual 387, 3) := by decide +kernel
theorem dX11_within_13 : decode cX11_within 13 = .ok (.ifCond .ne 5, 3) := by decide +kernel
theorem dX11_within_16 : decode cX11_within 16 = .ok (.iload_n 3, 1) := by decide +kernel
theorem dX11_within_17 : decode cX11_within 17 = .ok (.ireturn, 1) := by decide +kernel
theorem dX11_within_18 : decode cX11_within 18 = .ok (.lconst 0, 1) := by decide +kernel
theorem dX11_within_19 : decode cX11_within 19 = .ok (.iload_n 2, 1) := by decide +kernel
theorem dX11_within_20 : decode cX11_within 20 = .ok (.i2l, 1) := by decide +kernel
theorem dX11_within_21 : decode cX11_within 21 = .ok (.aload_n 0, 1) := by decide +kernel
theorem dX11_within_22 : decode cX11_within 22 = .ok (.getfield 84, 3) := by decide +kernel
theorem dX11_within_25 : decode cX11_within 25 = .ok (.iconst 0, 1) := by decide +kernel
theorem dX11_within_26 : decode cX11_within 26 = .ok (.laload, 1) := by decide +kernel
theorem dX11_within_27 : decode cX11_within 27 = .ok (.invokestatic 390, 3) := by decide +kernel
theorem dX11_within_30 : decode cX11_within 30 = .ok (.invokestatic 393, 3) := by decide +kernel
theorem dX11_within_33 : decode cX11_within 33 = .ok (.l2i, 1) := by decide +kernel
theorem dX11_within_34 : decode cX11_within 34 = .ok (.ireturn, 1) := by decide +kernel
theorem dX11_doesJam_0 : decode cX11_doesJam 0 = .ok (.aload_n 0, 1) := by decide +kernel
theorem dX11_doesJam_1 : decode cX11_doesJam 1 = .ok (.getfield 365, 3) := by decide +kernel
theorem dX11_doesJam_4 : decode cX11_doesJam 4 = .ok (.iconst 5, 1) := by decide +kernel
theorem dX11_doesJam_5 : decode cX11_doesJam 5 = .ok (.if_icmp .ne 5, 3) := by decide +kernel
theorem dX11_doesJam_8 : decode cX11_doesJam 8 = .ok (.iconst 0, 1) := by decide +kernel
theorem dX11_doesJam_9 : decode cX11_doesJam 9 = .ok (.ireturn, 1) := by decide +kernel
theorem dX11_doesJam_10 : decode cX11_doesJam 10 = .ok (.aload_n 0, 1) := by decide +kernel
theorem dX11_doesJam_11 : decode cX11_doesJam 11 = .ok (.getfield 13, 3) := by decide +kernel
theorem dX11_doesJam_14 : decode cX11_doesJam 14 = .ok (.bipush 6, 2) := by decide +kernel
theorem dX11_doesJam_16 : decode cX11_doesJam 16 = .ok (.iaload, 1) := by decide +kernel
theorem dX11_doesJam_17 : decode cX11_doesJam 17 = .ok (.istore_n 3, 1) := by decide +kernel
theorem dX11_doesJam_18 : decode cX11_doesJam 18 = .ok (.iload_n 2, 1) := by decide +kernel
theorem dX11_doesJam_19 : decode cX11_doesJam 19 = .ok (.ifCond .eq 13, 3) := by decide +kernel
theorem dX11_doesJam_22 : decode cX11_doesJam 22 = .ok (.iload_n 3, 1) := by decide +kernel
theorem dX11_doesJam_23 : decode cX11_doesJam 23 = .ok (.ifCond .eq 9, 3) := by decide +kernel
theorem dX11_doesJam_26 : decode cX11_doesJam 26 = .ok (.iload_n 3, 1) := by decide +kernel
theorem dX11_doesJam_27 : decode cX11_doesJam 27 = .ok (.bipush 100, 2) := by decide +kernel
theorem dX11_doesJam_29 : decode cX11_doesJam 29 = .ok (.if_icmp .ne 15, 3) := by decide +kernel
theorem dX11_doesJam_32 : decode cX11_doesJam 32 = .ok (.iload_n 3, 1) := by decide +kernel
theorem dX11_doesJam_33 : decode cX11_doesJam 33 = .ok (.bipush 50, 2) := by decide +kernel
theorem dX11_doesJam_35 : decode cX11_doesJam 35 = .ok (.if_icmp .lt 7, 3) := by decide +kernel
theorem dX11_doesJam_38 : decode cX11_doesJam 38 = .ok (.iconst 1, 1) := by decide +kernel
theorem dX11_doesJam_39 : decode cX11_doesJam 39 = .ok (.goto 4, 3) := by decide +kernel
theorem dX11_doesJam_42 : decode cX11_doesJam 42 = .ok (.iconst 0, 1) := by decide +kernel
theorem dX11_doesJam_43 : decode cX11_doesJam 43 = .ok (.ireturn, 1) := by decide +kernel
theorem dX11_doesJam_44 : decode cX11_doesJam 44 = .ok (.aload_n 0, 1) := by decide +kernel
theorem dX11_doesJam_45 : decode cX11_doesJam 45 = .ok (.getfield 90, 3) := by decide +kernel
theorem dX11_doesJam_48 : decode cX11_doesJam 48 = .ok (.iload_n 1, 1) := by decide +kernel
theorem dX11_doesJam_49 : decode cX11_doesJam 49 = .ok (.aload_n 0, 1) := by decide +kernel
theorem dX11_doesJam_50 : decode cX11_doesJam 50 = .ok (.getfield 90, 3) := by decide +kernel
theorem dX11_doesJam_53 : decode cX11_doesJam 53 = .ok (.iload_n 1, 1) := by decide +kernel
theorem dX11_doesJam_54 : decode cX11_doesJam 54 = .ok (.iaload, 1) := by decide +kernel
theorem dX11_doesJam_55 : decode cX11_doesJam 55 = .ok (.ldc_w 396, 3) := by decide +kernel
theorem dX11_doesJam_58 : decode cX11_doesJam 58 = .ok (.imul, 1) := by decide +kernel
theorem dX11_doesJam_59 : decode cX11_doesJam 59 = .ok (.sipush 12345, 3) := by decide +kernel
theorem dX11_doesJam_62 : decode cX11_doesJam 62 = .ok (.iadd, 1) := by decide +kernel
theorem dX11_doesJam_63 : decode cX11_doesJam 63 = .ok (.ldc_w 399, 3) := by decide +kernel
theorem dX11_doesJam_66 : decode cX11_doesJam 66 = .ok (.iand, 1) := by decide +kernel
theorem dX11_doesJam_67 : decode cX11_doesJam 67 = .ok (.iastore, 1) := by decide +kernel
theorem dX11_doesJam_68 : decode cX11_doesJam 68 = .ok (.aload_n 0, 1) := by decide +kernel
theorem dX11_doesJam_69 : decode cX11_doesJam 69 = .ok (.getfield 90, 3) := by decide +kernel
theorem dX11_doesJam_72 : decode cX11_doesJam 72 = .ok (.iload_n 1, 1) := by decide +kernel
theorem dX11_doesJam_73 : decode cX11_doesJam 73 = .ok (.iaload, 1) := by decide +kernel
theorem dX11_doesJam_74 : decode cX11_doesJam 74 = .ok (.bipush 16, 2) := by decide +kernel
theorem dX11_doesJam_76 : decode cX11_doesJam 76 = .ok (.ishr, 1) := by decide +kernel
theorem dX11_doesJam_77 : decode cX11_doesJam 77 = .ok (.bipush 100, 2) := by decide +kernel
theorem dX11_doesJam_79 : decode cX11_doesJam 79 = .ok (.irem, 1) := by decide +kernel
theorem dX11_doesJam_80 : decode cX11_doesJam 80 = .ok (.iload_n 3, 1) := by decide +kernel
theorem dX11_doesJam_81 : decode cX11_doesJam 81 = .ok (.if_icmp .ge 7, 3) := by decide +kernel
theorem dX11_doesJam_84 : decode cX11_doesJam 84 = .ok (.iconst 1, 1) := by decide +kernel
theorem dX11_doesJam_85 : decode cX11_doesJam 85 = .ok (.goto 4, 3) := by decide +kernel
theorem dX11_doesJam_88 : decode cX11_doesJam 88 = .ok (.iconst 0, 1) := by decide +kernel
theorem dX11_doesJam_89 : decode cX11_doesJam 89 = .ok (.ireturn, 1) := by decide +kernel
theorem dX11_opens_0 : decode cX11_opens 0 = .ok (.aload_n 0, 1) := by decide +kernel
theorem dX11_opens_1 : decode cX11_opens 1 = .ok (.iload_n 1, 1) := by decide +kernel
theorem dX11_opens_2 : decode cX11_opens 2 = .ok (.aload_n 0, 1) := by decide +kernel
theorem dX11_opens_3 : decode cX11_opens 3 = .ok (.iload_n 1, 1) := by decide +kernel
theorem dX11_opens_4 : decode cX11_opens 4 = .ok (.iload_n 2, 1) := by decide +kernel
theorem dX11_opens_5 : decode cX11_opens 5 = .ok (.invokevirtual 353, 3) := by decide +kernel
theorem dX11_opens_8 : decode cX11_opens 8 = .ok (.aload_n 0, 1) := by decide +kernel
theorem dX11_opens_9 : decode cX11_opens 9 = .ok (.getfield 46, 3) := by decide +kernel
theorem dX11_opens_12 : decode cX11_opens 12 = .ok (.iload_n 2, 1) := by decide +kernel
theorem dX11_opens_13 : decode cX11_opens 13 = .ok (.iaload, 1) := by decide +kernel
theorem dX11_opens_14 : decode cX11_opens 14 = .ok (.invokevirtual 400, 3) := by decide +kernel
theorem dX11_opens_17 : decode cX11_opens 17 = .ok (.aload_n 0, 1) := by decide +kernel
theorem dX11_opens_18 : decode cX11_opens 18 = .ok (.iload_n 1, 1) := by decide +kernel
theorem dX11_opens_19 : decode cX11_opens 19 = .ok (.iload_n 2, 1) := by decide +kernel
theorem dX11_opens_20 : decode cX11_opens 20 = .ok (.aload_n 0, 1) := by decide +kernel
theorem dX11_opens_21 : decode cX11_opens 21 = .ok (.iconst 0, 1) := by decide +kernel
theorem dX11_opens_22 : decode cX11_opens 22 = .ok (.bipush 99, 2) := by decide +kernel
theorem dX11_opens_24 : decode cX11_opens 24 = .ok (.aload_n 0, 1) := by decide +kernel
theorem dX11_opens_25 : decode cX11_opens 25 = .ok (.getfield 46, 3) := by decide +kernel
theorem dX11_opens_28 : decode cX11_opens 28 = .ok (.iload_n 2, 1) := by decide +kernel
theorem dX11_opens_29 : decode cX11_opens 29 = .ok (.iaload, 1) := by decide +kernel
theorem dX11_opens_30 : decode cX11_opens 30 = .ok (.invokevirtual 404, 3) := by decide +kernel
theorem dX11_opens_33 : decode cX11_opens 33 = .ok (.invokevirtual 407, 3) := by decide +kernel
theorem dX11_opens_36 : decode cX11_opens 36 = .ok (.pop, 1) := by decide +kernel
theorem dX11_opens_37 : decode cX11_opens 37 = .ok (.aload_n 0, 1) := by decide +kernel
theorem dX11_opens_38 : decode cX11_opens 38 = .ok (.iload_n 1, 1) := by decide +kernel
theorem dX11_opens_39 : decode cX11_opens 39 = .ok (.iload_n 3, 1) := by decide +kernel
theorem dX11_opens_40 : decode cX11_opens 40 = .ok (.invokevirtual 410, 3) := by decide +kernel
theorem dX11_opens_43 : decode cX11_opens 43 = .ok (.ifCond .eq 15, 3) := by decide +kernel
theorem dX11_opens_46 : decode cX11_opens 46 = .ok (.aload_n 0, 1) := by decide +kernel
theorem dX11_opens_47 : decode cX11_opens 47 = .ok (.getfield 96, 3) := by decide +kernel
theorem dX11_opens_50 : decode cX11_opens 50 = .ok (.iload_n 1, 1) := by decide +kernel
theorem dX11_opens_51 : decode cX11_opens 51 = .ok (.dup2, 1) := by decide +kernel
theorem dX11_opens_52 : decode cX11_opens 52 = .ok (.iaload, 1) := by decide +kernel
theorem dX11_opens_53 : decode cX11_opens 53 = .ok (.iconst 1, 1) := by decide +kernel
theorem dX11_opens_54 : decode cX11_opens 54 = .ok (.iload_n 2, 1) := by decide +kernel
theorem dX11_opens_55 : decode cX11_opens 55 = .ok (.ishl, 1) := by decide +kernel
theorem dX11_opens_56 : decode cX11_opens 56 = .ok (.ior, 1) := by decide +kernel
theorem dX11_opens_57 : decode cX11_opens 57 = .ok (.iastore, 1) := by decide +kernel
theorem dX11_opens_58 : decode cX11_opens 58 = .ok (.return_, 1) := by decide +kernel
theorem dX11_more_0 : decode cX11_more 0 = .ok (.iload_n 1, 1) := by decide +kernel
theorem dX11_more_1 : decode cX11_more 1 = .ok (.sipush 9999, 3) := by decide +kernel
theorem dX11_more_4 : decode cX11_more 4 = .ok (.iload_n 1, 1) := by decide +kernel
theorem dX11_more_5 : decode cX11_more 5 = .ok (.iload_n 2, 1) := by decide +kernel
theorem dX11_more_6 : decode cX11_more 6 = .ok (.iadd, 1) := by decide +kernel
theorem dX11_more_7 : decode cX11_more 7 = .ok (.invokestatic 359, 3) := by decide +kernel
theorem dX11_more_10 : decode cX11_more 10 = .ok (.invokestatic 414, 3) := by decide +kernel
theorem dX11_more_13 : decode cX11_more 13 = .ok (.ireturn, 1) := by decide +kernel
theorem dX11_loses_0 : decode cX11_loses 0 = .ok (.bipush 7, 2) := by decide +kernel
theorem dX11_loses_2 : decode cX11_loses 2 = .ok (.iload_n 1, 1) := by decide +kernel
theorem dX11_loses_3 : decode cX11_loses 3 = .ok (.imul, 1) := by decide +kernel
theorem dX11_loses_4 : decode cX11_loses 4 = .ok (.iload_n 2, 1) := by decide +kernel
theorem dX11_loses_5 : decode cX11_loses 5 = .ok (.iadd, 1) := by decide +kernel
theorem dX11_loses_6 : decode cX11_loses 6 = .ok (.istore_n 3, 1) := by decide +kernel
theorem dX11_loses_7 : decode cX11_loses 7 = .ok (.aload_n 0, 1) := by decide +kernel
theorem dX11_loses_8 : decode cX11_loses 8 = .ok (.iload_n 1, 1) := by decide +kernel
theorem dX11_loses_9 : decode cX11_loses 9 = .ok (.iload_n 2, 1) := by decide +kernel
theorem dX11_loses_10 : decode cX11_loses 10 = .ok (.iconst 0, 1) := by decide +kernel
theorem dX11_loses_11 : decode cX11_loses 11 = .ok (.invokevirtual 400, 3) := by decide +kernel
theorem dX11_loses_14 : decode cX11_loses 14 = .ok (.iload_n 2, 1) := by decide +kernel
theorem dX11_loses_15 : decode cX11_loses 15 = .ok (.aload_n 0, 1) := by decide +kernel
theorem dX11_loses_16 : decode cX11_loses 16 = .ok (.getfield 111, 3) := by decide +kernel
theorem dX11_loses_19 : decode cX11_loses 19 = .ok (.if_icmp .ne 10, 3) := by decide +kernel
theorem dX11_loses_22 : decode cX11_loses 22 = .ok (.aload_n 0, 1) := by decide +kernel
theorem dX11_loses_23 : decode cX11_loses 23 = .ok (.getfield 416, 3) := by decide +kernel
theorem dX11_loses_26 : decode cX11_loses 26 = .ok (.goto 11, 3) := by decide +kernel
theorem dX11_loses_29 : decode cX11_loses 29 = .ok (.aload_n 0, 1) := by decide +kernel
theorem dX11_loses_30 : decode cX11_loses 30 = .ok (.iconst 1, 1) := by decide +kernel
theorem dX11_loses_31 : decode cX11_loses 31 = .ok (.bipush 99, 2) := by decide +kernel
theorem dX11_loses_33 : decode cX11_loses 33 = .ok (.iconst 0, 1) := by decide +kernel
theorem dX11_loses_34 : decode cX11_loses 34 = .ok (.invokevirtual 404, 3) := by decide +kernel
theorem dX11_loses_37 : decode cX11_loses 37 = .ok (.istore 4, 2) := by decide +kernel
theorem dX11_loses_39 : decode cX11_loses 39 = .ok (.aload_n 0, 1) := by decide +kernel
theorem dX11_loses_40 : decode cX11_loses 40 = .ok (.getfield 99, 3) := by decide +kernel
theorem dX11_loses_43 : decode cX11_loses 43 = .ok (.iload_n 3, 1) := by decide +kernel
theorem dX11_loses_44 : decode cX11_loses 44 = .ok (.iconst 0, 1) := by decide +kernel
theorem dX11_loses_45 : decode cX11_loses 45 = .ok (.aload_n 0, 1) := by decide +kernel
theorem dX11_loses_46 : decode cX11_loses 46 = .ok (.getfield 99, 3) := by decide +kernel
theorem dX11_loses_49 : decode cX11_loses 49 = .ok (.iload_n 3, 1) := by decide +kernel
theorem dX11_loses_50 : decode cX11_loses 50 = .ok (.iaload, 1) := by decide +kernel
theorem dX11_loses_51 : decode cX11_loses 51 = .ok (.iload 4, 2) := by decide +kernel
theorem dX11_loses_53 : decode cX11_loses 53 = .ok (.isub, 1) := by decide +kernel
theorem dX11_loses_54 : decode cX11_loses 54 = .ok (.invokestatic 414, 3) := by decide +kernel
theorem dX11_loses_57 : decode cX11_loses 57 = .ok (.iastore, 1) := by decide +kernel
theorem dX11_loses_58 : decode cX11_loses 58 = .ok (.return_, 1) := by decide +kernel
theorem dX11_boatIn_0 : decode cX11_boatIn 0 = .ok (.iconst 0, 1) := by decide +kernel
theorem dX11_boatIn_1 : decode cX11_boatIn 1 = .ok (.istore_n 3, 1) := by decide +kernel
theorem dX11_boatIn_2 : decode cX11_boatIn 2 = .ok (.iload_n 3, 1) := by decide +kernel
theorem dX11_boatIn_3 : decode cX11_boatIn 3 = .ok (.aload_n 0, 1) := by decide +kernel
theorem dX11_boatIn_4 : decode cX11_boatIn 4 = .ok (.getfield 13, 3) := by decide +kernel
theorem dX11_boatIn_7 : decode cX11_boatIn 7 = .ok (.iconst 4, 1) := by decide +kernel
theorem dX11_boatIn_8 : decode cX11_boatIn 8 = .ok (.iaload, 1) := by decide +kernel
theorem dX11_boatIn_9 : decode cX11_boatIn 9 = .ok (.if_icmp .ge 36, 3) := by decide +kernel
theorem dX11_boatIn_12 : decode cX11_boatIn 12 = .ok (.aload_n 0, 1) := by decide +kernel
theorem dX11_boatIn_13 : decode cX11_boatIn 13 = .ok (.getfield 58, 3) := by decide +kernel
theorem dX11_boatIn_16 : decode cX11_boatIn 16 = .ok (.iload_n 3, 1) := by decide +kernel
theorem dX11_boatIn_17 : decode cX11_boatIn 17 = .ok (.iaload, 1) := by decide +kernel
theorem dX11_boatIn_18 : decode cX11_boatIn 18 = .ok (.iload_n 2, 1) := by decide +kernel
theorem dX11_boatIn_19 : decode cX11_boatIn 19 = .ok (.if_icmp .ne 20, 3) := by decide +kernel
theorem dX11_boatIn_22 : decode cX11_boatIn 22 = .ok (.aload_n 0, 1) := by decide +kernel
theorem dX11_boatIn_23 : decode cX11_boatIn 23 = .ok (.getfield 102, 3) := by decide +kernel
theorem dX11_boatIn_26 : decode cX11_boatIn 26 = .ok (.bipush 8, 2) := by decide +kernel
theorem dX11_boatIn_28 : decode cX11_boatIn 28 = .ok (.iload_n 1, 1) := by decide +kernel
theorem dX11_boatIn_29 : decode cX11_boatIn 29 = .ok (.imul, 1) := by decide +kernel
theorem dX11_boatIn_30 : decode cX11_boatIn 30 = .ok (.iload_n 3, 1) := by decide +kernel
theorem dX11_boatIn_31 : decode cX11_boatIn 31 = .ok (.iadd, 1) := by decide +kernel
theorem dX11_boatIn_32 : decode cX11_boatIn 32 = .ok (.iaload, 1) := by decide +kernel
theorem dX11_boatIn_33 : decode cX11_boatIn 33 = .ok (.iconst 1, 1) := by decide +kernel
theorem dX11_boatIn_34 : decode cX11_boatIn 34 = .ok (.if_icmp .ne 5, 3) := by decide +kernel
theorem dX11_boatIn_37 : decode cX11_boatIn 37 = .ok (.iload_n 3, 1) := by decide +kernel
theorem dX11_boatIn_38 : decode cX11_boatIn 38 = .ok (.ireturn, 1) := by decide +kernel
theorem dX11_boatIn_39 : decode cX11_boatIn 39 = .ok (.iinc 3 1, 3) := by decide +kernel
theorem dX11_boatIn_42 : decode cX11_boatIn 42 = .ok (.goto (-40), 3) := by decide +kernel
theorem dX11_boatIn_45 : decode cX11_boatIn 45 = .ok (.iconst (-1), 1) := by decide +kernel
theorem dX11_boatIn_46 : decode cX11_boatIn 46 = .ok (.ireturn, 1) := by decide +kernel
theorem dX11_moves_0 : decode cX11_moves 0 = .ok (.bipush 8, 2) := by decide +kernel
theorem dX11_moves_2 : decode cX11_moves 2 = .ok (.iload_n 1, 1) := by decide +kernel
theorem dX11_moves_3 : decode cX11_moves 3 = .ok (.imul, 1) := by decide +kernel
theorem dX11_moves_4 : decode cX11_moves 4 = .ok (.iload_n 2, 1) := by decide +kernel
theorem dX11_moves_5 : decode cX11_moves 5 = .ok (.iadd, 1) := by decide +kernel
theorem dX11_moves_6 : decode cX11_moves 6 = .ok (.istore_n 3, 1) := by decide +kernel
theorem dX11_moves_7 : decode cX11_moves 7 = .ok (.aload_n 0, 1) := by decide +kernel
theorem dX11_moves_8 : decode cX11_moves 8 = .ok (.getfield 58, 3) := by decide +kernel
theorem dX11_moves_11 : decode cX11_moves 11 = .ok (.iload_n 2, 1) := by decide +kernel
theorem dX11_moves_12 : decode cX11_moves 12 = .ok (.iaload, 1) := by decide +kernel
theorem dX11_moves_13 : decode cX11_moves 13 = .ok (.istore 4, 2) := by decide +kernel
theorem dX11_moves_15 : decode cX11_moves 15 = .ok (.aload_n 0, 1) := by decide +kernel
theorem dX11_moves_16 : decode cX11_moves 16 = .ok (.getfield 31, 3) := by decide +kernel
theorem dX11_moves_19 : decode cX11_moves 19 = .ok (.iload 4, 2) := by decide +kernel
theorem dX11_moves_21 : decode cX11_moves 21 = .ok (.iaload, 1) := by decide +kernel
theorem dX11_moves_22 : decode cX11_moves 22 = .ok (.istore 5, 2) := by decide +kernel
theorem dX11_moves_24 : decode cX11_moves 24 = .ok (.aload_n 0, 1) := by decide +kernel
theorem dX11_moves_25 : decode cX11_moves 25 = .ok (.iload_n 1, 1) := by decide +kernel
theorem dX11_moves_26 : decode cX11_moves 26 = .ok (.iload 5, 2) := by decide +kernel
theorem dX11_moves_28 : decode cX11_moves 28 = .ok (.invokevirtual 346, 3) := by decide +kernel
theorem dX11_moves_31 : decode cX11_moves 31 = .ok (.aload_n 0, 1) := by decide +kernel
theorem dX11_moves_32 : decode cX11_moves 32 = .ok (.getfield 34, 3) := by decide +kernel
theorem dX11_moves_35 : decode cX11_moves 35 = .ok (.iload 4, 2) := by decide +kernel
theorem dX11_moves_37 : decode cX11_moves 37 = .ok (.iaload, 1) := by decide +kernel
theorem dX11_moves_38 : decode cX11_moves 38 = .ok (.aload_n 0, 1) := by decide +kernel
theorem dX11_moves_39 : decode cX11_moves 39 = .ok (.getfield 19, 3) := by decide +kernel
theorem dX11_moves_42 : decode cX11_moves 42 = .ok (.iload 5, 2) := by decide +kernel
theorem dX11_moves_44 : decode cX11_moves 44 = .ok (.iaload, 1) := by decide +kernel
theorem dX11_moves_45 : decode cX11_moves 45 = .ok (.imul, 1) := by decide +kernel
theorem dX11_moves_46 : decode cX11_moves 46 = .ok (.if_icmp .gt 7, 3) := by decide +kernel
theorem dX11_moves_49 : decode cX11_moves 49 = .ok (.iconst 1, 1) := by decide +kernel
theorem dX11_moves_50 : decode cX11_moves 50 = .ok (.goto 4, 3) := by decide +kernel
theorem dX11_moves_53 : decode cX11_moves 53 = .ok (.iconst 0, 1) := by decide +kernel
theorem dX11_moves_54 : decode cX11_moves 54 = .ok (.istore 6, 2) := by decide +kernel
theorem dX11_moves_56 : decode cX11_moves 56 = .ok (.aload_n 0, 1) := by decide +kernel
theorem dX11_moves_57 : decode cX11_moves 57 = .ok (.getfield 102, 3) := by decide +kernel
theorem dX11_moves_60 : decode cX11_moves 60 = .ok (.iload_n 3, 1) := by decide +kernel
theorem dX11_moves_61 : decode cX11_moves 61 = .ok (.iaload, 1) := by decide +kernel
theorem dX11_moves_62 : decode cX11_moves 62 = .ok (.ifCond .ne 41, 3) := by decide +kernel
theorem dX11_moves_65 : decode cX11_moves 65 = .ok (.aload_n 0, 1) := by decide +kernel
theorem dX11_moves_66 : decode cX11_moves 66 = .ok (.getfield 87, 3) := by decide +kernel
theorem dX11_moves_69 : decode cX11_moves 69 = .ok (.iload_n 1, 1) := by decide +kernel
theorem dX11_moves_70 : decode cX11_moves 70 = .ok (.iaload, 1) := by decide +kernel
theorem dX11_moves_71 : decode cX11_moves 71 = .ok (.aload_n 0, 1) := by decide +kernel
theorem dX11_moves_72 : decode cX11_moves 72 = .ok (.getfield 61, 3) := by decide +kernel
theorem dX11_moves_75 : decode cX11_moves 75 = .ok (.iload_n 2, 1) := by decide +kernel
theorem dX11_moves_76 : decode cX11_moves 76 = .ok (.iaload, 1) := by decide +kernel
theorem dX11_moves_77 : decode cX11_moves 77 = .ok (.if_icmp .lt 26, 3) := by decide +kernel
theorem dX11_moves_80 : decode cX11_moves 80 = .ok (.aload_n 0, 1) := by decide +kernel
theorem dX11_moves_81 : decode cX11_moves 81 = .ok (.iload_n 1, 1) := by decide +kernel
theorem dX11_moves_82 : decode cX11_moves 82 = .ok (.iload 4, 2) := by decide +kernel
theorem dX11_moves_84 : decode cX11_moves 84 = .ok (.invokevirtual 419, 3) := by decide +kernel
theorem dX11_moves_87 : decode cX11_moves 87 = .ok (.iconst (-1), 1) := by decide +kernel
theorem dX11_moves_88 : decode cX11_moves 88 = .ok (.if_icmp .ne 15, 3) := by decide +kernel
theorem dX11_moves_91 : decode cX11_moves 91 = .ok (.iload 6, 2) := by decide +kernel
theorem dX11_moves_93 : decode cX11_moves 93 = .ok (.ifCond .eq 10, 3) := by decide +kernel
theorem dX11_moves_96 : decode cX11_moves 96 = .ok (.aload_n 0, 1) := by decide +kernel
theorem dX11_moves_97 : decode cX11_moves 97 = .ok (.getfield 102, 3) := by decide +kernel
theorem dX11_moves_100 : decode cX11_moves 100 = .ok (.iload_n 3, 1) := by decide +kernel
theorem dX11_moves_101 : decode cX11_moves 101 = .ok (.iconst 1, 1) := by decide +kernel
theorem dX11_moves_102 : decode cX11_moves 102 = .ok (.iastore, 1) := by decide +kernel
theorem dX11_moves_103 : decode cX11_moves 103 = .ok (.aload_n 0, 1) := by decide +kernel
theorem dX11_moves_104 : decode cX11_moves 104 = .ok (.getfield 102, 3) := by decide +kernel
theorem dX11_moves_107 : decode cX11_moves 107 = .ok (.iload_n 3, 1) := by decide +kernel
theorem dX11_moves_108 : decode cX11_moves 108 = .ok (.iaload, 1) := by decide +kernel
theorem dX11_moves_109 : decode cX11_moves 109 = .ok (.iconst 1, 1) := by decide +kernel
theorem dX11_moves_110 : decode cX11_moves 110 = .ok (.if_icmp .ne 53, 3) := by decide +kernel
theorem dX11_moves_113 : decode cX11_moves 113 = .ok (.aload_n 0, 1) := by decide +kernel
theorem dX11_moves_114 : decode cX11_moves 114 = .ok (.iload_n 1, 1) := by decide +kernel
theorem dX11_moves_115 : decode cX11_moves 115 = .ok (.iload 5, 2) := by decide +kernel
theorem dX11_moves_117 : decode cX11_moves 117 = .ok (.aload_n 0, 1) := by decide +kernel
theorem dX11_moves_118 : decode cX11_moves 118 = .ok (.getfield 37, 3) := by decide +kernel
theorem dX11_moves_121 : decode cX11_moves 121 = .ok (.iload 4, 2) := by decide +kernel
theorem dX11_moves_123 : decode cX11_moves 123 = .ok (.iaload, 1) := by decide +kernel
theorem dX11_moves_124 : decode cX11_moves 124 = .ok (.invokevirtual 422, 3) := by decide +kernel
theorem dX11_moves_127 : decode cX11_moves 127 = .ok (.ifCond .eq 36, 3) := by decide +kernel
theorem dX11_moves_130 : decode cX11_moves 130 = .ok (.aload_n 0, 1) := by decide +kernel
theorem dX11_moves_131 : decode cX11_moves 131 = .ok (.iload_n 1, 1) := by decide +kernel
theorem dX11_moves_132 : decode cX11_moves 132 = .ok (.iload 5, 2) := by decide +kernel
theorem dX11_moves_134 : decode cX11_moves 134 = .ok (.iconst 0, 1) := by decide +kernel
theorem dX11_moves_135 : decode cX11_moves 135 = .ok (.invokevirtual 400, 3) := by decide +kernel
theorem dX11_moves_138 : decode cX11_moves 138 = .ok (.aload_n 0, 1) := by decide +kernel
theorem dX11_moves_139 : decode cX11_moves 139 = .ok (.getfield 93, 3) := by decide +kernel
theorem dX11_moves_142 : decode cX11_moves 142 = .ok (.iload_n 1, 1) := by decide +kernel
theorem dX11_moves_143 : decode cX11_moves 143 = .ok (.dup2, 1) := by decide +kernel
theorem dX11_moves_144 : decode cX11_moves 144 = .ok (.iaload, 1) := by decide +kernel
theorem dX11_moves_145 : decode cX11_moves 145 = .ok (.aload_n 0, 1) := by decide +kernel
theorem dX11_moves_146 : decode cX11_moves 146 = .ok (.iconst 2, 1) := by decide +kernel
theorem dX11_moves_147 : decode cX11_moves 147 = .ok (.sipush 999, 3) := by decide +kernel
theorem dX11_moves_150 : decode cX11_moves 150 = .ok (.iconst 1, 1) := by decide +kernel
theorem dX11_moves_151 : decode cX11_moves 151 = .ok (.invokevirtual 404, 3) := by decide +kernel
theorem dX11_moves_154 : decode cX11_moves 154 = .ok (.iadd, 1) := by decide +kernel
theorem dX11_moves_155 : decode cX11_moves 155 = .ok (.iastore, 1) := by decide +kernel
theorem dX11_moves_156 : decode cX11_moves 156 = .ok (.aload_n 0, 1) := by decide +kernel
theorem dX11_moves_157 : decode cX11_moves 157 = .ok (.getfield 102, 3) := by decide +kernel
theorem dX11_moves_160 : decode cX11_moves 160 = .ok (.iload_n 3, 1) := by decide +kernel
theorem dX11_moves_161 : decode cX11_moves 161 = .ok (.iconst 2, 1) := by decide +kernel
theorem dX11_moves_162 : decode cX11_moves 162 = .ok (.iastore, 1) := by decide +kernel
theorem dX11_moves_163 : decode cX11_moves 163 = .ok (.aload_n 0, 1) := by decide +kernel
theorem dX11_moves_164 : decode cX11_moves 164 = .ok (.getfield 102, 3) := by decide +kernel
theorem dX11_moves_167 : decode cX11_moves 167 = .ok (.iload_n 3, 1) := by decide +kernel
theorem dX11_moves_168 : decode cX11_moves 168 = .ok (.iaload, 1) := by decide +kernel
theorem dX11_moves_169 : decode cX11_moves 169 = .ok (.iconst 2, 1) := by decide +kernel
theorem dX11_moves_170 : decode cX11_moves 170 = .ok (.if_icmp .eq 28, 3) := by decide +kernel
theorem dX11_moves_173 : decode cX11_moves 173 = .ok (.aload_n 0, 1) := by decide +kernel
theorem dX11_moves_174 : decode cX11_moves 174 = .ok (.getfield 87, 3) := by decide +kernel
theorem dX11_moves_177 : decode cX11_moves 177 = .ok (.iload_n 1, 1) := by decide +kernel
theorem dX11_moves_178 : decode cX11_moves 178 = .ok (.iaload, 1) := by decide +kernel
theorem dX11_moves_179 : decode cX11_moves 179 = .ok (.aload_n 0, 1) := by decide +kernel
theorem dX11_moves_180 : decode cX11_moves 180 = .ok (.getfield 61, 3) := by decide +kernel
theorem dX11_moves_183 : decode cX11_moves 183 = .ok (.iload_n 2, 1) := by decide +kernel
theorem dX11_moves_184 : decode cX11_moves 184 = .ok (.iaload, 1) := by decide +kernel
theorem dX11_moves_185 : decode cX11_moves 185 = .ok (.if_icmp .lt 13, 3) := by decide +kernel
theorem dX11_moves_188 : decode cX11_moves 188 = .ok (.aload_n 0, 1) := by decide +kernel
theorem dX11_moves_189 : decode cX11_moves 189 = .ok (.getfield 105, 3) := by decide +kernel
theorem dX11_moves_192 : decode cX11_moves 192 = .ok (.iload_n 3, 1) := by decide +kernel
theorem dX11_moves_193 : decode cX11_moves 193 = .ok (.dup2, 1) := by decide +kernel
theorem dX11_moves_194 : decode cX11_moves 194 = .ok (.iaload, 1) := by decide +kernel
theorem dX11_moves_195 : decode cX11_moves 195 = .ok (.iconst 1, 1) := by decide +kernel
theorem dX11_moves_196 : decode cX11_moves 196 = .ok (.iadd, 1) := by decide +kernel
theorem dX11_moves_197 : decode cX11_moves 197 = .ok (.iastore, 1) := by decide +kernel
theorem dX11_moves_198 : decode cX11_moves 198 = .ok (.return_, 1) := by decide +kernel
theorem dX11_passes_0 : decode cX11_passes 0 = .ok (.iconst 0, 1) := by decide +kernel
theorem dX11_passes_1 : decode cX11_passes 1 = .ok (.istore_n 3, 1) := by decide +kernel
theorem dX11_passes_2 : decode cX11_passes 2 = .ok (.iload_n 3, 1) := by decide +kernel
theorem dX11_passes_3 : decode cX11_passes 3 = .ok (.aload_n 0, 1) := by decide +kernel
theorem dX11_passes_4 : decode cX11_passes 4 = .ok (.getfield 13, 3) := by decide +kernel
theorem dX11_passes_7 : decode cX11_passes 7 = .ok (.iconst 0, 1) := by decide +kernel
theorem dX11_passes_8 : decode cX11_passes 8 = .ok (.iaload, 1) := by decide +kernel
theorem dX11_passes_9 : decode cX11_passes 9 = .ok (.if_icmp .ge 49, 3) := by decide +kernel
theorem dX11_passes_12 : decode cX11_passes 12 = .ok (.aload_n 0, 1) := by decide +kernel
theorem dX11_passes_13 : decode cX11_passes 13 = .ok (.getfield 365, 3) := by decide +kernel
theorem dX11_passes_16 : decode cX11_passes 16 = .ok (.iconst 3, 1) := by decide +kernel
theorem dX11_passes_17 : decode cX11_passes 17 = .ok (.if_icmp .eq 41, 3) := by decide +kernel
theorem dX11_passes_20 : decode cX11_passes 20 = .ok (.aload_n 0, 1) := by decide +kernel
theorem dX11_passes_21 : decode cX11_passes 21 = .ok (.getfield 99, 3) := by decide +kernel
theorem dX11_passes_24 : decode cX11_passes 24 = .ok (.bipush 7, 2) := by decide +kernel
theorem dX11_passes_26 : decode cX11_passes 26 = .ok (.iload_n 1, 1) := by decide +kernel
theorem dX11_passes_27 : decode cX11_passes 27 = .ok (.imul, 1) := by decide +kernel
theorem dX11_passes_28 : decode cX11_passes 28 = .ok (.iload_n 3, 1) := by decide +kernel
theorem dX11_passes_29 : decode cX11_passes 29 = .ok (.iadd, 1) := by decide +kernel
theorem dX11_passes_30 : decode cX11_passes 30 = .ok (.aload_n 0, 1) := by decide +kernel
theorem dX11_passes_31 : decode cX11_passes 31 = .ok (.aload_n 0, 1) := by decide +kernel
theorem dX11_passes_32 : decode cX11_passes 32 = .ok (.getfield 99, 3) := by decide +kernel
theorem dX11_passes_35 : decode cX11_passes 35 = .ok (.bipush 7, 2) := by decide +kernel
theorem dX11_passes_37 : decode cX11_passes 37 = .ok (.iload_n 1, 1) := by decide +kernel
theorem dX11_passes_38 : decode cX11_passes 38 = .ok (.imul, 1) := by decide +kernel
theorem dX11_passes_39 : decode cX11_passes 39 = .ok (.iload_n 3, 1) := by decide +kernel
theorem dX11_passes_40 : decode cX11_passes 40 = .ok (.iadd, 1) := by decide +kernel
theorem dX11_passes_41 : decode cX11_passes 41 = .ok (.iaload, 1) := by decide +kernel
theorem dX11_passes_42 : decode cX11_passes 42 = .ok (.aload_n 0, 1) := by decide +kernel
theorem dX11_passes_43 : decode cX11_passes 43 = .ok (.getfield 28, 3) := by decide +kernel
theorem dX11_passes_46 : decode cX11_passes 46 = .ok (.iload_n 3, 1) := by decide +kernel
theorem dX11_passes_47 : decode cX11_passes 47 = .ok (.iaload, 1) := by decide +kernel
theorem dX11_passes_48 : decode cX11_passes 48 = .ok (.invokevirtual 426, 3) := by decide +kernel
theorem dX11_passes_51 : decode cX11_passes 51 = .ok (.iastore, 1) := by decide +kernel
theorem dX11_passes_52 : decode cX11_passes 52 = .ok (.iinc 3 1, 3) := by decide +kernel
theorem dX11_passes_55 : decode cX11_passes 55 = .ok (.goto (-53), 3) := by decide +kernel
theorem dX11_passes_58 : decode cX11_passes 58 = .ok (.iconst 0, 1) := by decide +kernel
theorem dX11_passes_59 : decode cX11_passes 59 = .ok (.istore_n 3, 1) := by decide +kernel
theorem dX11_passes_60 : decode cX11_passes 60 = .ok (.iload_n 3, 1) := by decide +kernel
theorem dX11_passes_61 : decode cX11_passes 61 = .ok (.aload_n 0, 1) := by decide +kernel
theorem dX11_passes_62 : decode cX11_passes 62 = .ok (.getfield 13, 3) := by decide +kernel
theorem dX11_passes_65 : decode cX11_passes 65 = .ok (.iconst 2, 1) := by decide +kernel
theorem dX11_passes_66 : decode cX11_passes 66 = .ok (.iaload, 1) := by decide +kernel
theorem dX11_passes_67 : decode cX11_passes 67 = .ok (.if_icmp .ge 25, 3) := by decide +kernel
theorem dX11_passes_70 : decode cX11_passes 70 = .ok (.aload_n 0, 1) := by decide +kernel
theorem dX11_passes_71 : decode cX11_passes 71 = .ok (.iload_n 1, 1) := by decide +kernel
theorem dX11_passes_72 : decode cX11_passes 72 = .ok (.iload_n 3, 1) := by decide +kernel
theorem dX11_passes_73 : decode cX11_passes 73 = .ok (.invokevirtual 375, 3) := by decide +kernel
theorem dX11_passes_76 : decode cX11_passes 76 = .ok (.ifCond .eq 10, 3) := by decide +kernel
theorem dX11_passes_79 : decode cX11_passes 79 = .ok (.aload_n 0, 1) := by decide +kernel
theorem dX11_passes_80 : decode cX11_passes 80 = .ok (.iload_n 1, 1) := by decide +kernel
theorem dX11_passes_81 : decode cX11_passes 81 = .ok (.iload_n 3, 1) := by decide +kernel
theorem dX11_passes_82 : decode cX11_passes 82 = .ok (.iload_n 2, 1) := by decide +kernel
theorem dX11_passes_83 : decode cX11_passes 83 = .ok (.invokevirtual 429, 3) := by decide +kernel
theorem dX11_passes_86 : decode cX11_passes 86 = .ok (.iinc 3 1, 3) := by decide +kernel
theorem dX11_passes_89 : decode cX11_passes 89 = .ok (.goto (-29), 3) := by decide +kernel
theorem dX11_passes_92 : decode cX11_passes 92 = .ok (.iconst 0, 1) := by decide +kernel
theorem dX11_passes_93 : decode cX11_passes 93 = .ok (.istore_n 3, 1) := by decide +kernel
theorem dX11_passes_94 : decode cX11_passes 94 = .ok (.iload_n 3, 1) := by decide +kernel
theorem dX11_passes_95 : decode cX11_passes 95 = .ok (.aload_n 0, 1) := by decide +kernel
theorem dX11_passes_96 : decode cX11_passes 96 = .ok (.getfield 13, 3) := by decide +kernel
theorem dX11_passes_99 : decode cX11_passes 99 = .ok (.iconst 0, 1) := by decide +kernel
theorem dX11_passes_100 : decode cX11_passes 100 = .ok (.iaload, 1) := by decide +kernel
theorem dX11_passes_101 : decode cX11_passes 101 = .ok (.if_icmp .ge 23, 3) := by decide +kernel
theorem dX11_passes_104 : decode cX11_passes 104 = .ok (.aload_n 0, 1) := by decide +kernel
theorem dX11_passes_105 : decode cX11_passes 105 = .ok (.getfield 365, 3) := by decide +kernel
theorem dX11_passes_108 : decode cX11_passes 108 = .ok (.iconst 1, 1) := by decide +kernel
theorem dX11_passes_109 : decode cX11_passes 109 = .ok (.if_icmp .eq 15, 3) := by decide +kernel
theorem dX11_passes_112 : decode cX11_passes 112 = .ok (.aload_n 0, 1) := by decide +kernel
theorem dX11_passes_113 : decode cX11_passes 113 = .ok (.iload_n 1, 1) := by decide +kernel
theorem dX11_passes_114 : decode cX11_passes 114 = .ok (.iload_n 3, 1) := by decide +kernel
theorem dX11_passes_115 : decode cX11_passes 115 = .ok (.invokevirtual 433, 3) := by decide +kernel
theorem dX11_passes_118 : decode cX11_passes 118 = .ok (.iinc 3 1, 3) := by decide +kernel
theorem dX11_passes_121 : decode cX11_passes 121 = .ok (.goto (-27), 3) := by decide +kernel
theorem dX11_passes_124 : decode cX11_passes 124 = .ok (.iconst 0, 1) := by decide +kernel
theorem dX11_passes_125 : decode cX11_passes 125 = .ok (.istore_n 3, 1) := by decide +kernel
theorem dX11_passes_126 : decode cX11_passes 126 = .ok (.iload_n 3, 1) := by decide +kernel
theorem dX11_passes_127 : decode cX11_passes 127 = .ok (.aload_n 0, 1) := by decide +kernel
theorem dX11_passes_128 : decode cX11_passes 128 = .ok (.getfield 13, 3) := by decide +kernel
theorem dX11_passes_131 : decode cX11_passes 131 = .ok (.iconst 4, 1) := by decide +kernel
theorem dX11_passes_132 : decode cX11_passes 132 = .ok (.iaload, 1) := by decide +kernel
theorem dX11_passes_133 : decode cX11_passes 133 = .ok (.if_icmp .ge 15, 3) := by decide +kernel
theorem dX11_passes_136 : decode cX11_passes 136 = .ok (.aload_n 0, 1) := by decide +kernel
theorem dX11_passes_137 : decode cX11_passes 137 = .ok (.iload_n 1, 1) := by decide +kernel
theorem dX11_passes_138 : decode cX11_passes 138 = .ok (.iload_n 3, 1) := by decide +kernel
theorem dX11_passes_139 : decode cX11_passes 139 = .ok (.invokevirtual 436, 3) := by decide +kernel
theorem dX11_passes_142 : decode cX11_passes 142 = .ok (.iinc 3 1, 3) := by decide +kernel
theorem dX11_passes_145 : decode cX11_passes 145 = .ok (.goto (-19), 3) := by decide +kernel
theorem dX11_passes_148 : decode cX11_passes 148 = .ok (.aload_n 0, 1) := by decide +kernel
theorem dX11_passes_149 : decode cX11_passes 149 = .ok (.getfield 87, 3) := by decide +kernel
theorem dX11_passes_152 : decode cX11_passes 152 = .ok (.iload_n 1, 1) := by decide +kernel
theorem dX11_passes_153 : decode cX11_passes 153 = .ok (.dup2, 1) := by decide +kernel
theorem dX11_passes_154 : decode cX11_passes 154 = .ok (.iaload, 1) := by decide +kernel
theorem dX11_passes_155 : decode cX11_passes 155 = .ok (.iconst 1, 1) := by decide +kernel
theorem dX11_passes_156 : decode cX11_passes 156 = .ok (.iadd, 1) := by decide +kernel
theorem dX11_passes_157 : decode cX11_passes 157 = .ok (.iastore, 1) := by decide +kernel
theorem dX11_passes_158 : decode cX11_passes 158 = .ok (.return_, 1) := by decide +kernel
theorem dX11_goesOn_0 : decode cX11_goesOn 0 = .ok (.iconst 0, 1) := by decide +kernel
theorem dX11_goesOn_1 : decode cX11_goesOn 1 = .ok (.istore_n 2, 1) := by decide +kernel
theorem dX11_goesOn_2 : decode cX11_goesOn 2 = .ok (.iload_n 2, 1) := by decide +kernel
theorem dX11_goesOn_3 : decode cX11_goesOn 3 = .ok (.iload_n 1, 1) := by decide +kernel
theorem dX11_goesOn_4 : decode cX11_goesOn 4 = .ok (.if_icmp .ge 15, 3) := by decide +kernel
theorem dX11_goesOn_7 : decode cX11_goesOn 7 = .ok (.aload_n 0, 1) := by decide +kernel
theorem dX11_goesOn_8 : decode cX11_goesOn 8 = .ok (.iconst 1, 1) := by decide +kernel
theorem dX11_goesOn_9 : decode cX11_goesOn 9 = .ok (.iconst 0, 1) := by decide +kernel
theorem dX11_goesOn_10 : decode cX11_goesOn 10 = .ok (.invokevirtual 439, 3) := by decide +kernel
theorem dX11_goesOn_13 : decode cX11_goesOn 13 = .ok (.iinc 2 1, 3) := by decide +kernel
theorem dX11_goesOn_16 : decode cX11_goesOn 16 = .ok (.goto (-14), 3) := by decide +kernel
theorem dX11_goesOn_19 : decode cX11_goesOn 19 = .ok (.return_, 1) := by decide +kernel
theorem dX11_sumOf_0 : decode cX11_sumOf 0 = .ok (.iconst 0, 1) := by decide +kernel
theorem dX11_sumOf_1 : decode cX11_sumOf 1 = .ok (.istore 4, 2) := by decide +kernel
theorem dX11_sumOf_3 : decode cX11_sumOf 3 = .ok (.iconst 0, 1) := by decide +kernel
theorem dX11_sumOf_4 : decode cX11_sumOf 4 = .ok (.istore 5, 2) := by decide +kernel
theorem dX11_sumOf_6 : decode cX11_sumOf 6 = .ok (.iload 5, 2) := by decide +kernel
theorem dX11_sumOf_8 : decode cX11_sumOf 8 = .ok (.iload_n 2, 1) := by decide +kernel
theorem dX11_sumOf_9 : decode cX11_sumOf 9 = .ok (.if_icmp .ge 22, 3) := by decide +kernel
theorem dX11_sumOf_12 : decode cX11_sumOf 12 = .ok (.iload 4, 2) := by decide +kernel
theorem dX11_sumOf_14 : decode cX11_sumOf 14 = .ok (.aload_n 1, 1) := by decide +kernel
theorem dX11_sumOf_15 : decode cX11_sumOf 15 = .ok (.iload_n 2, 1) := by decide +kernel
theorem dX11_sumOf_16 : decode cX11_sumOf 16 = .ok (.iload_n 3, 1) := by decide +kernel
theorem dX11_sumOf_17 : decode cX11_sumOf 17 = .ok (.imul, 1) := by decide +kernel
theorem dX11_sumOf_18 : decode cX11_sumOf 18 = .ok (.iload 5, 2) := by decide +kernel
theorem dX11_sumOf_20 : decode cX11_sumOf 20 = .ok (.iadd, 1) := by decide +kernel
theorem dX11_sumOf_21 : decode cX11_sumOf 21 = .ok (.iaload, 1) := by decide +kernel
theorem dX11_sumOf_22 : decode cX11_sumOf 22 = .ok (.iadd, 1) := by decide +kernel
theorem dX11_sumOf_23 : decode cX11_sumOf 23 = .ok (.istore 4, 2) := by decide +kernel
theorem dX11_sumOf_25 : decode cX11_sumOf 25 = .ok (.iinc 5 1, 3) := by decide +kernel
theorem dX11_sumOf_28 : decode cX11_sumOf 28 = .ok (.goto (-22), 3) := by decide +kernel
theorem dX11_sumOf_31 : decode cX11_sumOf 31 = .ok (.iload 4, 2) := by decide +kernel
theorem dX11_sumOf_33 : decode cX11_sumOf 33 = .ok (.ireturn, 1) := by decide +kernel
theorem dX11_common_0 : decode cX11_common 0 = .ok (.iload_n 0, 1) := by decide +kernel
theorem dX11_common_1 : decode cX11_common 1 = .ok (.istore_n 2, 1) := by decide +kernel
theorem dX11_common_2 : decode cX11_common 2 = .ok (.iload_n 1, 1) := by decide +kernel
theorem dX11_common_3 : decode cX11_common 3 = .ok (.istore_n 3, 1) := by decide +kernel
theorem dX11_common_4 : decode cX11_common 4 = .ok (.iload_n 3, 1) := by decide +kernel
theorem dX11_common_5 : decode cX11_common 5 = .ok (.ifCond .eq 16, 3) := by decide +kernel
theorem dX11_common_8 : decode cX11_common 8 = .ok (.iload_n 2, 1) := by decide +kernel
theorem dX11_common_9 : decode cX11_common 9 = .ok (.iload_n 3, 1) := by decide +kernel
theorem dX11_common_10 : decode cX11_common 10 = .ok (.irem, 1) := by decide +kernel
theorem dX11_common_11 : decode cX11_common 11 = .ok (.istore 4, 2) := by decide +kernel
theorem dX11_common_13 : decode cX11_common 13 = .ok (.iload_n 3, 1) := by decide +kernel
theorem dX11_common_14 : decode cX11_common 14 = .ok (.istore_n 2, 1) := by decide +kernel
theorem dX11_common_15 : decode cX11_common 15 = .ok (.iload 4, 2) := by decide +kernel
theorem dX11_common_17 : decode cX11_common 17 = .ok (.istore_n 3, 1) := by decide +kernel
theorem dX11_common_18 : decode cX11_common 18 = .ok (.goto (-14), 3) := by decide +kernel
theorem dX11_common_21 : decode cX11_common 21 = .ok (.iload_n 2, 1) := by decide +kernel
theorem dX11_common_22 : decode cX11_common 22 = .ok (.ireturn, 1) := by decide +kernel
theorem dX11_part_0 : decode cX11_part 0 = .ok (.iload_n 0, 1) := by decide +kernel
theorem dX11_part_1 : decode cX11_part 1 = .ok (.iload_n 1, 1) := by decide +kernel
theorem dX11_part_2 : decode cX11_part 2 = .ok (.invokestatic 443, 3) := by decide +kernel
theorem dX11_part_5 : decode cX11_part 5 = .ok (.istore_n 3, 1) := by decide +kernel
theorem dX11_part_6 : decode cX11_part 6 = .ok (.iload_n 2, 1) := by decide +kernel
theorem dX11_part_7 : decode cX11_part 7 = .ok (.ifCond .ne 9, 3) := by decide +kernel
theorem dX11_part_10 : decode cX11_part 10 = .ok (.iload_n 0, 1) := by decide +kernel
theorem dX11_part_11 : decode cX11_part 11 = .ok (.iload_n 3, 1) := by decide +kernel
theorem dX11_part_12 : decode cX11_part 12 = .ok (.idiv, 1) := by decide +kernel
theorem dX11_part_13 : decode cX11_part 13 = .ok (.goto 6, 3) := by decide +kernel
theorem dX11_part_16 : decode cX11_part 16 = .ok (.iload_n 1, 1) := by decide +kernel
theorem dX11_part_17 : decode cX11_part 17 = .ok (.iload_n 3, 1) := by decide +kernel
theorem dX11_part_18 : decode cX11_part 18 = .ok (.idiv, 1) := by decide +kernel
theorem dX11_part_19 : decode cX11_part 19 = .ok (.ireturn, 1) := by decide +kernel
theorem dX11_isPart_0 : decode cX11_isPart 0 = .ok (.iload_n 0, 1) := by decide +kernel
theorem dX11_isPart_1 : decode cX11_isPart 1 = .ok (.ifCond .eq 8, 3) := by decide +kernel
theorem dX11_isPart_4 : decode cX11_isPart 4 = .ok (.iload_n 0, 1) := by decide +kernel
theorem dX11_isPart_5 : decode cX11_isPart 5 = .ok (.iconst 1, 1) := by decide +kernel
theorem dX11_isPart_6 : decode cX11_isPart 6 = .ok (.if_icmp .ne 7, 3) := by decide +kernel
theorem dX11_isPart_9 : decode cX11_isPart 9 = .ok (.iconst 1, 1) := by decide +kernel
theorem dX11_isPart_10 : decode cX11_isPart 10 = .ok (.goto 4, 3) := by decide +kernel
theorem dX11_isPart_13 : decode cX11_isPart 13 = .ok (.iconst 0, 1) := by decide +kernel
theorem dX11_isPart_14 : decode cX11_isPart 14 = .ok (.ireturn, 1) := by decide +kernel
theorem dX11_orNone_0 : decode cX11_orNone 0 = .ok (.iload_n 0, 1) := by decide +kernel
theorem dX11_orNone_1 : decode cX11_orNone 1 = .ok (.iconst (-1), 1) := by decide +kernel
theorem dX11_orNone_2 : decode cX11_orNone 2 = .ok (.if_icmp .ne 8, 3) := by decide +kernel
theorem dX11_orNone_5 : decode cX11_orNone 5 = .ok (.bipush (-2), 2) := by decide +kernel
theorem dX11_orNone_7 : decode cX11_orNone 7 = .ok (.goto 4, 3) := by decide +kernel
theorem dX11_orNone_10 : decode cX11_orNone 10 = .ok (.iload_n 0, 1) := by decide +kernel
theorem dX11_orNone_11 : decode cX11_orNone 11 = .ok (.ireturn, 1) := by decide +kernel
theorem dX11_lockOf_0 : decode cX11_lockOf 0 = .ok (.iconst 0, 1) := by decide +kernel
theorem dX11_lockOf_1 : decode cX11_lockOf 1 = .ok (.istore_n 2, 1) := by decide +kernel
theorem dX11_lockOf_2 : decode cX11_lockOf 2 = .ok (.iload_n 2, 1) := by decide +kernel
theorem dX11_lockOf_3 : decode cX11_lockOf 3 = .ok (.aload_n 0, 1) := by decide +kernel
theorem dX11_lockOf_4 : decode cX11_lockOf 4 = .ok (.getfield 13, 3) := by decide +kernel
theorem dX11_lockOf_7 : decode cX11_lockOf 7 = .ok (.iconst 1, 1) := by decide +kernel
theorem dX11_lockOf_8 : decode cX11_lockOf 8 = .ok (.iaload, 1) := by decide +kernel
theorem dX11_lockOf_9 : decode cX11_lockOf 9 = .ok (.if_icmp .ge 21, 3) := by decide +kernel
theorem dX11_lockOf_12 : decode cX11_lockOf 12 = .ok (.aload_n 0, 1) := by decide +kernel
theorem dX11_lockOf_13 : decode cX11_lockOf 13 = .ok (.getfield 31, 3) := by decide +kernel
theorem dX11_lockOf_16 : decode cX11_lockOf 16 = .ok (.iload_n 2, 1) := by decide +kernel
theorem dX11_lockOf_17 : decode cX11_lockOf 17 = .ok (.iaload, 1) := by decide +kernel
theorem dX11_lockOf_18 : decode cX11_lockOf 18 = .ok (.iload_n 1, 1) := by decide +kernel
theorem dX11_lockOf_19 : decode cX11_lockOf 19 = .ok (.if_icmp .ne 5, 3) := by decide +kernel
theorem dX11_lockOf_22 : decode cX11_lockOf 22 = .ok (.iload_n 2, 1) := by decide +kernel
theorem dX11_lockOf_23 : decode cX11_lockOf 23 = .ok (.ireturn, 1) := by decide +kernel
theorem dX11_lockOf_24 : decode cX11_lockOf 24 = .ok (.iinc 2 1, 3) := by decide +kernel
theorem dX11_lockOf_27 : decode cX11_lockOf 27 = .ok (.goto (-25), 3) := by decide +kernel
theorem dX11_lockOf_30 : decode cX11_lockOf 30 = .ok (.iconst (-1), 1) := by decide +kernel
theorem dX11_lockOf_31 : decode cX11_lockOf 31 = .ok (.ireturn, 1) := by decide +kernel
theorem dX11_pond_0 : decode cX11_pond 0 = .ok (.aload_n 0, 1) := by decide +kernel
theorem dX11_pond_1 : decode cX11_pond 1 = .ok (.aload_n 0, 1) := by decide +kernel
theorem dX11_pond_2 : decode cX11_pond 2 = .ok (.iload_n 1, 1) := by decide +kernel
theorem dX11_pond_3 : decode cX11_pond 3 = .ok (.invokevirtual 446, 3) := by decide +kernel
theorem dX11_pond_6 : decode cX11_pond 6 = .ok (.ifCond .ne 7, 3) := by decide +kernel
theorem dX11_pond_9 : decode cX11_pond 9 = .ok (.iconst 1, 1) := by decide +kernel
theorem dX11_pond_10 : decode cX11_pond 10 = .ok (.goto 17, 3) := by decide +kernel
theorem dX11_pond_13 : decode cX11_pond 13 = .ok (.iload_n 2, 1) := by decide +kernel
theorem dX11_pond_14 : decode cX11_pond 14 = .ok (.ifCond .lt 8, 3) := by decide +kernel
theorem dX11_pond_17 : decode cX11_pond 17 = .ok (.iload_n 2, 1) := by decide +kernel
theorem dX11_pond_18 : decode cX11_pond 18 = .ok (.iconst 4, 1) := by decide +kernel
theorem dX11_pond_19 : decode cX11_pond 19 = .ok (.if_icmp .le 7, 3) := by decide +kernel
theorem dX11_pond_22 : decode cX11_pond 22 = .ok (.iconst 2, 1) := by decide +kernel
theorem dX11_pond_23 : decode cX11_pond 23 = .ok (.goto 4, 3) := by decide +kernel
theorem dX11_pond_26 : decode cX11_pond 26 = .ok (.iconst 0, 1) := by decide +kernel
theorem dX11_pond_27 : decode cX11_pond 27 = .ok (.putfield 151, 3) := by decide +kernel
theorem dX11_pond_30 : decode cX11_pond 30 = .ok (.aload_n 0, 1) := by decide +kernel
theorem dX11_pond_31 : decode cX11_pond 31 = .ok (.getfield 151, 3) := by decide +kernel
theorem dX11_pond_34 : decode cX11_pond 34 = .ok (.ifCond .eq 5, 3) := by decide +kernel
theorem dX11_pond_37 : decode cX11_pond 37 = .ok (.iconst 0, 1) := by decide +kernel
theorem dX11_pond_38 : decode cX11_pond 38 = .ok (.ireturn, 1) := by decide +kernel
theorem dX11_pond_39 : decode cX11_pond 39 = .ok (.iload_n 2, 1) := by decide +kernel
theorem dX11_pond_40 : decode cX11_pond 40 = .ok (.tableswitch 60 0 3 #[32, 39, 46, 53], 32) := by decide +kernel
theorem dX11_pond_72 : decode cX11_pond 72 = .ok (.aload_n 0, 1) := by decide +kernel
theorem dX11_pond_73 : decode cX11_pond 73 = .ok (.getfield 19, 3) := by decide +kernel
theorem dX11_pond_76 : decode cX11_pond 76 = .ok (.iload_n 1, 1) := by decide +kernel
theorem dX11_pond_77 : decode cX11_pond 77 = .ok (.iaload, 1) := by decide +kernel
theorem dX11_pond_78 : decode cX11_pond 78 = .ok (.ireturn, 1) := by decide +kernel
theorem dX11_pond_79 : decode cX11_pond 79 = .ok (.aload_n 0, 1) := by decide +kernel
theorem dX11_pond_80 : decode cX11_pond 80 = .ok (.getfield 22, 3) := by decide +kernel
theorem dX11_pond_83 : decode cX11_pond 83 = .ok (.iload_n 1, 1) := by decide +kernel
theorem dX11_pond_84 : decode cX11_pond 84 = .ok (.iaload, 1) := by decide +kernel
theorem dX11_pond_85 : decode cX11_pond 85 = .ok (.ireturn, 1) := by decide +kernel
theorem dX11_pond_86 : decode cX11_pond 86 = .ok (.aload_n 0, 1) := by decide +kernel
theorem dX11_pond_87 : decode cX11_pond 87 = .ok (.getfield 99, 3) := by decide +kernel
theorem dX11_pond_90 : decode cX11_pond 90 = .ok (.iload_n 1, 1) := by decide +kernel
theorem dX11_pond_91 : decode cX11_pond 91 = .ok (.iaload, 1) := by decide +kernel
theorem dX11_pond_92 : decode cX11_pond 92 = .ok (.ireturn, 1) := by decide +kernel
theorem dX11_pond_93 : decode cX11_pond 93 = .ok (.aload_n 0, 1) := by decide +kernel
theorem dX11_pond_94 : decode cX11_pond 94 = .ok (.getfield 28, 3) := by decide +kernel
theorem dX11_pond_97 : decode cX11_pond 97 = .ok (.iload_n 1, 1) := by decide +kernel
theorem dX11_pond_98 : decode cX11_pond 98 = .ok (.iaload, 1) := by decide +kernel
theorem dX11_pond_99 : decode cX11_pond 99 = .ok (.ireturn, 1) := by decide +kernel
theorem dX11_pond_100 : decode cX11_pond 100 = .ok (.aload_n 0, 1) := by decide +kernel
theorem dX11_pond_101 : decode cX11_pond 101 = .ok (.iload_n 1, 1) := by decide +kernel
theorem dX11_pond_102 : decode cX11_pond 102 = .ok (.invokevirtual 449, 3) := by decide +kernel
theorem dX11_pond_105 : decode cX11_pond 105 = .ok (.invokestatic 452, 3) := by decide +kernel
theorem dX11_pond_108 : decode cX11_pond 108 = .ok (.ireturn, 1) := by decide +kernel
theorem dX11_level_0 : decode cX11_level 0 = .ok (.aload_n 0, 1) := by decide +kernel
theorem dX11_level_1 : decode cX11_level 1 = .ok (.iconst 0, 1) := by decide +kernel
theorem dX11_level_2 : decode cX11_level 2 = .ok (.putfield 151, 3) := by decide +kernel
theorem dX11_level_5 : decode cX11_level 5 = .ok (.aload_n 0, 1) := by decide +kernel
theorem dX11_level_6 : decode cX11_level 6 = .ok (.iload_n 1, 1) := by decide +kernel
theorem dX11_level_7 : decode cX11_level 7 = .ok (.invokevirtual 446, 3) := by decide +kernel
theorem dX11_level_10 : decode cX11_level 10 = .ok (.ifCond .eq 29, 3) := by decide +kernel
theorem dX11_level_13 : decode cX11_level 13 = .ok (.iload_n 2, 1) := by decide +kernel
theorem dX11_level_14 : decode cX11_level 14 = .ok (.invokestatic 455, 3) := by decide +kernel
theorem dX11_level_17 : decode cX11_level 17 = .ok (.ifCond .eq 22, 3) := by decide +kernel
theorem dX11_level_20 : decode cX11_level 20 = .ok (.aload_n 0, 1) := by decide +kernel
theorem dX11_level_21 : decode cX11_level 21 = .ok (.iconst 0, 1) := by decide +kernel
theorem dX11_level_22 : decode cX11_level 22 = .ok (.iload_n 1, 1) := by decide +kernel
theorem dX11_level_23 : decode cX11_level 23 = .ok (.invokevirtual 346, 3) := by decide +kernel
theorem dX11_level_26 : decode cX11_level 26 = .ok (.aload_n 0, 1) := by decide +kernel
theorem dX11_level_27 : decode cX11_level 27 = .ok (.getfield 19, 3) := by decide +kernel
theorem dX11_level_30 : decode cX11_level 30 = .ok (.iload_n 1, 1) := by decide +kernel
theorem dX11_level_31 : decode cX11_level 31 = .ok (.iaload, 1) := by decide +kernel
theorem dX11_level_32 : decode cX11_level 32 = .ok (.iload_n 2, 1) := by decide +kernel
theorem dX11_level_33 : decode cX11_level 33 = .ok (.invokestatic 458, 3) := by decide +kernel
theorem dX11_level_36 : decode cX11_level 36 = .ok (.goto 4, 3) := by decide +kernel
theorem dX11_level_39 : decode cX11_level 39 = .ok (.iconst (-1), 1) := by decide +kernel
theorem dX11_level_40 : decode cX11_level 40 = .ok (.ireturn, 1) := by decide +kernel
theorem dX11_pipe_0 : decode cX11_pipe 0 = .ok (.aload_n 0, 1) := by decide +kernel
theorem dX11_pipe_1 : decode cX11_pipe 1 = .ok (.iconst 0, 1) := by decide +kernel
theorem dX11_pipe_2 : decode cX11_pipe 2 = .ok (.putfield 151, 3) := by decide +kernel
theorem dX11_pipe_5 : decode cX11_pipe 5 = .ok (.aload_n 0, 1) := by decide +kernel
theorem dX11_pipe_6 : decode cX11_pipe 6 = .ok (.iload_n 1, 1) := by decide +kernel
theorem dX11_pipe_7 : decode cX11_pipe 7 = .ok (.invokevirtual 461, 3) := by decide +kernel
theorem dX11_pipe_10 : decode cX11_pipe 10 = .ok (.ifCond .ne 5, 3) := by decide +kernel
theorem dX11_pipe_13 : decode cX11_pipe 13 = .ok (.iconst (-1), 1) := by decide +kernel
theorem dX11_pipe_14 : decode cX11_pipe 14 = .ok (.ireturn, 1) := by decide +kernel
theorem dX11_pipe_15 : decode cX11_pipe 15 = .ok (.iload_n 2, 1) := by decide +kernel
theorem dX11_pipe_16 : decode cX11_pipe 16 = .ok (.tableswitch 87 0 4 #[36, 43, 50, 57, 72], 36) := by decide +kernel
theorem dX11_pipe_52 : decode cX11_pipe 52 = .ok (.aload_n 0, 1) := by decide +kernel
theorem dX11_pipe_53 : decode cX11_pipe 53 = .ok (.getfield 40, 3) := by decide +kernel
theorem dX11_pipe_56 : decode cX11_pipe 56 = .ok (.iload_n 1, 1) := by decide +kernel
theorem dX11_pipe_57 : decode cX11_pipe 57 = .ok (.iaload, 1) := by decide +kernel
theorem dX11_pipe_58 : decode cX11_pipe 58 = .ok (.ireturn, 1) := by decide +kernel
theorem dX11_pipe_59 : decode cX11_pipe 59 = .ok (.aload_n 0, 1) := by decide +kernel
theorem dX11_pipe_60 : decode cX11_pipe 60 = .ok (.getfield 43, 3) := by decide +kernel
theorem dX11_pipe_63 : decode cX11_pipe 63 = .ok (.iload_n 1, 1) := by decide +kernel
theorem dX11_pipe_64 : decode cX11_pipe 64 = .ok (.iaload, 1) := by decide +kernel
theorem dX11_pipe_65 : decode cX11_pipe 65 = .ok (.ireturn, 1) := by decide +kernel
theorem dX11_pipe_66 : decode cX11_pipe 66 = .ok (.aload_n 0, 1) := by decide +kernel
theorem dX11_pipe_67 : decode cX11_pipe 67 = .ok (.getfield 46, 3) := by decide +kernel
theorem dX11_pipe_70 : decode cX11_pipe 70 = .ok (.iload_n 1, 1) := by decide +kernel
theorem dX11_pipe_71 : decode cX11_pipe 71 = .ok (.iaload, 1) := by decide +kernel
theorem dX11_pipe_72 : decode cX11_pipe 72 = .ok (.ireturn, 1) := by decide +kernel
theorem dX11_pipe_73 : decode cX11_pipe 73 = .ok (.aload_n 0, 1) := by decide +kernel
theorem dX11_pipe_74 : decode cX11_pipe 74 = .ok (.iconst 0, 1) := by decide +kernel
theorem dX11_pipe_75 : decode cX11_pipe 75 = .ok (.iload_n 1, 1) := by decide +kernel
theorem dX11_pipe_76 : decode cX11_pipe 76 = .ok (.invokevirtual 375, 3) := by decide +kernel
theorem dX11_pipe_79 : decode cX11_pipe 79 = .ok (.ifCond .eq 7, 3) := by decide +kernel
theorem dX11_pipe_82 : decode cX11_pipe 82 = .ok (.iconst 1, 1) := by decide +kernel
theorem dX11_pipe_83 : decode cX11_pipe 83 = .ok (.goto 4, 3) := by decide +kernel
theorem dX11_pipe_86 : decode cX11_pipe 86 = .ok (.iconst 0, 1) := by decide +kernel
theorem dX11_pipe_87 : decode cX11_pipe 87 = .ok (.ireturn, 1) := by decide +kernel
theorem dX11_pipe_88 : decode cX11_pipe 88 = .ok (.aload_n 0, 1) := by decide +kernel
theorem dX11_pipe_89 : decode cX11_pipe 89 = .ok (.iconst 0, 1) := by decide +kernel
theorem dX11_pipe_90 : decode cX11_pipe 90 = .ok (.iload_n 1, 1) := by decide +kernel
theorem dX11_pipe_91 : decode cX11_pipe 91 = .ok (.invokevirtual 368, 3) := by decide +kernel
theorem dX11_pipe_94 : decode cX11_pipe 94 = .ok (.ifCond .eq 7, 3) := by decide +kernel
theorem dX11_pipe_97 : decode cX11_pipe 97 = .ok (.iconst 1, 1) := by decide +kernel
theorem dX11_pipe_98 : decode cX11_pipe 98 = .ok (.goto 4, 3) := by decide +kernel
theorem dX11_pipe_101 : decode cX11_pipe 101 = .ok (.iconst 0, 1) := by decide +kernel
theorem dX11_pipe_102 : decode cX11_pipe 102 = .ok (.ireturn, 1) := by decide +kernel
theorem dX11_pipe_103 : decode cX11_pipe 103 = .ok (.iconst (-1), 1) := by decide +kernel
theorem dX11_pipe_104 : decode cX11_pipe 104 = .ok (.ireturn, 1) := by decide +kernel
theorem dX11_lock_0 : decode cX11_lock 0 = .ok (.aload_n 0, 1) := by decide +kernel
theorem dX11_lock_1 : decode cX11_lock 1 = .ok (.iconst 0, 1) := by decide +kernel
theorem dX11_lock_2 : decode cX11_lock 2 = .ok (.putfield 151, 3) := by decide +kernel
theorem dX11_lock_5 : decode cX11_lock 5 = .ok (.aload_n 0, 1) := by decide +kernel
theorem dX11_lock_6 : decode cX11_lock 6 = .ok (.iload_n 1, 1) := by decide +kernel
theorem dX11_lock_7 : decode cX11_lock 7 = .ok (.invokevirtual 464, 3) := by decide +kernel
theorem dX11_lock_10 : decode cX11_lock 10 = .ok (.ifCond .ne 5, 3) := by decide +kernel
theorem dX11_lock_13 : decode cX11_lock 13 = .ok (.iconst (-1), 1) := by decide +kernel
theorem dX11_lock_14 : decode cX11_lock 14 = .ok (.ireturn, 1) := by decide +kernel
theorem dX11_lock_15 : decode cX11_lock 15 = .ok (.iload_n 2, 1) := by decide +kernel
theorem dX11_lock_16 : decode cX11_lock 16 = .ok (.tableswitch 63 0 3 #[32, 39, 46, 53], 32) := by decide +kernel
theorem dX11_lock_48 : decode cX11_lock 48 = .ok (.aload_n 0, 1) := by decide +kernel
theorem dX11_lock_49 : decode cX11_lock 49 = .ok (.getfield 31, 3) := by decide +kernel
theorem dX11_lock_52 : decode cX11_lock 52 = .ok (.iload_n 1, 1) := by decide +kernel
theorem dX11_lock_53 : decode cX11_lock 53 = .ok (.iaload, 1) := by decide +kernel
theorem dX11_lock_54 : decode cX11_lock 54 = .ok (.ireturn, 1) := by decide +kernel
theorem dX11_lock_55 : decode cX11_lock 55 = .ok (.aload_n 0, 1) := by decide +kernel
theorem dX11_lock_56 : decode cX11_lock 56 = .ok (.getfield 34, 3) := by decide +kernel
theorem dX11_lock_59 : decode cX11_lock 59 = .ok (.iload_n 1, 1) := by decide +kernel
theorem dX11_lock_60 : decode cX11_lock 60 = .ok (.iaload, 1) := by decide +kernel
theorem dX11_lock_61 : decode cX11_lock 61 = .ok (.ireturn, 1) := by decide +kernel
theorem dX11_lock_62 : decode cX11_lock 62 = .ok (.aload_n 0, 1) := by decide +kernel
theorem dX11_lock_63 : decode cX11_lock 63 = .ok (.getfield 37, 3) := by decide +kernel
theorem dX11_lock_66 : decode cX11_lock 66 = .ok (.iload_n 1, 1) := by decide +kernel
theorem dX11_lock_67 : decode cX11_lock 67 = .ok (.iaload, 1) := by decide +kernel
theorem dX11_lock_68 : decode cX11_lock 68 = .ok (.ireturn, 1) := by decide +kernel
theorem dX11_lock_69 : decode cX11_lock 69 = .ok (.aload_n 0, 1) := by decide +kernel
theorem dX11_lock_70 : decode cX11_lock 70 = .ok (.iconst 0, 1) := by decide +kernel
theorem dX11_lock_71 : decode cX11_lock 71 = .ok (.iload_n 1, 1) := by decide +kernel
theorem dX11_lock_72 : decode cX11_lock 72 = .ok (.invokevirtual 419, 3) := by decide +kernel
theorem dX11_lock_75 : decode cX11_lock 75 = .ok (.invokestatic 452, 3) := by decide +kernel
theorem dX11_lock_78 : decode cX11_lock 78 = .ok (.ireturn, 1) := by decide +kernel
theorem dX11_lock_79 : decode cX11_lock 79 = .ok (.iconst (-1), 1) := by decide +kernel
theorem dX11_lock_80 : decode cX11_lock 80 = .ok (.ireturn, 1) := by decide +kernel
theorem dX11_boat_0 : decode cX11_boat 0 = .ok (.aload_n 0, 1) := by decide +kernel
theorem dX11_boat_1 : decode cX11_boat 1 = .ok (.iconst 0, 1) := by decide +kernel
theorem dX11_boat_2 : decode cX11_boat 2 = .ok (.putfield 151, 3) := by decide +kernel
theorem dX11_boat_5 : decode cX11_boat 5 = .ok (.aload_n 0, 1) := by decide +kernel
theorem dX11_boat_6 : decode cX11_boat 6 = .ok (.iload_n 1, 1) := by decide +kernel
theorem dX11_boat_7 : decode cX11_boat 7 = .ok (.invokevirtual 467, 3) := by decide +kernel
theorem dX11_boat_10 : decode cX11_boat 10 = .ok (.ifCond .ne 5, 3) := by decide +kernel
theorem dX11_boat_13 : decode cX11_boat 13 = .ok (.iconst (-1), 1) := by decide +kernel
theorem dX11_boat_14 : decode cX11_boat 14 = .ok (.ireturn, 1) := by decide +kernel
theorem dX11_boat_15 : decode cX11_boat 15 = .ok (.iload_n 2, 1) := by decide +kernel
theorem dX11_boat_16 : decode cX11_boat 16 = .ok (.tableswitch 60 0 3 #[32, 39, 46, 53], 32) := by decide +kernel
theorem dX11_boat_48 : decode cX11_boat 48 = .ok (.aload_n 0, 1) := by decide +kernel
theorem dX11_boat_49 : decode cX11_boat 49 = .ok (.getfield 58, 3) := by decide +kernel
theorem dX11_boat_52 : decode cX11_boat 52 = .ok (.iload_n 1, 1) := by decide +kernel
theorem dX11_boat_53 : decode cX11_boat 53 = .ok (.iaload, 1) := by decide +kernel
theorem dX11_boat_54 : decode cX11_boat 54 = .ok (.ireturn, 1) := by decide +kernel
theorem dX11_boat_55 : decode cX11_boat 55 = .ok (.aload_n 0, 1) := by decide +kernel
theorem dX11_boat_56 : decode cX11_boat 56 = .ok (.getfield 61, 3) := by decide +kernel
theorem dX11_boat_59 : decode cX11_boat 59 = .ok (.iload_n 1, 1) := by decide +kernel
theorem dX11_boat_60 : decode cX11_boat 60 = .ok (.iaload, 1) := by decide +kernel
theorem dX11_boat_61 : decode cX11_boat 61 = .ok (.ireturn, 1) := by decide +kernel
theorem dX11_boat_62 : decode cX11_boat 62 = .ok (.aload_n 0, 1) := by decide +kernel
theorem dX11_boat_63 : decode cX11_boat 63 = .ok (.getfield 102, 3) := by decide +kernel
theorem dX11_boat_66 : decode cX11_boat 66 = .ok (.iload_n 1, 1) := by decide +kernel
theorem dX11_boat_67 : decode cX11_boat 67 = .ok (.iaload, 1) := by decide +kernel
theorem dX11_boat_68 : decode cX11_boat 68 = .ok (.ireturn, 1) := by decide +kernel
theorem dX11_boat_69 : decode cX11_boat 69 = .ok (.aload_n 0, 1) := by decide +kernel
theorem dX11_boat_70 : decode cX11_boat 70 = .ok (.getfield 105, 3) := by decide +kernel
theorem dX11_boat_73 : decode cX11_boat 73 = .ok (.iload_n 1, 1) := by decide +kernel
theorem dX11_boat_74 : decode cX11_boat 74 = .ok (.iaload, 1) := by decide +kernel
theorem dX11_boat_75 : decode cX11_boat 75 = .ok (.ireturn, 1) := by decide +kernel
theorem dX11_boat_76 : decode cX11_boat 76 = .ok (.iconst (-1), 1) := by decide +kernel
theorem dX11_boat_77 : decode cX11_boat 77 = .ok (.ireturn, 1) := by decide +kernel
theorem dX11_law_0 : decode cX11_law 0 = .ok (.aload_n 0, 1) := by decide +kernel
theorem dX11_law_1 : decode cX11_law 1 = .ok (.iconst 0, 1) := by decide +kernel
theorem dX11_law_2 : decode cX11_law 2 = .ok (.putfield 151, 3) := by decide +kernel
theorem dX11_law_5 : decode cX11_law 5 = .ok (.iload_n 1, 1) := by decide +kernel
theorem dX11_law_6 : decode cX11_law 6 = .ok (.ifCond .ne 11, 3) := by decide +kernel
theorem dX11_law_9 : decode cX11_law 9 = .ok (.aload_n 0, 1) := by decide +kernel
theorem dX11_law_10 : decode cX11_law 10 = .ok (.iload_n 2, 1) := by decide +kernel
theorem dX11_law_11 : decode cX11_law 11 = .ok (.invokevirtual 461, 3) := by decide +kernel
theorem dX11_law_14 : decode cX11_law 14 = .ok (.goto 34, 3) := by decide +kernel
theorem dX11_law_17 : decode cX11_law 17 = .ok (.iload_n 1, 1) := by decide +kernel
theorem dX11_law_18 : decode cX11_law 18 = .ok (.iconst 1, 1) := by decide +kernel
theorem dX11_law_19 : decode cX11_law 19 = .ok (.if_icmp .ne 11, 3) := by decide +kernel
theorem dX11_law_22 : decode cX11_law 22 = .ok (.aload_n 0, 1) := by decide +kernel
theorem dX11_law_23 : decode cX11_law 23 = .ok (.iload_n 2, 1) := by decide +kernel
theorem dX11_law_24 : decode cX11_law 24 = .ok (.invokevirtual 446, 3) := by decide +kernel
theorem dX11_law_27 : decode cX11_law 27 = .ok (.goto 21, 3) := by decide +kernel
theorem dX11_law_30 : decode cX11_law 30 = .ok (.iload_n 1, 1) := by decide +kernel
theorem dX11_law_31 : decode cX11_law 31 = .ok (.iconst 2, 1) := by decide +kernel
theorem dX11_law_32 : decode cX11_law 32 = .ok (.if_icmp .ne 15, 3) := by decide +kernel
theorem dX11_law_35 : decode cX11_law 35 = .ok (.aload_n 0, 1) := by decide +kernel
theorem dX11_law_36 : decode cX11_law 36 = .ok (.iload_n 2, 1) := by decide +kernel
theorem dX11_law_37 : decode cX11_law 37 = .ok (.invokevirtual 467, 3) := by decide +kernel
theorem dX11_law_40 : decode cX11_law 40 = .ok (.ifCond .eq 7, 3) := by decide +kernel
theorem dX11_law_43 : decode cX11_law 43 = .ok (.iconst 1, 1) := by decide +kernel
theorem dX11_law_44 : decode cX11_law 44 = .ok (.goto 4, 3) := by decide +kernel
theorem dX11_law_47 : decode cX11_law 47 = .ok (.iconst 0, 1) := by decide +kernel
theorem dX11_law_48 : decode cX11_law 48 = .ok (.istore_n 3, 1) := by decide +kernel
theorem dX11_law_49 : decode cX11_law 49 = .ok (.iload_n 3, 1) := by decide +kernel
theorem dX11_law_50 : decode cX11_law 50 = .ok (.ifCond .eq 11, 3) := by decide +kernel
theorem dX11_law_53 : decode cX11_law 53 = .ok (.aload_n 0, 1) := by decide +kernel
theorem dX11_law_54 : decode cX11_law 54 = .ok (.iload_n 1, 1) := by decide +kernel
theorem dX11_law_55 : decode cX11_law 55 = .ok (.invokevirtual 384, 3) := by decide +kernel
theorem dX11_law_58 : decode cX11_law 58 = .ok (.ifCond .ne 7, 3) := by decide +kernel
theorem dX11_law_61 : decode cX11_law 61 = .ok (.ldc2_w 472, 3) := by decide +kernel
theorem dX11_law_64 : decode cX11_law 64 = .ok (.lreturn, 1) := by decide +kernel
theorem dX11_law_65 : decode cX11_law 65 = .ok (.aload_n 0, 1) := by decide +kernel
theorem dX11_law_66 : decode cX11_law 66 = .ok (.iconst 0, 1) := by decide +kernel
theorem dX11_law_67 : decode cX11_law 67 = .ok (.iload_n 1, 1) := by decide +kernel
theorem dX11_law_68 : decode cX11_law 68 = .ok (.ifCond .ne 12, 3) := by decide +kernel
theorem dX11_law_71 : decode cX11_law 71 = .ok (.aload_n 0, 1) := by decide +kernel
theorem dX11_law_72 : decode cX11_law 72 = .ok (.iconst 0, 1) := by decide +kernel
theorem dX11_law_73 : decode cX11_law 73 = .ok (.iload_n 2, 1) := by decide +kernel
theorem dX11_law_74 : decode cX11_law 74 = .ok (.invokevirtual 353, 3) := by decide +kernel
theorem dX11_law_77 : decode cX11_law 77 = .ok (.goto 23, 3) := by decide +kernel
theorem dX11_law_80 : decode cX11_law 80 = .ok (.iload_n 1, 1) := by decide +kernel
theorem dX11_law_81 : decode cX11_law 81 = .ok (.iconst 1, 1) := by decide +kernel
theorem dX11_law_82 : decode cX11_law 82 = .ok (.if_icmp .ne 7, 3) := by decide +kernel
theorem dX11_law_85 : decode cX11_law 85 = .ok (.iload_n 2, 1) := by decide +kernel
theorem dX11_law_86 : decode cX11_law 86 = .ok (.goto 14, 3) := by decide +kernel
theorem dX11_law_89 : decode cX11_law 89 = .ok (.aload_n 0, 1) := by decide +kernel
theorem dX11_law_90 : decode cX11_law 90 = .ok (.getfield 31, 3) := by decide +kernel
theorem dX11_law_93 : decode cX11_law 93 = .ok (.aload_n 0, 1) := by decide +kernel
theorem dX11_law_94 : decode cX11_law 94 = .ok (.getfield 58, 3) := by decide +kernel
theorem dX11_law_97 : decode cX11_law 97 = .ok (.iload_n 2, 1) := by decide +kernel
theorem dX11_law_98 : decode cX11_law 98 = .ok (.iaload, 1) := by decide +kernel
theorem dX11_law_99 : decode cX11_law 99 = .ok (.iaload, 1) := by decide +kernel
theorem dX11_law_100 : decode cX11_law 100 = .ok (.iload_n 1, 1) := by decide +kernel
theorem dX11_law_101 : decode cX11_law 101 = .ok (.ifCond .ne 12, 3) := by decide +kernel
theorem dX11_law_104 : decode cX11_law 104 = .ok (.aload_n 0, 1) := by decide +kernel
theorem dX11_law_105 : decode cX11_law 105 = .ok (.getfield 46, 3) := by decide +kernel
theorem dX11_law_108 : decode cX11_law 108 = .ok (.iload_n 2, 1) := by decide +kernel
theorem dX11_law_109 : decode cX11_law 109 = .ok (.iaload, 1) := by decide +kernel
theorem dX11_law_110 : decode cX11_law 110 = .ok (.goto 4, 3) := by decide +kernel
theorem dX11_law_113 : decode cX11_law 113 = .ok (.iconst 0, 1) := by decide +kernel
theorem dX11_law_114 : decode cX11_law 114 = .ok (.invokevirtual 400, 3) := by decide +kernel
theorem dX11_law_117 : decode cX11_law 117 = .ok (.aload_n 0, 1) := by decide +kernel
theorem dX11_law_118 : decode cX11_law 118 = .ok (.iload_n 1, 1) := by decide +kernel
theorem dX11_law_119 : decode cX11_law 119 = .ok (.invokevirtual 387, 3) := by decide +kernel
theorem dX11_law_122 : decode cX11_law 122 = .ok (.ifCond .eq 12, 3) := by decide +kernel
theorem dX11_law_125 : decode cX11_law 125 = .ok (.aload_n 0, 1) := by decide +kernel
theorem dX11_law_126 : decode cX11_law 126 = .ok (.getfield 84, 3) := by decide +kernel
theorem dX11_law_129 : decode cX11_law 129 = .ok (.iconst 0, 1) := by decide +kernel
theorem dX11_law_130 : decode cX11_law 130 = .ok (.laload, 1) := by decide +kernel
theorem dX11_law_131 : decode cX11_law 131 = .ok (.goto 6, 3) := by decide +kernel
theorem dX11_law_134 : decode cX11_law 134 = .ok (.ldc2_w 472, 3) := by decide +kernel
theorem dX11_law_137 : decode cX11_law 137 = .ok (.lreturn, 1) := by decide +kernel
theorem dX11_runs_0 : decode cX11_runs 0 = .ok (.aload_n 0, 1) := by decide +kernel
theorem dX11_runs_1 : decode cX11_runs 1 = .ok (.iconst 0, 1) := by decide +kernel
theorem dX11_runs_2 : decode cX11_runs 2 = .ok (.putfield 151, 3) := by decide +kernel
theorem dX11_runs_5 : decode cX11_runs 5 = .ok (.aload_n 0, 1) := by decide +kernel
theorem dX11_runs_6 : decode cX11_runs 6 = .ok (.iload_n 1, 1) := by decide +kernel
theorem dX11_runs_7 : decode cX11_runs 7 = .ok (.invokevirtual 461, 3) := by decide +kernel
theorem dX11_runs_10 : decode cX11_runs 10 = .ok (.ifCond .eq 10, 3) := by decide +kernel
theorem dX11_runs_13 : decode cX11_runs 13 = .ok (.iload_n 2, 1) := by decide +kernel
theorem dX11_runs_14 : decode cX11_runs 14 = .ok (.invokestatic 455, 3) := by decide +kernel
theorem dX11_runs_17 : decode cX11_runs 17 = .ok (.ifCond .ne 5, 3) := by decide +kernel
theorem dX11_runs_20 : decode cX11_runs 20 = .ok (.iconst (-1), 1) := by decide +kernel
theorem dX11_runs_21 : decode cX11_runs 21 = .ok (.ireturn, 1) := by decide +kernel
theorem dX11_runs_22 : decode cX11_runs 22 = .ok (.iload_n 2, 1) := by decide +kernel
theorem dX11_runs_23 : decode cX11_runs 23 = .ok (.ifCond .ne 12, 3) := by decide +kernel
theorem dX11_runs_26 : decode cX11_runs 26 = .ok (.aload_n 0, 1) := by decide +kernel
theorem dX11_runs_27 : decode cX11_runs 27 = .ok (.iconst 0, 1) := by decide +kernel
theorem dX11_runs_28 : decode cX11_runs 28 = .ok (.iload_n 1, 1) := by decide +kernel
theorem dX11_runs_29 : decode cX11_runs 29 = .ok (.invokevirtual 362, 3) := by decide +kernel
theorem dX11_runs_32 : decode cX11_runs 32 = .ok (.goto 9, 3) := by decide +kernel
theorem dX11_runs_35 : decode cX11_runs 35 = .ok (.aload_n 0, 1) := by decide +kernel
theorem dX11_runs_36 : decode cX11_runs 36 = .ok (.iconst 0, 1) := by decide +kernel
theorem dX11_runs_37 : decode cX11_runs 37 = .ok (.iload_n 1, 1) := by decide +kernel
theorem dX11_runs_38 : decode cX11_runs 38 = .ok (.invokevirtual 353, 3) := by decide +kernel
theorem dX11_runs_41 : decode cX11_runs 41 = .ok (.ireturn, 1) := by decide +kernel
theorem dX11_keepNow_0 : decode cX11_keepNow 0 = .ok (.aload_n 0, 1) := by decide +kernel
theorem dX11_keepNow_1 : decode cX11_keepNow 1 = .ok (.getfield 320, 3) := by decide +kernel
theorem dX11_keepNow_4 : decode cX11_keepNow 4 = .ok (.bipush 20, 2) := by decide +kernel
theorem dX11_keepNow_6 : decode cX11_keepNow 6 = .ok (.if_icmp .ne 39, 3) := by decide +kernel
theorem dX11_keepNow_9 : decode cX11_keepNow 9 = .ok (.iconst 1, 1) := by decide +kernel
theorem dX11_keepNow_10 : decode cX11_keepNow 10 = .ok (.istore_n 1, 1) := by decide +kernel
theorem dX11_keepNow_11 : decode cX11_keepNow 11 = .ok (.iload_n 1, 1) := by decide +kernel
theorem dX11_keepNow_12 : decode cX11_keepNow 12 = .ok (.bipush 20, 2) := by decide +kernel
theorem dX11_keepNow_14 : decode cX11_keepNow 14 = .ok (.if_icmp .ge 21, 3) := by decide +kernel
theorem dX11_keepNow_17 : decode cX11_keepNow 17 = .ok (.aload_n 0, 1) := by decide +kernel
theorem dX11_keepNow_18 : decode cX11_keepNow 18 = .ok (.iconst 3, 1) := by decide +kernel
theorem dX11_keepNow_19 : decode cX11_keepNow 19 = .ok (.iload_n 1, 1) := by decide +kernel
theorem dX11_keepNow_20 : decode cX11_keepNow 20 = .ok (.iadd, 1) := by decide +kernel
theorem dX11_keepNow_21 : decode cX11_keepNow 21 = .ok (.iconst 1, 1) := by decide +kernel
theorem dX11_keepNow_22 : decode cX11_keepNow 22 = .ok (.isub, 1) := by decide +kernel
theorem dX11_keepNow_23 : decode cX11_keepNow 23 = .ok (.iconst 3, 1) := by decide +kernel
theorem dX11_keepNow_24 : decode cX11_keepNow 24 = .ok (.iload_n 1, 1) := by decide +kernel
theorem dX11_keepNow_25 : decode cX11_keepNow 25 = .ok (.iadd, 1) := by decide +kernel
theorem dX11_keepNow_26 : decode cX11_keepNow 26 = .ok (.invokevirtual 474, 3) := by decide +kernel
theorem dX11_keepNow_29 : decode cX11_keepNow 29 = .ok (.iinc 1 1, 3) := by decide +kernel
theorem dX11_keepNow_32 : decode cX11_keepNow 32 = .ok (.goto (-21), 3) := by decide +kernel
theorem dX11_keepNow_35 : decode cX11_keepNow 35 = .ok (.aload_n 0, 1) := by decide +kernel
theorem dX11_keepNow_36 : decode cX11_keepNow 36 = .ok (.dup, 1) := by decide +kernel
theorem dX11_keepNow_37 : decode cX11_keepNow 37 = .ok (.getfield 320, 3) := by decide +kernel
theorem dX11_keepNow_40 : decode cX11_keepNow 40 = .ok (.iconst 1, 1) := by decide +kernel
theorem dX11_keepNow_41 : decode cX11_keepNow 41 = .ok (.isub, 1) := by decide +kernel
theorem dX11_keepNow_42 : decode cX11_keepNow 42 = .ok (.putfield 320, 3) := by decide +kernel
theorem dX11_keepNow_45 : decode cX11_keepNow 45 = .ok (.aload_n 0, 1) := by decide +kernel
theorem dX11_keepNow_46 : decode cX11_keepNow 46 = .ok (.iconst 3, 1) := by decide +kernel
theorem dX11_keepNow_47 : decode cX11_keepNow 47 = .ok (.aload_n 0, 1) := by decide +kernel
theorem dX11_keepNow_48 : decode cX11_keepNow 48 = .ok (.getfield 320, 3) := by decide +kernel
theorem dX11_keepNow_51 : decode cX11_keepNow 51 = .ok (.iadd, 1) := by decide +kernel
theorem dX11_keepNow_52 : decode cX11_keepNow 52 = .ok (.iconst 0, 1) := by decide +kernel
theorem dX11_keepNow_53 : decode cX11_keepNow 53 = .ok (.invokevirtual 474, 3) := by decide +kernel
theorem dX11_keepNow_56 : decode cX11_keepNow 56 = .ok (.aload_n 0, 1) := by decide +kernel
theorem dX11_keepNow_57 : decode cX11_keepNow 57 = .ok (.dup, 1) := by decide +kernel
theorem dX11_keepNow_58 : decode cX11_keepNow 58 = .ok (.getfield 320, 3) := by decide +kernel
theorem dX11_keepNow_61 : decode cX11_keepNow 61 = .ok (.iconst 1, 1) := by decide +kernel
theorem dX11_keepNow_62 : decode cX11_keepNow 62 = .ok (.iadd, 1) := by decide +kernel
theorem dX11_keepNow_63 : decode cX11_keepNow 63 = .ok (.putfield 320, 3) := by decide +kernel
theorem dX11_keepNow_66 : decode cX11_keepNow 66 = .ok (.return_, 1) := by decide +kernel
theorem dX11_draw_0 : decode cX11_draw 0 = .ok (.aload_n 0, 1) := by decide +kernel
theorem dX11_draw_1 : decode cX11_draw 1 = .ok (.iconst 0, 1) := by decide +kernel
theorem dX11_draw_2 : decode cX11_draw 2 = .ok (.putfield 151, 3) := by decide +kernel
theorem dX11_draw_5 : decode cX11_draw 5 = .ok (.aload_n 0, 1) := by decide +kernel
theorem dX11_draw_6 : decode cX11_draw 6 = .ok (.iload_n 1, 1) := by decide +kernel
theorem dX11_draw_7 : decode cX11_draw 7 = .ok (.invokevirtual 461, 3) := by decide +kernel
theorem dX11_draw_10 : decode cX11_draw 10 = .ok (.ifCond .eq 15, 3) := by decide +kernel
theorem dX11_draw_13 : decode cX11_draw 13 = .ok (.iload_n 2, 1) := by decide +kernel
theorem dX11_draw_14 : decode cX11_draw 14 = .ok (.iconst 1, 1) := by decide +kernel
theorem dX11_draw_15 : decode cX11_draw 15 = .ok (.if_icmp .lt 10, 3) := by decide +kernel
theorem dX11_draw_18 : decode cX11_draw 18 = .ok (.iload_n 2, 1) := by decide +kernel
theorem dX11_draw_19 : decode cX11_draw 19 = .ok (.sipush 999, 3) := by decide +kernel
theorem dX11_draw_22 : decode cX11_draw 22 = .ok (.if_icmp .le 5, 3) := by decide +kernel
theorem dX11_draw_25 : decode cX11_draw 25 = .ok (.iconst (-1), 1) := by decide +kernel
theorem dX11_draw_26 : decode cX11_draw 26 = .ok (.ireturn, 1) := by decide +kernel
theorem dX11_draw_27 : decode cX11_draw 27 = .ok (.aload_n 0, 1) := by decide +kernel
theorem dX11_draw_28 : decode cX11_draw 28 = .ok (.iconst 0, 1) := by decide +kernel
theorem dX11_draw_29 : decode cX11_draw 29 = .ok (.iload_n 1, 1) := by decide +kernel
theorem dX11_draw_30 : decode cX11_draw 30 = .ok (.invokevirtual 368, 3) := by decide +kernel
theorem dX11_draw_33 : decode cX11_draw 33 = .ok (.ifCond .eq 6, 3) := by decide +kernel
theorem dX11_draw_36 : decode cX11_draw 36 = .ok (.bipush (-2), 2) := by decide +kernel
theorem dX11_draw_38 : decode cX11_draw 38 = .ok (.ireturn, 1) := by decide +kernel
theorem dX11_draw_39 : decode cX11_draw 39 = .ok (.aload_n 0, 1) := by decide +kernel
theorem dX11_draw_40 : decode cX11_draw 40 = .ok (.invokevirtual 477, 3) := by decide +kernel
theorem dX11_draw_43 : decode cX11_draw 43 = .ok (.aload_n 0, 1) := by decide +kernel
theorem dX11_draw_44 : decode cX11_draw 44 = .ok (.iconst 0, 1) := by decide +kernel
theorem dX11_draw_45 : decode cX11_draw 45 = .ok (.iload_n 1, 1) := by decide +kernel
theorem dX11_draw_46 : decode cX11_draw 46 = .ok (.iload_n 2, 1) := by decide +kernel
theorem dX11_draw_47 : decode cX11_draw 47 = .ok (.invokevirtual 407, 3) := by decide +kernel
theorem dX11_draw_50 : decode cX11_draw 50 = .ok (.ireturn, 1) := by decide +kernel
theorem dX11_fill_0 : decode cX11_fill 0 = .ok (.aload_n 0, 1) := by decide +kernel
theorem dX11_fill_1 : decode cX11_fill 1 = .ok (.iconst 0, 1) := by decide +kernel
theorem dX11_fill_2 : decode cX11_fill 2 = .ok (.putfield 151, 3) := by decide +kernel
theorem dX11_fill_5 : decode cX11_fill 5 = .ok (.aload_n 0, 1) := by decide +kernel
theorem dX11_fill_6 : decode cX11_fill 6 = .ok (.iload_n 1, 1) := by decide +kernel
theorem dX11_fill_7 : decode cX11_fill 7 = .ok (.invokevirtual 446, 3) := by decide +kernel
theorem dX11_fill_10 : decode cX11_fill 10 = .ok (.ifCond .eq 14, 3) := by decide +kernel
theorem dX11_fill_13 : decode cX11_fill 13 = .ok (.iload_n 2, 1) := by decide +kernel
theorem dX11_fill_14 : decode cX11_fill 14 = .ok (.iconst 1, 1) := by decide +kernel
theorem dX11_fill_15 : decode cX11_fill 15 = .ok (.if_icmp .lt 9, 3) := by decide +kernel
theorem dX11_fill_18 : decode cX11_fill 18 = .ok (.iload_n 2, 1) := by decide +kernel
theorem dX11_fill_19 : decode cX11_fill 19 = .ok (.bipush 99, 2) := by decide +kernel
theorem dX11_fill_21 : decode cX11_fill 21 = .ok (.if_icmp .le 5, 3) := by decide +kernel
theorem dX11_fill_24 : decode cX11_fill 24 = .ok (.iconst (-1), 1) := by decide +kernel
theorem dX11_fill_25 : decode cX11_fill 25 = .ok (.ireturn, 1) := by decide +kernel
theorem dX11_fill_26 : decode cX11_fill 26 = .ok (.aload_n 0, 1) := by decide +kernel
theorem dX11_fill_27 : decode cX11_fill 27 = .ok (.invokevirtual 477, 3) := by decide +kernel
theorem dX11_fill_30 : decode cX11_fill 30 = .ok (.aload_n 0, 1) := by decide +kernel
theorem dX11_fill_31 : decode cX11_fill 31 = .ok (.getfield 99, 3) := by decide +kernel
theorem dX11_fill_34 : decode cX11_fill 34 = .ok (.iload_n 1, 1) := by decide +kernel
theorem dX11_fill_35 : decode cX11_fill 35 = .ok (.aload_n 0, 1) := by decide +kernel
theorem dX11_fill_36 : decode cX11_fill 36 = .ok (.aload_n 0, 1) := by decide +kernel
theorem dX11_fill_37 : decode cX11_fill 37 = .ok (.getfield 99, 3) := by decide +kernel
theorem dX11_fill_40 : decode cX11_fill 40 = .ok (.iload_n 1, 1) := by decide +kernel
theorem dX11_fill_41 : decode cX11_fill 41 = .ok (.iaload, 1) := by decide +kernel
theorem dX11_fill_42 : decode cX11_fill 42 = .ok (.iload_n 2, 1) := by decide +kernel
theorem dX11_fill_43 : decode cX11_fill 43 = .ok (.invokevirtual 426, 3) := by decide +kernel
theorem dX11_fill_46 : decode cX11_fill 46 = .ok (.iastore, 1) := by decide +kernel
theorem dX11_fill_47 : decode cX11_fill 47 = .ok (.aload_n 0, 1) := by decide +kernel
theorem dX11_fill_48 : decode cX11_fill 48 = .ok (.getfield 99, 3) := by decide +kernel
theorem dX11_fill_51 : decode cX11_fill 51 = .ok (.iload_n 1, 1) := by decide +kernel
theorem dX11_fill_52 : decode cX11_fill 52 = .ok (.iaload, 1) := by decide +kernel
theorem dX11_fill_53 : decode cX11_fill 53 = .ok (.ireturn, 1) := by decide +kernel
theorem dX11_spill_0 : decode cX11_spill 0 = .ok (.aload_n 0, 1) := by decide +kernel
theorem dX11_spill_1 : decode cX11_spill 1 = .ok (.iconst 0, 1) := by decide +kernel
theorem dX11_spill_2 : decode cX11_spill 2 = .ok (.putfield 151, 3) := by decide +kernel
theorem dX11_spill_5 : decode cX11_spill 5 = .ok (.aload_n 0, 1) := by decide +kernel
theorem dX11_spill_6 : decode cX11_spill 6 = .ok (.iload_n 1, 1) := by decide +kernel
theorem dX11_spill_7 : decode cX11_spill 7 = .ok (.invokevirtual 446, 3) := by decide +kernel
theorem dX11_spill_10 : decode cX11_spill 10 = .ok (.ifCond .eq 14, 3) := by decide +kernel
theorem dX11_spill_13 : decode cX11_spill 13 = .ok (.iload_n 2, 1) := by decide +kernel
theorem dX11_spill_14 : decode cX11_spill 14 = .ok (.iconst 1, 1) := by decide +kernel
theorem dX11_spill_15 : decode cX11_spill 15 = .ok (.if_icmp .lt 9, 3) := by decide +kernel
theorem dX11_spill_18 : decode cX11_spill 18 = .ok (.iload_n 2, 1) := by decide +kernel
theorem dX11_spill_19 : decode cX11_spill 19 = .ok (.bipush 99, 2) := by decide +kernel
theorem dX11_spill_21 : decode cX11_spill 21 = .ok (.if_icmp .le 5, 3) := by decide +kernel
theorem dX11_spill_24 : decode cX11_spill 24 = .ok (.iconst (-1), 1) := by decide +kernel
theorem dX11_spill_25 : decode cX11_spill 25 = .ok (.ireturn, 1) := by decide +kernel
theorem dX11_spill_26 : decode cX11_spill 26 = .ok (.aload_n 0, 1) := by decide +kernel
theorem dX11_spill_27 : decode cX11_spill 27 = .ok (.getfield 99, 3) := by decide +kernel
theorem dX11_spill_30 : decode cX11_spill 30 = .ok (.iload_n 1, 1) := by decide +kernel
theorem dX11_spill_31 : decode cX11_spill 31 = .ok (.iaload, 1) := by decide +kernel
theorem dX11_spill_32 : decode cX11_spill 32 = .ok (.iload_n 2, 1) := by decide +kernel
theorem dX11_spill_33 : decode cX11_spill 33 = .ok (.if_icmp .ge 6, 3) := by decide +kernel
theorem dX11_spill_36 : decode cX11_spill 36 = .ok (.bipush (-2), 2) := by decide +kernel
theorem dX11_spill_38 : decode cX11_spill 38 = .ok (.ireturn, 1) := by decide +kernel
theorem dX11_spill_39 : decode cX11_spill 39 = .ok (.aload_n 0, 1) := by decide +kernel
theorem dX11_spill_40 : decode cX11_spill 40 = .ok (.invokevirtual 477, 3) := by decide +kernel
theorem dX11_spill_43 : decode cX11_spill 43 = .ok (.aload_n 0, 1) := by decide +kernel
theorem dX11_spill_44 : decode cX11_spill 44 = .ok (.getfield 99, 3) := by decide +kernel
theorem dX11_spill_47 : decode cX11_spill 47 = .ok (.iload_n 1, 1) := by decide +kernel
theorem dX11_spill_48 : decode cX11_spill 48 = .ok (.dup2, 1) := by decide +kernel
theorem dX11_spill_49 : decode cX11_spill 49 = .ok (.iaload, 1) := by decide +kernel
theorem dX11_spill_50 : decode cX11_spill 50 = .ok (.iload_n 2, 1) := by decide +kernel
theorem dX11_spill_51 : decode cX11_spill 51 = .ok (.isub, 1) := by decide +kernel
theorem dX11_spill_52 : decode cX11_spill 52 = .ok (.iastore, 1) := by decide +kernel
theorem dX11_spill_53 : decode cX11_spill 53 = .ok (.aload_n 0, 1) := by decide +kernel
theorem dX11_spill_54 : decode cX11_spill 54 = .ok (.getfield 99, 3) := by decide +kernel
theorem dX11_spill_57 : decode cX11_spill 57 = .ok (.iload_n 1, 1) := by decide +kernel
theorem dX11_spill_58 : decode cX11_spill 58 = .ok (.iaload, 1) := by decide +kernel
theorem dX11_spill_59 : decode cX11_spill 59 = .ok (.ireturn, 1) := by decide +kernel
theorem dX11_mend_0 : decode cX11_mend 0 = .ok (.aload_n 0, 1) := by decide +kernel
theorem dX11_mend_1 : decode cX11_mend 1 = .ok (.iconst 0, 1) := by decide +kernel
theorem dX11_mend_2 : decode cX11_mend 2 = .ok (.putfield 151, 3) := by decide +kernel
theorem dX11_mend_5 : decode cX11_mend 5 = .ok (.aload_n 0, 1) := by decide +kernel
theorem dX11_mend_6 : decode cX11_mend 6 = .ok (.iload_n 1, 1) := by decide +kernel
theorem dX11_mend_7 : decode cX11_mend 7 = .ok (.invokevirtual 461, 3) := by decide +kernel
theorem dX11_mend_10 : decode cX11_mend 10 = .ok (.ifCond .eq 12, 3) := by decide +kernel
theorem dX11_mend_13 : decode cX11_mend 13 = .ok (.aload_n 0, 1) := by decide +kernel
theorem dX11_mend_14 : decode cX11_mend 14 = .ok (.iconst 0, 1) := by decide +kernel
theorem dX11_mend_15 : decode cX11_mend 15 = .ok (.iload_n 1, 1) := by decide +kernel
theorem dX11_mend_16 : decode cX11_mend 16 = .ok (.invokevirtual 368, 3) := by decide +kernel
theorem dX11_mend_19 : decode cX11_mend 19 = .ok (.ifCond .ne 5, 3) := by decide +kernel
theorem dX11_mend_22 : decode cX11_mend 22 = .ok (.iconst 0, 1) := by decide +kernel
theorem dX11_mend_23 : decode cX11_mend 23 = .ok (.ireturn, 1) := by decide +kernel
theorem dX11_mend_24 : decode cX11_mend 24 = .ok (.aload_n 0, 1) := by decide +kernel
theorem dX11_mend_25 : decode cX11_mend 25 = .ok (.invokevirtual 477, 3) := by decide +kernel
theorem dX11_mend_28 : decode cX11_mend 28 = .ok (.aload_n 0, 1) := by decide +kernel
theorem dX11_mend_29 : decode cX11_mend 29 = .ok (.getfield 96, 3) := by decide +kernel
theorem dX11_mend_32 : decode cX11_mend 32 = .ok (.iconst 0, 1) := by decide +kernel
theorem dX11_mend_33 : decode cX11_mend 33 = .ok (.dup2, 1) := by decide +kernel
theorem dX11_mend_34 : decode cX11_mend 34 = .ok (.iaload, 1) := by decide +kernel
theorem dX11_mend_35 : decode cX11_mend 35 = .ok (.iconst 1, 1) := by decide +kernel
theorem dX11_mend_36 : decode cX11_mend 36 = .ok (.iload_n 1, 1) := by decide +kernel
theorem dX11_mend_37 : decode cX11_mend 37 = .ok (.ishl, 1) := by decide +kernel
theorem dX11_mend_38 : decode cX11_mend 38 = .ok (.iconst (-1), 1) := by decide +kernel
theorem dX11_mend_39 : decode cX11_mend 39 = .ok (.ixor, 1) := by decide +kernel
theorem dX11_mend_40 : decode cX11_mend 40 = .ok (.iand, 1) := by decide +kernel
theorem dX11_mend_41 : decode cX11_mend 41 = .ok (.iastore, 1) := by decide +kernel
theorem dX11_mend_42 : decode cX11_mend 42 = .ok (.iconst 1, 1) := by decide +kernel
theorem dX11_mend_43 : decode cX11_mend 43 = .ok (.ireturn, 1) := by decide +kernel
theorem dX11_go_0 : decode cX11_go 0 = .ok (.aload_n 0, 1) := by decide +kernel
theorem dX11_go_1 : decode cX11_go 1 = .ok (.iconst 0, 1) := by decide +kernel
theorem dX11_go_2 : decode cX11_go 2 = .ok (.putfield 151, 3) := by decide +kernel
theorem dX11_go_5 : decode cX11_go 5 = .ok (.iload_n 1, 1) := by decide +kernel
theorem dX11_go_6 : decode cX11_go 6 = .ok (.ifCond .lt 24, 3) := by decide +kernel
theorem dX11_go_9 : decode cX11_go 9 = .ok (.iload_n 1, 1) := by decide +kernel
theorem dX11_go_10 : decode cX11_go 10 = .ok (.sipush 200, 3) := by decide +kernel
theorem dX11_go_13 : decode cX11_go 13 = .ok (.if_icmp .gt 17, 3) := by decide +kernel
theorem dX11_go_16 : decode cX11_go 16 = .ok (.aload_n 0, 1) := by decide +kernel
theorem dX11_go_17 : decode cX11_go 17 = .ok (.getfield 87, 3) := by decide +kernel
theorem dX11_go_20 : decode cX11_go 20 = .ok (.iconst 0, 1) := by decide +kernel
theorem dX11_go_21 : decode cX11_go 21 = .ok (.iaload, 1) := by decide +kernel
theorem dX11_go_22 : decode cX11_go 22 = .ok (.iload_n 1, 1) := by decide +kernel
theorem dX11_go_23 : decode cX11_go 23 = .ok (.iadd, 1) := by decide +kernel
theorem dX11_go_24 : decode cX11_go 24 = .ok (.sipush 9800, 3) := by decide +kernel
theorem dX11_go_27 : decode cX11_go 27 = .ok (.if_icmp .le 5, 3) := by decide +kernel
theorem dX11_go_30 : decode cX11_go 30 = .ok (.iconst (-1), 1) := by decide +kernel
theorem dX11_go_31 : decode cX11_go 31 = .ok (.ireturn, 1) := by decide +kernel
theorem dX11_go_32 : decode cX11_go 32 = .ok (.iload_n 1, 1) := by decide +kernel
theorem dX11_go_33 : decode cX11_go 33 = .ok (.ifCond .le 8, 3) := by decide +kernel
theorem dX11_go_36 : decode cX11_go 36 = .ok (.aload_n 0, 1) := by decide +kernel
theorem dX11_go_37 : decode cX11_go 37 = .ok (.iconst 0, 1) := by decide +kernel
theorem dX11_go_38 : decode cX11_go 38 = .ok (.putfield 320, 3) := by decide +kernel
theorem dX11_go_41 : decode cX11_go 41 = .ok (.iconst 0, 1) := by decide +kernel
theorem dX11_go_42 : decode cX11_go 42 = .ok (.istore_n 2, 1) := by decide +kernel
theorem dX11_go_43 : decode cX11_go 43 = .ok (.iload_n 2, 1) := by decide +kernel
theorem dX11_go_44 : decode cX11_go 44 = .ok (.iload_n 1, 1) := by decide +kernel
theorem dX11_go_45 : decode cX11_go 45 = .ok (.if_icmp .ge 15, 3) := by decide +kernel
theorem dX11_go_48 : decode cX11_go 48 = .ok (.aload_n 0, 1) := by decide +kernel
theorem dX11_go_49 : decode cX11_go 49 = .ok (.iconst 0, 1) := by decide +kernel
theorem dX11_go_50 : decode cX11_go 50 = .ok (.iconst 1, 1) := by decide +kernel
theorem dX11_go_51 : decode cX11_go 51 = .ok (.invokevirtual 439, 3) := by decide +kernel
theorem dX11_go_54 : decode cX11_go 54 = .ok (.iinc 2 1, 3) := by decide +kernel
theorem dX11_go_57 : decode cX11_go 57 = .ok (.goto (-14), 3) := by decide +kernel
theorem dX11_go_60 : decode cX11_go 60 = .ok (.aload_n 0, 1) := by decide +kernel
theorem dX11_go_61 : decode cX11_go 61 = .ok (.getfield 87, 3) := by decide +kernel
theorem dX11_go_64 : decode cX11_go 64 = .ok (.iconst 0, 1) := by decide +kernel
theorem dX11_go_65 : decode cX11_go 65 = .ok (.iaload, 1) := by decide +kernel
theorem dX11_go_66 : decode cX11_go 66 = .ok (.ireturn, 1) := by decide +kernel
theorem dX11_ahead_0 : decode cX11_ahead 0 = .ok (.aload_n 0, 1) := by decide +kernel
theorem dX11_ahead_1 : decode cX11_ahead 1 = .ok (.iconst 0, 1) := by decide +kernel
theorem dX11_ahead_2 : decode cX11_ahead 2 = .ok (.putfield 151, 3) := by decide +kernel
theorem dX11_ahead_5 : decode cX11_ahead 5 = .ok (.iload_n 1, 1) := by decide +kernel
theorem dX11_ahead_6 : decode cX11_ahead 6 = .ok (.ifCond .lt 31, 3) := by decide +kernel
theorem dX11_ahead_9 : decode cX11_ahead 9 = .ok (.iload_n 1, 1) := by decide +kernel
theorem dX11_ahead_10 : decode cX11_ahead 10 = .ok (.sipush 200, 3) := by decide +kernel
theorem dX11_ahead_13 : decode cX11_ahead 13 = .ok (.if_icmp .gt 24, 3) := by decide +kernel
theorem dX11_ahead_16 : decode cX11_ahead 16 = .ok (.iload_n 2, 1) := by decide +kernel
theorem dX11_ahead_17 : decode cX11_ahead 17 = .ok (.ifCond .lt 20, 3) := by decide +kernel
theorem dX11_ahead_20 : decode cX11_ahead 20 = .ok (.iload_n 2, 1) := by decide +kernel
theorem dX11_ahead_21 : decode cX11_ahead 21 = .ok (.iconst 4, 1) := by decide +kernel
theorem dX11_ahead_22 : decode cX11_ahead 22 = .ok (.if_icmp .gt 15, 3) := by decide +kernel
theorem dX11_ahead_25 : decode cX11_ahead 25 = .ok (.iload_n 2, 1) := by decide +kernel
theorem dX11_ahead_26 : decode cX11_ahead 26 = .ok (.ifCond .ne 13, 3) := by decide +kernel
theorem dX11_ahead_29 : decode cX11_ahead 29 = .ok (.aload_n 0, 1) := by decide +kernel
theorem dX11_ahead_30 : decode cX11_ahead 30 = .ok (.iload_n 3, 1) := by decide +kernel
theorem dX11_ahead_31 : decode cX11_ahead 31 = .ok (.invokevirtual 446, 3) := by decide +kernel
theorem dX11_ahead_34 : decode cX11_ahead 34 = .ok (.ifCond .ne 5, 3) := by decide +kernel
theorem dX11_ahead_37 : decode cX11_ahead 37 = .ok (.iconst (-1), 1) := by decide +kernel
theorem dX11_ahead_38 : decode cX11_ahead 38 = .ok (.ireturn, 1) := by decide +kernel
theorem dX11_ahead_39 : decode cX11_ahead 39 = .ok (.aload_n 0, 1) := by decide +kernel
theorem dX11_ahead_40 : decode cX11_ahead 40 = .ok (.iconst 1, 1) := by decide +kernel
theorem dX11_ahead_41 : decode cX11_ahead 41 = .ok (.iconst 0, 1) := by decide +kernel
theorem dX11_ahead_42 : decode cX11_ahead 42 = .ok (.invokevirtual 474, 3) := by decide +kernel
theorem dX11_ahead_45 : decode cX11_ahead 45 = .ok (.aload_n 0, 1) := by decide +kernel
theorem dX11_ahead_46 : decode cX11_ahead 46 = .ok (.iload_n 1, 1) := by decide +kernel
theorem dX11_ahead_47 : decode cX11_ahead 47 = .ok (.invokevirtual 480, 3) := by decide +kernel
theorem dX11_ahead_50 : decode cX11_ahead 50 = .ok (.iload_n 2, 1) := by decide +kernel
theorem dX11_ahead_51 : decode cX11_ahead 51 = .ok (.tableswitch 80 0 3 #[29, 39, 46, 70], 29) := by decide +kernel
theorem dX11_ahead_80 : decode cX11_ahead 80 = .ok (.aload_n 0, 1) := by decide +kernel
theorem dX11_ahead_81 : decode cX11_ahead 81 = .ok (.getfield 99, 3) := by decide +kernel
theorem dX11_ahead_84 : decode cX11_ahead 84 = .ok (.bipush 7, 2) := by decide +kernel
theorem dX11_ahead_86 : decode cX11_ahead 86 = .ok (.iload_n 3, 1) := by decide +kernel
theorem dX11_ahead_87 : decode cX11_ahead 87 = .ok (.iadd, 1) := by decide +kernel
theorem dX11_ahead_88 : decode cX11_ahead 88 = .ok (.iaload, 1) := by decide +kernel
theorem dX11_ahead_89 : decode cX11_ahead 89 = .ok (.ireturn, 1) := by decide +kernel
theorem dX11_ahead_90 : decode cX11_ahead 90 = .ok (.aload_n 0, 1) := by decide +kernel
theorem dX11_ahead_91 : decode cX11_ahead 91 = .ok (.iconst 1, 1) := by decide +kernel
theorem dX11_ahead_92 : decode cX11_ahead 92 = .ok (.iconst 2, 1) := by decide +kernel
theorem dX11_ahead_93 : decode cX11_ahead 93 = .ok (.invokevirtual 381, 3) := by decide +kernel
theorem dX11_ahead_96 : decode cX11_ahead 96 = .ok (.ireturn, 1) := by decide +kernel
theorem dX11_ahead_97 : decode cX11_ahead 97 = .ok (.aload_n 0, 1) := by decide +kernel
theorem dX11_ahead_98 : decode cX11_ahead 98 = .ok (.aload_n 0, 1) := by decide +kernel
theorem dX11_ahead_99 : decode cX11_ahead 99 = .ok (.getfield 105, 3) := by decide +kernel
theorem dX11_ahead_102 : decode cX11_ahead 102 = .ok (.bipush 8, 2) := by decide +kernel
theorem dX11_ahead_104 : decode cX11_ahead 104 = .ok (.iconst 1, 1) := by decide +kernel
theorem dX11_ahead_105 : decode cX11_ahead 105 = .ok (.invokevirtual 483, 3) := by decide +kernel
theorem dX11_ahead_108 : decode cX11_ahead 108 = .ok (.aload_n 0, 1) := by decide +kernel
theorem dX11_ahead_109 : decode cX11_ahead 109 = .ok (.aload_n 0, 1) := by decide +kernel
theorem dX11_ahead_110 : decode cX11_ahead 110 = .ok (.getfield 105, 3) := by decide +kernel
theorem dX11_ahead_113 : decode cX11_ahead 113 = .ok (.bipush 8, 2) := by decide +kernel
theorem dX11_ahead_115 : decode cX11_ahead 115 = .ok (.iconst 0, 1) := by decide +kernel
theorem dX11_ahead_116 : decode cX11_ahead 116 = .ok (.invokevirtual 483, 3) := by decide +kernel
theorem dX11_ahead_119 : decode cX11_ahead 119 = .ok (.isub, 1) := by decide +kernel
theorem dX11_ahead_120 : decode cX11_ahead 120 = .ok (.ireturn, 1) := by decide +kernel
theorem dX11_ahead_121 : decode cX11_ahead 121 = .ok (.aload_n 0, 1) := by decide +kernel
theorem dX11_ahead_122 : decode cX11_ahead 122 = .ok (.getfield 96, 3) := by decide +kernel
theorem dX11_ahead_125 : decode cX11_ahead 125 = .ok (.iconst 1, 1) := by decide +kernel
theorem dX11_ahead_126 : decode cX11_ahead 126 = .ok (.iaload, 1) := by decide +kernel
theorem dX11_ahead_127 : decode cX11_ahead 127 = .ok (.invokestatic 486, 3) := by decide +kernel
theorem dX11_ahead_130 : decode cX11_ahead 130 = .ok (.ireturn, 1) := by decide +kernel
theorem dX11_ahead_131 : decode cX11_ahead 131 = .ok (.aload_n 0, 1) := by decide +kernel
theorem dX11_ahead_132 : decode cX11_ahead 132 = .ok (.getfield 93, 3) := by decide +kernel
theorem dX11_ahead_135 : decode cX11_ahead 135 = .ok (.iconst 1, 1) := by decide +kernel
theorem dX11_ahead_136 : decode cX11_ahead 136 = .ok (.iaload, 1) := by decide +kernel
theorem dX11_ahead_137 : decode cX11_ahead 137 = .ok (.aload_n 0, 1) := by decide +kernel
theorem dX11_ahead_138 : decode cX11_ahead 138 = .ok (.getfield 93, 3) := by decide +kernel
theorem dX11_ahead_141 : decode cX11_ahead 141 = .ok (.iconst 0, 1) := by decide +kernel
theorem dX11_ahead_142 : decode cX11_ahead 142 = .ok (.iaload, 1) := by decide +kernel
theorem dX11_ahead_143 : decode cX11_ahead 143 = .ok (.isub, 1) := by decide +kernel
theorem dX11_ahead_144 : decode cX11_ahead 144 = .ok (.ireturn, 1) := by decide +kernel
theorem dX11_upWhen_0 : decode cX11_upWhen 0 = .ok (.aload_n 0, 1) := by decide +kernel
theorem dX11_upWhen_1 : decode cX11_upWhen 1 = .ok (.iconst 0, 1) := by decide +kernel
theorem dX11_upWhen_2 : decode cX11_upWhen 2 = .ok (.putfield 151, 3) := by decide +kernel
theorem dX11_upWhen_5 : decode cX11_upWhen 5 = .ok (.aload_n 0, 1) := by decide +kernel
theorem dX11_upWhen_6 : decode cX11_upWhen 6 = .ok (.iload_n 1, 1) := by decide +kernel
theorem dX11_upWhen_7 : decode cX11_upWhen 7 = .ok (.invokevirtual 467, 3) := by decide +kernel
theorem dX11_upWhen_10 : decode cX11_upWhen 10 = .ok (.ifCond .ne 5, 3) := by decide +kernel
theorem dX11_upWhen_13 : decode cX11_upWhen 13 = .ok (.iconst (-1), 1) := by decide +kernel
theorem dX11_upWhen_14 : decode cX11_upWhen 14 = .ok (.ireturn, 1) := by decide +kernel
theorem dX11_upWhen_15 : decode cX11_upWhen 15 = .ok (.aload_n 0, 1) := by decide +kernel
theorem dX11_upWhen_16 : decode cX11_upWhen 16 = .ok (.iconst 1, 1) := by decide +kernel
theorem dX11_upWhen_17 : decode cX11_upWhen 17 = .ok (.iconst 0, 1) := by decide +kernel
theorem dX11_upWhen_18 : decode cX11_upWhen 18 = .ok (.invokevirtual 474, 3) := by decide +kernel
theorem dX11_upWhen_21 : decode cX11_upWhen 21 = .ok (.iconst 0, 1) := by decide +kernel
theorem dX11_upWhen_22 : decode cX11_upWhen 22 = .ok (.istore_n 2, 1) := by decide +kernel
theorem dX11_upWhen_23 : decode cX11_upWhen 23 = .ok (.iload_n 2, 1) := by decide +kernel
theorem dX11_upWhen_24 : decode cX11_upWhen 24 = .ok (.sipush 199, 3) := by decide +kernel
theorem dX11_upWhen_27 : decode cX11_upWhen 27 = .ok (.if_icmp .gt 30, 3) := by decide +kernel
theorem dX11_upWhen_30 : decode cX11_upWhen 30 = .ok (.aload_n 0, 1) := by decide +kernel
theorem dX11_upWhen_31 : decode cX11_upWhen 31 = .ok (.getfield 102, 3) := by decide +kernel
theorem dX11_upWhen_34 : decode cX11_upWhen 34 = .ok (.bipush 8, 2) := by decide +kernel
theorem dX11_upWhen_36 : decode cX11_upWhen 36 = .ok (.iload_n 1, 1) := by decide +kernel
theorem dX11_upWhen_37 : decode cX11_upWhen 37 = .ok (.iadd, 1) := by decide +kernel
theorem dX11_upWhen_38 : decode cX11_upWhen 38 = .ok (.iaload, 1) := by decide +kernel
theorem dX11_upWhen_39 : decode cX11_upWhen 39 = .ok (.iconst 2, 1) := by decide +kernel
theorem dX11_upWhen_40 : decode cX11_upWhen 40 = .ok (.if_icmp .ne 5, 3) := by decide +kernel
theorem dX11_upWhen_43 : decode cX11_upWhen 43 = .ok (.iload_n 2, 1) := by decide +kernel
theorem dX11_upWhen_44 : decode cX11_upWhen 44 = .ok (.ireturn, 1) := by decide +kernel
theorem dX11_upWhen_45 : decode cX11_upWhen 45 = .ok (.aload_n 0, 1) := by decide +kernel
theorem dX11_upWhen_46 : decode cX11_upWhen 46 = .ok (.iconst 1, 1) := by decide +kernel
theorem dX11_upWhen_47 : decode cX11_upWhen 47 = .ok (.iconst 0, 1) := by decide +kernel
theorem dX11_upWhen_48 : decode cX11_upWhen 48 = .ok (.invokevirtual 439, 3) := by decide +kernel
theorem dX11_upWhen_51 : decode cX11_upWhen 51 = .ok (.iinc 2 1, 3) := by decide +kernel
theorem dX11_upWhen_54 : decode cX11_upWhen 54 = .ok (.goto (-31), 3) := by decide +kernel
theorem dX11_upWhen_57 : decode cX11_upWhen 57 = .ok (.bipush (-2), 2) := by decide +kernel
theorem dX11_upWhen_59 : decode cX11_upWhen 59 = .ok (.ireturn, 1) := by decide +kernel
theorem dX11_joinedBy_0 : decode cX11_joinedBy 0 = .ok (.iconst 0, 1) := by decide +kernel
theorem dX11_joinedBy_1 : decode cX11_joinedBy 1 = .ok (.istore_n 3, 1) := by decide +kernel
theorem dX11_joinedBy_2 : decode cX11_joinedBy 2 = .ok (.iconst 0, 1) := by decide +kernel
theorem dX11_joinedBy_3 : decode cX11_joinedBy 3 = .ok (.istore 4, 2) := by decide +kernel
theorem dX11_joinedBy_5 : decode cX11_joinedBy 5 = .ok (.iload 4, 2) := by decide +kernel
theorem dX11_joinedBy_7 : decode cX11_joinedBy 7 = .ok (.aload_n 0, 1) := by decide +kernel
theorem dX11_joinedBy_8 : decode cX11_joinedBy 8 = .ok (.getfield 13, 3) := by decide +kernel
theorem dX11_joinedBy_11 : decode cX11_joinedBy 11 = .ok (.iconst 0, 1) := by decide +kernel
theorem dX11_joinedBy_12 : decode cX11_joinedBy 12 = .ok (.iaload, 1) := by decide +kernel
theorem dX11_joinedBy_13 : decode cX11_joinedBy 13 = .ok (.if_icmp .ge 33, 3) := by decide +kernel
theorem dX11_joinedBy_16 : decode cX11_joinedBy 16 = .ok (.iload_n 3, 1) := by decide +kernel
theorem dX11_joinedBy_17 : decode cX11_joinedBy 17 = .ok (.iload_n 1, 1) := by decide +kernel
theorem dX11_joinedBy_18 : decode cX11_joinedBy 18 = .ok (.iload 4, 2) := by decide +kernel
theorem dX11_joinedBy_20 : decode cX11_joinedBy 20 = .ok (.ishr, 1) := by decide +kernel
theorem dX11_joinedBy_21 : decode cX11_joinedBy 21 = .ok (.iconst 1, 1) := by decide +kernel
theorem dX11_joinedBy_22 : decode cX11_joinedBy 22 = .ok (.iand, 1) := by decide +kernel
theorem dX11_joinedBy_23 : decode cX11_joinedBy 23 = .ok (.iconst 1, 1) := by decide +kernel
theorem dX11_joinedBy_24 : decode cX11_joinedBy 24 = .ok (.if_icmp .ne 13, 3) := by decide +kernel
theorem dX11_joinedBy_27 : decode cX11_joinedBy 27 = .ok (.aload_n 0, 1) := by decide +kernel
theorem dX11_joinedBy_28 : decode cX11_joinedBy 28 = .ok (.getfield 99, 3) := by decide +kernel
theorem dX11_joinedBy_31 : decode cX11_joinedBy 31 = .ok (.iload 4, 2) := by decide +kernel
theorem dX11_joinedBy_33 : decode cX11_joinedBy 33 = .ok (.iaload, 1) := by decide +kernel
theorem dX11_joinedBy_34 : decode cX11_joinedBy 34 = .ok (.goto 4, 3) := by decide +kernel
theorem dX11_joinedBy_37 : decode cX11_joinedBy 37 = .ok (.iconst 0, 1) := by decide +kernel
theorem dX11_joinedBy_38 : decode cX11_joinedBy 38 = .ok (.iadd, 1) := by decide +kernel
theorem dX11_joinedBy_39 : decode cX11_joinedBy 39 = .ok (.istore_n 3, 1) := by decide +kernel
theorem dX11_joinedBy_40 : decode cX11_joinedBy 40 = .ok (.iinc 4 1, 3) := by decide +kernel
theorem dX11_joinedBy_43 : decode cX11_joinedBy 43 = .ok (.goto (-38), 3) := by decide +kernel
theorem dX11_joinedBy_46 : decode cX11_joinedBy 46 = .ok (.bipush 100, 2) := by decide +kernel
theorem dX11_joinedBy_48 : decode cX11_joinedBy 48 = .ok (.istore 4, 2) := by decide +kernel
theorem dX11_joinedBy_50 : decode cX11_joinedBy 50 = .ok (.iconst 0, 1) := by decide +kernel
theorem dX11_joinedBy_51 : decode cX11_joinedBy 51 = .ok (.istore 5, 2) := by decide +kernel
theorem dX11_joinedBy_53 : decode cX11_joinedBy 53 = .ok (.iload 5, 2) := by decide +kernel
theorem dX11_joinedBy_55 : decode cX11_joinedBy 55 = .ok (.aload_n 0, 1) := by decide +kernel
theorem dX11_joinedBy_56 : decode cX11_joinedBy 56 = .ok (.getfield 13, 3) := by decide +kernel
theorem dX11_joinedBy_59 : decode cX11_joinedBy 59 = .ok (.iconst 0, 1) := by decide +kernel
theorem dX11_joinedBy_60 : decode cX11_joinedBy 60 = .ok (.iaload, 1) := by decide +kernel
theorem dX11_joinedBy_61 : decode cX11_joinedBy 61 = .ok (.if_icmp .ge 33, 3) := by decide +kernel
theorem dX11_joinedBy_64 : decode cX11_joinedBy 64 = .ok (.iload_n 1, 1) := by decide +kernel
theorem dX11_joinedBy_65 : decode cX11_joinedBy 65 = .ok (.iload 5, 2) := by decide +kernel
theorem dX11_joinedBy_67 : decode cX11_joinedBy 67 = .ok (.ishr, 1) := by decide +kernel
theorem dX11_joinedBy_68 : decode cX11_joinedBy 68 = .ok (.iconst 1, 1) := by decide +kernel
theorem dX11_joinedBy_69 : decode cX11_joinedBy 69 = .ok (.iand, 1) := by decide +kernel
theorem dX11_joinedBy_70 : decode cX11_joinedBy 70 = .ok (.iconst 1, 1) := by decide +kernel
theorem dX11_joinedBy_71 : decode cX11_joinedBy 71 = .ok (.if_icmp .ne 17, 3) := by decide +kernel
theorem dX11_joinedBy_74 : decode cX11_joinedBy 74 = .ok (.iload 4, 2) := by decide +kernel
theorem dX11_joinedBy_76 : decode cX11_joinedBy 76 = .ok (.aload_n 0, 1) := by decide +kernel
theorem dX11_joinedBy_77 : decode cX11_joinedBy 77 = .ok (.getfield 22, 3) := by decide +kernel
theorem dX11_joinedBy_80 : decode cX11_joinedBy 80 = .ok (.iload 5, 2) := by decide +kernel
theorem dX11_joinedBy_82 : decode cX11_joinedBy 82 = .ok (.iaload, 1) := by decide +kernel
theorem dX11_joinedBy_83 : decode cX11_joinedBy 83 = .ok (.invokestatic 359, 3) := by decide +kernel
theorem dX11_joinedBy_86 : decode cX11_joinedBy 86 = .ok (.istore 4, 2) := by decide +kernel
theorem dX11_joinedBy_88 : decode cX11_joinedBy 88 = .ok (.iinc 5 1, 3) := by decide +kernel
theorem dX11_joinedBy_91 : decode cX11_joinedBy 91 = .ok (.goto (-38), 3) := by decide +kernel
theorem dX11_joinedBy_94 : decode cX11_joinedBy 94 = .ok (.iload_n 3, 1) := by decide +kernel
theorem dX11_joinedBy_95 : decode cX11_joinedBy 95 = .ok (.istore 5, 2) := by decide +kernel
theorem dX11_joinedBy_97 : decode cX11_joinedBy 97 = .ok (.iconst 0, 1) := by decide +kernel
theorem dX11_joinedBy_98 : decode cX11_joinedBy 98 = .ok (.istore 6, 2) := by decide +kernel
theorem dX11_joinedBy_100 : decode cX11_joinedBy 100 = .ok (.sipush 1000, 3) := by decide +kernel
theorem dX11_joinedBy_103 : decode cX11_joinedBy 103 = .ok (.istore 7, 2) := by decide +kernel
theorem dX11_joinedBy_105 : decode cX11_joinedBy 105 = .ok (.iconst 0, 1) := by decide +kernel
theorem dX11_joinedBy_106 : decode cX11_joinedBy 106 = .ok (.istore 8, 2) := by decide +kernel
theorem dX11_joinedBy_108 : decode cX11_joinedBy 108 = .ok (.iload 8, 2) := by decide +kernel
theorem dX11_joinedBy_110 : decode cX11_joinedBy 110 = .ok (.aload_n 0, 1) := by decide +kernel
theorem dX11_joinedBy_111 : decode cX11_joinedBy 111 = .ok (.getfield 13, 3) := by decide +kernel
theorem dX11_joinedBy_114 : decode cX11_joinedBy 114 = .ok (.iconst 0, 1) := by decide +kernel
theorem dX11_joinedBy_115 : decode cX11_joinedBy 115 = .ok (.iaload, 1) := by decide +kernel
theorem dX11_joinedBy_116 : decode cX11_joinedBy 116 = .ok (.if_icmp .ge 114, 3) := by decide +kernel
theorem dX11_joinedBy_119 : decode cX11_joinedBy 119 = .ok (.iload_n 1, 1) := by decide +kernel
theorem dX11_joinedBy_120 : decode cX11_joinedBy 120 = .ok (.iload 8, 2) := by decide +kernel
theorem dX11_joinedBy_122 : decode cX11_joinedBy 122 = .ok (.ishr, 1) := by decide +kernel
theorem dX11_joinedBy_123 : decode cX11_joinedBy 123 = .ok (.iconst 1, 1) := by decide +kernel
theorem dX11_joinedBy_124 : decode cX11_joinedBy 124 = .ok (.iand, 1) := by decide +kernel
theorem dX11_joinedBy_125 : decode cX11_joinedBy 125 = .ok (.ifCond .ne 6, 3) := by decide +kernel
theorem dX11_joinedBy_128 : decode cX11_joinedBy 128 = .ok (.goto 96, 3) := by decide +kernel
theorem dX11_joinedBy_131 : decode cX11_joinedBy 131 = .ok (.aload_n 0, 1) := by decide +kernel
theorem dX11_joinedBy_132 : decode cX11_joinedBy 132 = .ok (.getfield 22, 3) := by decide +kernel
theorem dX11_joinedBy_135 : decode cX11_joinedBy 135 = .ok (.iload 8, 2) := by decide +kernel
theorem dX11_joinedBy_137 : decode cX11_joinedBy 137 = .ok (.iaload, 1) := by decide +kernel
theorem dX11_joinedBy_138 : decode cX11_joinedBy 138 = .ok (.iload 4, 2) := by decide +kernel
theorem dX11_joinedBy_140 : decode cX11_joinedBy 140 = .ok (.if_icmp .gt 7, 3) := by decide +kernel
theorem dX11_joinedBy_143 : decode cX11_joinedBy 143 = .ok (.iconst 1, 1) := by decide +kernel
theorem dX11_joinedBy_144 : decode cX11_joinedBy 144 = .ok (.goto 4, 3) := by decide +kernel
theorem dX11_joinedBy_147 : decode cX11_joinedBy 147 = .ok (.iconst 0, 1) := by decide +kernel
theorem dX11_joinedBy_148 : decode cX11_joinedBy 148 = .ok (.istore 9, 2) := by decide +kernel
theorem dX11_joinedBy_150 : decode cX11_joinedBy 150 = .ok (.iload 5, 2) := by decide +kernel
theorem dX11_joinedBy_152 : decode cX11_joinedBy 152 = .ok (.iload 9, 2) := by decide +kernel
theorem dX11_joinedBy_154 : decode cX11_joinedBy 154 = .ok (.ifCond .eq 21, 3) := by decide +kernel
theorem dX11_joinedBy_157 : decode cX11_joinedBy 157 = .ok (.aload_n 0, 1) := by decide +kernel
theorem dX11_joinedBy_158 : decode cX11_joinedBy 158 = .ok (.getfield 22, 3) := by decide +kernel
theorem dX11_joinedBy_161 : decode cX11_joinedBy 161 = .ok (.iload 8, 2) := by decide +kernel
theorem dX11_joinedBy_163 : decode cX11_joinedBy 163 = .ok (.iaload, 1) := by decide +kernel
theorem dX11_joinedBy_164 : decode cX11_joinedBy 164 = .ok (.aload_n 0, 1) := by decide +kernel
theorem dX11_joinedBy_165 : decode cX11_joinedBy 165 = .ok (.getfield 19, 3) := by decide +kernel
theorem dX11_joinedBy_168 : decode cX11_joinedBy 168 = .ok (.iload 8, 2) := by decide +kernel
theorem dX11_joinedBy_170 : decode cX11_joinedBy 170 = .ok (.iaload, 1) := by decide +kernel
theorem dX11_joinedBy_171 : decode cX11_joinedBy 171 = .ok (.imul, 1) := by decide +kernel
theorem dX11_joinedBy_172 : decode cX11_joinedBy 172 = .ok (.goto 4, 3) := by decide +kernel
theorem dX11_joinedBy_175 : decode cX11_joinedBy 175 = .ok (.iconst 0, 1) := by decide +kernel
theorem dX11_joinedBy_176 : decode cX11_joinedBy 176 = .ok (.iadd, 1) := by decide +kernel
theorem dX11_joinedBy_177 : decode cX11_joinedBy 177 = .ok (.istore 5, 2) := by decide +kernel
theorem dX11_joinedBy_179 : decode cX11_joinedBy 179 = .ok (.iload 6, 2) := by decide +kernel
theorem dX11_joinedBy_181 : decode cX11_joinedBy 181 = .ok (.iload 9, 2) := by decide +kernel
theorem dX11_joinedBy_183 : decode cX11_joinedBy 183 = .ok (.ifCond .eq 13, 3) := by decide +kernel
theorem dX11_joinedBy_186 : decode cX11_joinedBy 186 = .ok (.aload_n 0, 1) := by decide +kernel
theorem dX11_joinedBy_187 : decode cX11_joinedBy 187 = .ok (.getfield 19, 3) := by decide +kernel
theorem dX11_joinedBy_190 : decode cX11_joinedBy 190 = .ok (.iload 8, 2) := by decide +kernel
theorem dX11_joinedBy_192 : decode cX11_joinedBy 192 = .ok (.iaload, 1) := by decide +kernel
theorem dX11_joinedBy_193 : decode cX11_joinedBy 193 = .ok (.goto 4, 3) := by decide +kernel
theorem dX11_joinedBy_196 : decode cX11_joinedBy 196 = .ok (.iconst 0, 1) := by decide +kernel
theorem dX11_joinedBy_197 : decode cX11_joinedBy 197 = .ok (.iadd, 1) := by decide +kernel
theorem dX11_joinedBy_198 : decode cX11_joinedBy 198 = .ok (.istore 6, 2) := by decide +kernel
theorem dX11_joinedBy_200 : decode cX11_joinedBy 200 = .ok (.iload 9, 2) := by decide +kernel
theorem dX11_joinedBy_202 : decode cX11_joinedBy 202 = .ok (.ifCond .eq 8, 3) := by decide +kernel
theorem dX11_joinedBy_205 : decode cX11_joinedBy 205 = .ok (.iload 7, 2) := by decide +kernel
theorem dX11_joinedBy_207 : decode cX11_joinedBy 207 = .ok (.goto 15, 3) := by decide +kernel
theorem dX11_joinedBy_210 : decode cX11_joinedBy 210 = .ok (.iload 7, 2) := by decide +kernel
theorem dX11_joinedBy_212 : decode cX11_joinedBy 212 = .ok (.aload_n 0, 1) := by decide +kernel
theorem dX11_joinedBy_213 : decode cX11_joinedBy 213 = .ok (.getfield 22, 3) := by decide +kernel
theorem dX11_joinedBy_216 : decode cX11_joinedBy 216 = .ok (.iload 8, 2) := by decide +kernel
theorem dX11_joinedBy_218 : decode cX11_joinedBy 218 = .ok (.iaload, 1) := by decide +kernel
theorem dX11_joinedBy_219 : decode cX11_joinedBy 219 = .ok (.invokestatic 359, 3) := by decide +kernel
theorem dX11_joinedBy_222 : decode cX11_joinedBy 222 = .ok (.istore 7, 2) := by decide +kernel
theorem dX11_joinedBy_224 : decode cX11_joinedBy 224 = .ok (.iinc 8 1, 3) := by decide +kernel
theorem dX11_joinedBy_227 : decode cX11_joinedBy 227 = .ok (.goto (-119), 3) := by decide +kernel
theorem dX11_joinedBy_230 : decode cX11_joinedBy 230 = .ok (.iload 7, 2) := by decide +kernel
theorem dX11_joinedBy_232 : decode cX11_joinedBy 232 = .ok (.sipush 1000, 3) := by decide +kernel
theorem dX11_joinedBy_235 : decode cX11_joinedBy 235 = .ok (.if_icmp .eq 13, 3) := by decide +kernel
theorem dX11_joinedBy_238 : decode cX11_joinedBy 238 = .ok (.iload 5, 2) := by decide +kernel
theorem dX11_joinedBy_240 : decode cX11_joinedBy 240 = .ok (.iload 7, 2) := by decide +kernel
theorem dX11_joinedBy_242 : decode cX11_joinedBy 242 = .ok (.iload 6, 2) := by decide +kernel
theorem dX11_joinedBy_244 : decode cX11_joinedBy 244 = .ok (.imul, 1) := by decide +kernel
theorem dX11_joinedBy_245 : decode cX11_joinedBy 245 = .ok (.if_icmp .gt 12, 3) := by decide +kernel
theorem dX11_joinedBy_248 : decode cX11_joinedBy 248 = .ok (.iload 5, 2) := by decide +kernel
theorem dX11_joinedBy_250 : decode cX11_joinedBy 250 = .ok (.iload 6, 2) := by decide +kernel
theorem dX11_joinedBy_252 : decode cX11_joinedBy 252 = .ok (.iload_n 2, 1) := by decide +kernel
theorem dX11_joinedBy_253 : decode cX11_joinedBy 253 = .ok (.invokestatic 458, 3) := by decide +kernel
theorem dX11_joinedBy_256 : decode cX11_joinedBy 256 = .ok (.ireturn, 1) := by decide +kernel
theorem dX11_joinedBy_257 : decode cX11_joinedBy 257 = .ok (.iload 7, 2) := by decide +kernel
theorem dX11_joinedBy_259 : decode cX11_joinedBy 259 = .ok (.istore 4, 2) := by decide +kernel
theorem dX11_joinedBy_261 : decode cX11_joinedBy 261 = .ok (.goto (-167), 3) := by decide +kernel
theorem dX11_joined_0 : decode cX11_joined 0 = .ok (.aload_n 0, 1) := by decide +kernel
theorem dX11_joined_1 : decode cX11_joined 1 = .ok (.iconst 0, 1) := by decide +kernel
theorem dX11_joined_2 : decode cX11_joined 2 = .ok (.putfield 151, 3) := by decide +kernel
theorem dX11_joined_5 : decode cX11_joined 5 = .ok (.iload_n 1, 1) := by decide +kernel
theorem dX11_joined_6 : decode cX11_joined 6 = .ok (.iconst 1, 1) := by decide +kernel
theorem dX11_joined_7 : decode cX11_joined 7 = .ok (.if_icmp .lt 31, 3) := by decide +kernel
theorem dX11_joined_10 : decode cX11_joined 10 = .ok (.iload_n 1, 1) := by decide +kernel
theorem dX11_joined_11 : decode cX11_joined 11 = .ok (.iconst 1, 1) := by decide +kernel
theorem dX11_joined_12 : decode cX11_joined 12 = .ok (.aload_n 0, 1) := by decide +kernel
theorem dX11_joined_13 : decode cX11_joined 13 = .ok (.getfield 13, 3) := by decide +kernel
theorem dX11_joined_16 : decode cX11_joined 16 = .ok (.iconst 0, 1) := by decide +kernel
theorem dX11_joined_17 : decode cX11_joined 17 = .ok (.iaload, 1) := by decide +kernel
theorem dX11_joined_18 : decode cX11_joined 18 = .ok (.ishl, 1) := by decide +kernel
theorem dX11_joined_19 : decode cX11_joined 19 = .ok (.if_icmp .ge 19, 3) := by decide +kernel
theorem dX11_joined_22 : decode cX11_joined 22 = .ok (.iload_n 2, 1) := by decide +kernel
theorem dX11_joined_23 : decode cX11_joined 23 = .ok (.invokestatic 455, 3) := by decide +kernel
theorem dX11_joined_26 : decode cX11_joined 26 = .ok (.ifCond .eq 12, 3) := by decide +kernel
theorem dX11_joined_29 : decode cX11_joined 29 = .ok (.aload_n 0, 1) := by decide +kernel
theorem dX11_joined_30 : decode cX11_joined 30 = .ok (.iload_n 1, 1) := by decide +kernel
theorem dX11_joined_31 : decode cX11_joined 31 = .ok (.iload_n 2, 1) := by decide +kernel
theorem dX11_joined_32 : decode cX11_joined 32 = .ok (.invokevirtual 489, 3) := by decide +kernel
theorem dX11_joined_35 : decode cX11_joined 35 = .ok (.goto 4, 3) := by decide +kernel
theorem dX11_joined_38 : decode cX11_joined 38 = .ok (.iconst (-1), 1) := by decide +kernel
theorem dX11_joined_39 : decode cX11_joined 39 = .ok (.ireturn, 1) := by decide +kernel
theorem dX11_isHeight_0 : decode cX11_isHeight 0 = .ok (.iload_n 0, 1) := by decide +kernel
theorem dX11_isHeight_1 : decode cX11_isHeight 1 = .ok (.ifCond .lt 14, 3) := by decide +kernel
theorem dX11_isHeight_4 : decode cX11_isHeight 4 = .ok (.iload_n 0, 1) := by decide +kernel
theorem dX11_isHeight_5 : decode cX11_isHeight 5 = .ok (.sipush 999, 3) := by decide +kernel
theorem dX11_isHeight_8 : decode cX11_isHeight 8 = .ok (.if_icmp .gt 7, 3) := by decide +kernel
theorem dX11_isHeight_11 : decode cX11_isHeight 11 = .ok (.iconst 1, 1) := by decide +kernel
theorem dX11_isHeight_12 : decode cX11_isHeight 12 = .ok (.goto 4, 3) := by decide +kernel
theorem dX11_isHeight_15 : decode cX11_isHeight 15 = .ok (.iconst 0, 1) := by decide +kernel
theorem dX11_isHeight_16 : decode cX11_isHeight 16 = .ok (.ireturn, 1) := by decide +kernel
theorem dX11_overOf_0 : decode cX11_overOf 0 = .ok (.aload_n 0, 1) := by decide +kernel
theorem dX11_overOf_1 : decode cX11_overOf 1 = .ok (.iconst 0, 1) := by decide +kernel
theorem dX11_overOf_2 : decode cX11_overOf 2 = .ok (.iload_n 1, 1) := by decide +kernel
theorem dX11_overOf_3 : decode cX11_overOf 3 = .ok (.invokevirtual 346, 3) := by decide +kernel
theorem dX11_overOf_6 : decode cX11_overOf 6 = .ok (.iload_n 2, 1) := by decide +kernel
theorem dX11_overOf_7 : decode cX11_overOf 7 = .ok (.aload_n 0, 1) := by decide +kernel
theorem dX11_overOf_8 : decode cX11_overOf 8 = .ok (.getfield 19, 3) := by decide +kernel
theorem dX11_overOf_11 : decode cX11_overOf 11 = .ok (.iload_n 1, 1) := by decide +kernel
theorem dX11_overOf_12 : decode cX11_overOf 12 = .ok (.iaload, 1) := by decide +kernel
theorem dX11_overOf_13 : decode cX11_overOf 13 = .ok (.imul, 1) := by decide +kernel
theorem dX11_overOf_14 : decode cX11_overOf 14 = .ok (.isub, 1) := by decide +kernel
theorem dX11_overOf_15 : decode cX11_overOf 15 = .ok (.ireturn, 1) := by decide +kernel
theorem dX11_needs_0 : decode cX11_needs 0 = .ok (.aload_n 0, 1) := by decide +kernel
theorem dX11_needs_1 : decode cX11_needs 1 = .ok (.iconst 0, 1) := by decide +kernel
theorem dX11_needs_2 : decode cX11_needs 2 = .ok (.putfield 151, 3) := by decide +kernel
theorem dX11_needs_5 : decode cX11_needs 5 = .ok (.aload_n 0, 1) := by decide +kernel
theorem dX11_needs_6 : decode cX11_needs 6 = .ok (.iload_n 1, 1) := by decide +kernel
theorem dX11_needs_7 : decode cX11_needs 7 = .ok (.invokevirtual 446, 3) := by decide +kernel
theorem dX11_needs_10 : decode cX11_needs 10 = .ok (.ifCond .eq 24, 3) := by decide +kernel
theorem dX11_needs_13 : decode cX11_needs 13 = .ok (.iload_n 2, 1) := by decide +kernel
theorem dX11_needs_14 : decode cX11_needs 14 = .ok (.invokestatic 492, 3) := by decide +kernel
theorem dX11_needs_17 : decode cX11_needs 17 = .ok (.ifCond .eq 17, 3) := by decide +kernel
theorem dX11_needs_20 : decode cX11_needs 20 = .ok (.iconst 0, 1) := by decide +kernel
theorem dX11_needs_21 : decode cX11_needs 21 = .ok (.aload_n 0, 1) := by decide +kernel
theorem dX11_needs_22 : decode cX11_needs 22 = .ok (.iload_n 1, 1) := by decide +kernel
theorem dX11_needs_23 : decode cX11_needs 23 = .ok (.iload_n 2, 1) := by decide +kernel
theorem dX11_needs_24 : decode cX11_needs 24 = .ok (.invokevirtual 495, 3) := by decide +kernel
theorem dX11_needs_27 : decode cX11_needs 27 = .ok (.ineg, 1) := by decide +kernel
theorem dX11_needs_28 : decode cX11_needs 28 = .ok (.invokestatic 414, 3) := by decide +kernel
theorem dX11_needs_31 : decode cX11_needs 31 = .ok (.goto 4, 3) := by decide +kernel
theorem dX11_needs_34 : decode cX11_needs 34 = .ok (.iconst (-1), 1) := by decide +kernel
theorem dX11_needs_35 : decode cX11_needs 35 = .ok (.ireturn, 1) := by decide +kernel
theorem dX11_spareOf_0 : decode cX11_spareOf 0 = .ok (.iconst 0, 1) := by decide +kernel
theorem dX11_spareOf_1 : decode cX11_spareOf 1 = .ok (.aload_n 0, 1) := by decide +kernel
theorem dX11_spareOf_2 : decode cX11_spareOf 2 = .ok (.getfield 99, 3) := by decide +kernel
theorem dX11_spareOf_5 : decode cX11_spareOf 5 = .ok (.iload_n 1, 1) := by decide +kernel
theorem dX11_spareOf_6 : decode cX11_spareOf 6 = .ok (.iaload, 1) := by decide +kernel
theorem dX11_spareOf_7 : decode cX11_spareOf 7 = .ok (.aload_n 0, 1) := by decide +kernel
theorem dX11_spareOf_8 : decode cX11_spareOf 8 = .ok (.iload_n 1, 1) := by decide +kernel
theorem dX11_spareOf_9 : decode cX11_spareOf 9 = .ok (.iload_n 2, 1) := by decide +kernel
theorem dX11_spareOf_10 : decode cX11_spareOf 10 = .ok (.invokevirtual 495, 3) := by decide +kernel
theorem dX11_spareOf_13 : decode cX11_spareOf 13 = .ok (.invokestatic 359, 3) := by decide +kernel
theorem dX11_spareOf_16 : decode cX11_spareOf 16 = .ok (.invokestatic 414, 3) := by decide +kernel
theorem dX11_spareOf_19 : decode cX11_spareOf 19 = .ok (.ireturn, 1) := by decide +kernel
theorem dX11_spare_0 : decode cX11_spare 0 = .ok (.aload_n 0, 1) := by decide +kernel
theorem dX11_spare_1 : decode cX11_spare 1 = .ok (.iconst 0, 1) := by decide +kernel
theorem dX11_spare_2 : decode cX11_spare 2 = .ok (.putfield 151, 3) := by decide +kernel
theorem dX11_spare_5 : decode cX11_spare 5 = .ok (.aload_n 0, 1) := by decide +kernel
theorem dX11_spare_6 : decode cX11_spare 6 = .ok (.iload_n 1, 1) := by decide +kernel
theorem dX11_spare_7 : decode cX11_spare 7 = .ok (.invokevirtual 446, 3) := by decide +kernel
theorem dX11_spare_10 : decode cX11_spare 10 = .ok (.ifCond .eq 19, 3) := by decide +kernel
theorem dX11_spare_13 : decode cX11_spare 13 = .ok (.iload_n 2, 1) := by decide +kernel
theorem dX11_spare_14 : decode cX11_spare 14 = .ok (.invokestatic 492, 3) := by decide +kernel
theorem dX11_spare_17 : decode cX11_spare 17 = .ok (.ifCond .eq 12, 3) := by decide +kernel
theorem dX11_spare_20 : decode cX11_spare 20 = .ok (.aload_n 0, 1) := by decide +kernel
theorem dX11_spare_21 : decode cX11_spare 21 = .ok (.iload_n 1, 1) := by decide +kernel
theorem dX11_spare_22 : decode cX11_spare 22 = .ok (.iload_n 2, 1) := by decide +kernel
theorem dX11_spare_23 : decode cX11_spare 23 = .ok (.invokevirtual 498, 3) := by decide +kernel
theorem dX11_spare_26 : decode cX11_spare 26 = .ok (.goto 4, 3) := by decide +kernel
theorem dX11_spare_29 : decode cX11_spare 29 = .ok (.iconst (-1), 1) := by decide +kernel
theorem dX11_spare_30 : decode cX11_spare 30 = .ok (.ireturn, 1) := by decide +kernel
theorem dX11_liftOf_0 : decode cX11_liftOf 0 = .ok (.aload_n 0, 1) := by decide +kernel
theorem dX11_liftOf_1 : decode cX11_liftOf 1 = .ok (.getfield 19, 3) := by decide +kernel
theorem dX11_liftOf_4 : decode cX11_liftOf 4 = .ok (.aload_n 0, 1) := by decide +kernel
theorem dX11_liftOf_5 : decode cX11_liftOf 5 = .ok (.getfield 31, 3) := by decide +kernel
theorem dX11_liftOf_8 : decode cX11_liftOf 8 = .ok (.iload_n 1, 1) := by decide +kernel
theorem dX11_liftOf_9 : decode cX11_liftOf 9 = .ok (.iaload, 1) := by decide +kernel
theorem dX11_liftOf_10 : decode cX11_liftOf 10 = .ok (.iaload, 1) := by decide +kernel
theorem dX11_liftOf_11 : decode cX11_liftOf 11 = .ok (.iconst 0, 1) := by decide +kernel
theorem dX11_liftOf_12 : decode cX11_liftOf 12 = .ok (.aload_n 0, 1) := by decide +kernel
theorem dX11_liftOf_13 : decode cX11_liftOf 13 = .ok (.getfield 37, 3) := by decide +kernel
theorem dX11_liftOf_16 : decode cX11_liftOf 16 = .ok (.iload_n 1, 1) := by decide +kernel
theorem dX11_liftOf_17 : decode cX11_liftOf 17 = .ok (.iaload, 1) := by decide +kernel
theorem dX11_liftOf_18 : decode cX11_liftOf 18 = .ok (.aload_n 0, 1) := by decide +kernel
theorem dX11_liftOf_19 : decode cX11_liftOf 19 = .ok (.getfield 34, 3) := by decide +kernel
theorem dX11_liftOf_22 : decode cX11_liftOf 22 = .ok (.iload_n 1, 1) := by decide +kernel
theorem dX11_liftOf_23 : decode cX11_liftOf 23 = .ok (.iaload, 1) := by decide +kernel
theorem dX11_liftOf_24 : decode cX11_liftOf 24 = .ok (.isub, 1) := by decide +kernel
theorem dX11_liftOf_25 : decode cX11_liftOf 25 = .ok (.invokestatic 414, 3) := by decide +kernel
theorem dX11_liftOf_28 : decode cX11_liftOf 28 = .ok (.imul, 1) := by decide +kernel
theorem dX11_liftOf_29 : decode cX11_liftOf 29 = .ok (.ireturn, 1) := by decide +kernel
theorem dX11_lift_0 : decode cX11_lift 0 = .ok (.aload_n 0, 1) := by decide +kernel
theorem dX11_lift_1 : decode cX11_lift 1 = .ok (.iconst 0, 1) := by decide +kernel
theorem dX11_lift_2 : decode cX11_lift 2 = .ok (.putfield 151, 3) := by decide +kernel
theorem dX11_lift_5 : decode cX11_lift 5 = .ok (.aload_n 0, 1) := by decide +kernel
theorem dX11_lift_6 : decode cX11_lift 6 = .ok (.iload_n 1, 1) := by decide +kernel
theorem dX11_lift_7 : decode cX11_lift 7 = .ok (.invokevirtual 464, 3) := by decide +kernel
theorem dX11_lift_10 : decode cX11_lift 10 = .ok (.ifCond .eq 11, 3) := by decide +kernel
theorem dX11_lift_13 : decode cX11_lift 13 = .ok (.aload_n 0, 1) := by decide +kernel
theorem dX11_lift_14 : decode cX11_lift 14 = .ok (.iload_n 1, 1) := by decide +kernel
theorem dX11_lift_15 : decode cX11_lift 15 = .ok (.invokevirtual 501, 3) := by decide +kernel
theorem dX11_lift_18 : decode cX11_lift 18 = .ok (.goto 4, 3) := by decide +kernel
theorem dX11_lift_21 : decode cX11_lift 21 = .ok (.iconst (-1), 1) := by decide +kernel
theorem dX11_lift_22 : decode cX11_lift 22 = .ok (.ireturn, 1) := by decide +kernel
theorem dX11_laysWater_0 : decode cX11_laysWater 0 = .ok (.iconst 0, 1) := by decide +kernel
theorem dX11_laysWater_1 : decode cX11_laysWater 1 = .ok (.istore_n 2, 1) := by decide +kernel
theorem dX11_laysWater_2 : decode cX11_laysWater 2 = .ok (.iload_n 2, 1) := by decide +kernel
theorem dX11_laysWater_3 : decode cX11_laysWater 3 = .ok (.bipush 7, 2) := by decide +kernel
theorem dX11_laysWater_5 : decode cX11_laysWater 5 = .ok (.if_icmp .ge 29, 3) := by decide +kernel
theorem dX11_laysWater_8 : decode cX11_laysWater 8 = .ok (.aload_n 0, 1) := by decide +kernel
theorem dX11_laysWater_9 : decode cX11_laysWater 9 = .ok (.getfield 99, 3) := by decide +kernel
theorem dX11_laysWater_12 : decode cX11_laysWater 12 = .ok (.bipush 7, 2) := by decide +kernel
theorem dX11_laysWater_14 : decode cX11_laysWater 14 = .ok (.iload_n 2, 1) := by decide +kernel
theorem dX11_laysWater_15 : decode cX11_laysWater 15 = .ok (.iadd, 1) := by decide +kernel
theorem dX11_laysWater_16 : decode cX11_laysWater 16 = .ok (.aload_n 0, 1) := by decide +kernel
theorem dX11_laysWater_17 : decode cX11_laysWater 17 = .ok (.getfield 114, 3) := by decide +kernel
theorem dX11_laysWater_20 : decode cX11_laysWater 20 = .ok (.bipush 7, 2) := by decide +kernel
theorem dX11_laysWater_22 : decode cX11_laysWater 22 = .ok (.iload_n 1, 1) := by decide +kernel
theorem dX11_laysWater_23 : decode cX11_laysWater 23 = .ok (.imul, 1) := by decide +kernel
theorem dX11_laysWater_24 : decode cX11_laysWater 24 = .ok (.iload_n 2, 1) := by decide +kernel
theorem dX11_laysWater_25 : decode cX11_laysWater 25 = .ok (.iadd, 1) := by decide +kernel
theorem dX11_laysWater_26 : decode cX11_laysWater 26 = .ok (.iaload, 1) := by decide +kernel
theorem dX11_laysWater_27 : decode cX11_laysWater 27 = .ok (.iastore, 1) := by decide +kernel
theorem dX11_laysWater_28 : decode cX11_laysWater 28 = .ok (.iinc 2 1, 3) := by decide +kernel
theorem dX11_laysWater_31 : decode cX11_laysWater 31 = .ok (.goto (-29), 3) := by decide +kernel
theorem dX11_laysWater_34 : decode cX11_laysWater 34 = .ok (.return_, 1) := by decide +kernel
theorem dX11_takes_0 : decode cX11_takes 0 = .ok (.iconst 0, 1) := by decide +kernel
theorem dX11_takes_1 : decode cX11_takes 1 = .ok (.istore_n 2, 1) := by decide +kernel
theorem dX11_takes_2 : decode cX11_takes 2 = .ok (.iload_n 2, 1) := by decide +kernel
theorem dX11_takes_3 : decode cX11_takes 3 = .ok (.bipush 7, 2) := by decide +kernel
theorem dX11_takes_5 : decode cX11_takes 5 = .ok (.if_icmp .ge 29, 3) := by decide +kernel
theorem dX11_takes_8 : decode cX11_takes 8 = .ok (.aload_n 0, 1) := by decide +kernel
theorem dX11_takes_9 : decode cX11_takes 9 = .ok (.getfield 114, 3) := by decide +kernel
theorem dX11_takes_12 : decode cX11_takes 12 = .ok (.bipush 7, 2) := by decide +kernel
theorem dX11_takes_14 : decode cX11_takes 14 = .ok (.iload_n 1, 1) := by decide +kernel
theorem dX11_takes_15 : decode cX11_takes 15 = .ok (.imul, 1) := by decide +kernel
theorem dX11_takes_16 : decode cX11_takes 16 = .ok (.iload_n 2, 1) := by decide +kernel
theorem dX11_takes_17 : decode cX11_takes 17 = .ok (.iadd, 1) := by decide +kernel
theorem dX11_takes_18 : decode cX11_takes 18 = .ok (.aload_n 0, 1) := by decide +kernel
theorem dX11_takes_19 : decode cX11_takes 19 = .ok (.getfield 99, 3) := by decide +kernel
theorem dX11_takes_22 : decode cX11_takes 22 = .ok (.bipush 7, 2) := by decide +kernel
theorem dX11_takes_24 : decode cX11_takes 24 = .ok (.iload_n 2, 1) := by decide +kernel
theorem dX11_takes_25 : decode cX11_takes 25 = .ok (.iadd, 1) := by decide +kernel
theorem dX11_takes_26 : decode cX11_takes 26 = .ok (.iaload, 1) := by decide +kernel
theorem dX11_takes_27 : decode cX11_takes 27 = .ok (.iastore, 1) := by decide +kernel
theorem dX11_takes_28 : decode cX11_takes 28 = .ok (.iinc 2 1, 3) := by decide +kernel
theorem dX11_takes_31 : decode cX11_takes 31 = .ok (.goto (-29), 3) := by decide +kernel
theorem dX11_takes_34 : decode cX11_takes 34 = .ok (.return_, 1) := by decide +kernel
theorem dX11_opensTo_0 : decode cX11_opensTo 0 = .ok (.iload_n 1, 1) := by decide +kernel
theorem dX11_opensTo_1 : decode cX11_opensTo 1 = .ok (.iload_n 2, 1) := by decide +kernel
theorem dX11_opensTo_2 : decode cX11_opensTo 2 = .ok (.if_icmp .ne 17, 3) := by decide +kernel
theorem dX11_opensTo_5 : decode cX11_opensTo 5 = .ok (.aload_n 0, 1) := by decide +kernel
theorem dX11_opensTo_6 : decode cX11_opensTo 6 = .ok (.iconst 1, 1) := by decide +kernel
theorem dX11_opensTo_7 : decode cX11_opensTo 7 = .ok (.aload_n 0, 1) := by decide +kernel
theorem dX11_opensTo_8 : decode cX11_opensTo 8 = .ok (.getfield 504, 3) := by decide +kernel
theorem dX11_opensTo_11 : decode cX11_opensTo 11 = .ok (.aload_n 0, 1) := by decide +kernel
theorem dX11_opensTo_12 : decode cX11_opensTo 12 = .ok (.getfield 507, 3) := by decide +kernel
theorem dX11_opensTo_15 : decode cX11_opensTo 15 = .ok (.invokevirtual 422, 3) := by decide +kernel
theorem dX11_opensTo_18 : decode cX11_opensTo 18 = .ok (.ireturn, 1) := by decide +kernel
theorem dX11_opensTo_19 : decode cX11_opensTo 19 = .ok (.iconst 0, 1) := by decide +kernel
theorem dX11_opensTo_20 : decode cX11_opensTo 20 = .ok (.istore_n 3, 1) := by decide +kernel
theorem dX11_opensTo_21 : decode cX11_opensTo 21 = .ok (.iload_n 3, 1) := by decide +kernel
theorem dX11_opensTo_22 : decode cX11_opensTo 22 = .ok (.aload_n 0, 1) := by decide +kernel
theorem dX11_opensTo_23 : decode cX11_opensTo 23 = .ok (.getfield 13, 3) := by decide +kernel
theorem dX11_opensTo_26 : decode cX11_opensTo 26 = .ok (.iconst 2, 1) := by decide +kernel
theorem dX11_opensTo_27 : decode cX11_opensTo 27 = .ok (.iaload, 1) := by decide +kernel
theorem dX11_opensTo_28 : decode cX11_opensTo 28 = .ok (.if_icmp .ge 64, 3) := by decide +kernel
theorem dX11_opensTo_31 : decode cX11_opensTo 31 = .ok (.aload_n 0, 1) := by decide +kernel
theorem dX11_opensTo_32 : decode cX11_opensTo 32 = .ok (.iconst 0, 1) := by decide +kernel
theorem dX11_opensTo_33 : decode cX11_opensTo 33 = .ok (.iload_n 3, 1) := by decide +kernel
theorem dX11_opensTo_34 : decode cX11_opensTo 34 = .ok (.invokevirtual 368, 3) := by decide +kernel
theorem dX11_opensTo_37 : decode cX11_opensTo 37 = .ok (.ifCond .eq 6, 3) := by decide +kernel
theorem dX11_opensTo_40 : decode cX11_opensTo 40 = .ok (.goto 46, 3) := by decide +kernel
theorem dX11_opensTo_43 : decode cX11_opensTo 43 = .ok (.aload_n 0, 1) := by decide +kernel
theorem dX11_opensTo_44 : decode cX11_opensTo 44 = .ok (.iload_n 1, 1) := by decide +kernel
theorem dX11_opensTo_45 : decode cX11_opensTo 45 = .ok (.invokevirtual 510, 3) := by decide +kernel
theorem dX11_opensTo_48 : decode cX11_opensTo 48 = .ok (.aload_n 0, 1) := by decide +kernel
theorem dX11_opensTo_49 : decode cX11_opensTo 49 = .ok (.iconst 1, 1) := by decide +kernel
theorem dX11_opensTo_50 : decode cX11_opensTo 50 = .ok (.iload_n 3, 1) := by decide +kernel
theorem dX11_opensTo_51 : decode cX11_opensTo 51 = .ok (.ldc_w 399, 3) := by decide +kernel
theorem dX11_opensTo_54 : decode cX11_opensTo 54 = .ok (.invokevirtual 407, 3) := by decide +kernel
theorem dX11_opensTo_57 : decode cX11_opensTo 57 = .ok (.pop, 1) := by decide +kernel
theorem dX11_opensTo_58 : decode cX11_opensTo 58 = .ok (.aload_n 0, 1) := by decide +kernel
theorem dX11_opensTo_59 : decode cX11_opensTo 59 = .ok (.iload_n 1, 1) := by decide +kernel
theorem dX11_opensTo_60 : decode cX11_opensTo 60 = .ok (.iconst 1, 1) := by decide +kernel
theorem dX11_opensTo_61 : decode cX11_opensTo 61 = .ok (.iadd, 1) := by decide +kernel
theorem dX11_opensTo_62 : decode cX11_opensTo 62 = .ok (.invokevirtual 513, 3) := by decide +kernel
theorem dX11_opensTo_65 : decode cX11_opensTo 65 = .ok (.aload_n 0, 1) := by decide +kernel
theorem dX11_opensTo_66 : decode cX11_opensTo 66 = .ok (.iload_n 1, 1) := by decide +kernel
theorem dX11_opensTo_67 : decode cX11_opensTo 67 = .ok (.iconst 1, 1) := by decide +kernel
theorem dX11_opensTo_68 : decode cX11_opensTo 68 = .ok (.iadd, 1) := by decide +kernel
theorem dX11_opensTo_69 : decode cX11_opensTo 69 = .ok (.iload_n 2, 1) := by decide +kernel
theorem dX11_opensTo_70 : decode cX11_opensTo 70 = .ok (.invokevirtual 516, 3) := by decide +kernel
theorem dX11_opensTo_73 : decode cX11_opensTo 73 = .ok (.ifCond .ne 6, 3) := by decide +kernel
theorem dX11_opensTo_76 : decode cX11_opensTo 76 = .ok (.goto 10, 3) := by decide +kernel
theorem dX11_opensTo_79 : decode cX11_opensTo 79 = .ok (.aload_n 0, 1) := by decide +kernel
theorem dX11_opensTo_80 : decode cX11_opensTo 80 = .ok (.iload_n 3, 1) := by decide +kernel
theorem dX11_opensTo_81 : decode cX11_opensTo 81 = .ok (.putfield 519, 3) := by decide +kernel
theorem dX11_opensTo_84 : decode cX11_opensTo 84 = .ok (.iconst 1, 1) := by decide +kernel
theorem dX11_opensTo_85 : decode cX11_opensTo 85 = .ok (.ireturn, 1) := by decide +kernel
theorem dX11_opensTo_86 : decode cX11_opensTo 86 = .ok (.iinc 3 1, 3) := by decide +kernel
theorem dX11_opensTo_89 : decode cX11_opensTo 89 = .ok (.goto (-68), 3) := by decide +kernel
theorem dX11_opensTo_92 : decode cX11_opensTo 92 = .ok (.iconst 0, 1) := by decide +kernel
theorem dX11_opensTo_93 : decode cX11_opensTo 93 = .ok (.ireturn, 1) := by decide +kernel
theorem dX11_seeks_0 : decode cX11_seeks 0 = .ok (.aload_n 0, 1) := by decide +kernel
theorem dX11_seeks_1 : decode cX11_seeks 1 = .ok (.iconst 1, 1) := by decide +kernel
theorem dX11_seeks_2 : decode cX11_seeks 2 = .ok (.iconst 0, 1) := by decide +kernel
theorem dX11_seeks_3 : decode cX11_seeks 3 = .ok (.invokevirtual 474, 3) := by decide +kernel
theorem dX11_seeks_6 : decode cX11_seeks 6 = .ok (.aload_n 0, 1) := by decide +kernel
theorem dX11_seeks_7 : decode cX11_seeks 7 = .ok (.iconst 0, 1) := by decide +kernel
theorem dX11_seeks_8 : decode cX11_seeks 8 = .ok (.invokevirtual 513, 3) := by decide +kernel
theorem dX11_seeks_11 : decode cX11_seeks 11 = .ok (.aload_n 0, 1) := by decide +kernel
theorem dX11_seeks_12 : decode cX11_seeks 12 = .ok (.bipush (-2), 2) := by decide +kernel
theorem dX11_seeks_14 : decode cX11_seeks 14 = .ok (.putfield 519, 3) := by decide +kernel
theorem dX11_seeks_17 : decode cX11_seeks 17 = .ok (.aload_n 0, 1) := by decide +kernel
theorem dX11_seeks_18 : decode cX11_seeks 18 = .ok (.iload_n 1, 1) := by decide +kernel
theorem dX11_seeks_19 : decode cX11_seeks 19 = .ok (.putfield 504, 3) := by decide +kernel
theorem dX11_seeks_22 : decode cX11_seeks 22 = .ok (.aload_n 0, 1) := by decide +kernel
theorem dX11_seeks_23 : decode cX11_seeks 23 = .ok (.iload_n 2, 1) := by decide +kernel
theorem dX11_seeks_24 : decode cX11_seeks 24 = .ok (.putfield 507, 3) := by decide +kernel
theorem dX11_seeks_27 : decode cX11_seeks 27 = .ok (.return_, 1) := by decide +kernel
theorem dX11_fewestBy_0 : decode cX11_fewestBy 0 = .ok (.aload_n 0, 1) := by decide +kernel
theorem dX11_fewestBy_1 : decode cX11_fewestBy 1 = .ok (.iload_n 1, 1) := by decide +kernel
theorem dX11_fewestBy_2 : decode cX11_fewestBy 2 = .ok (.iload_n 2, 1) := by decide +kernel
theorem dX11_fewestBy_3 : decode cX11_fewestBy 3 = .ok (.invokevirtual 522, 3) := by decide +kernel
theorem dX11_fewestBy_6 : decode cX11_fewestBy 6 = .ok (.iconst 0, 1) := by decide +kernel
theorem dX11_fewestBy_7 : decode cX11_fewestBy 7 = .ok (.istore_n 3, 1) := by decide +kernel
theorem dX11_fewestBy_8 : decode cX11_fewestBy 8 = .ok (.iload_n 3, 1) := by decide +kernel
theorem dX11_fewestBy_9 : decode cX11_fewestBy 9 = .ok (.iconst 4, 1) := by decide +kernel
theorem dX11_fewestBy_10 : decode cX11_fewestBy 10 = .ok (.if_icmp .gt 25, 3) := by decide +kernel
theorem dX11_fewestBy_13 : decode cX11_fewestBy 13 = .ok (.aload_n 0, 1) := by decide +kernel
theorem dX11_fewestBy_14 : decode cX11_fewestBy 14 = .ok (.iconst 0, 1) := by decide +kernel
theorem dX11_fewestBy_15 : decode cX11_fewestBy 15 = .ok (.invokevirtual 510, 3) := by decide +kernel
theorem dX11_fewestBy_18 : decode cX11_fewestBy 18 = .ok (.aload_n 0, 1) := by decide +kernel
theorem dX11_fewestBy_19 : decode cX11_fewestBy 19 = .ok (.iconst 0, 1) := by decide +kernel
theorem dX11_fewestBy_20 : decode cX11_fewestBy 20 = .ok (.iload_n 3, 1) := by decide +kernel
theorem dX11_fewestBy_21 : decode cX11_fewestBy 21 = .ok (.invokevirtual 516, 3) := by decide +kernel
theorem dX11_fewestBy_24 : decode cX11_fewestBy 24 = .ok (.ifCond .eq 5, 3) := by decide +kernel
theorem dX11_fewestBy_27 : decode cX11_fewestBy 27 = .ok (.iload_n 3, 1) := by decide +kernel
theorem dX11_fewestBy_28 : decode cX11_fewestBy 28 = .ok (.ireturn, 1) := by decide +kernel
theorem dX11_fewestBy_29 : decode cX11_fewestBy 29 = .ok (.iinc 3 1, 3) := by decide +kernel
theorem dX11_fewestBy_32 : decode cX11_fewestBy 32 = .ok (.goto (-24), 3) := by decide +kernel
theorem dX11_fewestBy_35 : decode cX11_fewestBy 35 = .ok (.bipush (-2), 2) := by decide +kernel
theorem dX11_fewestBy_37 : decode cX11_fewestBy 37 = .ok (.ireturn, 1) := by decide +kernel
theorem dX11_fewest_0 : decode cX11_fewest 0 = .ok (.aload_n 0, 1) := by decide +kernel
theorem dX11_fewest_1 : decode cX11_fewest 1 = .ok (.iconst 0, 1) := by decide +kernel
theorem dX11_fewest_2 : decode cX11_fewest 2 = .ok (.putfield 151, 3) := by decide +kernel
theorem dX11_fewest_5 : decode cX11_fewest 5 = .ok (.aload_n 0, 1) := by decide +kernel
theorem dX11_fewest_6 : decode cX11_fewest 6 = .ok (.iload_n 1, 1) := by decide +kernel
theorem dX11_fewest_7 : decode cX11_fewest 7 = .ok (.invokevirtual 446, 3) := by decide +kernel
theorem dX11_fewest_10 : decode cX11_fewest 10 = .ok (.ifCond .eq 17, 3) := by decide +kernel
theorem dX11_fewest_13 : decode cX11_fewest 13 = .ok (.iload_n 2, 1) := by decide +kernel
theorem dX11_fewest_14 : decode cX11_fewest 14 = .ok (.invokestatic 492, 3) := by decide +kernel
theorem dX11_fewest_17 : decode cX11_fewest 17 = .ok (.ifCond .eq 10, 3) := by decide +kernel
theorem dX11_fewest_20 : decode cX11_fewest 20 = .ok (.iload_n 3, 1) := by decide +kernel
theorem dX11_fewest_21 : decode cX11_fewest 21 = .ok (.invokestatic 455, 3) := by decide +kernel
theorem dX11_fewest_24 : decode cX11_fewest 24 = .ok (.ifCond .ne 5, 3) := by decide +kernel
theorem dX11_fewest_27 : decode cX11_fewest 27 = .ok (.iconst (-1), 1) := by decide +kernel
theorem dX11_fewest_28 : decode cX11_fewest 28 = .ok (.ireturn, 1) := by decide +kernel
theorem dX11_fewest_29 : decode cX11_fewest 29 = .ok (.aload_n 0, 1) := by decide +kernel
theorem dX11_fewest_30 : decode cX11_fewest 30 = .ok (.iload_n 1, 1) := by decide +kernel
theorem dX11_fewest_31 : decode cX11_fewest 31 = .ok (.iload_n 2, 1) := by decide +kernel
theorem dX11_fewest_32 : decode cX11_fewest 32 = .ok (.invokevirtual 525, 3) := by decide +kernel
theorem dX11_fewest_35 : decode cX11_fewest 35 = .ok (.istore 4, 2) := by decide +kernel
theorem dX11_fewest_37 : decode cX11_fewest 37 = .ok (.iload_n 3, 1) := by decide +kernel
theorem dX11_fewest_38 : decode cX11_fewest 38 = .ok (.ifCond .eq 8, 3) := by decide +kernel
theorem dX11_fewest_41 : decode cX11_fewest 41 = .ok (.iload 4, 2) := by decide +kernel
theorem dX11_fewest_43 : decode cX11_fewest 43 = .ok (.ifCond .ge 8, 3) := by decide +kernel
theorem dX11_fewest_46 : decode cX11_fewest 46 = .ok (.iload 4, 2) := by decide +kernel
theorem dX11_fewest_48 : decode cX11_fewest 48 = .ok (.goto 7, 3) := by decide +kernel
theorem dX11_fewest_51 : decode cX11_fewest 51 = .ok (.aload_n 0, 1) := by decide +kernel
theorem dX11_fewest_52 : decode cX11_fewest 52 = .ok (.getfield 519, 3) := by decide +kernel
theorem dX11_fewest_55 : decode cX11_fewest 55 = .ok (.ireturn, 1) := by decide +kernel
theorem dX11_drawsBy_0 : decode cX11_drawsBy 0 = .ok (.aload_n 0, 1) := by decide +kernel
theorem dX11_drawsBy_1 : decode cX11_drawsBy 1 = .ok (.iconst 1, 1) := by decide +kernel
theorem dX11_drawsBy_2 : decode cX11_drawsBy 2 = .ok (.aload_n 0, 1) := by decide +kernel
theorem dX11_drawsBy_3 : decode cX11_drawsBy 3 = .ok (.getfield 504, 3) := by decide +kernel
theorem dX11_drawsBy_6 : decode cX11_drawsBy 6 = .ok (.aload_n 0, 1) := by decide +kernel
theorem dX11_drawsBy_7 : decode cX11_drawsBy 7 = .ok (.getfield 507, 3) := by decide +kernel
theorem dX11_drawsBy_10 : decode cX11_drawsBy 10 = .ok (.invokevirtual 422, 3) := by decide +kernel
theorem dX11_drawsBy_13 : decode cX11_drawsBy 13 = .ok (.ifCond .eq 53, 3) := by decide +kernel
theorem dX11_drawsBy_16 : decode cX11_drawsBy 16 = .ok (.iconst 0, 1) := by decide +kernel
theorem dX11_drawsBy_17 : decode cX11_drawsBy 17 = .ok (.aload_n 0, 1) := by decide +kernel
theorem dX11_drawsBy_18 : decode cX11_drawsBy 18 = .ok (.getfield 99, 3) := by decide +kernel
theorem dX11_drawsBy_21 : decode cX11_drawsBy 21 = .ok (.aload_n 0, 1) := by decide +kernel
theorem dX11_drawsBy_22 : decode cX11_drawsBy 22 = .ok (.getfield 528, 3) := by decide +kernel
theorem dX11_drawsBy_25 : decode cX11_drawsBy 25 = .ok (.iaload, 1) := by decide +kernel
theorem dX11_drawsBy_26 : decode cX11_drawsBy 26 = .ok (.aload_n 0, 1) := by decide +kernel
theorem dX11_drawsBy_27 : decode cX11_drawsBy 27 = .ok (.getfield 99, 3) := by decide +kernel
theorem dX11_drawsBy_30 : decode cX11_drawsBy 30 = .ok (.bipush 7, 2) := by decide +kernel
theorem dX11_drawsBy_32 : decode cX11_drawsBy 32 = .ok (.aload_n 0, 1) := by decide +kernel
theorem dX11_drawsBy_33 : decode cX11_drawsBy 33 = .ok (.getfield 528, 3) := by decide +kernel
theorem dX11_drawsBy_36 : decode cX11_drawsBy 36 = .ok (.iadd, 1) := by decide +kernel
theorem dX11_drawsBy_37 : decode cX11_drawsBy 37 = .ok (.iaload, 1) := by decide +kernel
theorem dX11_drawsBy_38 : decode cX11_drawsBy 38 = .ok (.isub, 1) := by decide +kernel
theorem dX11_drawsBy_39 : decode cX11_drawsBy 39 = .ok (.invokestatic 414, 3) := by decide +kernel
theorem dX11_drawsBy_42 : decode cX11_drawsBy 42 = .ok (.istore_n 2, 1) := by decide +kernel
theorem dX11_drawsBy_43 : decode cX11_drawsBy 43 = .ok (.aload_n 0, 1) := by decide +kernel
theorem dX11_drawsBy_44 : decode cX11_drawsBy 44 = .ok (.aload_n 0, 1) := by decide +kernel
theorem dX11_drawsBy_45 : decode cX11_drawsBy 45 = .ok (.getfield 531, 3) := by decide +kernel
theorem dX11_drawsBy_48 : decode cX11_drawsBy 48 = .ok (.ifCond .ge 7, 3) := by decide +kernel
theorem dX11_drawsBy_51 : decode cX11_drawsBy 51 = .ok (.iload_n 2, 1) := by decide +kernel
theorem dX11_drawsBy_52 : decode cX11_drawsBy 52 = .ok (.goto 11, 3) := by decide +kernel
theorem dX11_drawsBy_55 : decode cX11_drawsBy 55 = .ok (.aload_n 0, 1) := by decide +kernel
theorem dX11_drawsBy_56 : decode cX11_drawsBy 56 = .ok (.getfield 531, 3) := by decide +kernel
theorem dX11_drawsBy_59 : decode cX11_drawsBy 59 = .ok (.iload_n 2, 1) := by decide +kernel
theorem dX11_drawsBy_60 : decode cX11_drawsBy 60 = .ok (.invokestatic 359, 3) := by decide +kernel
theorem dX11_drawsBy_63 : decode cX11_drawsBy 63 = .ok (.putfield 531, 3) := by decide +kernel
theorem dX11_drawsBy_66 : decode cX11_drawsBy 66 = .ok (.iconst 0, 1) := by decide +kernel
theorem dX11_drawsBy_67 : decode cX11_drawsBy 67 = .ok (.istore_n 2, 1) := by decide +kernel
theorem dX11_drawsBy_68 : decode cX11_drawsBy 68 = .ok (.iload_n 2, 1) := by decide +kernel
theorem dX11_drawsBy_69 : decode cX11_drawsBy 69 = .ok (.aload_n 0, 1) := by decide +kernel
theorem dX11_drawsBy_70 : decode cX11_drawsBy 70 = .ok (.getfield 13, 3) := by decide +kernel
theorem dX11_drawsBy_73 : decode cX11_drawsBy 73 = .ok (.iconst 2, 1) := by decide +kernel
theorem dX11_drawsBy_74 : decode cX11_drawsBy 74 = .ok (.iaload, 1) := by decide +kernel
theorem dX11_drawsBy_75 : decode cX11_drawsBy 75 = .ok (.if_icmp .ge 55, 3) := by decide +kernel
theorem dX11_drawsBy_78 : decode cX11_drawsBy 78 = .ok (.iload_n 1, 1) := by decide +kernel
theorem dX11_drawsBy_79 : decode cX11_drawsBy 79 = .ok (.iconst 4, 1) := by decide +kernel
theorem dX11_drawsBy_80 : decode cX11_drawsBy 80 = .ok (.if_icmp .ge 50, 3) := by decide +kernel
theorem dX11_drawsBy_83 : decode cX11_drawsBy 83 = .ok (.aload_n 0, 1) := by decide +kernel
theorem dX11_drawsBy_84 : decode cX11_drawsBy 84 = .ok (.iconst 0, 1) := by decide +kernel
theorem dX11_drawsBy_85 : decode cX11_drawsBy 85 = .ok (.iload_n 2, 1) := by decide +kernel
theorem dX11_drawsBy_86 : decode cX11_drawsBy 86 = .ok (.invokevirtual 368, 3) := by decide +kernel
theorem dX11_drawsBy_89 : decode cX11_drawsBy 89 = .ok (.ifCond .eq 6, 3) := by decide +kernel
theorem dX11_drawsBy_92 : decode cX11_drawsBy 92 = .ok (.goto 32, 3) := by decide +kernel
theorem dX11_drawsBy_95 : decode cX11_drawsBy 95 = .ok (.aload_n 0, 1) := by decide +kernel
theorem dX11_drawsBy_96 : decode cX11_drawsBy 96 = .ok (.iload_n 1, 1) := by decide +kernel
theorem dX11_drawsBy_97 : decode cX11_drawsBy 97 = .ok (.invokevirtual 510, 3) := by decide +kernel
theorem dX11_drawsBy_100 : decode cX11_drawsBy 100 = .ok (.aload_n 0, 1) := by decide +kernel
theorem dX11_drawsBy_101 : decode cX11_drawsBy 101 = .ok (.iconst 1, 1) := by decide +kernel
theorem dX11_drawsBy_102 : decode cX11_drawsBy 102 = .ok (.iload_n 2, 1) := by decide +kernel
theorem dX11_drawsBy_103 : decode cX11_drawsBy 103 = .ok (.ldc_w 399, 3) := by decide +kernel
theorem dX11_drawsBy_106 : decode cX11_drawsBy 106 = .ok (.invokevirtual 407, 3) := by decide +kernel
theorem dX11_drawsBy_109 : decode cX11_drawsBy 109 = .ok (.pop, 1) := by decide +kernel
theorem dX11_drawsBy_110 : decode cX11_drawsBy 110 = .ok (.aload_n 0, 1) := by decide +kernel
theorem dX11_drawsBy_111 : decode cX11_drawsBy 111 = .ok (.iload_n 1, 1) := by decide +kernel
theorem dX11_drawsBy_112 : decode cX11_drawsBy 112 = .ok (.iconst 1, 1) := by decide +kernel
theorem dX11_drawsBy_113 : decode cX11_drawsBy 113 = .ok (.iadd, 1) := by decide +kernel
theorem dX11_drawsBy_114 : decode cX11_drawsBy 114 = .ok (.invokevirtual 513, 3) := by decide +kernel
theorem dX11_drawsBy_117 : decode cX11_drawsBy 117 = .ok (.aload_n 0, 1) := by decide +kernel
theorem dX11_drawsBy_118 : decode cX11_drawsBy 118 = .ok (.iload_n 1, 1) := by decide +kernel
theorem dX11_drawsBy_119 : decode cX11_drawsBy 119 = .ok (.iconst 1, 1) := by decide +kernel
theorem dX11_drawsBy_120 : decode cX11_drawsBy 120 = .ok (.iadd, 1) := by decide +kernel
theorem dX11_drawsBy_121 : decode cX11_drawsBy 121 = .ok (.invokevirtual 534, 3) := by decide +kernel
theorem dX11_drawsBy_124 : decode cX11_drawsBy 124 = .ok (.iinc 2 1, 3) := by decide +kernel
theorem dX11_drawsBy_127 : decode cX11_drawsBy 127 = .ok (.goto (-59), 3) := by decide +kernel
theorem dX11_drawsBy_130 : decode cX11_drawsBy 130 = .ok (.return_, 1) := by decide +kernel
theorem dX11_draws_0 : decode cX11_draws 0 = .ok (.aload_n 0, 1) := by decide +kernel
theorem dX11_draws_1 : decode cX11_draws 1 = .ok (.iconst 0, 1) := by decide +kernel
theorem dX11_draws_2 : decode cX11_draws 2 = .ok (.putfield 151, 3) := by decide +kernel
theorem dX11_draws_5 : decode cX11_draws 5 = .ok (.aload_n 0, 1) := by decide +kernel
theorem dX11_draws_6 : decode cX11_draws 6 = .ok (.iload_n 1, 1) := by decide +kernel
theorem dX11_draws_7 : decode cX11_draws 7 = .ok (.invokevirtual 446, 3) := by decide +kernel
theorem dX11_draws_10 : decode cX11_draws 10 = .ok (.ifCond .eq 23, 3) := by decide +kernel
theorem dX11_draws_13 : decode cX11_draws 13 = .ok (.iload_n 2, 1) := by decide +kernel
theorem dX11_draws_14 : decode cX11_draws 14 = .ok (.invokestatic 492, 3) := by decide +kernel
theorem dX11_draws_17 : decode cX11_draws 17 = .ok (.ifCond .eq 16, 3) := by decide +kernel
theorem dX11_draws_20 : decode cX11_draws 20 = .ok (.aload_n 0, 1) := by decide +kernel
theorem dX11_draws_21 : decode cX11_draws 21 = .ok (.iload_n 3, 1) := by decide +kernel
theorem dX11_draws_22 : decode cX11_draws 22 = .ok (.invokevirtual 446, 3) := by decide +kernel
theorem dX11_draws_25 : decode cX11_draws 25 = .ok (.ifCond .eq 8, 3) := by decide +kernel
theorem dX11_draws_28 : decode cX11_draws 28 = .ok (.iload_n 1, 1) := by decide +kernel
theorem dX11_draws_29 : decode cX11_draws 29 = .ok (.iload_n 3, 1) := by decide +kernel
theorem dX11_draws_30 : decode cX11_draws 30 = .ok (.if_icmp .ne 5, 3) := by decide +kernel
theorem dX11_draws_33 : decode cX11_draws 33 = .ok (.iconst (-1), 1) := by decide +kernel
theorem dX11_draws_34 : decode cX11_draws 34 = .ok (.ireturn, 1) := by decide +kernel
theorem dX11_draws_35 : decode cX11_draws 35 = .ok (.aload_n 0, 1) := by decide +kernel
theorem dX11_draws_36 : decode cX11_draws 36 = .ok (.iload_n 1, 1) := by decide +kernel
theorem dX11_draws_37 : decode cX11_draws 37 = .ok (.iload_n 2, 1) := by decide +kernel
theorem dX11_draws_38 : decode cX11_draws 38 = .ok (.invokevirtual 522, 3) := by decide +kernel
theorem dX11_draws_41 : decode cX11_draws 41 = .ok (.aload_n 0, 1) := by decide +kernel
theorem dX11_draws_42 : decode cX11_draws 42 = .ok (.iload_n 3, 1) := by decide +kernel
theorem dX11_draws_43 : decode cX11_draws 43 = .ok (.putfield 528, 3) := by decide +kernel
theorem dX11_draws_46 : decode cX11_draws 46 = .ok (.aload_n 0, 1) := by decide +kernel
theorem dX11_draws_47 : decode cX11_draws 47 = .ok (.bipush (-2), 2) := by decide +kernel
theorem dX11_draws_49 : decode cX11_draws 49 = .ok (.putfield 531, 3) := by decide +kernel
theorem dX11_draws_52 : decode cX11_draws 52 = .ok (.aload_n 0, 1) := by decide +kernel
theorem dX11_draws_53 : decode cX11_draws 53 = .ok (.iconst 0, 1) := by decide +kernel
theorem dX11_draws_54 : decode cX11_draws 54 = .ok (.invokevirtual 534, 3) := by decide +kernel
theorem dX11_draws_57 : decode cX11_draws 57 = .ok (.aload_n 0, 1) := by decide +kernel
theorem dX11_draws_58 : decode cX11_draws 58 = .ok (.getfield 531, 3) := by decide +kernel
theorem dX11_draws_61 : decode cX11_draws 61 = .ok (.ireturn, 1) := by decide +kernel
theorem dX11_highest_0 : decode cX11_highest 0 = .ok (.aload_n 0, 1) := by decide +kernel
theorem dX11_highest_1 : decode cX11_highest 1 = .ok (.iconst 0, 1) := by decide +kernel
theorem dX11_highest_2 : decode cX11_highest 2 = .ok (.putfield 151, 3) := by decide +kernel
theorem dX11_highest_5 : decode cX11_highest 5 = .ok (.iload_n 1, 1) := by decide +kernel
theorem dX11_highest_6 : decode cX11_highest 6 = .ok (.invokestatic 455, 3) := by decide +kernel
theorem dX11_highest_9 : decode cX11_highest 9 = .ok (.ifCond .ne 5, 3) := by decide +kernel
theorem dX11_highest_12 : decode cX11_highest 12 = .ok (.iconst (-1), 1) := by decide +kernel
theorem dX11_highest_13 : decode cX11_highest 13 = .ok (.ireturn, 1) := by decide +kernel
theorem dX11_highest_14 : decode cX11_highest 14 = .ok (.bipush (-2), 2) := by decide +kernel
theorem dX11_highest_16 : decode cX11_highest 16 = .ok (.istore_n 2, 1) := by decide +kernel
theorem dX11_highest_17 : decode cX11_highest 17 = .ok (.iconst 0, 1) := by decide +kernel
theorem dX11_highest_18 : decode cX11_highest 18 = .ok (.istore_n 3, 1) := by decide +kernel
theorem dX11_highest_19 : decode cX11_highest 19 = .ok (.iload_n 3, 1) := by decide +kernel
theorem dX11_highest_20 : decode cX11_highest 20 = .ok (.aload_n 0, 1) := by decide +kernel
theorem dX11_highest_21 : decode cX11_highest 21 = .ok (.getfield 13, 3) := by decide +kernel
theorem dX11_highest_24 : decode cX11_highest 24 = .ok (.iconst 0, 1) := by decide +kernel
theorem dX11_highest_25 : decode cX11_highest 25 = .ok (.iaload, 1) := by decide +kernel
theorem dX11_highest_26 : decode cX11_highest 26 = .ok (.if_icmp .ge 49, 3) := by decide +kernel
theorem dX11_highest_29 : decode cX11_highest 29 = .ok (.iload_n 2, 1) := by decide +kernel
theorem dX11_highest_30 : decode cX11_highest 30 = .ok (.ifCond .ge 7, 3) := by decide +kernel
theorem dX11_highest_33 : decode cX11_highest 33 = .ok (.iconst 1, 1) := by decide +kernel
theorem dX11_highest_34 : decode cX11_highest 34 = .ok (.goto 10, 3) := by decide +kernel
theorem dX11_highest_37 : decode cX11_highest 37 = .ok (.aload_n 0, 1) := by decide +kernel
theorem dX11_highest_38 : decode cX11_highest 38 = .ok (.iconst 0, 1) := by decide +kernel
theorem dX11_highest_39 : decode cX11_highest 39 = .ok (.iload_n 3, 1) := by decide +kernel
theorem dX11_highest_40 : decode cX11_highest 40 = .ok (.iload_n 2, 1) := by decide +kernel
theorem dX11_highest_41 : decode cX11_highest 41 = .ok (.invokevirtual 349, 3) := by decide +kernel
theorem dX11_highest_44 : decode cX11_highest 44 = .ok (.istore 4, 2) := by decide +kernel
theorem dX11_highest_46 : decode cX11_highest 46 = .ok (.iload_n 2, 1) := by decide +kernel
theorem dX11_highest_47 : decode cX11_highest 47 = .ok (.ifCond .lt 20, 3) := by decide +kernel
theorem dX11_highest_50 : decode cX11_highest 50 = .ok (.iload_n 1, 1) := by decide +kernel
theorem dX11_highest_51 : decode cX11_highest 51 = .ok (.ifCond .ne 11, 3) := by decide +kernel
theorem dX11_highest_54 : decode cX11_highest 54 = .ok (.iload 4, 2) := by decide +kernel
theorem dX11_highest_56 : decode cX11_highest 56 = .ok (.ifCond .le 13, 3) := by decide +kernel
theorem dX11_highest_59 : decode cX11_highest 59 = .ok (.goto 8, 3) := by decide +kernel
theorem dX11_highest_62 : decode cX11_highest 62 = .ok (.iload 4, 2) := by decide +kernel
theorem dX11_highest_64 : decode cX11_highest 64 = .ok (.ifCond .ge 5, 3) := by decide +kernel
theorem dX11_highest_67 : decode cX11_highest 67 = .ok (.iload_n 3, 1) := by decide +kernel
theorem dX11_highest_68 : decode cX11_highest 68 = .ok (.istore_n 2, 1) := by decide +kernel
theorem dX11_highest_69 : decode cX11_highest 69 = .ok (.iinc 3 1, 3) := by decide +kernel
theorem dX11_highest_72 : decode cX11_highest 72 = .ok (.goto (-53), 3) := by decide +kernel
theorem dX11_highest_75 : decode cX11_highest 75 = .ok (.iload_n 2, 1) := by decide +kernel
theorem dX11_highest_76 : decode cX11_highest 76 = .ok (.ireturn, 1) := by decide +kernel
theorem dX11_apart_0 : decode cX11_apart 0 = .ok (.aload_n 0, 1) := by decide +kernel
theorem dX11_apart_1 : decode cX11_apart 1 = .ok (.iconst 0, 1) := by decide +kernel
theorem dX11_apart_2 : decode cX11_apart 2 = .ok (.putfield 151, 3) := by decide +kernel
theorem dX11_apart_5 : decode cX11_apart 5 = .ok (.aload_n 0, 1) := by decide +kernel
theorem dX11_apart_6 : decode cX11_apart 6 = .ok (.iload_n 1, 1) := by decide +kernel
theorem dX11_apart_7 : decode cX11_apart 7 = .ok (.invokevirtual 446, 3) := by decide +kernel
theorem dX11_apart_10 : decode cX11_apart 10 = .ok (.ifCond .eq 18, 3) := by decide +kernel
theorem dX11_apart_13 : decode cX11_apart 13 = .ok (.aload_n 0, 1) := by decide +kernel
theorem dX11_apart_14 : decode cX11_apart 14 = .ok (.iload_n 2, 1) := by decide +kernel
theorem dX11_apart_15 : decode cX11_apart 15 = .ok (.invokevirtual 446, 3) := by decide +kernel
theorem dX11_apart_18 : decode cX11_apart 18 = .ok (.ifCond .eq 10, 3) := by decide +kernel
theorem dX11_apart_21 : decode cX11_apart 21 = .ok (.iload_n 3, 1) := by decide +kernel
theorem dX11_apart_22 : decode cX11_apart 22 = .ok (.invokestatic 455, 3) := by decide +kernel
theorem dX11_apart_25 : decode cX11_apart 25 = .ok (.ifCond .ne 5, 3) := by decide +kernel
theorem dX11_apart_28 : decode cX11_apart 28 = .ok (.iconst (-1), 1) := by decide +kernel
theorem dX11_apart_29 : decode cX11_apart 29 = .ok (.ireturn, 1) := by decide +kernel
theorem dX11_apart_30 : decode cX11_apart 30 = .ok (.aload_n 0, 1) := by decide +kernel
theorem dX11_apart_31 : decode cX11_apart 31 = .ok (.iconst 0, 1) := by decide +kernel
theorem dX11_apart_32 : decode cX11_apart 32 = .ok (.iload_n 1, 1) := by decide +kernel
theorem dX11_apart_33 : decode cX11_apart 33 = .ok (.iload_n 2, 1) := by decide +kernel
theorem dX11_apart_34 : decode cX11_apart 34 = .ok (.invokevirtual 349, 3) := by decide +kernel
theorem dX11_apart_37 : decode cX11_apart 37 = .ok (.invokestatic 537, 3) := by decide +kernel
theorem dX11_apart_40 : decode cX11_apart 40 = .ok (.aload_n 0, 1) := by decide +kernel
theorem dX11_apart_41 : decode cX11_apart 41 = .ok (.getfield 19, 3) := by decide +kernel
theorem dX11_apart_44 : decode cX11_apart 44 = .ok (.iload_n 1, 1) := by decide +kernel
theorem dX11_apart_45 : decode cX11_apart 45 = .ok (.iaload, 1) := by decide +kernel
theorem dX11_apart_46 : decode cX11_apart 46 = .ok (.aload_n 0, 1) := by decide +kernel
theorem dX11_apart_47 : decode cX11_apart 47 = .ok (.getfield 19, 3) := by decide +kernel
theorem dX11_apart_50 : decode cX11_apart 50 = .ok (.iload_n 2, 1) := by decide +kernel
theorem dX11_apart_51 : decode cX11_apart 51 = .ok (.iaload, 1) := by decide +kernel
theorem dX11_apart_52 : decode cX11_apart 52 = .ok (.imul, 1) := by decide +kernel
theorem dX11_apart_53 : decode cX11_apart 53 = .ok (.iload_n 3, 1) := by decide +kernel
theorem dX11_apart_54 : decode cX11_apart 54 = .ok (.invokestatic 458, 3) := by decide +kernel
theorem dX11_apart_57 : decode cX11_apart 57 = .ok (.ireturn, 1) := by decide +kernel
theorem dX11_runsAll_0 : decode cX11_runsAll 0 = .ok (.iconst 0, 1) := by decide +kernel
theorem dX11_runsAll_1 : decode cX11_runsAll 1 = .ok (.istore_n 1, 1) := by decide +kernel
theorem dX11_runsAll_2 : decode cX11_runsAll 2 = .ok (.iconst 0, 1) := by decide +kernel
theorem dX11_runsAll_3 : decode cX11_runsAll 3 = .ok (.istore_n 2, 1) := by decide +kernel
theorem dX11_runsAll_4 : decode cX11_runsAll 4 = .ok (.iload_n 2, 1) := by decide +kernel
theorem dX11_runsAll_5 : decode cX11_runsAll 5 = .ok (.aload_n 0, 1) := by decide +kernel
theorem dX11_runsAll_6 : decode cX11_runsAll 6 = .ok (.getfield 13, 3) := by decide +kernel
theorem dX11_runsAll_9 : decode cX11_runsAll 9 = .ok (.iconst 2, 1) := by decide +kernel
theorem dX11_runsAll_10 : decode cX11_runsAll 10 = .ok (.iaload, 1) := by decide +kernel
theorem dX11_runsAll_11 : decode cX11_runsAll 11 = .ok (.if_icmp .ge 34, 3) := by decide +kernel
theorem dX11_runsAll_14 : decode cX11_runsAll 14 = .ok (.iload_n 1, 1) := by decide +kernel
theorem dX11_runsAll_15 : decode cX11_runsAll 15 = .ok (.aload_n 0, 1) := by decide +kernel
theorem dX11_runsAll_16 : decode cX11_runsAll 16 = .ok (.iconst 0, 1) := by decide +kernel
theorem dX11_runsAll_17 : decode cX11_runsAll 17 = .ok (.iload_n 2, 1) := by decide +kernel
theorem dX11_runsAll_18 : decode cX11_runsAll 18 = .ok (.invokevirtual 368, 3) := by decide +kernel
theorem dX11_runsAll_21 : decode cX11_runsAll 21 = .ok (.ifCond .eq 7, 3) := by decide +kernel
theorem dX11_runsAll_24 : decode cX11_runsAll 24 = .ok (.iconst 0, 1) := by decide +kernel
theorem dX11_runsAll_25 : decode cX11_runsAll 25 = .ok (.goto 12, 3) := by decide +kernel
theorem dX11_runsAll_28 : decode cX11_runsAll 28 = .ok (.aload_n 0, 1) := by decide +kernel
theorem dX11_runsAll_29 : decode cX11_runsAll 29 = .ok (.iconst 1, 1) := by decide +kernel
theorem dX11_runsAll_30 : decode cX11_runsAll 30 = .ok (.iload_n 2, 1) := by decide +kernel
theorem dX11_runsAll_31 : decode cX11_runsAll 31 = .ok (.ldc_w 399, 3) := by decide +kernel
theorem dX11_runsAll_34 : decode cX11_runsAll 34 = .ok (.invokevirtual 407, 3) := by decide +kernel
theorem dX11_runsAll_37 : decode cX11_runsAll 37 = .ok (.iadd, 1) := by decide +kernel
theorem dX11_runsAll_38 : decode cX11_runsAll 38 = .ok (.istore_n 1, 1) := by decide +kernel
theorem dX11_runsAll_39 : decode cX11_runsAll 39 = .ok (.iinc 2 1, 3) := by decide +kernel
theorem dX11_runsAll_42 : decode cX11_runsAll 42 = .ok (.goto (-38), 3) := by decide +kernel
theorem dX11_runsAll_45 : decode cX11_runsAll 45 = .ok (.iload_n 1, 1) := by decide +kernel
theorem dX11_runsAll_46 : decode cX11_runsAll 46 = .ok (.ireturn, 1) := by decide +kernel
theorem dX11_still_0 : decode cX11_still 0 = .ok (.aload_n 0, 1) := by decide +kernel
theorem dX11_still_1 : decode cX11_still 1 = .ok (.iconst 0, 1) := by decide +kernel
theorem dX11_still_2 : decode cX11_still 2 = .ok (.putfield 151, 3) := by decide +kernel
theorem dX11_still_5 : decode cX11_still 5 = .ok (.iload_n 1, 1) := by decide +kernel
theorem dX11_still_6 : decode cX11_still 6 = .ok (.invokestatic 455, 3) := by decide +kernel
theorem dX11_still_9 : decode cX11_still 9 = .ok (.ifCond .eq 16, 3) := by decide +kernel
theorem dX11_still_12 : decode cX11_still 12 = .ok (.iload_n 1, 1) := by decide +kernel
theorem dX11_still_13 : decode cX11_still 13 = .ok (.iconst 1, 1) := by decide +kernel
theorem dX11_still_14 : decode cX11_still 14 = .ok (.if_icmp .ne 13, 3) := by decide +kernel
theorem dX11_still_17 : decode cX11_still 17 = .ok (.aload_n 0, 1) := by decide +kernel
theorem dX11_still_18 : decode cX11_still 18 = .ok (.iload_n 2, 1) := by decide +kernel
theorem dX11_still_19 : decode cX11_still 19 = .ok (.invokevirtual 446, 3) := by decide +kernel
theorem dX11_still_22 : decode cX11_still 22 = .ok (.ifCond .ne 5, 3) := by decide +kernel
theorem dX11_still_25 : decode cX11_still 25 = .ok (.iconst (-1), 1) := by decide +kernel
theorem dX11_still_26 : decode cX11_still 26 = .ok (.ireturn, 1) := by decide +kernel
theorem dX11_still_27 : decode cX11_still 27 = .ok (.aload_n 0, 1) := by decide +kernel
theorem dX11_still_28 : decode cX11_still 28 = .ok (.iconst 1, 1) := by decide +kernel
theorem dX11_still_29 : decode cX11_still 29 = .ok (.iconst 0, 1) := by decide +kernel
theorem dX11_still_30 : decode cX11_still 30 = .ok (.invokevirtual 474, 3) := by decide +kernel
theorem dX11_still_33 : decode cX11_still 33 = .ok (.iconst 0, 1) := by decide +kernel
theorem dX11_still_34 : decode cX11_still 34 = .ok (.istore_n 3, 1) := by decide +kernel
theorem dX11_still_35 : decode cX11_still 35 = .ok (.iload_n 3, 1) := by decide +kernel
theorem dX11_still_36 : decode cX11_still 36 = .ok (.bipush 99, 2) := by decide +kernel
theorem dX11_still_38 : decode cX11_still 38 = .ok (.if_icmp .ge 16, 3) := by decide +kernel
theorem dX11_still_41 : decode cX11_still 41 = .ok (.aload_n 0, 1) := by decide +kernel
theorem dX11_still_42 : decode cX11_still 42 = .ok (.invokevirtual 539, 3) := by decide +kernel
theorem dX11_still_45 : decode cX11_still 45 = .ok (.ifCond .le 9, 3) := by decide +kernel
theorem dX11_still_48 : decode cX11_still 48 = .ok (.iinc 3 1, 3) := by decide +kernel
theorem dX11_still_51 : decode cX11_still 51 = .ok (.goto (-16), 3) := by decide +kernel
theorem dX11_still_54 : decode cX11_still 54 = .ok (.iload_n 1, 1) := by decide +kernel
theorem dX11_still_55 : decode cX11_still 55 = .ok (.ifCond .ne 7, 3) := by decide +kernel
theorem dX11_still_58 : decode cX11_still 58 = .ok (.iload_n 3, 1) := by decide +kernel
theorem dX11_still_59 : decode cX11_still 59 = .ok (.goto 12, 3) := by decide +kernel
theorem dX11_still_62 : decode cX11_still 62 = .ok (.aload_n 0, 1) := by decide +kernel
theorem dX11_still_63 : decode cX11_still 63 = .ok (.getfield 99, 3) := by decide +kernel
theorem dX11_still_66 : decode cX11_still 66 = .ok (.bipush 7, 2) := by decide +kernel
theorem dX11_still_68 : decode cX11_still 68 = .ok (.iload_n 2, 1) := by decide +kernel
theorem dX11_still_69 : decode cX11_still 69 = .ok (.iadd, 1) := by decide +kernel
theorem dX11_still_70 : decode cX11_still 70 = .ok (.iaload, 1) := by decide +kernel
theorem dX11_still_71 : decode cX11_still 71 = .ok (.ireturn, 1) := by decide +kernel
theorem dX11_nextTo_0 : decode cX11_nextTo 0 = .ok (.iconst 0, 1) := by decide +kernel
theorem dX11_nextTo_1 : decode cX11_nextTo 1 = .ok (.istore_n 2, 1) := by decide +kernel
theorem dX11_nextTo_2 : decode cX11_nextTo 2 = .ok (.iconst 0, 1) := by decide +kernel
theorem dX11_nextTo_3 : decode cX11_nextTo 3 = .ok (.istore_n 3, 1) := by decide +kernel
theorem dX11_nextTo_4 : decode cX11_nextTo 4 = .ok (.iload_n 3, 1) := by decide +kernel
theorem dX11_nextTo_5 : decode cX11_nextTo 5 = .ok (.aload_n 0, 1) := by decide +kernel
theorem dX11_nextTo_6 : decode cX11_nextTo 6 = .ok (.getfield 13, 3) := by decide +kernel
theorem dX11_nextTo_9 : decode cX11_nextTo 9 = .ok (.iconst 2, 1) := by decide +kernel
theorem dX11_nextTo_10 : decode cX11_nextTo 10 = .ok (.iaload, 1) := by decide +kernel
theorem dX11_nextTo_11 : decode cX11_nextTo 11 = .ok (.if_icmp .ge 67, 3) := by decide +kernel
theorem dX11_nextTo_14 : decode cX11_nextTo 14 = .ok (.aload_n 0, 1) := by decide +kernel
theorem dX11_nextTo_15 : decode cX11_nextTo 15 = .ok (.iconst 0, 1) := by decide +kernel
theorem dX11_nextTo_16 : decode cX11_nextTo 16 = .ok (.iload_n 3, 1) := by decide +kernel
theorem dX11_nextTo_17 : decode cX11_nextTo 17 = .ok (.invokevirtual 368, 3) := by decide +kernel
theorem dX11_nextTo_20 : decode cX11_nextTo 20 = .ok (.ifCond .eq 6, 3) := by decide +kernel
theorem dX11_nextTo_23 : decode cX11_nextTo 23 = .ok (.goto 49, 3) := by decide +kernel
theorem dX11_nextTo_26 : decode cX11_nextTo 26 = .ok (.iload_n 2, 1) := by decide +kernel
theorem dX11_nextTo_27 : decode cX11_nextTo 27 = .ok (.aload_n 0, 1) := by decide +kernel
theorem dX11_nextTo_28 : decode cX11_nextTo 28 = .ok (.getfield 40, 3) := by decide +kernel
theorem dX11_nextTo_31 : decode cX11_nextTo 31 = .ok (.iload_n 3, 1) := by decide +kernel
theorem dX11_nextTo_32 : decode cX11_nextTo 32 = .ok (.iaload, 1) := by decide +kernel
theorem dX11_nextTo_33 : decode cX11_nextTo 33 = .ok (.iload_n 1, 1) := by decide +kernel
theorem dX11_nextTo_34 : decode cX11_nextTo 34 = .ok (.if_icmp .ne 14, 3) := by decide +kernel
theorem dX11_nextTo_37 : decode cX11_nextTo 37 = .ok (.iconst 1, 1) := by decide +kernel
theorem dX11_nextTo_38 : decode cX11_nextTo 38 = .ok (.aload_n 0, 1) := by decide +kernel
theorem dX11_nextTo_39 : decode cX11_nextTo 39 = .ok (.getfield 43, 3) := by decide +kernel
theorem dX11_nextTo_42 : decode cX11_nextTo 42 = .ok (.iload_n 3, 1) := by decide +kernel
theorem dX11_nextTo_43 : decode cX11_nextTo 43 = .ok (.iaload, 1) := by decide +kernel
theorem dX11_nextTo_44 : decode cX11_nextTo 44 = .ok (.ishl, 1) := by decide +kernel
theorem dX11_nextTo_45 : decode cX11_nextTo 45 = .ok (.goto 25, 3) := by decide +kernel
theorem dX11_nextTo_48 : decode cX11_nextTo 48 = .ok (.aload_n 0, 1) := by decide +kernel
theorem dX11_nextTo_49 : decode cX11_nextTo 49 = .ok (.getfield 43, 3) := by decide +kernel
theorem dX11_nextTo_52 : decode cX11_nextTo 52 = .ok (.iload_n 3, 1) := by decide +kernel
theorem dX11_nextTo_53 : decode cX11_nextTo 53 = .ok (.iaload, 1) := by decide +kernel
theorem dX11_nextTo_54 : decode cX11_nextTo 54 = .ok (.iload_n 1, 1) := by decide +kernel
theorem dX11_nextTo_55 : decode cX11_nextTo 55 = .ok (.if_icmp .ne 14, 3) := by decide +kernel
theorem dX11_nextTo_58 : decode cX11_nextTo 58 = .ok (.iconst 1, 1) := by decide +kernel
theorem dX11_nextTo_59 : decode cX11_nextTo 59 = .ok (.aload_n 0, 1) := by decide +kernel
theorem dX11_nextTo_60 : decode cX11_nextTo 60 = .ok (.getfield 40, 3) := by decide +kernel
theorem dX11_nextTo_63 : decode cX11_nextTo 63 = .ok (.iload_n 3, 1) := by decide +kernel
theorem dX11_nextTo_64 : decode cX11_nextTo 64 = .ok (.iaload, 1) := by decide +kernel
theorem dX11_nextTo_65 : decode cX11_nextTo 65 = .ok (.ishl, 1) := by decide +kernel
theorem dX11_nextTo_66 : decode cX11_nextTo 66 = .ok (.goto 4, 3) := by decide +kernel
theorem dX11_nextTo_69 : decode cX11_nextTo 69 = .ok (.iconst 0, 1) := by decide +kernel
theorem dX11_nextTo_70 : decode cX11_nextTo 70 = .ok (.ior, 1) := by decide +kernel
theorem dX11_nextTo_71 : decode cX11_nextTo 71 = .ok (.istore_n 2, 1) := by decide +kernel
theorem dX11_nextTo_72 : decode cX11_nextTo 72 = .ok (.iinc 3 1, 3) := by decide +kernel
theorem dX11_nextTo_75 : decode cX11_nextTo 75 = .ok (.goto (-71), 3) := by decide +kernel
theorem dX11_nextTo_78 : decode cX11_nextTo 78 = .ok (.iload_n 2, 1) := by decide +kernel
theorem dX11_nextTo_79 : decode cX11_nextTo 79 = .ok (.ireturn, 1) := by decide +kernel
theorem dX11_reach_0 : decode cX11_reach 0 = .ok (.aload_n 0, 1) := by decide +kernel
theorem dX11_reach_1 : decode cX11_reach 1 = .ok (.iconst 0, 1) := by decide +kernel
theorem dX11_reach_2 : decode cX11_reach 2 = .ok (.putfield 151, 3) := by decide +kernel
theorem dX11_reach_5 : decode cX11_reach 5 = .ok (.aload_n 0, 1) := by decide +kernel
theorem dX11_reach_6 : decode cX11_reach 6 = .ok (.iload_n 1, 1) := by decide +kernel
theorem dX11_reach_7 : decode cX11_reach 7 = .ok (.invokevirtual 446, 3) := by decide +kernel
theorem dX11_reach_10 : decode cX11_reach 10 = .ok (.ifCond .ne 5, 3) := by decide +kernel
theorem dX11_reach_13 : decode cX11_reach 13 = .ok (.iconst (-1), 1) := by decide +kernel
theorem dX11_reach_14 : decode cX11_reach 14 = .ok (.ireturn, 1) := by decide +kernel
theorem dX11_reach_15 : decode cX11_reach 15 = .ok (.iconst 1, 1) := by decide +kernel
theorem dX11_reach_16 : decode cX11_reach 16 = .ok (.iload_n 1, 1) := by decide +kernel
theorem dX11_reach_17 : decode cX11_reach 17 = .ok (.ishl, 1) := by decide +kernel
theorem dX11_reach_18 : decode cX11_reach 18 = .ok (.istore_n 2, 1) := by decide +kernel
theorem dX11_reach_19 : decode cX11_reach 19 = .ok (.iconst 0, 1) := by decide +kernel
theorem dX11_reach_20 : decode cX11_reach 20 = .ok (.istore_n 3, 1) := by decide +kernel
theorem dX11_reach_21 : decode cX11_reach 21 = .ok (.iload_n 2, 1) := by decide +kernel
theorem dX11_reach_22 : decode cX11_reach 22 = .ok (.iload_n 3, 1) := by decide +kernel
theorem dX11_reach_23 : decode cX11_reach 23 = .ok (.if_icmp .eq 51, 3) := by decide +kernel
theorem dX11_reach_26 : decode cX11_reach 26 = .ok (.iload_n 2, 1) := by decide +kernel
theorem dX11_reach_27 : decode cX11_reach 27 = .ok (.istore_n 3, 1) := by decide +kernel
theorem dX11_reach_28 : decode cX11_reach 28 = .ok (.iconst 0, 1) := by decide +kernel
theorem dX11_reach_29 : decode cX11_reach 29 = .ok (.istore 4, 2) := by decide +kernel
theorem dX11_reach_31 : decode cX11_reach 31 = .ok (.iload 4, 2) := by decide +kernel
theorem dX11_reach_33 : decode cX11_reach 33 = .ok (.aload_n 0, 1) := by decide +kernel
theorem dX11_reach_34 : decode cX11_reach 34 = .ok (.getfield 13, 3) := by decide +kernel
theorem dX11_reach_37 : decode cX11_reach 37 = .ok (.iconst 0, 1) := by decide +kernel
theorem dX11_reach_38 : decode cX11_reach 38 = .ok (.iaload, 1) := by decide +kernel
theorem dX11_reach_39 : decode cX11_reach 39 = .ok (.if_icmp .ge 32, 3) := by decide +kernel
theorem dX11_reach_42 : decode cX11_reach 42 = .ok (.iload_n 2, 1) := by decide +kernel
theorem dX11_reach_43 : decode cX11_reach 43 = .ok (.iload_n 3, 1) := by decide +kernel
theorem dX11_reach_44 : decode cX11_reach 44 = .ok (.iload 4, 2) := by decide +kernel
theorem dX11_reach_46 : decode cX11_reach 46 = .ok (.ishr, 1) := by decide +kernel
theorem dX11_reach_47 : decode cX11_reach 47 = .ok (.iconst 1, 1) := by decide +kernel
theorem dX11_reach_48 : decode cX11_reach 48 = .ok (.iand, 1) := by decide +kernel
theorem dX11_reach_49 : decode cX11_reach 49 = .ok (.iconst 1, 1) := by decide +kernel
theorem dX11_reach_50 : decode cX11_reach 50 = .ok (.if_icmp .ne 12, 3) := by decide +kernel
theorem dX11_reach_53 : decode cX11_reach 53 = .ok (.aload_n 0, 1) := by decide +kernel
theorem dX11_reach_54 : decode cX11_reach 54 = .ok (.iload 4, 2) := by decide +kernel
theorem dX11_reach_56 : decode cX11_reach 56 = .ok (.invokevirtual 542, 3) := by decide +kernel
theorem dX11_reach_59 : decode cX11_reach 59 = .ok (.goto 4, 3) := by decide +kernel
theorem dX11_reach_62 : decode cX11_reach 62 = .ok (.iconst 0, 1) := by decide +kernel
theorem dX11_reach_63 : decode cX11_reach 63 = .ok (.ior, 1) := by decide +kernel
theorem dX11_reach_64 : decode cX11_reach 64 = .ok (.istore_n 2, 1) := by decide +kernel
theorem dX11_reach_65 : decode cX11_reach 65 = .ok (.iinc 4 1, 3) := by decide +kernel
theorem dX11_reach_68 : decode cX11_reach 68 = .ok (.goto (-37), 3) := by decide +kernel
theorem dX11_reach_71 : decode cX11_reach 71 = .ok (.goto (-50), 3) := by decide +kernel
theorem dX11_reach_74 : decode cX11_reach 74 = .ok (.iload_n 2, 1) := by decide +kernel
theorem dX11_reach_75 : decode cX11_reach 75 = .ok (.ireturn, 1) := by decide +kernel
theorem dX11_roomFrom_0 : decode cX11_roomFrom 0 = .ok (.aload_n 0, 1) := by decide +kernel
theorem dX11_roomFrom_1 : decode cX11_roomFrom 1 = .ok (.iconst 0, 1) := by decide +kernel
theorem dX11_roomFrom_2 : decode cX11_roomFrom 2 = .ok (.iload_n 1, 1) := by decide +kernel
theorem dX11_roomFrom_3 : decode cX11_roomFrom 3 = .ok (.invokevirtual 368, 3) := by decide +kernel
theorem dX11_roomFrom_6 : decode cX11_roomFrom 6 = .ok (.ifCond .eq 5, 3) := by decide +kernel
theorem dX11_roomFrom_9 : decode cX11_roomFrom 9 = .ok (.iconst 0, 1) := by decide +kernel
theorem dX11_roomFrom_10 : decode cX11_roomFrom 10 = .ok (.ireturn, 1) := by decide +kernel
theorem dX11_roomFrom_11 : decode cX11_roomFrom 11 = .ok (.aload_n 0, 1) := by decide +kernel
theorem dX11_roomFrom_12 : decode cX11_roomFrom 12 = .ok (.getfield 46, 3) := by decide +kernel
theorem dX11_roomFrom_15 : decode cX11_roomFrom 15 = .ok (.iload_n 1, 1) := by decide +kernel
theorem dX11_roomFrom_16 : decode cX11_roomFrom 16 = .ok (.iaload, 1) := by decide +kernel
theorem dX11_roomFrom_17 : decode cX11_roomFrom 17 = .ok (.aload_n 0, 1) := by decide +kernel
theorem dX11_roomFrom_18 : decode cX11_roomFrom 18 = .ok (.getfield 40, 3) := by decide +kernel
theorem dX11_roomFrom_21 : decode cX11_roomFrom 21 = .ok (.iload_n 1, 1) := by decide +kernel
theorem dX11_roomFrom_22 : decode cX11_roomFrom 22 = .ok (.iaload, 1) := by decide +kernel
theorem dX11_roomFrom_23 : decode cX11_roomFrom 23 = .ok (.iload_n 2, 1) := by decide +kernel
theorem dX11_roomFrom_24 : decode cX11_roomFrom 24 = .ok (.if_icmp .ne 12, 3) := by decide +kernel
theorem dX11_roomFrom_27 : decode cX11_roomFrom 27 = .ok (.aload_n 0, 1) := by decide +kernel
theorem dX11_roomFrom_28 : decode cX11_roomFrom 28 = .ok (.getfield 117, 3) := by decide +kernel
theorem dX11_roomFrom_31 : decode cX11_roomFrom 31 = .ok (.iload_n 1, 1) := by decide +kernel
theorem dX11_roomFrom_32 : decode cX11_roomFrom 32 = .ok (.iaload, 1) := by decide +kernel
theorem dX11_roomFrom_33 : decode cX11_roomFrom 33 = .ok (.goto 10, 3) := by decide +kernel
theorem dX11_roomFrom_36 : decode cX11_roomFrom 36 = .ok (.aload_n 0, 1) := by decide +kernel
theorem dX11_roomFrom_37 : decode cX11_roomFrom 37 = .ok (.getfield 117, 3) := by decide +kernel
theorem dX11_roomFrom_40 : decode cX11_roomFrom 40 = .ok (.iload_n 1, 1) := by decide +kernel
theorem dX11_roomFrom_41 : decode cX11_roomFrom 41 = .ok (.iaload, 1) := by decide +kernel
theorem dX11_roomFrom_42 : decode cX11_roomFrom 42 = .ok (.ineg, 1) := by decide +kernel
theorem dX11_roomFrom_43 : decode cX11_roomFrom 43 = .ok (.isub, 1) := by decide +kernel
theorem dX11_roomFrom_44 : decode cX11_roomFrom 44 = .ok (.ireturn, 1) := by decide +kernel
theorem dX11_otherOf_0 : decode cX11_otherOf 0 = .ok (.aload_n 0, 1) := by decide +kernel
theorem dX11_otherOf_1 : decode cX11_otherOf 1 = .ok (.getfield 40, 3) := by decide +kernel
theorem dX11_otherOf_4 : decode cX11_otherOf 4 = .ok (.iload_n 1, 1) := by decide +kernel
theorem dX11_otherOf_5 : decode cX11_otherOf 5 = .ok (.iaload, 1) := by decide +kernel
theorem dX11_otherOf_6 : decode cX11_otherOf 6 = .ok (.iload_n 2, 1) := by decide +kernel
theorem dX11_otherOf_7 : decode cX11_otherOf 7 = .ok (.if_icmp .ne 12, 3) := by decide +kernel
theorem dX11_otherOf_10 : decode cX11_otherOf 10 = .ok (.aload_n 0, 1) := by decide +kernel
theorem dX11_otherOf_11 : decode cX11_otherOf 11 = .ok (.getfield 43, 3) := by decide +kernel
theorem dX11_otherOf_14 : decode cX11_otherOf 14 = .ok (.iload_n 1, 1) := by decide +kernel
theorem dX11_otherOf_15 : decode cX11_otherOf 15 = .ok (.iaload, 1) := by decide +kernel
theorem dX11_otherOf_16 : decode cX11_otherOf 16 = .ok (.goto 9, 3) := by decide +kernel
theorem dX11_otherOf_19 : decode cX11_otherOf 19 = .ok (.aload_n 0, 1) := by decide +kernel
theorem dX11_otherOf_20 : decode cX11_otherOf 20 = .ok (.getfield 40, 3) := by decide +kernel
theorem dX11_otherOf_23 : decode cX11_otherOf 23 = .ok (.iload_n 1, 1) := by decide +kernel
theorem dX11_otherOf_24 : decode cX11_otherOf 24 = .ok (.iaload, 1) := by decide +kernel
theorem dX11_otherOf_25 : decode cX11_otherOf 25 = .ok (.ireturn, 1) := by decide +kernel
theorem dX11_findsOne_0 : decode cX11_findsOne 0 = .ok (.iconst 1, 1) := by decide +kernel
theorem dX11_findsOne_1 : decode cX11_findsOne 1 = .ok (.iload_n 1, 1) := by decide +kernel
theorem dX11_findsOne_2 : decode cX11_findsOne 2 = .ok (.ishl, 1) := by decide +kernel
theorem dX11_findsOne_3 : decode cX11_findsOne 3 = .ok (.istore_n 3, 1) := by decide +kernel
theorem dX11_findsOne_4 : decode cX11_findsOne 4 = .ok (.iconst 1, 1) := by decide +kernel
theorem dX11_findsOne_5 : decode cX11_findsOne 5 = .ok (.istore 4, 2) := by decide +kernel
theorem dX11_findsOne_7 : decode cX11_findsOne 7 = .ok (.iload 4, 2) := by decide +kernel
theorem dX11_findsOne_9 : decode cX11_findsOne 9 = .ok (.ifCond .eq 137, 3) := by decide +kernel
theorem dX11_findsOne_12 : decode cX11_findsOne 12 = .ok (.iload_n 3, 1) := by decide +kernel
theorem dX11_findsOne_13 : decode cX11_findsOne 13 = .ok (.iload_n 2, 1) := by decide +kernel
theorem dX11_findsOne_14 : decode cX11_findsOne 14 = .ok (.ishr, 1) := by decide +kernel
theorem dX11_findsOne_15 : decode cX11_findsOne 15 = .ok (.iconst 1, 1) := by decide +kernel
theorem dX11_findsOne_16 : decode cX11_findsOne 16 = .ok (.iand, 1) := by decide +kernel
theorem dX11_findsOne_17 : decode cX11_findsOne 17 = .ok (.ifCond .ne 129, 3) := by decide +kernel
theorem dX11_findsOne_20 : decode cX11_findsOne 20 = .ok (.iconst 0, 1) := by decide +kernel
theorem dX11_findsOne_21 : decode cX11_findsOne 21 = .ok (.istore 4, 2) := by decide +kernel
theorem dX11_findsOne_23 : decode cX11_findsOne 23 = .ok (.iconst 0, 1) := by decide +kernel
theorem dX11_findsOne_24 : decode cX11_findsOne 24 = .ok (.istore 5, 2) := by decide +kernel
theorem dX11_findsOne_26 : decode cX11_findsOne 26 = .ok (.iload 5, 2) := by decide +kernel
theorem dX11_findsOne_28 : decode cX11_findsOne 28 = .ok (.iconst 2, 1) := by decide +kernel
theorem dX11_findsOne_29 : decode cX11_findsOne 29 = .ok (.aload_n 0, 1) := by decide +kernel
theorem dX11_findsOne_30 : decode cX11_findsOne 30 = .ok (.getfield 13, 3) := by decide +kernel
theorem dX11_findsOne_33 : decode cX11_findsOne 33 = .ok (.iconst 2, 1) := by decide +kernel
theorem dX11_findsOne_34 : decode cX11_findsOne 34 = .ok (.iaload, 1) := by decide +kernel
theorem dX11_findsOne_35 : decode cX11_findsOne 35 = .ok (.imul, 1) := by decide +kernel
theorem dX11_findsOne_36 : decode cX11_findsOne 36 = .ok (.if_icmp .ge 107, 3) := by decide +kernel
theorem dX11_findsOne_39 : decode cX11_findsOne 39 = .ok (.iload 5, 2) := by decide +kernel
theorem dX11_findsOne_41 : decode cX11_findsOne 41 = .ok (.iconst 2, 1) := by decide +kernel
theorem dX11_findsOne_42 : decode cX11_findsOne 42 = .ok (.irem, 1) := by decide +kernel
theorem dX11_findsOne_43 : decode cX11_findsOne 43 = .ok (.ifCond .ne 15, 3) := by decide +kernel
theorem dX11_findsOne_46 : decode cX11_findsOne 46 = .ok (.aload_n 0, 1) := by decide +kernel
theorem dX11_findsOne_47 : decode cX11_findsOne 47 = .ok (.getfield 40, 3) := by decide +kernel
theorem dX11_findsOne_50 : decode cX11_findsOne 50 = .ok (.iload 5, 2) := by decide +kernel
theorem dX11_findsOne_52 : decode cX11_findsOne 52 = .ok (.iconst 2, 1) := by decide +kernel
theorem dX11_findsOne_53 : decode cX11_findsOne 53 = .ok (.idiv, 1) := by decide +kernel
theorem dX11_findsOne_54 : decode cX11_findsOne 54 = .ok (.iaload, 1) := by decide +kernel
theorem dX11_findsOne_55 : decode cX11_findsOne 55 = .ok (.goto 12, 3) := by decide +kernel
theorem dX11_findsOne_58 : decode cX11_findsOne 58 = .ok (.aload_n 0, 1) := by decide +kernel
theorem dX11_findsOne_59 : decode cX11_findsOne 59 = .ok (.getfield 43, 3) := by decide +kernel
theorem dX11_findsOne_62 : decode cX11_findsOne 62 = .ok (.iload 5, 2) := by decide +kernel
theorem dX11_findsOne_64 : decode cX11_findsOne 64 = .ok (.iconst 2, 1) := by decide +kernel
theorem dX11_findsOne_65 : decode cX11_findsOne 65 = .ok (.idiv, 1) := by decide +kernel
theorem dX11_findsOne_66 : decode cX11_findsOne 66 = .ok (.iaload, 1) := by decide +kernel
theorem dX11_findsOne_67 : decode cX11_findsOne 67 = .ok (.istore 6, 2) := by decide +kernel
theorem dX11_findsOne_69 : decode cX11_findsOne 69 = .ok (.aload_n 0, 1) := by decide +kernel
theorem dX11_findsOne_70 : decode cX11_findsOne 70 = .ok (.iload 5, 2) := by decide +kernel
theorem dX11_findsOne_72 : decode cX11_findsOne 72 = .ok (.iconst 2, 1) := by decide +kernel
theorem dX11_findsOne_73 : decode cX11_findsOne 73 = .ok (.idiv, 1) := by decide +kernel
theorem dX11_findsOne_74 : decode cX11_findsOne 74 = .ok (.iload 6, 2) := by decide +kernel
theorem dX11_findsOne_76 : decode cX11_findsOne 76 = .ok (.invokevirtual 545, 3) := by decide +kernel
theorem dX11_findsOne_79 : decode cX11_findsOne 79 = .ok (.istore 7, 2) := by decide +kernel
theorem dX11_findsOne_81 : decode cX11_findsOne 81 = .ok (.iload_n 3, 1) := by decide +kernel
theorem dX11_findsOne_82 : decode cX11_findsOne 82 = .ok (.iload 6, 2) := by decide +kernel
theorem dX11_findsOne_84 : decode cX11_findsOne 84 = .ok (.ishr, 1) := by decide +kernel
theorem dX11_findsOne_85 : decode cX11_findsOne 85 = .ok (.iconst 1, 1) := by decide +kernel
theorem dX11_findsOne_86 : decode cX11_findsOne 86 = .ok (.iand, 1) := by decide +kernel
theorem dX11_findsOne_87 : decode cX11_findsOne 87 = .ok (.ifCond .eq 50, 3) := by decide +kernel
theorem dX11_findsOne_90 : decode cX11_findsOne 90 = .ok (.iload_n 3, 1) := by decide +kernel
theorem dX11_findsOne_91 : decode cX11_findsOne 91 = .ok (.iload 7, 2) := by decide +kernel
theorem dX11_findsOne_93 : decode cX11_findsOne 93 = .ok (.ishr, 1) := by decide +kernel
theorem dX11_findsOne_94 : decode cX11_findsOne 94 = .ok (.iconst 1, 1) := by decide +kernel
theorem dX11_findsOne_95 : decode cX11_findsOne 95 = .ok (.iand, 1) := by decide +kernel
theorem dX11_findsOne_96 : decode cX11_findsOne 96 = .ok (.iconst 1, 1) := by decide +kernel
theorem dX11_findsOne_97 : decode cX11_findsOne 97 = .ok (.if_icmp .eq 40, 3) := by decide +kernel
theorem dX11_findsOne_100 : decode cX11_findsOne 100 = .ok (.aload_n 0, 1) := by decide +kernel
theorem dX11_findsOne_101 : decode cX11_findsOne 101 = .ok (.iload 5, 2) := by decide +kernel
theorem dX11_findsOne_103 : decode cX11_findsOne 103 = .ok (.iconst 2, 1) := by decide +kernel
theorem dX11_findsOne_104 : decode cX11_findsOne 104 = .ok (.idiv, 1) := by decide +kernel
theorem dX11_findsOne_105 : decode cX11_findsOne 105 = .ok (.iload 6, 2) := by decide +kernel
theorem dX11_findsOne_107 : decode cX11_findsOne 107 = .ok (.invokevirtual 548, 3) := by decide +kernel
theorem dX11_findsOne_110 : decode cX11_findsOne 110 = .ok (.ifCond .ne 6, 3) := by decide +kernel
theorem dX11_findsOne_113 : decode cX11_findsOne 113 = .ok (.goto 24, 3) := by decide +kernel
theorem dX11_findsOne_116 : decode cX11_findsOne 116 = .ok (.iload_n 3, 1) := by decide +kernel
theorem dX11_findsOne_117 : decode cX11_findsOne 117 = .ok (.iconst 1, 1) := by decide +kernel
theorem dX11_findsOne_118 : decode cX11_findsOne 118 = .ok (.iload 7, 2) := by decide +kernel
theorem dX11_findsOne_120 : decode cX11_findsOne 120 = .ok (.ishl, 1) := by decide +kernel
theorem dX11_findsOne_121 : decode cX11_findsOne 121 = .ok (.ior, 1) := by decide +kernel
theorem dX11_findsOne_122 : decode cX11_findsOne 122 = .ok (.istore_n 3, 1) := by decide +kernel
theorem dX11_findsOne_123 : decode cX11_findsOne 123 = .ok (.aload_n 0, 1) := by decide +kernel
theorem dX11_findsOne_124 : decode cX11_findsOne 124 = .ok (.getfield 120, 3) := by decide +kernel
theorem dX11_findsOne_127 : decode cX11_findsOne 127 = .ok (.iload 7, 2) := by decide +kernel
theorem dX11_findsOne_129 : decode cX11_findsOne 129 = .ok (.iload 5, 2) := by decide +kernel
theorem dX11_findsOne_131 : decode cX11_findsOne 131 = .ok (.iconst 2, 1) := by decide +kernel
theorem dX11_findsOne_132 : decode cX11_findsOne 132 = .ok (.idiv, 1) := by decide +kernel
theorem dX11_findsOne_133 : decode cX11_findsOne 133 = .ok (.iastore, 1) := by decide +kernel
theorem dX11_findsOne_134 : decode cX11_findsOne 134 = .ok (.iconst 1, 1) := by decide +kernel
theorem dX11_findsOne_135 : decode cX11_findsOne 135 = .ok (.istore 4, 2) := by decide +kernel
theorem dX11_findsOne_137 : decode cX11_findsOne 137 = .ok (.iinc 5 1, 3) := by decide +kernel
theorem dX11_findsOne_140 : decode cX11_findsOne 140 = .ok (.goto (-114), 3) := by decide +kernel
theorem dX11_findsOne_143 : decode cX11_findsOne 143 = .ok (.goto (-136), 3) := by decide +kernel
theorem dX11_findsOne_146 : decode cX11_findsOne 146 = .ok (.iload_n 3, 1) := by decide +kernel
theorem dX11_findsOne_147 : decode cX11_findsOne 147 = .ok (.iload_n 2, 1) := by decide +kernel
theorem dX11_findsOne_148 : decode cX11_findsOne 148 = .ok (.ishr, 1) := by decide +kernel
theorem dX11_findsOne_149 : decode cX11_findsOne 149 = .ok (.iconst 1, 1) := by decide +kernel
theorem dX11_findsOne_150 : decode cX11_findsOne 150 = .ok (.iand, 1) := by decide +kernel
theorem dX11_findsOne_151 : decode cX11_findsOne 151 = .ok (.iconst 1, 1) := by decide +kernel
theorem dX11_findsOne_152 : decode cX11_findsOne 152 = .ok (.if_icmp .ne 7, 3) := by decide +kernel
theorem dX11_findsOne_155 : decode cX11_findsOne 155 = .ok (.iconst 1, 1) := by decide +kernel
theorem dX11_findsOne_156 : decode cX11_findsOne 156 = .ok (.goto 4, 3) := by decide +kernel
theorem dX11_findsOne_159 : decode cX11_findsOne 159 = .ok (.iconst 0, 1) := by decide +kernel
theorem dX11_findsOne_160 : decode cX11_findsOne 160 = .ok (.ireturn, 1) := by decide +kernel
theorem dX11_sends_0 : decode cX11_sends 0 = .ok (.bipush 100, 2) := by decide +kernel
theorem dX11_sends_2 : decode cX11_sends 2 = .ok (.istore_n 3, 1) := by decide +kernel
theorem dX11_sends_3 : decode cX11_sends 3 = .ok (.iload_n 2, 1) := by decide +kernel
theorem dX11_sends_4 : decode cX11_sends 4 = .ok (.istore 4, 2) := by decide +kernel
theorem dX11_sends_6 : decode cX11_sends 6 = .ok (.iload 4, 2) := by decide +kernel
theorem dX11_sends_8 : decode cX11_sends 8 = .ok (.iload_n 1, 1) := by decide +kernel
theorem dX11_sends_9 : decode cX11_sends 9 = .ok (.if_icmp .eq 50, 3) := by decide +kernel
theorem dX11_sends_12 : decode cX11_sends 12 = .ok (.iload_n 3, 1) := by decide +kernel
theorem dX11_sends_13 : decode cX11_sends 13 = .ok (.aload_n 0, 1) := by decide +kernel
theorem dX11_sends_14 : decode cX11_sends 14 = .ok (.aload_n 0, 1) := by decide +kernel
theorem dX11_sends_15 : decode cX11_sends 15 = .ok (.getfield 120, 3) := by decide +kernel
theorem dX11_sends_18 : decode cX11_sends 18 = .ok (.iload 4, 2) := by decide +kernel
theorem dX11_sends_20 : decode cX11_sends 20 = .ok (.iaload, 1) := by decide +kernel
theorem dX11_sends_21 : decode cX11_sends 21 = .ok (.aload_n 0, 1) := by decide +kernel
theorem dX11_sends_22 : decode cX11_sends 22 = .ok (.aload_n 0, 1) := by decide +kernel
theorem dX11_sends_23 : decode cX11_sends 23 = .ok (.getfield 120, 3) := by decide +kernel
theorem dX11_sends_26 : decode cX11_sends 26 = .ok (.iload 4, 2) := by decide +kernel
theorem dX11_sends_28 : decode cX11_sends 28 = .ok (.iaload, 1) := by decide +kernel
theorem dX11_sends_29 : decode cX11_sends 29 = .ok (.iload 4, 2) := by decide +kernel
theorem dX11_sends_31 : decode cX11_sends 31 = .ok (.invokevirtual 545, 3) := by decide +kernel
theorem dX11_sends_34 : decode cX11_sends 34 = .ok (.invokevirtual 548, 3) := by decide +kernel
theorem dX11_sends_37 : decode cX11_sends 37 = .ok (.invokestatic 359, 3) := by decide +kernel
theorem dX11_sends_40 : decode cX11_sends 40 = .ok (.istore_n 3, 1) := by decide +kernel
theorem dX11_sends_41 : decode cX11_sends 41 = .ok (.aload_n 0, 1) := by decide +kernel
theorem dX11_sends_42 : decode cX11_sends 42 = .ok (.aload_n 0, 1) := by decide +kernel
theorem dX11_sends_43 : decode cX11_sends 43 = .ok (.getfield 120, 3) := by decide +kernel
theorem dX11_sends_46 : decode cX11_sends 46 = .ok (.iload 4, 2) := by decide +kernel
theorem dX11_sends_48 : decode cX11_sends 48 = .ok (.iaload, 1) := by decide +kernel
theorem dX11_sends_49 : decode cX11_sends 49 = .ok (.iload 4, 2) := by decide +kernel
theorem dX11_sends_51 : decode cX11_sends 51 = .ok (.invokevirtual 545, 3) := by decide +kernel
theorem dX11_sends_54 : decode cX11_sends 54 = .ok (.istore 4, 2) := by decide +kernel
theorem dX11_sends_56 : decode cX11_sends 56 = .ok (.goto (-50), 3) := by decide +kernel
theorem dX11_sends_59 : decode cX11_sends 59 = .ok (.iload_n 2, 1) := by decide +kernel
theorem dX11_sends_60 : decode cX11_sends 60 = .ok (.istore 4, 2) := by decide +kernel
theorem dX11_sends_62 : decode cX11_sends 62 = .ok (.iload 4, 2) := by decide +kernel
theorem dX11_sends_64 : decode cX11_sends 64 = .ok (.iload_n 1, 1) := by decide +kernel
theorem dX11_sends_65 : decode cX11_sends 65 = .ok (.if_icmp .eq 59, 3) := by decide +kernel
theorem dX11_sends_68 : decode cX11_sends 68 = .ok (.aload_n 0, 1) := by decide +kernel
theorem dX11_sends_69 : decode cX11_sends 69 = .ok (.getfield 117, 3) := by decide +kernel
theorem dX11_sends_72 : decode cX11_sends 72 = .ok (.aload_n 0, 1) := by decide +kernel
theorem dX11_sends_73 : decode cX11_sends 73 = .ok (.getfield 120, 3) := by decide +kernel
theorem dX11_sends_76 : decode cX11_sends 76 = .ok (.iload 4, 2) := by decide +kernel
theorem dX11_sends_78 : decode cX11_sends 78 = .ok (.iaload, 1) := by decide +kernel
theorem dX11_sends_79 : decode cX11_sends 79 = .ok (.dup2, 1) := by decide +kernel
theorem dX11_sends_80 : decode cX11_sends 80 = .ok (.iaload, 1) := by decide +kernel
theorem dX11_sends_81 : decode cX11_sends 81 = .ok (.aload_n 0, 1) := by decide +kernel
theorem dX11_sends_82 : decode cX11_sends 82 = .ok (.getfield 43, 3) := by decide +kernel
theorem dX11_sends_85 : decode cX11_sends 85 = .ok (.aload_n 0, 1) := by decide +kernel
theorem dX11_sends_86 : decode cX11_sends 86 = .ok (.getfield 120, 3) := by decide +kernel
theorem dX11_sends_89 : decode cX11_sends 89 = .ok (.iload 4, 2) := by decide +kernel
theorem dX11_sends_91 : decode cX11_sends 91 = .ok (.iaload, 1) := by decide +kernel
theorem dX11_sends_92 : decode cX11_sends 92 = .ok (.iaload, 1) := by decide +kernel
theorem dX11_sends_93 : decode cX11_sends 93 = .ok (.iload 4, 2) := by decide +kernel
theorem dX11_sends_95 : decode cX11_sends 95 = .ok (.if_icmp .ne 7, 3) := by decide +kernel
theorem dX11_sends_98 : decode cX11_sends 98 = .ok (.iload_n 3, 1) := by decide +kernel
theorem dX11_sends_99 : decode cX11_sends 99 = .ok (.goto 5, 3) := by decide +kernel
theorem dX11_sends_102 : decode cX11_sends 102 = .ok (.iload_n 3, 1) := by decide +kernel
theorem dX11_sends_103 : decode cX11_sends 103 = .ok (.ineg, 1) := by decide +kernel
theorem dX11_sends_104 : decode cX11_sends 104 = .ok (.iadd, 1) := by decide +kernel
theorem dX11_sends_105 : decode cX11_sends 105 = .ok (.iastore, 1) := by decide +kernel
theorem dX11_sends_106 : decode cX11_sends 106 = .ok (.aload_n 0, 1) := by decide +kernel
theorem dX11_sends_107 : decode cX11_sends 107 = .ok (.aload_n 0, 1) := by decide +kernel
theorem dX11_sends_108 : decode cX11_sends 108 = .ok (.getfield 120, 3) := by decide +kernel
theorem dX11_sends_111 : decode cX11_sends 111 = .ok (.iload 4, 2) := by decide +kernel
theorem dX11_sends_113 : decode cX11_sends 113 = .ok (.iaload, 1) := by decide +kernel
theorem dX11_sends_114 : decode cX11_sends 114 = .ok (.iload 4, 2) := by decide +kernel
theorem dX11_sends_116 : decode cX11_sends 116 = .ok (.invokevirtual 545, 3) := by decide +kernel
theorem dX11_sends_119 : decode cX11_sends 119 = .ok (.istore 4, 2) := by decide +kernel
theorem dX11_sends_121 : decode cX11_sends 121 = .ok (.goto (-59), 3) := by decide +kernel
theorem dX11_sends_124 : decode cX11_sends 124 = .ok (.iload_n 3, 1) := by decide +kernel
theorem dX11_sends_125 : decode cX11_sends 125 = .ok (.ireturn, 1) := by decide +kernel
theorem dX11_pass_0 : decode cX11_pass 0 = .ok (.aload_n 0, 1) := by decide +kernel
theorem dX11_pass_1 : decode cX11_pass 1 = .ok (.iconst 0, 1) := by decide +kernel
theorem dX11_pass_2 : decode cX11_pass 2 = .ok (.putfield 151, 3) := by decide +kernel
theorem dX11_pass_5 : decode cX11_pass 5 = .ok (.aload_n 0, 1) := by decide +kernel
theorem dX11_pass_6 : decode cX11_pass 6 = .ok (.iload_n 1, 1) := by decide +kernel
theorem dX11_pass_7 : decode cX11_pass 7 = .ok (.invokevirtual 446, 3) := by decide +kernel
theorem dX11_pass_10 : decode cX11_pass 10 = .ok (.ifCond .eq 16, 3) := by decide +kernel
theorem dX11_pass_13 : decode cX11_pass 13 = .ok (.aload_n 0, 1) := by decide +kernel
theorem dX11_pass_14 : decode cX11_pass 14 = .ok (.iload_n 2, 1) := by decide +kernel
theorem dX11_pass_15 : decode cX11_pass 15 = .ok (.invokevirtual 446, 3) := by decide +kernel
theorem dX11_pass_18 : decode cX11_pass 18 = .ok (.ifCond .eq 8, 3) := by decide +kernel
theorem dX11_pass_21 : decode cX11_pass 21 = .ok (.iload_n 1, 1) := by decide +kernel
theorem dX11_pass_22 : decode cX11_pass 22 = .ok (.iload_n 2, 1) := by decide +kernel
theorem dX11_pass_23 : decode cX11_pass 23 = .ok (.if_icmp .ne 5, 3) := by decide +kernel
theorem dX11_pass_26 : decode cX11_pass 26 = .ok (.iconst (-1), 1) := by decide +kernel
theorem dX11_pass_27 : decode cX11_pass 27 = .ok (.ireturn, 1) := by decide +kernel
theorem dX11_pass_28 : decode cX11_pass 28 = .ok (.iconst 0, 1) := by decide +kernel
theorem dX11_pass_29 : decode cX11_pass 29 = .ok (.istore_n 3, 1) := by decide +kernel
theorem dX11_pass_30 : decode cX11_pass 30 = .ok (.iload_n 3, 1) := by decide +kernel
theorem dX11_pass_31 : decode cX11_pass 31 = .ok (.bipush 10, 2) := by decide +kernel
theorem dX11_pass_33 : decode cX11_pass 33 = .ok (.if_icmp .ge 16, 3) := by decide +kernel
theorem dX11_pass_36 : decode cX11_pass 36 = .ok (.aload_n 0, 1) := by decide +kernel
theorem dX11_pass_37 : decode cX11_pass 37 = .ok (.getfield 117, 3) := by decide +kernel
theorem dX11_pass_40 : decode cX11_pass 40 = .ok (.iload_n 3, 1) := by decide +kernel
theorem dX11_pass_41 : decode cX11_pass 41 = .ok (.iconst 0, 1) := by decide +kernel
theorem dX11_pass_42 : decode cX11_pass 42 = .ok (.iastore, 1) := by decide +kernel
theorem dX11_pass_43 : decode cX11_pass 43 = .ok (.iinc 3 1, 3) := by decide +kernel
theorem dX11_pass_46 : decode cX11_pass 46 = .ok (.goto (-16), 3) := by decide +kernel
theorem dX11_pass_49 : decode cX11_pass 49 = .ok (.iconst 0, 1) := by decide +kernel
theorem dX11_pass_50 : decode cX11_pass 50 = .ok (.istore_n 3, 1) := by decide +kernel
theorem dX11_pass_51 : decode cX11_pass 51 = .ok (.aload_n 0, 1) := by decide +kernel
theorem dX11_pass_52 : decode cX11_pass 52 = .ok (.iload_n 1, 1) := by decide +kernel
theorem dX11_pass_53 : decode cX11_pass 53 = .ok (.iload_n 2, 1) := by decide +kernel
theorem dX11_pass_54 : decode cX11_pass 54 = .ok (.invokevirtual 551, 3) := by decide +kernel
theorem dX11_pass_57 : decode cX11_pass 57 = .ok (.ifCond .eq 15, 3) := by decide +kernel
theorem dX11_pass_60 : decode cX11_pass 60 = .ok (.iload_n 3, 1) := by decide +kernel
theorem dX11_pass_61 : decode cX11_pass 61 = .ok (.aload_n 0, 1) := by decide +kernel
theorem dX11_pass_62 : decode cX11_pass 62 = .ok (.iload_n 1, 1) := by decide +kernel
theorem dX11_pass_63 : decode cX11_pass 63 = .ok (.iload_n 2, 1) := by decide +kernel
theorem dX11_pass_64 : decode cX11_pass 64 = .ok (.invokevirtual 554, 3) := by decide +kernel
theorem dX11_pass_67 : decode cX11_pass 67 = .ok (.iadd, 1) := by decide +kernel
theorem dX11_pass_68 : decode cX11_pass 68 = .ok (.istore_n 3, 1) := by decide +kernel
theorem dX11_pass_69 : decode cX11_pass 69 = .ok (.goto (-18), 3) := by decide +kernel
theorem dX11_pass_72 : decode cX11_pass 72 = .ok (.iload_n 3, 1) := by decide +kernel
theorem dX11_pass_73 : decode cX11_pass 73 = .ok (.ireturn, 1) := by decide +kernel
theorem dX11_lockfuls_0 : decode cX11_lockfuls 0 = .ok (.aload_n 0, 1) := by decide +kernel
theorem dX11_lockfuls_1 : decode cX11_lockfuls 1 = .ok (.iconst 0, 1) := by decide +kernel
theorem dX11_lockfuls_2 : decode cX11_lockfuls 2 = .ok (.putfield 151, 3) := by decide +kernel
theorem dX11_lockfuls_5 : decode cX11_lockfuls 5 = .ok (.aload_n 0, 1) := by decide +kernel
theorem dX11_lockfuls_6 : decode cX11_lockfuls 6 = .ok (.iload_n 1, 1) := by decide +kernel
theorem dX11_lockfuls_7 : decode cX11_lockfuls 7 = .ok (.invokevirtual 446, 3) := by decide +kernel
theorem dX11_lockfuls_10 : decode cX11_lockfuls 10 = .ok (.ifCond .eq 11, 3) := by decide +kernel
theorem dX11_lockfuls_13 : decode cX11_lockfuls 13 = .ok (.aload_n 0, 1) := by decide +kernel
theorem dX11_lockfuls_14 : decode cX11_lockfuls 14 = .ok (.iload_n 2, 1) := by decide +kernel
theorem dX11_lockfuls_15 : decode cX11_lockfuls 15 = .ok (.invokevirtual 464, 3) := by decide +kernel
theorem dX11_lockfuls_18 : decode cX11_lockfuls 18 = .ok (.ifCond .ne 5, 3) := by decide +kernel
theorem dX11_lockfuls_21 : decode cX11_lockfuls 21 = .ok (.iconst (-1), 1) := by decide +kernel
theorem dX11_lockfuls_22 : decode cX11_lockfuls 22 = .ok (.ireturn, 1) := by decide +kernel
theorem dX11_lockfuls_23 : decode cX11_lockfuls 23 = .ok (.aload_n 0, 1) := by decide +kernel
theorem dX11_lockfuls_24 : decode cX11_lockfuls 24 = .ok (.iload_n 2, 1) := by decide +kernel
theorem dX11_lockfuls_25 : decode cX11_lockfuls 25 = .ok (.invokevirtual 501, 3) := by decide +kernel
theorem dX11_lockfuls_28 : decode cX11_lockfuls 28 = .ok (.istore_n 3, 1) := by decide +kernel
theorem dX11_lockfuls_29 : decode cX11_lockfuls 29 = .ok (.iload_n 3, 1) := by decide +kernel
theorem dX11_lockfuls_30 : decode cX11_lockfuls 30 = .ok (.ifCond .ne 9, 3) := by decide +kernel
theorem dX11_lockfuls_33 : decode cX11_lockfuls 33 = .ok (.sipush 999, 3) := by decide +kernel
theorem dX11_lockfuls_36 : decode cX11_lockfuls 36 = .ok (.goto 11, 3) := by decide +kernel
theorem dX11_lockfuls_39 : decode cX11_lockfuls 39 = .ok (.aload_n 0, 1) := by decide +kernel
theorem dX11_lockfuls_40 : decode cX11_lockfuls 40 = .ok (.getfield 99, 3) := by decide +kernel
theorem dX11_lockfuls_43 : decode cX11_lockfuls 43 = .ok (.iload_n 1, 1) := by decide +kernel
theorem dX11_lockfuls_44 : decode cX11_lockfuls 44 = .ok (.iaload, 1) := by decide +kernel
theorem dX11_lockfuls_45 : decode cX11_lockfuls 45 = .ok (.iload_n 3, 1) := by decide +kernel
theorem dX11_lockfuls_46 : decode cX11_lockfuls 46 = .ok (.idiv, 1) := by decide +kernel
theorem dX11_lockfuls_47 : decode cX11_lockfuls 47 = .ok (.ireturn, 1) := by decide +kernel
theorem dX11_game_0 : decode cX11_game 0 = .ok (.aload_n 0, 1) := by decide +kernel
theorem dX11_game_1 : decode cX11_game 1 = .ok (.iconst 0, 1) := by decide +kernel
theorem dX11_game_2 : decode cX11_game 2 = .ok (.putfield 151, 3) := by decide +kernel
theorem dX11_game_5 : decode cX11_game 5 = .ok (.aload_n 0, 1) := by decide +kernel
theorem dX11_game_6 : decode cX11_game 6 = .ok (.iload_n 1, 1) := by decide +kernel
theorem dX11_game_7 : decode cX11_game 7 = .ok (.invokevirtual 446, 3) := by decide +kernel
theorem dX11_game_10 : decode cX11_game 10 = .ok (.ifCond .eq 17, 3) := by decide +kernel
theorem dX11_game_13 : decode cX11_game 13 = .ok (.iload_n 2, 1) := by decide +kernel
theorem dX11_game_14 : decode cX11_game 14 = .ok (.invokestatic 492, 3) := by decide +kernel
theorem dX11_game_17 : decode cX11_game 17 = .ok (.ifCond .eq 10, 3) := by decide +kernel
theorem dX11_game_20 : decode cX11_game 20 = .ok (.iload_n 3, 1) := by decide +kernel
theorem dX11_game_21 : decode cX11_game 21 = .ok (.invokestatic 455, 3) := by decide +kernel
theorem dX11_game_24 : decode cX11_game 24 = .ok (.ifCond .ne 5, 3) := by decide +kernel
theorem dX11_game_27 : decode cX11_game 27 = .ok (.iconst (-1), 1) := by decide +kernel
theorem dX11_game_28 : decode cX11_game 28 = .ok (.ireturn, 1) := by decide +kernel
theorem dX11_game_29 : decode cX11_game 29 = .ok (.aload_n 0, 1) := by decide +kernel
theorem dX11_game_30 : decode cX11_game 30 = .ok (.iconst 0, 1) := by decide +kernel
theorem dX11_game_31 : decode cX11_game 31 = .ok (.iload_n 1, 1) := by decide +kernel
theorem dX11_game_32 : decode cX11_game 32 = .ok (.iload_n 2, 1) := by decide +kernel
theorem dX11_game_33 : decode cX11_game 33 = .ok (.invokevirtual 422, 3) := by decide +kernel
theorem dX11_game_36 : decode cX11_game 36 = .ok (.ifCond .ne 14, 3) := by decide +kernel
theorem dX11_game_39 : decode cX11_game 39 = .ok (.iload_n 3, 1) := by decide +kernel
theorem dX11_game_40 : decode cX11_game 40 = .ok (.ifCond .ne 7, 3) := by decide +kernel
theorem dX11_game_43 : decode cX11_game 43 = .ok (.iconst 2, 1) := by decide +kernel
theorem dX11_game_44 : decode cX11_game 44 = .ok (.goto 5, 3) := by decide +kernel
theorem dX11_game_47 : decode cX11_game 47 = .ok (.bipush (-2), 2) := by decide +kernel
theorem dX11_game_49 : decode cX11_game 49 = .ok (.ireturn, 1) := by decide +kernel
theorem dX11_game_50 : decode cX11_game 50 = .ok (.aload_n 0, 1) := by decide +kernel
theorem dX11_game_51 : decode cX11_game 51 = .ok (.iload_n 1, 1) := by decide +kernel
theorem dX11_game_52 : decode cX11_game 52 = .ok (.iload_n 2, 1) := by decide +kernel
theorem dX11_game_53 : decode cX11_game 53 = .ok (.invokevirtual 498, 3) := by decide +kernel
theorem dX11_game_56 : decode cX11_game 56 = .ok (.iconst 4, 1) := by decide +kernel
theorem dX11_game_57 : decode cX11_game 57 = .ok (.irem, 1) := by decide +kernel
theorem dX11_game_58 : decode cX11_game 58 = .ok (.istore 4, 2) := by decide +kernel
theorem dX11_game_60 : decode cX11_game 60 = .ok (.iload_n 3, 1) := by decide +kernel
theorem dX11_game_61 : decode cX11_game 61 = .ok (.ifCond .ne 14, 3) := by decide +kernel
theorem dX11_game_64 : decode cX11_game 64 = .ok (.iload 4, 2) := by decide +kernel
theorem dX11_game_66 : decode cX11_game 66 = .ok (.ifCond .ne 7, 3) := by decide +kernel
theorem dX11_game_69 : decode cX11_game 69 = .ok (.iconst 1, 1) := by decide +kernel
theorem dX11_game_70 : decode cX11_game 70 = .ok (.goto 4, 3) := by decide +kernel
theorem dX11_game_73 : decode cX11_game 73 = .ok (.iconst 0, 1) := by decide +kernel
theorem dX11_game_74 : decode cX11_game 74 = .ok (.ireturn, 1) := by decide +kernel
theorem dX11_game_75 : decode cX11_game 75 = .ok (.iload 4, 2) := by decide +kernel
theorem dX11_game_77 : decode cX11_game 77 = .ok (.ifCond .ne 8, 3) := by decide +kernel
theorem dX11_game_80 : decode cX11_game 80 = .ok (.bipush (-2), 2) := by decide +kernel
theorem dX11_game_82 : decode cX11_game 82 = .ok (.goto 5, 3) := by decide +kernel
theorem dX11_game_85 : decode cX11_game 85 = .ok (.iload 4, 2) := by decide +kernel
theorem dX11_game_87 : decode cX11_game 87 = .ok (.ireturn, 1) := by decide +kernel
theorem dX11_hasOf_0 : decode cX11_hasOf 0 = .ok (.iload_n 3, 1) := by decide +kernel
theorem dX11_hasOf_1 : decode cX11_hasOf 1 = .ok (.ifCond .ne 22, 3) := by decide +kernel
theorem dX11_hasOf_4 : decode cX11_hasOf 4 = .ok (.iload 4, 2) := by decide +kernel
theorem dX11_hasOf_6 : decode cX11_hasOf 6 = .ok (.ifCond .ne 15, 3) := by decide +kernel
theorem dX11_hasOf_9 : decode cX11_hasOf 9 = .ok (.aload_n 0, 1) := by decide +kernel
theorem dX11_hasOf_10 : decode cX11_hasOf 10 = .ok (.getfield 99, 3) := by decide +kernel
theorem dX11_hasOf_13 : decode cX11_hasOf 13 = .ok (.iload_n 2, 1) := by decide +kernel
theorem dX11_hasOf_14 : decode cX11_hasOf 14 = .ok (.iaload, 1) := by decide +kernel
theorem dX11_hasOf_15 : decode cX11_hasOf 15 = .ok (.bipush 10, 2) := by decide +kernel
theorem dX11_hasOf_17 : decode cX11_hasOf 17 = .ok (.idiv, 1) := by decide +kernel
theorem dX11_hasOf_18 : decode cX11_hasOf 18 = .ok (.goto 4, 3) := by decide +kernel
theorem dX11_hasOf_21 : decode cX11_hasOf 21 = .ok (.iconst 1, 1) := by decide +kernel
theorem dX11_hasOf_22 : decode cX11_hasOf 22 = .ok (.ireturn, 1) := by decide +kernel
theorem dX11_hasOf_23 : decode cX11_hasOf 23 = .ok (.iload 4, 2) := by decide +kernel
theorem dX11_hasOf_25 : decode cX11_hasOf 25 = .ok (.ifCond .ne 17, 3) := by decide +kernel
theorem dX11_hasOf_28 : decode cX11_hasOf 28 = .ok (.aload_n 0, 1) := by decide +kernel
theorem dX11_hasOf_29 : decode cX11_hasOf 29 = .ok (.getfield 99, 3) := by decide +kernel
theorem dX11_hasOf_32 : decode cX11_hasOf 32 = .ok (.iload_n 1, 1) := by decide +kernel
theorem dX11_hasOf_33 : decode cX11_hasOf 33 = .ok (.iaload, 1) := by decide +kernel
theorem dX11_hasOf_34 : decode cX11_hasOf 34 = .ok (.bipush 10, 2) := by decide +kernel
theorem dX11_hasOf_36 : decode cX11_hasOf 36 = .ok (.idiv, 1) := by decide +kernel
theorem dX11_hasOf_37 : decode cX11_hasOf 37 = .ok (.iconst 2, 1) := by decide +kernel
theorem dX11_hasOf_38 : decode cX11_hasOf 38 = .ok (.iadd, 1) := by decide +kernel
theorem dX11_hasOf_39 : decode cX11_hasOf 39 = .ok (.goto 12, 3) := by decide +kernel
theorem dX11_hasOf_42 : decode cX11_hasOf 42 = .ok (.aload_n 0, 1) := by decide +kernel
theorem dX11_hasOf_43 : decode cX11_hasOf 43 = .ok (.getfield 99, 3) := by decide +kernel
theorem dX11_hasOf_46 : decode cX11_hasOf 46 = .ok (.iload_n 1, 1) := by decide +kernel
theorem dX11_hasOf_47 : decode cX11_hasOf 47 = .ok (.iaload, 1) := by decide +kernel
theorem dX11_hasOf_48 : decode cX11_hasOf 48 = .ok (.bipush 20, 2) := by decide +kernel
theorem dX11_hasOf_50 : decode cX11_hasOf 50 = .ok (.idiv, 1) := by decide +kernel
theorem dX11_hasOf_51 : decode cX11_hasOf 51 = .ok (.ireturn, 1) := by decide +kernel
theorem dX11_isRest_0 : decode cX11_isRest 0 = .ok (.iload_n 3, 1) := by decide +kernel
theorem dX11_isRest_1 : decode cX11_isRest 1 = .ok (.iconst 2, 1) := by decide +kernel
theorem dX11_isRest_2 : decode cX11_isRest 2 = .ok (.idiv, 1) := by decide +kernel
theorem dX11_isRest_3 : decode cX11_isRest 3 = .ok (.istore 4, 2) := by decide +kernel
theorem dX11_isRest_5 : decode cX11_isRest 5 = .ok (.iload_n 3, 1) := by decide +kernel
theorem dX11_isRest_6 : decode cX11_isRest 6 = .ok (.iconst 2, 1) := by decide +kernel
theorem dX11_isRest_7 : decode cX11_isRest 7 = .ok (.irem, 1) := by decide +kernel
theorem dX11_isRest_8 : decode cX11_isRest 8 = .ok (.istore 5, 2) := by decide +kernel
theorem dX11_isRest_10 : decode cX11_isRest 10 = .ok (.aload_n 0, 1) := by decide +kernel
theorem dX11_isRest_11 : decode cX11_isRest 11 = .ok (.iload_n 1, 1) := by decide +kernel
theorem dX11_isRest_12 : decode cX11_isRest 12 = .ok (.iload_n 2, 1) := by decide +kernel
theorem dX11_isRest_13 : decode cX11_isRest 13 = .ok (.iconst 1, 1) := by decide +kernel
theorem dX11_isRest_14 : decode cX11_isRest 14 = .ok (.iload 4, 2) := by decide +kernel
theorem dX11_isRest_16 : decode cX11_isRest 16 = .ok (.isub, 1) := by decide +kernel
theorem dX11_isRest_17 : decode cX11_isRest 17 = .ok (.iload 5, 2) := by decide +kernel
theorem dX11_isRest_19 : decode cX11_isRest 19 = .ok (.invokevirtual 557, 3) := by decide +kernel
theorem dX11_isRest_22 : decode cX11_isRest 22 = .ok (.aload_n 0, 1) := by decide +kernel
theorem dX11_isRest_23 : decode cX11_isRest 23 = .ok (.iload_n 1, 1) := by decide +kernel
theorem dX11_isRest_24 : decode cX11_isRest 24 = .ok (.iload_n 2, 1) := by decide +kernel
theorem dX11_isRest_25 : decode cX11_isRest 25 = .ok (.iload 4, 2) := by decide +kernel
theorem dX11_isRest_27 : decode cX11_isRest 27 = .ok (.iload 5, 2) := by decide +kernel
theorem dX11_isRest_29 : decode cX11_isRest 29 = .ok (.invokevirtual 557, 3) := by decide +kernel
theorem dX11_isRest_32 : decode cX11_isRest 32 = .ok (.if_icmp .gt 32, 3) := by decide +kernel
theorem dX11_isRest_35 : decode cX11_isRest 35 = .ok (.aload_n 0, 1) := by decide +kernel
theorem dX11_isRest_36 : decode cX11_isRest 36 = .ok (.iload_n 2, 1) := by decide +kernel
theorem dX11_isRest_37 : decode cX11_isRest 37 = .ok (.iload_n 1, 1) := by decide +kernel
theorem dX11_isRest_38 : decode cX11_isRest 38 = .ok (.iconst 1, 1) := by decide +kernel
theorem dX11_isRest_39 : decode cX11_isRest 39 = .ok (.iload 5, 2) := by decide +kernel
theorem dX11_isRest_41 : decode cX11_isRest 41 = .ok (.isub, 1) := by decide +kernel
theorem dX11_isRest_42 : decode cX11_isRest 42 = .ok (.iload 4, 2) := by decide +kernel
theorem dX11_isRest_44 : decode cX11_isRest 44 = .ok (.invokevirtual 557, 3) := by decide +kernel
theorem dX11_isRest_47 : decode cX11_isRest 47 = .ok (.aload_n 0, 1) := by decide +kernel
theorem dX11_isRest_48 : decode cX11_isRest 48 = .ok (.iload_n 2, 1) := by decide +kernel
theorem dX11_isRest_49 : decode cX11_isRest 49 = .ok (.iload_n 1, 1) := by decide +kernel
theorem dX11_isRest_50 : decode cX11_isRest 50 = .ok (.iload 5, 2) := by decide +kernel
theorem dX11_isRest_52 : decode cX11_isRest 52 = .ok (.iload 4, 2) := by decide +kernel
theorem dX11_isRest_54 : decode cX11_isRest 54 = .ok (.invokevirtual 557, 3) := by decide +kernel
theorem dX11_isRest_57 : decode cX11_isRest 57 = .ok (.if_icmp .gt 7, 3) := by decide +kernel
theorem dX11_isRest_60 : decode cX11_isRest 60 = .ok (.iconst 1, 1) := by decide +kernel
theorem dX11_isRest_61 : decode cX11_isRest 61 = .ok (.goto 4, 3) := by decide +kernel
theorem dX11_isRest_64 : decode cX11_isRest 64 = .ok (.iconst 0, 1) := by decide +kernel
theorem dX11_isRest_65 : decode cX11_isRest 65 = .ok (.ireturn, 1) := by decide +kernel
theorem dX11_restOf_0 : decode cX11_restOf 0 = .ok (.iconst 0, 1) := by decide +kernel
theorem dX11_restOf_1 : decode cX11_restOf 1 = .ok (.istore 4, 2) := by decide +kernel
theorem dX11_restOf_3 : decode cX11_restOf 3 = .ok (.iconst 0, 1) := by decide +kernel
theorem dX11_restOf_4 : decode cX11_restOf 4 = .ok (.istore 5, 2) := by decide +kernel
theorem dX11_restOf_6 : decode cX11_restOf 6 = .ok (.iload 5, 2) := by decide +kernel
theorem dX11_restOf_8 : decode cX11_restOf 8 = .ok (.iconst 4, 1) := by decide +kernel
theorem dX11_restOf_9 : decode cX11_restOf 9 = .ok (.if_icmp .ge 45, 3) := by decide +kernel
theorem dX11_restOf_12 : decode cX11_restOf 12 = .ok (.aload_n 0, 1) := by decide +kernel
theorem dX11_restOf_13 : decode cX11_restOf 13 = .ok (.iload_n 1, 1) := by decide +kernel
theorem dX11_restOf_14 : decode cX11_restOf 14 = .ok (.iload_n 2, 1) := by decide +kernel
theorem dX11_restOf_15 : decode cX11_restOf 15 = .ok (.iload 5, 2) := by decide +kernel
theorem dX11_restOf_17 : decode cX11_restOf 17 = .ok (.invokevirtual 561, 3) := by decide +kernel
theorem dX11_restOf_20 : decode cX11_restOf 20 = .ok (.ifCond .ne 6, 3) := by decide +kernel
theorem dX11_restOf_23 : decode cX11_restOf 23 = .ok (.goto 25, 3) := by decide +kernel
theorem dX11_restOf_26 : decode cX11_restOf 26 = .ok (.iload 4, 2) := by decide +kernel
theorem dX11_restOf_28 : decode cX11_restOf 28 = .ok (.iload_n 3, 1) := by decide +kernel
theorem dX11_restOf_29 : decode cX11_restOf 29 = .ok (.if_icmp .ne 16, 3) := by decide +kernel
theorem dX11_restOf_32 : decode cX11_restOf 32 = .ok (.bipush 10, 2) := by decide +kernel
theorem dX11_restOf_34 : decode cX11_restOf 34 = .ok (.iload 5, 2) := by decide +kernel
theorem dX11_restOf_36 : decode cX11_restOf 36 = .ok (.iconst 2, 1) := by decide +kernel
theorem dX11_restOf_37 : decode cX11_restOf 37 = .ok (.idiv, 1) := by decide +kernel
theorem dX11_restOf_38 : decode cX11_restOf 38 = .ok (.imul, 1) := by decide +kernel
theorem dX11_restOf_39 : decode cX11_restOf 39 = .ok (.iload 5, 2) := by decide +kernel
theorem dX11_restOf_41 : decode cX11_restOf 41 = .ok (.iconst 2, 1) := by decide +kernel
theorem dX11_restOf_42 : decode cX11_restOf 42 = .ok (.irem, 1) := by decide +kernel
theorem dX11_restOf_43 : decode cX11_restOf 43 = .ok (.iadd, 1) := by decide +kernel
theorem dX11_restOf_44 : decode cX11_restOf 44 = .ok (.ireturn, 1) := by decide +kernel
theorem dX11_restOf_45 : decode cX11_restOf 45 = .ok (.iinc 4 1, 3) := by decide +kernel
theorem dX11_restOf_48 : decode cX11_restOf 48 = .ok (.iinc 5 1, 3) := by decide +kernel
theorem dX11_restOf_51 : decode cX11_restOf 51 = .ok (.goto (-45), 3) := by decide +kernel
theorem dX11_restOf_54 : decode cX11_restOf 54 = .ok (.iload_n 3, 1) := by decide +kernel
theorem dX11_restOf_55 : decode cX11_restOf 55 = .ok (.iconst (-1), 1) := by decide +kernel
theorem dX11_restOf_56 : decode cX11_restOf 56 = .ok (.if_icmp .ne 8, 3) := by decide +kernel
theorem dX11_restOf_59 : decode cX11_restOf 59 = .ok (.iload 4, 2) := by decide +kernel
theorem dX11_restOf_61 : decode cX11_restOf 61 = .ok (.goto 5, 3) := by decide +kernel
theorem dX11_restOf_64 : decode cX11_restOf 64 = .ok (.bipush (-2), 2) := by decide +kernel
theorem dX11_restOf_66 : decode cX11_restOf 66 = .ok (.ireturn, 1) := by decide +kernel
theorem dX11_areTwo_0 : decode cX11_areTwo 0 = .ok (.aload_n 0, 1) := by decide +kernel
theorem dX11_areTwo_1 : decode cX11_areTwo 1 = .ok (.iload_n 1, 1) := by decide +kernel
theorem dX11_areTwo_2 : decode cX11_areTwo 2 = .ok (.invokevirtual 446, 3) := by decide +kernel
theorem dX11_areTwo_5 : decode cX11_areTwo 5 = .ok (.ifCond .eq 20, 3) := by decide +kernel
theorem dX11_areTwo_8 : decode cX11_areTwo 8 = .ok (.aload_n 0, 1) := by decide +kernel
theorem dX11_areTwo_9 : decode cX11_areTwo 9 = .ok (.iload_n 2, 1) := by decide +kernel
theorem dX11_areTwo_10 : decode cX11_areTwo 10 = .ok (.invokevirtual 446, 3) := by decide +kernel
theorem dX11_areTwo_13 : decode cX11_areTwo 13 = .ok (.ifCond .eq 12, 3) := by decide +kernel
theorem dX11_areTwo_16 : decode cX11_areTwo 16 = .ok (.iload_n 1, 1) := by decide +kernel
theorem dX11_areTwo_17 : decode cX11_areTwo 17 = .ok (.iload_n 2, 1) := by decide +kernel
theorem dX11_areTwo_18 : decode cX11_areTwo 18 = .ok (.if_icmp .eq 7, 3) := by decide +kernel
theorem dX11_areTwo_21 : decode cX11_areTwo 21 = .ok (.iconst 1, 1) := by decide +kernel
theorem dX11_areTwo_22 : decode cX11_areTwo 22 = .ok (.goto 4, 3) := by decide +kernel
theorem dX11_areTwo_25 : decode cX11_areTwo 25 = .ok (.iconst 0, 1) := by decide +kernel
theorem dX11_areTwo_26 : decode cX11_areTwo 26 = .ok (.ireturn, 1) := by decide +kernel
theorem dX11_rests_0 : decode cX11_rests 0 = .ok (.aload_n 0, 1) := by decide +kernel
theorem dX11_rests_1 : decode cX11_rests 1 = .ok (.iconst 0, 1) := by decide +kernel
theorem dX11_rests_2 : decode cX11_rests 2 = .ok (.putfield 151, 3) := by decide +kernel
theorem dX11_rests_5 : decode cX11_rests 5 = .ok (.aload_n 0, 1) := by decide +kernel
theorem dX11_rests_6 : decode cX11_rests 6 = .ok (.iload_n 1, 1) := by decide +kernel
theorem dX11_rests_7 : decode cX11_rests 7 = .ok (.iload_n 2, 1) := by decide +kernel
theorem dX11_rests_8 : decode cX11_rests 8 = .ok (.invokevirtual 564, 3) := by decide +kernel
theorem dX11_rests_11 : decode cX11_rests 11 = .ok (.ifCond .eq 13, 3) := by decide +kernel
theorem dX11_rests_14 : decode cX11_rests 14 = .ok (.aload_n 0, 1) := by decide +kernel
theorem dX11_rests_15 : decode cX11_rests 15 = .ok (.iload_n 1, 1) := by decide +kernel
theorem dX11_rests_16 : decode cX11_rests 16 = .ok (.iload_n 2, 1) := by decide +kernel
theorem dX11_rests_17 : decode cX11_rests 17 = .ok (.iconst (-1), 1) := by decide +kernel
theorem dX11_rests_18 : decode cX11_rests 18 = .ok (.invokevirtual 567, 3) := by decide +kernel
theorem dX11_rests_21 : decode cX11_rests 21 = .ok (.goto 4, 3) := by decide +kernel
theorem dX11_rests_24 : decode cX11_rests 24 = .ok (.iconst (-1), 1) := by decide +kernel
theorem dX11_rests_25 : decode cX11_rests 25 = .ok (.ireturn, 1) := by decide +kernel
theorem dX11_rest_0 : decode cX11_rest 0 = .ok (.aload_n 0, 1) := by decide +kernel
theorem dX11_rest_1 : decode cX11_rest 1 = .ok (.iconst 0, 1) := by decide +kernel
theorem dX11_rest_2 : decode cX11_rest 2 = .ok (.putfield 151, 3) := by decide +kernel
theorem dX11_rest_5 : decode cX11_rest 5 = .ok (.aload_n 0, 1) := by decide +kernel
theorem dX11_rest_6 : decode cX11_rest 6 = .ok (.iload_n 1, 1) := by decide +kernel
theorem dX11_rest_7 : decode cX11_rest 7 = .ok (.iload_n 2, 1) := by decide +kernel
theorem dX11_rest_8 : decode cX11_rest 8 = .ok (.invokevirtual 564, 3) := by decide +kernel
theorem dX11_rest_11 : decode cX11_rest 11 = .ok (.ifCond .eq 17, 3) := by decide +kernel
theorem dX11_rest_14 : decode cX11_rest 14 = .ok (.iload_n 3, 1) := by decide +kernel
theorem dX11_rest_15 : decode cX11_rest 15 = .ok (.ifCond .lt 13, 3) := by decide +kernel
theorem dX11_rest_18 : decode cX11_rest 18 = .ok (.aload_n 0, 1) := by decide +kernel
theorem dX11_rest_19 : decode cX11_rest 19 = .ok (.iload_n 1, 1) := by decide +kernel
theorem dX11_rest_20 : decode cX11_rest 20 = .ok (.iload_n 2, 1) := by decide +kernel
theorem dX11_rest_21 : decode cX11_rest 21 = .ok (.iload_n 3, 1) := by decide +kernel
theorem dX11_rest_22 : decode cX11_rest 22 = .ok (.invokevirtual 567, 3) := by decide +kernel
theorem dX11_rest_25 : decode cX11_rest 25 = .ok (.goto 4, 3) := by decide +kernel
theorem dX11_rest_28 : decode cX11_rest 28 = .ok (.iconst (-1), 1) := by decide +kernel
theorem dX11_rest_29 : decode cX11_rest 29 = .ok (.ireturn, 1) := by decide +kernel
theorem dX11_holds_0 : decode cX11_holds 0 = .ok (.aload_n 0, 1) := by decide +kernel
theorem dX11_holds_1 : decode cX11_holds 1 = .ok (.iconst 0, 1) := by decide +kernel
theorem dX11_holds_2 : decode cX11_holds 2 = .ok (.putfield 151, 3) := by decide +kernel
theorem dX11_holds_5 : decode cX11_holds 5 = .ok (.iload_n 1, 1) := by decide +kernel
theorem dX11_holds_6 : decode cX11_holds 6 = .ok (.ifCond .lt 16, 3) := by decide +kernel
theorem dX11_holds_9 : decode cX11_holds 9 = .ok (.iload_n 1, 1) := by decide +kernel
theorem dX11_holds_10 : decode cX11_holds 10 = .ok (.bipush 6, 2) := by decide +kernel
theorem dX11_holds_12 : decode cX11_holds 12 = .ok (.if_icmp .gt 10, 3) := by decide +kernel
theorem dX11_holds_15 : decode cX11_holds 15 = .ok (.iload_n 2, 1) := by decide +kernel
theorem dX11_holds_16 : decode cX11_holds 16 = .ok (.invokestatic 455, 3) := by decide +kernel
theorem dX11_holds_19 : decode cX11_holds 19 = .ok (.ifCond .ne 7, 3) := by decide +kernel
theorem dX11_holds_22 : decode cX11_holds 22 = .ok (.ldc2_w 570, 3) := by decide +kernel
theorem dX11_holds_25 : decode cX11_holds 25 = .ok (.lreturn, 1) := by decide +kernel
theorem dX11_holds_26 : decode cX11_holds 26 = .ok (.lconst 1, 1) := by decide +kernel
theorem dX11_holds_27 : decode cX11_holds 27 = .ok (.lstore_n 3, 1) := by decide +kernel
theorem dX11_holds_28 : decode cX11_holds 28 = .ok (.lconst 1, 1) := by decide +kernel
theorem dX11_holds_29 : decode cX11_holds 29 = .ok (.lstore 5, 2) := by decide +kernel
theorem dX11_holds_31 : decode cX11_holds 31 = .ok (.iconst 0, 1) := by decide +kernel
theorem dX11_holds_32 : decode cX11_holds 32 = .ok (.istore 7, 2) := by decide +kernel
theorem dX11_holds_34 : decode cX11_holds 34 = .ok (.iload 7, 2) := by decide +kernel
theorem dX11_holds_36 : decode cX11_holds 36 = .ok (.iload_n 1, 1) := by decide +kernel
theorem dX11_holds_37 : decode cX11_holds 37 = .ok (.if_icmp .ge 32, 3) := by decide +kernel
theorem dX11_holds_40 : decode cX11_holds 40 = .ok (.lload_n 3, 1) := by decide +kernel
theorem dX11_holds_41 : decode cX11_holds 41 = .ok (.ldc2_w 572, 3) := by decide +kernel
theorem dX11_holds_44 : decode cX11_holds 44 = .ok (.aload_n 0, 1) := by decide +kernel
theorem dX11_holds_45 : decode cX11_holds 45 = .ok (.getfield 13, 3) := by decide +kernel
theorem dX11_holds_48 : decode cX11_holds 48 = .ok (.bipush 6, 2) := by decide +kernel
theorem dX11_holds_50 : decode cX11_holds 50 = .ok (.iaload, 1) := by decide +kernel
theorem dX11_holds_51 : decode cX11_holds 51 = .ok (.i2l, 1) := by decide +kernel
theorem dX11_holds_52 : decode cX11_holds 52 = .ok (.lsub, 1) := by decide +kernel
theorem dX11_holds_53 : decode cX11_holds 53 = .ok (.lmul, 1) := by decide +kernel
theorem dX11_holds_54 : decode cX11_holds 54 = .ok (.lstore_n 3, 1) := by decide +kernel
theorem dX11_holds_55 : decode cX11_holds 55 = .ok (.lload 5, 2) := by decide +kernel
theorem dX11_holds_57 : decode cX11_holds 57 = .ok (.ldc2_w 572, 3) := by decide +kernel
theorem dX11_holds_60 : decode cX11_holds 60 = .ok (.lmul, 1) := by decide +kernel
theorem dX11_holds_61 : decode cX11_holds 61 = .ok (.lstore 5, 2) := by decide +kernel
theorem dX11_holds_63 : decode cX11_holds 63 = .ok (.iinc 7 1, 3) := by decide +kernel
theorem dX11_holds_66 : decode cX11_holds 66 = .ok (.goto (-32), 3) := by decide +kernel
theorem dX11_holds_69 : decode cX11_holds 69 = .ok (.lload_n 3, 1) := by decide +kernel
theorem dX11_holds_70 : decode cX11_holds 70 = .ok (.lstore 7, 2) := by decide +kernel
theorem dX11_holds_72 : decode cX11_holds 72 = .ok (.lload 5, 2) := by decide +kernel
theorem dX11_holds_74 : decode cX11_holds 74 = .ok (.lstore 9, 2) := by decide +kernel
theorem dX11_holds_76 : decode cX11_holds 76 = .ok (.lload 9, 2) := by decide +kernel
theorem dX11_holds_78 : decode cX11_holds 78 = .ok (.lconst 0, 1) := by decide +kernel
theorem dX11_holds_79 : decode cX11_holds 79 = .ok (.lcmp, 1) := by decide +kernel
theorem dX11_holds_80 : decode cX11_holds 80 = .ok (.ifCond .eq 21, 3) := by decide +kernel
theorem dX11_holds_83 : decode cX11_holds 83 = .ok (.lload 7, 2) := by decide +kernel
theorem dX11_holds_85 : decode cX11_holds 85 = .ok (.lload 9, 2) := by decide +kernel
theorem dX11_holds_87 : decode cX11_holds 87 = .ok (.lrem, 1) := by decide +kernel
theorem dX11_holds_88 : decode cX11_holds 88 = .ok (.lstore 11, 2) := by decide +kernel
theorem dX11_holds_90 : decode cX11_holds 90 = .ok (.lload 9, 2) := by decide +kernel
theorem dX11_holds_92 : decode cX11_holds 92 = .ok (.lstore 7, 2) := by decide +kernel
theorem dX11_holds_94 : decode cX11_holds 94 = .ok (.lload 11, 2) := by decide +kernel
theorem dX11_holds_96 : decode cX11_holds 96 = .ok (.lstore 9, 2) := by decide +kernel
theorem dX11_holds_98 : decode cX11_holds 98 = .ok (.goto (-22), 3) := by decide +kernel
theorem dX11_holds_101 : decode cX11_holds 101 = .ok (.iload_n 2, 1) := by decide +kernel
theorem dX11_holds_102 : decode cX11_holds 102 = .ok (.ifCond .ne 10, 3) := by decide +kernel
theorem dX11_holds_105 : decode cX11_holds 105 = .ok (.lload_n 3, 1) := by decide +kernel
theorem dX11_holds_106 : decode cX11_holds 106 = .ok (.lload 7, 2) := by decide +kernel
theorem dX11_holds_108 : decode cX11_holds 108 = .ok (.ldiv, 1) := by decide +kernel
theorem dX11_holds_109 : decode cX11_holds 109 = .ok (.goto 8, 3) := by decide +kernel
theorem dX11_holds_112 : decode cX11_holds 112 = .ok (.lload 5, 2) := by decide +kernel
theorem dX11_holds_114 : decode cX11_holds 114 = .ok (.lload 7, 2) := by decide +kernel
theorem dX11_holds_116 : decode cX11_holds 116 = .ok (.ldiv, 1) := by decide +kernel
theorem dX11_holds_117 : decode cX11_holds 117 = .ok (.lreturn, 1) := by decide +kernel
theorem dX11_see_0 : decode cX11_see 0 = .ok (.aload_n 0, 1) := by decide +kernel
theorem dX11_see_1 : decode cX11_see 1 = .ok (.iconst 0, 1) := by decide +kernel
theorem dX11_see_2 : decode cX11_see 2 = .ok (.putfield 151, 3) := by decide +kernel
theorem dX11_see_5 : decode cX11_see 5 = .ok (.iload_n 1, 1) := by decide +kernel
theorem dX11_see_6 : decode cX11_see 6 = .ok (.iconst 1, 1) := by decide +kernel
theorem dX11_see_7 : decode cX11_see 7 = .ok (.if_icmp .lt 37, 3) := by decide +kernel
theorem dX11_see_10 : decode cX11_see 10 = .ok (.iload_n 1, 1) := by decide +kernel
theorem dX11_see_11 : decode cX11_see 11 = .ok (.bipush 60, 2) := by decide +kernel
theorem dX11_see_13 : decode cX11_see 13 = .ok (.if_icmp .gt 31, 3) := by decide +kernel
theorem dX11_see_16 : decode cX11_see 16 = .ok (.aload_n 0, 1) := by decide +kernel
theorem dX11_see_17 : decode cX11_see 17 = .ok (.iload_n 2, 1) := by decide +kernel
theorem dX11_see_18 : decode cX11_see 18 = .ok (.invokevirtual 446, 3) := by decide +kernel
theorem dX11_see_21 : decode cX11_see 21 = .ok (.ifCond .eq 23, 3) := by decide +kernel
theorem dX11_see_24 : decode cX11_see 24 = .ok (.iload_n 3, 1) := by decide +kernel
theorem dX11_see_25 : decode cX11_see 25 = .ok (.ifCond .lt 19, 3) := by decide +kernel
theorem dX11_see_28 : decode cX11_see 28 = .ok (.iload_n 3, 1) := by decide +kernel
theorem dX11_see_29 : decode cX11_see 29 = .ok (.sipush 9999, 3) := by decide +kernel
theorem dX11_see_32 : decode cX11_see 32 = .ok (.if_icmp .gt 12, 3) := by decide +kernel
theorem dX11_see_35 : decode cX11_see 35 = .ok (.aload_n 0, 1) := by decide +kernel
theorem dX11_see_36 : decode cX11_see 36 = .ok (.getfield 313, 3) := by decide +kernel
theorem dX11_see_39 : decode cX11_see 39 = .ok (.bipush 24, 2) := by decide +kernel
theorem dX11_see_41 : decode cX11_see 41 = .ok (.if_icmp .ne 5, 3) := by decide +kernel
theorem dX11_see_44 : decode cX11_see 44 = .ok (.iconst (-1), 1) := by decide +kernel
theorem dX11_see_45 : decode cX11_see 45 = .ok (.ireturn, 1) := by decide +kernel
theorem dX11_see_46 : decode cX11_see 46 = .ok (.aload_n 0, 1) := by decide +kernel
theorem dX11_see_47 : decode cX11_see 47 = .ok (.getfield 126, 3) := by decide +kernel
theorem dX11_see_50 : decode cX11_see 50 = .ok (.aload_n 0, 1) := by decide +kernel
theorem dX11_see_51 : decode cX11_see 51 = .ok (.getfield 313, 3) := by decide +kernel
theorem dX11_see_54 : decode cX11_see 54 = .ok (.iload_n 1, 1) := by decide +kernel
theorem dX11_see_55 : decode cX11_see 55 = .ok (.iastore, 1) := by decide +kernel
theorem dX11_see_56 : decode cX11_see 56 = .ok (.aload_n 0, 1) := by decide +kernel
theorem dX11_see_57 : decode cX11_see 57 = .ok (.getfield 129, 3) := by decide +kernel
theorem dX11_see_60 : decode cX11_see 60 = .ok (.aload_n 0, 1) := by decide +kernel
theorem dX11_see_61 : decode cX11_see 61 = .ok (.getfield 313, 3) := by decide +kernel
theorem dX11_see_64 : decode cX11_see 64 = .ok (.iload_n 2, 1) := by decide +kernel
theorem dX11_see_65 : decode cX11_see 65 = .ok (.iastore, 1) := by decide +kernel
theorem dX11_see_66 : decode cX11_see 66 = .ok (.aload_n 0, 1) := by decide +kernel
theorem dX11_see_67 : decode cX11_see 67 = .ok (.getfield 132, 3) := by decide +kernel
theorem dX11_see_70 : decode cX11_see 70 = .ok (.aload_n 0, 1) := by decide +kernel
theorem dX11_see_71 : decode cX11_see 71 = .ok (.getfield 313, 3) := by decide +kernel
theorem dX11_see_74 : decode cX11_see 74 = .ok (.iload_n 3, 1) := by decide +kernel
theorem dX11_see_75 : decode cX11_see 75 = .ok (.iastore, 1) := by decide +kernel
theorem dX11_see_76 : decode cX11_see 76 = .ok (.aload_n 0, 1) := by decide +kernel
theorem dX11_see_77 : decode cX11_see 77 = .ok (.getfield 135, 3) := by decide +kernel
theorem dX11_see_80 : decode cX11_see 80 = .ok (.aload_n 0, 1) := by decide +kernel
theorem dX11_see_81 : decode cX11_see 81 = .ok (.getfield 313, 3) := by decide +kernel
theorem dX11_see_84 : decode cX11_see 84 = .ok (.iload 4, 2) := by decide +kernel
theorem dX11_see_86 : decode cX11_see 86 = .ok (.bastore, 1) := by decide +kernel
theorem dX11_see_87 : decode cX11_see 87 = .ok (.aload_n 0, 1) := by decide +kernel
theorem dX11_see_88 : decode cX11_see 88 = .ok (.getfield 139, 3) := by decide +kernel
theorem dX11_see_91 : decode cX11_see 91 = .ok (.aload_n 0, 1) := by decide +kernel
theorem dX11_see_92 : decode cX11_see 92 = .ok (.getfield 313, 3) := by decide +kernel
theorem dX11_see_95 : decode cX11_see 95 = .ok (.iconst (-1), 1) := by decide +kernel
theorem dX11_see_96 : decode cX11_see 96 = .ok (.iastore, 1) := by decide +kernel
theorem dX11_see_97 : decode cX11_see 97 = .ok (.aload_n 0, 1) := by decide +kernel
theorem dX11_see_98 : decode cX11_see 98 = .ok (.dup, 1) := by decide +kernel
theorem dX11_see_99 : decode cX11_see 99 = .ok (.getfield 313, 3) := by decide +kernel
theorem dX11_see_102 : decode cX11_see 102 = .ok (.iconst 1, 1) := by decide +kernel
theorem dX11_see_103 : decode cX11_see 103 = .ok (.iadd, 1) := by decide +kernel
theorem dX11_see_104 : decode cX11_see 104 = .ok (.putfield 313, 3) := by decide +kernel
theorem dX11_see_107 : decode cX11_see 107 = .ok (.aload_n 0, 1) := by decide +kernel
theorem dX11_see_108 : decode cX11_see 108 = .ok (.getfield 313, 3) := by decide +kernel
theorem dX11_see_111 : decode cX11_see 111 = .ok (.iconst 1, 1) := by decide +kernel
theorem dX11_see_112 : decode cX11_see 112 = .ok (.isub, 1) := by decide +kernel
theorem dX11_see_113 : decode cX11_see 113 = .ok (.ireturn, 1) := by decide +kernel
theorem dX11_strike_0 : decode cX11_strike 0 = .ok (.aload_n 0, 1) := by decide +kernel
theorem dX11_strike_1 : decode cX11_strike 1 = .ok (.iconst 0, 1) := by decide +kernel
theorem dX11_strike_2 : decode cX11_strike 2 = .ok (.putfield 151, 3) := by decide +kernel
theorem dX11_strike_5 : decode cX11_strike 5 = .ok (.iload_n 1, 1) := by decide +kernel
theorem dX11_strike_6 : decode cX11_strike 6 = .ok (.ifCond .lt 20, 3) := by decide +kernel
theorem dX11_strike_9 : decode cX11_strike 9 = .ok (.iload_n 1, 1) := by decide +kernel
theorem dX11_strike_10 : decode cX11_strike 10 = .ok (.aload_n 0, 1) := by decide +kernel
theorem dX11_strike_11 : decode cX11_strike 11 = .ok (.getfield 313, 3) := by decide +kernel
theorem dX11_strike_14 : decode cX11_strike 14 = .ok (.if_icmp .ge 12, 3) := by decide +kernel
theorem dX11_strike_17 : decode cX11_strike 17 = .ok (.aload_n 0, 1) := by decide +kernel
theorem dX11_strike_18 : decode cX11_strike 18 = .ok (.getfield 313, 3) := by decide +kernel
theorem dX11_strike_21 : decode cX11_strike 21 = .ok (.bipush 24, 2) := by decide +kernel
theorem dX11_strike_23 : decode cX11_strike 23 = .ok (.if_icmp .ne 5, 3) := by decide +kernel
theorem dX11_strike_26 : decode cX11_strike 26 = .ok (.iconst (-1), 1) := by decide +kernel
theorem dX11_strike_27 : decode cX11_strike 27 = .ok (.ireturn, 1) := by decide +kernel
theorem dX11_strike_28 : decode cX11_strike 28 = .ok (.aload_n 0, 1) := by decide +kernel
theorem dX11_strike_29 : decode cX11_strike 29 = .ok (.getfield 139, 3) := by decide +kernel
theorem dX11_strike_32 : decode cX11_strike 32 = .ok (.aload_n 0, 1) := by decide +kernel
theorem dX11_strike_33 : decode cX11_strike 33 = .ok (.getfield 313, 3) := by decide +kernel
theorem dX11_strike_36 : decode cX11_strike 36 = .ok (.iload_n 1, 1) := by decide +kernel
theorem dX11_strike_37 : decode cX11_strike 37 = .ok (.iastore, 1) := by decide +kernel
theorem dX11_strike_38 : decode cX11_strike 38 = .ok (.aload_n 0, 1) := by decide +kernel
theorem dX11_strike_39 : decode cX11_strike 39 = .ok (.dup, 1) := by decide +kernel
theorem dX11_strike_40 : decode cX11_strike 40 = .ok (.getfield 313, 3) := by decide +kernel
theorem dX11_strike_43 : decode cX11_strike 43 = .ok (.iconst 1, 1) := by decide +kernel
theorem dX11_strike_44 : decode cX11_strike 44 = .ok (.iadd, 1) := by decide +kernel
theorem dX11_strike_45 : decode cX11_strike 45 = .ok (.putfield 313, 3) := by decide +kernel
theorem dX11_strike_48 : decode cX11_strike 48 = .ok (.aload_n 0, 1) := by decide +kernel
theorem dX11_strike_49 : decode cX11_strike 49 = .ok (.getfield 313, 3) := by decide +kernel
theorem dX11_strike_52 : decode cX11_strike 52 = .ok (.iconst 1, 1) := by decide +kernel
theorem dX11_strike_53 : decode cX11_strike 53 = .ok (.isub, 1) := by decide +kernel
theorem dX11_strike_54 : decode cX11_strike 54 = .ok (.ireturn, 1) := by decide +kernel
theorem dX11_known_0 : decode cX11_known 0 = .ok (.aload_n 0, 1) := by decide +kernel
theorem dX11_known_1 : decode cX11_known 1 = .ok (.iconst 0, 1) := by decide +kernel
theorem dX11_known_2 : decode cX11_known 2 = .ok (.putfield 151, 3) := by decide +kernel
theorem dX11_known_5 : decode cX11_known 5 = .ok (.iload_n 1, 1) := by decide +kernel
theorem dX11_known_6 : decode cX11_known 6 = .ok (.iconst (-1), 1) := by decide +kernel
theorem dX11_known_7 : decode cX11_known 7 = .ok (.if_icmp .lt 11, 3) := by decide +kernel
theorem dX11_known_10 : decode cX11_known 10 = .ok (.iload_n 1, 1) := by decide +kernel
theorem dX11_known_11 : decode cX11_known 11 = .ok (.aload_n 0, 1) := by decide +kernel
theorem dX11_known_12 : decode cX11_known 12 = .ok (.getfield 313, 3) := by decide +kernel
theorem dX11_known_15 : decode cX11_known 15 = .ok (.if_icmp .le 5, 3) := by decide +kernel
theorem dX11_known_18 : decode cX11_known 18 = .ok (.iconst 0, 1) := by decide +kernel
theorem dX11_known_19 : decode cX11_known 19 = .ok (.ireturn, 1) := by decide +kernel
theorem dX11_known_20 : decode cX11_known 20 = .ok (.aload_n 0, 1) := by decide +kernel
theorem dX11_known_21 : decode cX11_known 21 = .ok (.iload_n 1, 1) := by decide +kernel
theorem dX11_known_22 : decode cX11_known 22 = .ok (.putfield 123, 3) := by decide +kernel
theorem dX11_known_25 : decode cX11_known 25 = .ok (.iconst 1, 1) := by decide +kernel
theorem dX11_known_26 : decode cX11_known 26 = .ok (.ireturn, 1) := by decide +kernel
theorem dX11_knownMany_0 : decode cX11_knownMany 0 = .ok (.aload_n 0, 1) := by decide +kernel
theorem dX11_knownMany_1 : decode cX11_knownMany 1 = .ok (.getfield 123, 3) := by decide +kernel
theorem dX11_knownMany_4 : decode cX11_knownMany 4 = .ok (.iconst (-1), 1) := by decide +kernel
theorem dX11_knownMany_5 : decode cX11_knownMany 5 = .ok (.if_icmp .ne 10, 3) := by decide +kernel
theorem dX11_knownMany_8 : decode cX11_knownMany 8 = .ok (.aload_n 0, 1) := by decide +kernel
theorem dX11_knownMany_9 : decode cX11_knownMany 9 = .ok (.getfield 313, 3) := by decide +kernel
theorem dX11_knownMany_12 : decode cX11_knownMany 12 = .ok (.goto 7, 3) := by decide +kernel
theorem dX11_knownMany_15 : decode cX11_knownMany 15 = .ok (.aload_n 0, 1) := by decide +kernel
theorem dX11_knownMany_16 : decode cX11_knownMany 16 = .ok (.getfield 123, 3) := by decide +kernel
theorem dX11_knownMany_19 : decode cX11_knownMany 19 = .ok (.ireturn, 1) := by decide +kernel
theorem dX11_isSo_0 : decode cX11_isSo 0 = .ok (.iconst 0, 1) := by decide +kernel
theorem dX11_isSo_1 : decode cX11_isSo 1 = .ok (.istore_n 2, 1) := by decide +kernel
theorem dX11_isSo_2 : decode cX11_isSo 2 = .ok (.iload_n 2, 1) := by decide +kernel
theorem dX11_isSo_3 : decode cX11_isSo 3 = .ok (.aload_n 0, 1) := by decide +kernel
theorem dX11_isSo_4 : decode cX11_isSo 4 = .ok (.invokevirtual 574, 3) := by decide +kernel
theorem dX11_isSo_7 : decode cX11_isSo 7 = .ok (.if_icmp .ge 80, 3) := by decide +kernel
theorem dX11_isSo_10 : decode cX11_isSo 10 = .ok (.aload_n 0, 1) := by decide +kernel
theorem dX11_isSo_11 : decode cX11_isSo 11 = .ok (.getfield 142, 3) := by decide +kernel
theorem dX11_isSo_14 : decode cX11_isSo 14 = .ok (.iload_n 2, 1) := by decide +kernel
theorem dX11_isSo_15 : decode cX11_isSo 15 = .ok (.baload, 1) := by decide +kernel
theorem dX11_isSo_16 : decode cX11_isSo 16 = .ok (.ifCond .ne 65, 3) := by decide +kernel
theorem dX11_isSo_19 : decode cX11_isSo 19 = .ok (.aload_n 0, 1) := by decide +kernel
theorem dX11_isSo_20 : decode cX11_isSo 20 = .ok (.getfield 139, 3) := by decide +kernel
theorem dX11_isSo_23 : decode cX11_isSo 23 = .ok (.iload_n 2, 1) := by decide +kernel
theorem dX11_isSo_24 : decode cX11_isSo 24 = .ok (.iaload, 1) := by decide +kernel
theorem dX11_isSo_25 : decode cX11_isSo 25 = .ok (.iconst (-1), 1) := by decide +kernel
theorem dX11_isSo_26 : decode cX11_isSo 26 = .ok (.if_icmp .ne 55, 3) := by decide +kernel
theorem dX11_isSo_29 : decode cX11_isSo 29 = .ok (.aload_n 0, 1) := by decide +kernel
theorem dX11_isSo_30 : decode cX11_isSo 30 = .ok (.getfield 126, 3) := by decide +kernel
theorem dX11_isSo_33 : decode cX11_isSo 33 = .ok (.iload_n 2, 1) := by decide +kernel
theorem dX11_isSo_34 : decode cX11_isSo 34 = .ok (.iaload, 1) := by decide +kernel
theorem dX11_isSo_35 : decode cX11_isSo 35 = .ok (.iload_n 1, 1) := by decide +kernel
theorem dX11_isSo_36 : decode cX11_isSo 36 = .ok (.if_icmp .eq 6, 3) := by decide +kernel
theorem dX11_isSo_39 : decode cX11_isSo 39 = .ok (.goto 42, 3) := by decide +kernel
theorem dX11_isSo_42 : decode cX11_isSo 42 = .ok (.aload_n 0, 1) := by decide +kernel
theorem dX11_isSo_43 : decode cX11_isSo 43 = .ok (.getfield 99, 3) := by decide +kernel
theorem dX11_isSo_46 : decode cX11_isSo 46 = .ok (.bipush 7, 2) := by decide +kernel
theorem dX11_isSo_48 : decode cX11_isSo 48 = .ok (.aload_n 0, 1) := by decide +kernel
theorem dX11_isSo_49 : decode cX11_isSo 49 = .ok (.getfield 129, 3) := by decide +kernel
theorem dX11_isSo_52 : decode cX11_isSo 52 = .ok (.iload_n 2, 1) := by decide +kernel
theorem dX11_isSo_53 : decode cX11_isSo 53 = .ok (.iaload, 1) := by decide +kernel
theorem dX11_isSo_54 : decode cX11_isSo 54 = .ok (.iadd, 1) := by decide +kernel
theorem dX11_isSo_55 : decode cX11_isSo 55 = .ok (.iaload, 1) := by decide +kernel
theorem dX11_isSo_56 : decode cX11_isSo 56 = .ok (.aload_n 0, 1) := by decide +kernel
theorem dX11_isSo_57 : decode cX11_isSo 57 = .ok (.getfield 132, 3) := by decide +kernel
theorem dX11_isSo_60 : decode cX11_isSo 60 = .ok (.iload_n 2, 1) := by decide +kernel
theorem dX11_isSo_61 : decode cX11_isSo 61 = .ok (.iaload, 1) := by decide +kernel
theorem dX11_isSo_62 : decode cX11_isSo 62 = .ok (.if_icmp .lt 7, 3) := by decide +kernel
theorem dX11_isSo_65 : decode cX11_isSo 65 = .ok (.iconst 1, 1) := by decide +kernel
theorem dX11_isSo_66 : decode cX11_isSo 66 = .ok (.goto 4, 3) := by decide +kernel
theorem dX11_isSo_69 : decode cX11_isSo 69 = .ok (.iconst 0, 1) := by decide +kernel
theorem dX11_isSo_70 : decode cX11_isSo 70 = .ok (.aload_n 0, 1) := by decide +kernel
theorem dX11_isSo_71 : decode cX11_isSo 71 = .ok (.getfield 135, 3) := by decide +kernel
theorem dX11_isSo_74 : decode cX11_isSo 74 = .ok (.iload_n 2, 1) := by decide +kernel
theorem dX11_isSo_75 : decode cX11_isSo 75 = .ok (.baload, 1) := by decide +kernel
theorem dX11_isSo_76 : decode cX11_isSo 76 = .ok (.if_icmp .eq 5, 3) := by decide +kernel
theorem dX11_isSo_79 : decode cX11_isSo 79 = .ok (.iconst 0, 1) := by decide +kernel
theorem dX11_isSo_80 : decode cX11_isSo 80 = .ok (.ireturn, 1) := by decide +kernel
theorem dX11_isSo_81 : decode cX11_isSo 81 = .ok (.iinc 2 1, 3) := by decide +kernel
theorem dX11_isSo_84 : decode cX11_isSo 84 = .ok (.goto (-82), 3) := by decide +kernel
theorem dX11_isSo_87 : decode cX11_isSo 87 = .ok (.iconst 1, 1) := by decide +kernel
theorem dX11_isSo_88 : decode cX11_isSo 88 = .ok (.ireturn, 1) := by decide +kernel
theorem dX11_fitsLeak_0 : decode cX11_fitsLeak 0 = .ok (.aload_n 0, 1) := by decide +kernel
theorem dX11_fitsLeak_1 : decode cX11_fitsLeak 1 = .ok (.iconst 1, 1) := by decide +kernel
theorem dX11_fitsLeak_2 : decode cX11_fitsLeak 2 = .ok (.invokevirtual 343, 3) := by decide +kernel
theorem dX11_fitsLeak_5 : decode cX11_fitsLeak 5 = .ok (.iconst 1, 1) := by decide +kernel
theorem dX11_fitsLeak_6 : decode cX11_fitsLeak 6 = .ok (.istore_n 2, 1) := by decide +kernel
theorem dX11_fitsLeak_7 : decode cX11_fitsLeak 7 = .ok (.iload_n 2, 1) := by decide +kernel
theorem dX11_fitsLeak_8 : decode cX11_fitsLeak 8 = .ok (.iload_n 1, 1) := by decide +kernel
theorem dX11_fitsLeak_9 : decode cX11_fitsLeak 9 = .ok (.if_icmp .gt 25, 3) := by decide +kernel
theorem dX11_fitsLeak_12 : decode cX11_fitsLeak 12 = .ok (.aload_n 0, 1) := by decide +kernel
theorem dX11_fitsLeak_13 : decode cX11_fitsLeak 13 = .ok (.iconst 1, 1) := by decide +kernel
theorem dX11_fitsLeak_14 : decode cX11_fitsLeak 14 = .ok (.iconst 0, 1) := by decide +kernel
theorem dX11_fitsLeak_15 : decode cX11_fitsLeak 15 = .ok (.invokevirtual 439, 3) := by decide +kernel
theorem dX11_fitsLeak_18 : decode cX11_fitsLeak 18 = .ok (.aload_n 0, 1) := by decide +kernel
theorem dX11_fitsLeak_19 : decode cX11_fitsLeak 19 = .ok (.iload_n 2, 1) := by decide +kernel
theorem dX11_fitsLeak_20 : decode cX11_fitsLeak 20 = .ok (.invokevirtual 577, 3) := by decide +kernel
theorem dX11_fitsLeak_23 : decode cX11_fitsLeak 23 = .ok (.ifCond .ne 5, 3) := by decide +kernel
theorem dX11_fitsLeak_26 : decode cX11_fitsLeak 26 = .ok (.iconst 0, 1) := by decide +kernel
theorem dX11_fitsLeak_27 : decode cX11_fitsLeak 27 = .ok (.ireturn, 1) := by decide +kernel
theorem dX11_fitsLeak_28 : decode cX11_fitsLeak 28 = .ok (.iinc 2 1, 3) := by decide +kernel
theorem dX11_fitsLeak_31 : decode cX11_fitsLeak 31 = .ok (.goto (-24), 3) := by decide +kernel
theorem dX11_fitsLeak_34 : decode cX11_fitsLeak 34 = .ok (.iconst 1, 1) := by decide +kernel
theorem dX11_fitsLeak_35 : decode cX11_fitsLeak 35 = .ok (.ireturn, 1) := by decide +kernel
theorem dX11_leaksOf_0 : decode cX11_leaksOf 0 = .ok (.iconst 0, 1) := by decide +kernel
theorem dX11_leaksOf_1 : decode cX11_leaksOf 1 = .ok (.istore_n 2, 1) := by decide +kernel
theorem dX11_leaksOf_2 : decode cX11_leaksOf 2 = .ok (.iconst 0, 1) := by decide +kernel
theorem dX11_leaksOf_3 : decode cX11_leaksOf 3 = .ok (.istore_n 3, 1) := by decide +kernel
theorem dX11_leaksOf_4 : decode cX11_leaksOf 4 = .ok (.iload_n 3, 1) := by decide +kernel
theorem dX11_leaksOf_5 : decode cX11_leaksOf 5 = .ok (.aload_n 0, 1) := by decide +kernel
theorem dX11_leaksOf_6 : decode cX11_leaksOf 6 = .ok (.invokevirtual 574, 3) := by decide +kernel
theorem dX11_leaksOf_9 : decode cX11_leaksOf 9 = .ok (.if_icmp .ge 16, 3) := by decide +kernel
theorem dX11_leaksOf_12 : decode cX11_leaksOf 12 = .ok (.aload_n 0, 1) := by decide +kernel
theorem dX11_leaksOf_13 : decode cX11_leaksOf 13 = .ok (.getfield 142, 3) := by decide +kernel
theorem dX11_leaksOf_16 : decode cX11_leaksOf 16 = .ok (.iload_n 3, 1) := by decide +kernel
theorem dX11_leaksOf_17 : decode cX11_leaksOf 17 = .ok (.iconst 0, 1) := by decide +kernel
theorem dX11_leaksOf_18 : decode cX11_leaksOf 18 = .ok (.bastore, 1) := by decide +kernel
theorem dX11_leaksOf_19 : decode cX11_leaksOf 19 = .ok (.iinc 3 1, 3) := by decide +kernel
theorem dX11_leaksOf_22 : decode cX11_leaksOf 22 = .ok (.goto (-18), 3) := by decide +kernel
theorem dX11_leaksOf_25 : decode cX11_leaksOf 25 = .ok (.aload_n 0, 1) := by decide +kernel
theorem dX11_leaksOf_26 : decode cX11_leaksOf 26 = .ok (.invokevirtual 574, 3) := by decide +kernel
theorem dX11_leaksOf_29 : decode cX11_leaksOf 29 = .ok (.iconst 1, 1) := by decide +kernel
theorem dX11_leaksOf_30 : decode cX11_leaksOf 30 = .ok (.isub, 1) := by decide +kernel
theorem dX11_leaksOf_31 : decode cX11_leaksOf 31 = .ok (.istore_n 3, 1) := by decide +kernel
theorem dX11_leaksOf_32 : decode cX11_leaksOf 32 = .ok (.iload_n 3, 1) := by decide +kernel
theorem dX11_leaksOf_33 : decode cX11_leaksOf 33 = .ok (.ifCond .lt 40, 3) := by decide +kernel
theorem dX11_leaksOf_36 : decode cX11_leaksOf 36 = .ok (.aload_n 0, 1) := by decide +kernel
theorem dX11_leaksOf_37 : decode cX11_leaksOf 37 = .ok (.getfield 142, 3) := by decide +kernel
theorem dX11_leaksOf_40 : decode cX11_leaksOf 40 = .ok (.iload_n 3, 1) := by decide +kernel
theorem dX11_leaksOf_41 : decode cX11_leaksOf 41 = .ok (.baload, 1) := by decide +kernel
theorem dX11_leaksOf_42 : decode cX11_leaksOf 42 = .ok (.ifCond .ne 25, 3) := by decide +kernel
theorem dX11_leaksOf_45 : decode cX11_leaksOf 45 = .ok (.aload_n 0, 1) := by decide +kernel
theorem dX11_leaksOf_46 : decode cX11_leaksOf 46 = .ok (.getfield 139, 3) := by decide +kernel
theorem dX11_leaksOf_49 : decode cX11_leaksOf 49 = .ok (.iload_n 3, 1) := by decide +kernel
theorem dX11_leaksOf_50 : decode cX11_leaksOf 50 = .ok (.iaload, 1) := by decide +kernel
theorem dX11_leaksOf_51 : decode cX11_leaksOf 51 = .ok (.iconst (-1), 1) := by decide +kernel
theorem dX11_leaksOf_52 : decode cX11_leaksOf 52 = .ok (.if_icmp .eq 15, 3) := by decide +kernel
theorem dX11_leaksOf_55 : decode cX11_leaksOf 55 = .ok (.aload_n 0, 1) := by decide +kernel
theorem dX11_leaksOf_56 : decode cX11_leaksOf 56 = .ok (.getfield 142, 3) := by decide +kernel
theorem dX11_leaksOf_59 : decode cX11_leaksOf 59 = .ok (.aload_n 0, 1) := by decide +kernel
theorem dX11_leaksOf_60 : decode cX11_leaksOf 60 = .ok (.getfield 139, 3) := by decide +kernel
theorem dX11_leaksOf_63 : decode cX11_leaksOf 63 = .ok (.iload_n 3, 1) := by decide +kernel
theorem dX11_leaksOf_64 : decode cX11_leaksOf 64 = .ok (.iaload, 1) := by decide +kernel
theorem dX11_leaksOf_65 : decode cX11_leaksOf 65 = .ok (.iconst 1, 1) := by decide +kernel
theorem dX11_leaksOf_66 : decode cX11_leaksOf 66 = .ok (.bastore, 1) := by decide +kernel
theorem dX11_leaksOf_67 : decode cX11_leaksOf 67 = .ok (.iinc 3 (-1), 3) := by decide +kernel
theorem dX11_leaksOf_70 : decode cX11_leaksOf 70 = .ok (.goto (-38), 3) := by decide +kernel
theorem dX11_leaksOf_73 : decode cX11_leaksOf 73 = .ok (.iconst 0, 1) := by decide +kernel
theorem dX11_leaksOf_74 : decode cX11_leaksOf 74 = .ok (.istore_n 3, 1) := by decide +kernel
theorem dX11_leaksOf_75 : decode cX11_leaksOf 75 = .ok (.iload_n 3, 1) := by decide +kernel
theorem dX11_leaksOf_76 : decode cX11_leaksOf 76 = .ok (.aload_n 0, 1) := by decide +kernel
theorem dX11_leaksOf_77 : decode cX11_leaksOf 77 = .ok (.invokevirtual 574, 3) := by decide +kernel
theorem dX11_leaksOf_80 : decode cX11_leaksOf 80 = .ok (.if_icmp .ge 39, 3) := by decide +kernel
theorem dX11_leaksOf_83 : decode cX11_leaksOf 83 = .ok (.aload_n 0, 1) := by decide +kernel
theorem dX11_leaksOf_84 : decode cX11_leaksOf 84 = .ok (.getfield 142, 3) := by decide +kernel
theorem dX11_leaksOf_87 : decode cX11_leaksOf 87 = .ok (.iload_n 3, 1) := by decide +kernel
theorem dX11_leaksOf_88 : decode cX11_leaksOf 88 = .ok (.baload, 1) := by decide +kernel
theorem dX11_leaksOf_89 : decode cX11_leaksOf 89 = .ok (.ifCond .ne 24, 3) := by decide +kernel
theorem dX11_leaksOf_92 : decode cX11_leaksOf 92 = .ok (.aload_n 0, 1) := by decide +kernel
theorem dX11_leaksOf_93 : decode cX11_leaksOf 93 = .ok (.getfield 139, 3) := by decide +kernel
theorem dX11_leaksOf_96 : decode cX11_leaksOf 96 = .ok (.iload_n 3, 1) := by decide +kernel
theorem dX11_leaksOf_97 : decode cX11_leaksOf 97 = .ok (.iaload, 1) := by decide +kernel
theorem dX11_leaksOf_98 : decode cX11_leaksOf 98 = .ok (.iconst (-1), 1) := by decide +kernel
theorem dX11_leaksOf_99 : decode cX11_leaksOf 99 = .ok (.if_icmp .ne 14, 3) := by decide +kernel
theorem dX11_leaksOf_102 : decode cX11_leaksOf 102 = .ok (.iload_n 2, 1) := by decide +kernel
theorem dX11_leaksOf_103 : decode cX11_leaksOf 103 = .ok (.aload_n 0, 1) := by decide +kernel
theorem dX11_leaksOf_104 : decode cX11_leaksOf 104 = .ok (.getfield 126, 3) := by decide +kernel
theorem dX11_leaksOf_107 : decode cX11_leaksOf 107 = .ok (.iload_n 3, 1) := by decide +kernel
theorem dX11_leaksOf_108 : decode cX11_leaksOf 108 = .ok (.iaload, 1) := by decide +kernel
theorem dX11_leaksOf_109 : decode cX11_leaksOf 109 = .ok (.invokestatic 414, 3) := by decide +kernel
theorem dX11_leaksOf_112 : decode cX11_leaksOf 112 = .ok (.istore_n 2, 1) := by decide +kernel
theorem dX11_leaksOf_113 : decode cX11_leaksOf 113 = .ok (.iinc 3 1, 3) := by decide +kernel
theorem dX11_leaksOf_116 : decode cX11_leaksOf 116 = .ok (.goto (-41), 3) := by decide +kernel
theorem dX11_leaksOf_119 : decode cX11_leaksOf 119 = .ok (.iconst 0, 1) := by decide +kernel
theorem dX11_leaksOf_120 : decode cX11_leaksOf 120 = .ok (.istore_n 3, 1) := by decide +kernel
theorem dX11_leaksOf_121 : decode cX11_leaksOf 121 = .ok (.aload_n 0, 1) := by decide +kernel
theorem dX11_leaksOf_122 : decode cX11_leaksOf 122 = .ok (.iload_n 1, 1) := by decide +kernel
theorem dX11_leaksOf_123 : decode cX11_leaksOf 123 = .ok (.putfield 111, 3) := by decide +kernel
theorem dX11_leaksOf_126 : decode cX11_leaksOf 126 = .ok (.iconst 0, 1) := by decide +kernel
theorem dX11_leaksOf_127 : decode cX11_leaksOf 127 = .ok (.istore 4, 2) := by decide +kernel
theorem dX11_leaksOf_129 : decode cX11_leaksOf 129 = .ok (.iload 4, 2) := by decide +kernel
theorem dX11_leaksOf_131 : decode cX11_leaksOf 131 = .ok (.bipush 10, 2) := by decide +kernel
theorem dX11_leaksOf_133 : decode cX11_leaksOf 133 = .ok (.if_icmp .ge 34, 3) := by decide +kernel
theorem dX11_leaksOf_136 : decode cX11_leaksOf 136 = .ok (.aload_n 0, 1) := by decide +kernel
theorem dX11_leaksOf_137 : decode cX11_leaksOf 137 = .ok (.iload 4, 2) := by decide +kernel
theorem dX11_leaksOf_139 : decode cX11_leaksOf 139 = .ok (.putfield 416, 3) := by decide +kernel
theorem dX11_leaksOf_142 : decode cX11_leaksOf 142 = .ok (.iload_n 3, 1) := by decide +kernel
theorem dX11_leaksOf_143 : decode cX11_leaksOf 143 = .ok (.aload_n 0, 1) := by decide +kernel
theorem dX11_leaksOf_144 : decode cX11_leaksOf 144 = .ok (.iload_n 2, 1) := by decide +kernel
theorem dX11_leaksOf_145 : decode cX11_leaksOf 145 = .ok (.invokevirtual 580, 3) := by decide +kernel
theorem dX11_leaksOf_148 : decode cX11_leaksOf 148 = .ok (.ifCond .eq 10, 3) := by decide +kernel
theorem dX11_leaksOf_151 : decode cX11_leaksOf 151 = .ok (.iconst 1, 1) := by decide +kernel
theorem dX11_leaksOf_152 : decode cX11_leaksOf 152 = .ok (.iload 4, 2) := by decide +kernel
theorem dX11_leaksOf_154 : decode cX11_leaksOf 154 = .ok (.ishl, 1) := by decide +kernel
theorem dX11_leaksOf_155 : decode cX11_leaksOf 155 = .ok (.goto 4, 3) := by decide +kernel
theorem dX11_leaksOf_158 : decode cX11_leaksOf 158 = .ok (.iconst 0, 1) := by decide +kernel
theorem dX11_leaksOf_159 : decode cX11_leaksOf 159 = .ok (.ior, 1) := by decide +kernel
theorem dX11_leaksOf_160 : decode cX11_leaksOf 160 = .ok (.istore_n 3, 1) := by decide +kernel
theorem dX11_leaksOf_161 : decode cX11_leaksOf 161 = .ok (.iinc 4 1, 3) := by decide +kernel
theorem dX11_leaksOf_164 : decode cX11_leaksOf 164 = .ok (.goto (-35), 3) := by decide +kernel
theorem dX11_leaksOf_167 : decode cX11_leaksOf 167 = .ok (.aload_n 0, 1) := by decide +kernel
theorem dX11_leaksOf_168 : decode cX11_leaksOf 168 = .ok (.iconst (-1), 1) := by decide +kernel
theorem dX11_leaksOf_169 : decode cX11_leaksOf 169 = .ok (.putfield 111, 3) := by decide +kernel
theorem dX11_leaksOf_172 : decode cX11_leaksOf 172 = .ok (.iload_n 3, 1) := by decide +kernel
theorem dX11_leaksOf_173 : decode cX11_leaksOf 173 = .ok (.ireturn, 1) := by decide +kernel
theorem dX11_leaks_0 : decode cX11_leaks 0 = .ok (.aload_n 0, 1) := by decide +kernel
theorem dX11_leaks_1 : decode cX11_leaks 1 = .ok (.iconst 0, 1) := by decide +kernel
theorem dX11_leaks_2 : decode cX11_leaks 2 = .ok (.putfield 151, 3) := by decide +kernel
theorem dX11_leaks_5 : decode cX11_leaks 5 = .ok (.aload_n 0, 1) := by decide +kernel
theorem dX11_leaks_6 : decode cX11_leaks 6 = .ok (.iload_n 1, 1) := by decide +kernel
theorem dX11_leaks_7 : decode cX11_leaks 7 = .ok (.invokevirtual 446, 3) := by decide +kernel
theorem dX11_leaks_10 : decode cX11_leaks 10 = .ok (.ifCond .eq 11, 3) := by decide +kernel
theorem dX11_leaks_13 : decode cX11_leaks 13 = .ok (.aload_n 0, 1) := by decide +kernel
theorem dX11_leaks_14 : decode cX11_leaks 14 = .ok (.iload_n 1, 1) := by decide +kernel
theorem dX11_leaks_15 : decode cX11_leaks 15 = .ok (.invokevirtual 583, 3) := by decide +kernel
theorem dX11_leaks_18 : decode cX11_leaks 18 = .ok (.goto 4, 3) := by decide +kernel
theorem dX11_leaks_21 : decode cX11_leaks 21 = .ok (.iconst (-1), 1) := by decide +kernel
theorem dX11_leaks_22 : decode cX11_leaks 22 = .ok (.ireturn, 1) := by decide +kernel
theorem dX11_worstAt_0 : decode cX11_worstAt 0 = .ok (.iconst 0, 1) := by decide +kernel
theorem dX11_worstAt_1 : decode cX11_worstAt 1 = .ok (.istore_n 3, 1) := by decide +kernel
theorem dX11_worstAt_2 : decode cX11_worstAt 2 = .ok (.iconst 0, 1) := by decide +kernel
theorem dX11_worstAt_3 : decode cX11_worstAt 3 = .ok (.istore 4, 2) := by decide +kernel
theorem dX11_worstAt_5 : decode cX11_worstAt 5 = .ok (.iload 4, 2) := by decide +kernel
theorem dX11_worstAt_7 : decode cX11_worstAt 7 = .ok (.bipush 10, 2) := by decide +kernel
theorem dX11_worstAt_9 : decode cX11_worstAt 9 = .ok (.if_icmp .ge 92, 3) := by decide +kernel
theorem dX11_worstAt_12 : decode cX11_worstAt 12 = .ok (.iconst 0, 1) := by decide +kernel
theorem dX11_worstAt_13 : decode cX11_worstAt 13 = .ok (.istore 5, 2) := by decide +kernel
theorem dX11_worstAt_15 : decode cX11_worstAt 15 = .ok (.iconst 0, 1) := by decide +kernel
theorem dX11_worstAt_16 : decode cX11_worstAt 16 = .ok (.istore 6, 2) := by decide +kernel
theorem dX11_worstAt_18 : decode cX11_worstAt 18 = .ok (.iload 6, 2) := by decide +kernel
theorem dX11_worstAt_20 : decode cX11_worstAt 20 = .ok (.bipush 10, 2) := by decide +kernel
theorem dX11_worstAt_22 : decode cX11_worstAt 22 = .ok (.if_icmp .ge 56, 3) := by decide +kernel
theorem dX11_worstAt_25 : decode cX11_worstAt 25 = .ok (.iload 5, 2) := by decide +kernel
theorem dX11_worstAt_27 : decode cX11_worstAt 27 = .ok (.iload_n 1, 1) := by decide +kernel
theorem dX11_worstAt_28 : decode cX11_worstAt 28 = .ok (.iload 6, 2) := by decide +kernel
theorem dX11_worstAt_30 : decode cX11_worstAt 30 = .ok (.ishr, 1) := by decide +kernel
theorem dX11_worstAt_31 : decode cX11_worstAt 31 = .ok (.iconst 1, 1) := by decide +kernel
theorem dX11_worstAt_32 : decode cX11_worstAt 32 = .ok (.iand, 1) := by decide +kernel
theorem dX11_worstAt_33 : decode cX11_worstAt 33 = .ok (.iconst 1, 1) := by decide +kernel
theorem dX11_worstAt_34 : decode cX11_worstAt 34 = .ok (.if_icmp .ne 34, 3) := by decide +kernel
theorem dX11_worstAt_37 : decode cX11_worstAt 37 = .ok (.aload_n 0, 1) := by decide +kernel
theorem dX11_worstAt_38 : decode cX11_worstAt 38 = .ok (.getfield 145, 3) := by decide +kernel
theorem dX11_worstAt_41 : decode cX11_worstAt 41 = .ok (.bipush 61, 2) := by decide +kernel
theorem dX11_worstAt_43 : decode cX11_worstAt 43 = .ok (.iload 6, 2) := by decide +kernel
theorem dX11_worstAt_45 : decode cX11_worstAt 45 = .ok (.imul, 1) := by decide +kernel
theorem dX11_worstAt_46 : decode cX11_worstAt 46 = .ok (.iload_n 2, 1) := by decide +kernel
theorem dX11_worstAt_47 : decode cX11_worstAt 47 = .ok (.iadd, 1) := by decide +kernel
theorem dX11_worstAt_48 : decode cX11_worstAt 48 = .ok (.iaload, 1) := by decide +kernel
theorem dX11_worstAt_49 : decode cX11_worstAt 49 = .ok (.aload_n 0, 1) := by decide +kernel
theorem dX11_worstAt_50 : decode cX11_worstAt 50 = .ok (.getfield 145, 3) := by decide +kernel
theorem dX11_worstAt_53 : decode cX11_worstAt 53 = .ok (.bipush 61, 2) := by decide +kernel
theorem dX11_worstAt_55 : decode cX11_worstAt 55 = .ok (.iload 4, 2) := by decide +kernel
theorem dX11_worstAt_57 : decode cX11_worstAt 57 = .ok (.imul, 1) := by decide +kernel
theorem dX11_worstAt_58 : decode cX11_worstAt 58 = .ok (.iload_n 2, 1) := by decide +kernel
theorem dX11_worstAt_59 : decode cX11_worstAt 59 = .ok (.iadd, 1) := by decide +kernel
theorem dX11_worstAt_60 : decode cX11_worstAt 60 = .ok (.iaload, 1) := by decide +kernel
theorem dX11_worstAt_61 : decode cX11_worstAt 61 = .ok (.if_icmp .ne 7, 3) := by decide +kernel
theorem dX11_worstAt_64 : decode cX11_worstAt 64 = .ok (.iconst 1, 1) := by decide +kernel
theorem dX11_worstAt_65 : decode cX11_worstAt 65 = .ok (.goto 4, 3) := by decide +kernel
theorem dX11_worstAt_68 : decode cX11_worstAt 68 = .ok (.iconst 0, 1) := by decide +kernel
theorem dX11_worstAt_69 : decode cX11_worstAt 69 = .ok (.iadd, 1) := by decide +kernel
theorem dX11_worstAt_70 : decode cX11_worstAt 70 = .ok (.istore 5, 2) := by decide +kernel
theorem dX11_worstAt_72 : decode cX11_worstAt 72 = .ok (.iinc 6 1, 3) := by decide +kernel
theorem dX11_worstAt_75 : decode cX11_worstAt 75 = .ok (.goto (-57), 3) := by decide +kernel
theorem dX11_worstAt_78 : decode cX11_worstAt 78 = .ok (.iload_n 1, 1) := by decide +kernel
theorem dX11_worstAt_79 : decode cX11_worstAt 79 = .ok (.iload 4, 2) := by decide +kernel
theorem dX11_worstAt_81 : decode cX11_worstAt 81 = .ok (.ishr, 1) := by decide +kernel
theorem dX11_worstAt_82 : decode cX11_worstAt 82 = .ok (.iconst 1, 1) := by decide +kernel
theorem dX11_worstAt_83 : decode cX11_worstAt 83 = .ok (.iand, 1) := by decide +kernel
theorem dX11_worstAt_84 : decode cX11_worstAt 84 = .ok (.iconst 1, 1) := by decide +kernel
theorem dX11_worstAt_85 : decode cX11_worstAt 85 = .ok (.if_icmp .ne 10, 3) := by decide +kernel
theorem dX11_worstAt_88 : decode cX11_worstAt 88 = .ok (.iload_n 3, 1) := by decide +kernel
theorem dX11_worstAt_89 : decode cX11_worstAt 89 = .ok (.iload 5, 2) := by decide +kernel
theorem dX11_worstAt_91 : decode cX11_worstAt 91 = .ok (.invokestatic 414, 3) := by decide +kernel
theorem dX11_worstAt_94 : decode cX11_worstAt 94 = .ok (.istore_n 3, 1) := by decide +kernel
theorem dX11_worstAt_95 : decode cX11_worstAt 95 = .ok (.iinc 4 1, 3) := by decide +kernel
theorem dX11_worstAt_98 : decode cX11_worstAt 98 = .ok (.goto (-93), 3) := by decide +kernel
theorem dX11_worstAt_101 : decode cX11_worstAt 101 = .ok (.iload_n 3, 1) := by decide +kernel
theorem dX11_worstAt_102 : decode cX11_worstAt 102 = .ok (.ireturn, 1) := by decide +kernel
theorem dX11_ask_0 : decode cX11_ask 0 = .ok (.aload_n 0, 1) := by decide +kernel
theorem dX11_ask_1 : decode cX11_ask 1 = .ok (.iconst 0, 1) := by decide +kernel
theorem dX11_ask_2 : decode cX11_ask 2 = .ok (.putfield 151, 3) := by decide +kernel
theorem dX11_ask_5 : decode cX11_ask 5 = .ok (.aload_n 0, 1) := by decide +kernel
theorem dX11_ask_6 : decode cX11_ask 6 = .ok (.iload_n 1, 1) := by decide +kernel
theorem dX11_ask_7 : decode cX11_ask 7 = .ok (.invokevirtual 446, 3) := by decide +kernel
theorem dX11_ask_10 : decode cX11_ask 10 = .ok (.ifCond .eq 10, 3) := by decide +kernel
theorem dX11_ask_13 : decode cX11_ask 13 = .ok (.iload_n 2, 1) := by decide +kernel
theorem dX11_ask_14 : decode cX11_ask 14 = .ok (.invokestatic 455, 3) := by decide +kernel
theorem dX11_ask_17 : decode cX11_ask 17 = .ok (.ifCond .ne 5, 3) := by decide +kernel
theorem dX11_ask_20 : decode cX11_ask 20 = .ok (.iconst (-1), 1) := by decide +kernel
theorem dX11_ask_21 : decode cX11_ask 21 = .ok (.ireturn, 1) := by decide +kernel
theorem dX11_ask_22 : decode cX11_ask 22 = .ok (.aload_n 0, 1) := by decide +kernel
theorem dX11_ask_23 : decode cX11_ask 23 = .ok (.iload_n 1, 1) := by decide +kernel
theorem dX11_ask_24 : decode cX11_ask 24 = .ok (.invokevirtual 583, 3) := by decide +kernel
theorem dX11_ask_27 : decode cX11_ask 27 = .ok (.istore_n 3, 1) := by decide +kernel
theorem dX11_ask_28 : decode cX11_ask 28 = .ok (.aload_n 0, 1) := by decide +kernel
theorem dX11_ask_29 : decode cX11_ask 29 = .ok (.iload_n 1, 1) := by decide +kernel
theorem dX11_ask_30 : decode cX11_ask 30 = .ok (.putfield 111, 3) := by decide +kernel
theorem dX11_ask_33 : decode cX11_ask 33 = .ok (.iconst 0, 1) := by decide +kernel
theorem dX11_ask_34 : decode cX11_ask 34 = .ok (.istore 4, 2) := by decide +kernel
theorem dX11_ask_36 : decode cX11_ask 36 = .ok (.iload 4, 2) := by decide +kernel
theorem dX11_ask_38 : decode cX11_ask 38 = .ok (.bipush 10, 2) := by decide +kernel
theorem dX11_ask_40 : decode cX11_ask 40 = .ok (.if_icmp .ge 64, 3) := by decide +kernel
theorem dX11_ask_43 : decode cX11_ask 43 = .ok (.aload_n 0, 1) := by decide +kernel
theorem dX11_ask_44 : decode cX11_ask 44 = .ok (.iload 4, 2) := by decide +kernel
theorem dX11_ask_46 : decode cX11_ask 46 = .ok (.putfield 416, 3) := by decide +kernel
theorem dX11_ask_49 : decode cX11_ask 49 = .ok (.aload_n 0, 1) := by decide +kernel
theorem dX11_ask_50 : decode cX11_ask 50 = .ok (.iconst 1, 1) := by decide +kernel
theorem dX11_ask_51 : decode cX11_ask 51 = .ok (.invokevirtual 343, 3) := by decide +kernel
theorem dX11_ask_54 : decode cX11_ask 54 = .ok (.iconst 1, 1) := by decide +kernel
theorem dX11_ask_55 : decode cX11_ask 55 = .ok (.istore 5, 2) := by decide +kernel
theorem dX11_ask_57 : decode cX11_ask 57 = .ok (.iload 5, 2) := by decide +kernel
theorem dX11_ask_59 : decode cX11_ask 59 = .ok (.bipush 60, 2) := by decide +kernel
theorem dX11_ask_61 : decode cX11_ask 61 = .ok (.if_icmp .gt 37, 3) := by decide +kernel
theorem dX11_ask_64 : decode cX11_ask 64 = .ok (.aload_n 0, 1) := by decide +kernel
theorem dX11_ask_65 : decode cX11_ask 65 = .ok (.iconst 1, 1) := by decide +kernel
theorem dX11_ask_66 : decode cX11_ask 66 = .ok (.iconst 0, 1) := by decide +kernel
theorem dX11_ask_67 : decode cX11_ask 67 = .ok (.invokevirtual 439, 3) := by decide +kernel
theorem dX11_ask_70 : decode cX11_ask 70 = .ok (.aload_n 0, 1) := by decide +kernel
theorem dX11_ask_71 : decode cX11_ask 71 = .ok (.getfield 145, 3) := by decide +kernel
theorem dX11_ask_74 : decode cX11_ask 74 = .ok (.bipush 61, 2) := by decide +kernel
theorem dX11_ask_76 : decode cX11_ask 76 = .ok (.iload 4, 2) := by decide +kernel
theorem dX11_ask_78 : decode cX11_ask 78 = .ok (.imul, 1) := by decide +kernel
theorem dX11_ask_79 : decode cX11_ask 79 = .ok (.iload 5, 2) := by decide +kernel
theorem dX11_ask_81 : decode cX11_ask 81 = .ok (.iadd, 1) := by decide +kernel
theorem dX11_ask_82 : decode cX11_ask 82 = .ok (.aload_n 0, 1) := by decide +kernel
theorem dX11_ask_83 : decode cX11_ask 83 = .ok (.getfield 99, 3) := by decide +kernel
theorem dX11_ask_86 : decode cX11_ask 86 = .ok (.bipush 7, 2) := by decide +kernel
theorem dX11_ask_88 : decode cX11_ask 88 = .ok (.iload_n 1, 1) := by decide +kernel
theorem dX11_ask_89 : decode cX11_ask 89 = .ok (.iadd, 1) := by decide +kernel
theorem dX11_ask_90 : decode cX11_ask 90 = .ok (.iaload, 1) := by decide +kernel
theorem dX11_ask_91 : decode cX11_ask 91 = .ok (.iastore, 1) := by decide +kernel
theorem dX11_ask_92 : decode cX11_ask 92 = .ok (.iinc 5 1, 3) := by decide +kernel
theorem dX11_ask_95 : decode cX11_ask 95 = .ok (.goto (-38), 3) := by decide +kernel
theorem dX11_ask_98 : decode cX11_ask 98 = .ok (.iinc 4 1, 3) := by decide +kernel
theorem dX11_ask_101 : decode cX11_ask 101 = .ok (.goto (-65), 3) := by decide +kernel
theorem dX11_ask_104 : decode cX11_ask 104 = .ok (.aload_n 0, 1) := by decide +kernel
theorem dX11_ask_105 : decode cX11_ask 105 = .ok (.iconst (-1), 1) := by decide +kernel
theorem dX11_ask_106 : decode cX11_ask 106 = .ok (.putfield 111, 3) := by decide +kernel
theorem dX11_ask_109 : decode cX11_ask 109 = .ok (.iconst 1, 1) := by decide +kernel
theorem dX11_ask_110 : decode cX11_ask 110 = .ok (.istore 4, 2) := by decide +kernel
theorem dX11_ask_112 : decode cX11_ask 112 = .ok (.iconst 2, 1) := by decide +kernel
theorem dX11_ask_113 : decode cX11_ask 113 = .ok (.istore 5, 2) := by decide +kernel
theorem dX11_ask_115 : decode cX11_ask 115 = .ok (.iload 5, 2) := by decide +kernel
theorem dX11_ask_117 : decode cX11_ask 117 = .ok (.bipush 60, 2) := by decide +kernel
theorem dX11_ask_119 : decode cX11_ask 119 = .ok (.if_icmp .gt 30, 3) := by decide +kernel
theorem dX11_ask_122 : decode cX11_ask 122 = .ok (.aload_n 0, 1) := by decide +kernel
theorem dX11_ask_123 : decode cX11_ask 123 = .ok (.iload_n 3, 1) := by decide +kernel
theorem dX11_ask_124 : decode cX11_ask 124 = .ok (.iload 5, 2) := by decide +kernel
theorem dX11_ask_126 : decode cX11_ask 126 = .ok (.invokevirtual 586, 3) := by decide +kernel
theorem dX11_ask_129 : decode cX11_ask 129 = .ok (.aload_n 0, 1) := by decide +kernel
theorem dX11_ask_130 : decode cX11_ask 130 = .ok (.iload_n 3, 1) := by decide +kernel
theorem dX11_ask_131 : decode cX11_ask 131 = .ok (.iload 4, 2) := by decide +kernel
theorem dX11_ask_133 : decode cX11_ask 133 = .ok (.invokevirtual 586, 3) := by decide +kernel
theorem dX11_ask_136 : decode cX11_ask 136 = .ok (.if_icmp .ge 7, 3) := by decide +kernel
theorem dX11_ask_139 : decode cX11_ask 139 = .ok (.iload 5, 2) := by decide +kernel
theorem dX11_ask_141 : decode cX11_ask 141 = .ok (.istore 4, 2) := by decide +kernel
theorem dX11_ask_143 : decode cX11_ask 143 = .ok (.iinc 5 1, 3) := by decide +kernel
theorem dX11_ask_146 : decode cX11_ask 146 = .ok (.goto (-31), 3) := by decide +kernel
theorem dX11_ask_149 : decode cX11_ask 149 = .ok (.iload_n 2, 1) := by decide +kernel
theorem dX11_ask_150 : decode cX11_ask 150 = .ok (.ifCond .ne 8, 3) := by decide +kernel
theorem dX11_ask_153 : decode cX11_ask 153 = .ok (.iload 4, 2) := by decide +kernel
theorem dX11_ask_155 : decode cX11_ask 155 = .ok (.goto 10, 3) := by decide +kernel
theorem dX11_ask_158 : decode cX11_ask 158 = .ok (.aload_n 0, 1) := by decide +kernel
theorem dX11_ask_159 : decode cX11_ask 159 = .ok (.iload_n 3, 1) := by decide +kernel
theorem dX11_ask_160 : decode cX11_ask 160 = .ok (.iload 4, 2) := by decide +kernel
theorem dX11_ask_162 : decode cX11_ask 162 = .ok (.invokevirtual 586, 3) := by decide +kernel
theorem dX11_ask_165 : decode cX11_ask 165 = .ok (.ireturn, 1) := by decide +kernel
theorem dX11_chance_0 : decode cX11_chance 0 = .ok (.aload_n 0, 1) := by decide +kernel
theorem dX11_chance_1 : decode cX11_chance 1 = .ok (.iconst 0, 1) := by decide +kernel
theorem dX11_chance_2 : decode cX11_chance 2 = .ok (.putfield 151, 3) := by decide +kernel
theorem dX11_chance_5 : decode cX11_chance 5 = .ok (.iload_n 1, 1) := by decide +kernel
theorem dX11_chance_6 : decode cX11_chance 6 = .ok (.ifCond .lt 22, 3) := by decide +kernel
theorem dX11_chance_9 : decode cX11_chance 9 = .ok (.iload_n 2, 1) := by decide +kernel
theorem dX11_chance_10 : decode cX11_chance 10 = .ok (.iconst 1, 1) := by decide +kernel
theorem dX11_chance_11 : decode cX11_chance 11 = .ok (.if_icmp .lt 17, 3) := by decide +kernel
theorem dX11_chance_14 : decode cX11_chance 14 = .ok (.iload_n 2, 1) := by decide +kernel
theorem dX11_chance_15 : decode cX11_chance 15 = .ok (.bipush 99, 2) := by decide +kernel
theorem dX11_chance_17 : decode cX11_chance 17 = .ok (.if_icmp .gt 11, 3) := by decide +kernel
theorem dX11_chance_20 : decode cX11_chance 20 = .ok (.aload_n 0, 1) := by decide +kernel
theorem dX11_chance_21 : decode cX11_chance 21 = .ok (.iload_n 3, 1) := by decide +kernel
theorem dX11_chance_22 : decode cX11_chance 22 = .ok (.invokevirtual 461, 3) := by decide +kernel
theorem dX11_chance_25 : decode cX11_chance 25 = .ok (.ifCond .ne 5, 3) := by decide +kernel
theorem dX11_chance_28 : decode cX11_chance 28 = .ok (.iconst (-1), 1) := by decide +kernel
theorem dX11_chance_29 : decode cX11_chance 29 = .ok (.ireturn, 1) := by decide +kernel
theorem dX11_chance_30 : decode cX11_chance 30 = .ok (.iload_n 1, 1) := by decide +kernel
theorem dX11_chance_31 : decode cX11_chance 31 = .ok (.istore 4, 2) := by decide +kernel
theorem dX11_chance_33 : decode cX11_chance 33 = .ok (.iconst 0, 1) := by decide +kernel
theorem dX11_chance_34 : decode cX11_chance 34 = .ok (.istore 5, 2) := by decide +kernel
theorem dX11_chance_36 : decode cX11_chance 36 = .ok (.iconst 0, 1) := by decide +kernel
theorem dX11_chance_37 : decode cX11_chance 37 = .ok (.istore 6, 2) := by decide +kernel
theorem dX11_chance_39 : decode cX11_chance 39 = .ok (.iload 6, 2) := by decide +kernel
theorem dX11_chance_41 : decode cX11_chance 41 = .ok (.bipush 10, 2) := by decide +kernel
theorem dX11_chance_43 : decode cX11_chance 43 = .ok (.if_icmp .ge 71, 3) := by decide +kernel
theorem dX11_chance_46 : decode cX11_chance 46 = .ok (.aload_n 0, 1) := by decide +kernel
theorem dX11_chance_47 : decode cX11_chance 47 = .ok (.iconst 1, 1) := by decide +kernel
theorem dX11_chance_48 : decode cX11_chance 48 = .ok (.iconst 0, 1) := by decide +kernel
theorem dX11_chance_49 : decode cX11_chance 49 = .ok (.invokevirtual 474, 3) := by decide +kernel
theorem dX11_chance_52 : decode cX11_chance 52 = .ok (.aload_n 0, 1) := by decide +kernel
theorem dX11_chance_53 : decode cX11_chance 53 = .ok (.getfield 90, 3) := by decide +kernel
theorem dX11_chance_56 : decode cX11_chance 56 = .ok (.iconst 1, 1) := by decide +kernel
theorem dX11_chance_57 : decode cX11_chance 57 = .ok (.iload 4, 2) := by decide +kernel
theorem dX11_chance_59 : decode cX11_chance 59 = .ok (.iastore, 1) := by decide +kernel
theorem dX11_chance_60 : decode cX11_chance 60 = .ok (.iconst 0, 1) := by decide +kernel
theorem dX11_chance_61 : decode cX11_chance 61 = .ok (.istore 7, 2) := by decide +kernel
theorem dX11_chance_63 : decode cX11_chance 63 = .ok (.iload 7, 2) := by decide +kernel
theorem dX11_chance_65 : decode cX11_chance 65 = .ok (.iload_n 2, 1) := by decide +kernel
theorem dX11_chance_66 : decode cX11_chance 66 = .ok (.if_icmp .ge 15, 3) := by decide +kernel
theorem dX11_chance_69 : decode cX11_chance 69 = .ok (.aload_n 0, 1) := by decide +kernel
theorem dX11_chance_70 : decode cX11_chance 70 = .ok (.iconst 1, 1) := by decide +kernel
theorem dX11_chance_71 : decode cX11_chance 71 = .ok (.iconst 1, 1) := by decide +kernel
theorem dX11_chance_72 : decode cX11_chance 72 = .ok (.invokevirtual 439, 3) := by decide +kernel
theorem dX11_chance_75 : decode cX11_chance 75 = .ok (.iinc 7 1, 3) := by decide +kernel
theorem dX11_chance_78 : decode cX11_chance 78 = .ok (.goto (-15), 3) := by decide +kernel
theorem dX11_chance_81 : decode cX11_chance 81 = .ok (.aload_n 0, 1) := by decide +kernel
theorem dX11_chance_82 : decode cX11_chance 82 = .ok (.getfield 90, 3) := by decide +kernel
theorem dX11_chance_85 : decode cX11_chance 85 = .ok (.iconst 1, 1) := by decide +kernel
theorem dX11_chance_86 : decode cX11_chance 86 = .ok (.iaload, 1) := by decide +kernel
theorem dX11_chance_87 : decode cX11_chance 87 = .ok (.istore 4, 2) := by decide +kernel
theorem dX11_chance_89 : decode cX11_chance 89 = .ok (.iload 5, 2) := by decide +kernel
theorem dX11_chance_91 : decode cX11_chance 91 = .ok (.aload_n 0, 1) := by decide +kernel
theorem dX11_chance_92 : decode cX11_chance 92 = .ok (.iconst 1, 1) := by decide +kernel
theorem dX11_chance_93 : decode cX11_chance 93 = .ok (.iload_n 3, 1) := by decide +kernel
theorem dX11_chance_94 : decode cX11_chance 94 = .ok (.invokevirtual 368, 3) := by decide +kernel
theorem dX11_chance_97 : decode cX11_chance 97 = .ok (.ifCond .eq 7, 3) := by decide +kernel
theorem dX11_chance_100 : decode cX11_chance 100 = .ok (.iconst 1, 1) := by decide +kernel
theorem dX11_chance_101 : decode cX11_chance 101 = .ok (.goto 4, 3) := by decide +kernel
theorem dX11_chance_104 : decode cX11_chance 104 = .ok (.iconst 0, 1) := by decide +kernel
theorem dX11_chance_105 : decode cX11_chance 105 = .ok (.iadd, 1) := by decide +kernel
theorem dX11_chance_106 : decode cX11_chance 106 = .ok (.istore 5, 2) := by decide +kernel
theorem dX11_chance_108 : decode cX11_chance 108 = .ok (.iinc 6 1, 3) := by decide +kernel
theorem dX11_chance_111 : decode cX11_chance 111 = .ok (.goto (-72), 3) := by decide +kernel
theorem dX11_chance_114 : decode cX11_chance 114 = .ok (.iload 5, 2) := by decide +kernel
theorem dX11_chance_116 : decode cX11_chance 116 = .ok (.ireturn, 1) := by decide +kernel
theorem dX11_tried_0 : decode cX11_tried 0 = .ok (.aload_n 0, 1) := by decide +kernel
theorem dX11_tried_1 : decode cX11_tried 1 = .ok (.iconst 0, 1) := by decide +kernel
theorem dX11_tried_2 : decode cX11_tried 2 = .ok (.putfield 151, 3) := by decide +kernel
theorem dX11_tried_5 : decode cX11_tried 5 = .ok (.iload_n 1, 1) := by decide +kernel
theorem dX11_tried_6 : decode cX11_tried 6 = .ok (.iconst 2, 1) := by decide +kernel
theorem dX11_tried_7 : decode cX11_tried 7 = .ok (.if_icmp .ne 11, 3) := by decide +kernel
theorem dX11_tried_10 : decode cX11_tried 10 = .ok (.aload_n 0, 1) := by decide +kernel
theorem dX11_tried_11 : decode cX11_tried 11 = .ok (.iload_n 2, 1) := by decide +kernel
theorem dX11_tried_12 : decode cX11_tried 12 = .ok (.invokevirtual 461, 3) := by decide +kernel
theorem dX11_tried_15 : decode cX11_tried 15 = .ok (.goto 21, 3) := by decide +kernel
theorem dX11_tried_18 : decode cX11_tried 18 = .ok (.iload_n 1, 1) := by decide +kernel
theorem dX11_tried_19 : decode cX11_tried 19 = .ok (.ifCond .lt 16, 3) := by decide +kernel
theorem dX11_tried_22 : decode cX11_tried 22 = .ok (.iload_n 1, 1) := by decide +kernel
theorem dX11_tried_23 : decode cX11_tried 23 = .ok (.iconst 4, 1) := by decide +kernel
theorem dX11_tried_24 : decode cX11_tried 24 = .ok (.if_icmp .gt 11, 3) := by decide +kernel
theorem dX11_tried_27 : decode cX11_tried 27 = .ok (.iload_n 2, 1) := by decide +kernel
theorem dX11_tried_28 : decode cX11_tried 28 = .ok (.ifCond .ne 7, 3) := by decide +kernel
theorem dX11_tried_31 : decode cX11_tried 31 = .ok (.iconst 1, 1) := by decide +kernel
theorem dX11_tried_32 : decode cX11_tried 32 = .ok (.goto 4, 3) := by decide +kernel
theorem dX11_tried_35 : decode cX11_tried 35 = .ok (.iconst 0, 1) := by decide +kernel
theorem dX11_tried_36 : decode cX11_tried 36 = .ok (.istore 4, 2) := by decide +kernel
theorem dX11_tried_38 : decode cX11_tried 38 = .ok (.iload 4, 2) := by decide +kernel
theorem dX11_tried_40 : decode cX11_tried 40 = .ok (.ifCond .eq 14, 3) := by decide +kernel
theorem dX11_tried_43 : decode cX11_tried 43 = .ok (.iload_n 3, 1) := by decide +kernel
theorem dX11_tried_44 : decode cX11_tried 44 = .ok (.ifCond .lt 10, 3) := by decide +kernel
theorem dX11_tried_47 : decode cX11_tried 47 = .ok (.iload_n 3, 1) := by decide +kernel
theorem dX11_tried_48 : decode cX11_tried 48 = .ok (.sipush 200, 3) := by decide +kernel
theorem dX11_tried_51 : decode cX11_tried 51 = .ok (.if_icmp .le 5, 3) := by decide +kernel
theorem dX11_tried_54 : decode cX11_tried 54 = .ok (.iconst (-1), 1) := by decide +kernel
theorem dX11_tried_55 : decode cX11_tried 55 = .ok (.ireturn, 1) := by decide +kernel
theorem dX11_tried_56 : decode cX11_tried 56 = .ok (.aload_n 0, 1) := by decide +kernel
theorem dX11_tried_57 : decode cX11_tried 57 = .ok (.iconst 1, 1) := by decide +kernel
theorem dX11_tried_58 : decode cX11_tried 58 = .ok (.iconst 0, 1) := by decide +kernel
theorem dX11_tried_59 : decode cX11_tried 59 = .ok (.invokevirtual 474, 3) := by decide +kernel
theorem dX11_tried_62 : decode cX11_tried 62 = .ok (.aload_n 0, 1) := by decide +kernel
theorem dX11_tried_63 : decode cX11_tried 63 = .ok (.iload_n 1, 1) := by decide +kernel
theorem dX11_tried_64 : decode cX11_tried 64 = .ok (.ifCond .ne 7, 3) := by decide +kernel
theorem dX11_tried_67 : decode cX11_tried 67 = .ok (.iconst 5, 1) := by decide +kernel
theorem dX11_tried_68 : decode cX11_tried 68 = .ok (.goto 4, 3) := by decide +kernel
theorem dX11_tried_71 : decode cX11_tried 71 = .ok (.iload_n 1, 1) := by decide +kernel
theorem dX11_tried_72 : decode cX11_tried 72 = .ok (.putfield 365, 3) := by decide +kernel
theorem dX11_tried_75 : decode cX11_tried 75 = .ok (.aload_n 0, 1) := by decide +kernel
theorem dX11_tried_76 : decode cX11_tried 76 = .ok (.iload_n 2, 1) := by decide +kernel
theorem dX11_tried_77 : decode cX11_tried 77 = .ok (.putfield 108, 3) := by decide +kernel
theorem dX11_tried_80 : decode cX11_tried 80 = .ok (.aload_n 0, 1) := by decide +kernel
theorem dX11_tried_81 : decode cX11_tried 81 = .ok (.iload_n 3, 1) := by decide +kernel
theorem dX11_tried_82 : decode cX11_tried 82 = .ok (.invokevirtual 480, 3) := by decide +kernel
theorem dX11_tried_85 : decode cX11_tried 85 = .ok (.aload_n 0, 1) := by decide +kernel
theorem dX11_tried_86 : decode cX11_tried 86 = .ok (.iconst 0, 1) := by decide +kernel
theorem dX11_tried_87 : decode cX11_tried 87 = .ok (.putfield 365, 3) := by decide +kernel
theorem dX11_tried_90 : decode cX11_tried 90 = .ok (.aload_n 0, 1) := by decide +kernel
theorem dX11_tried_91 : decode cX11_tried 91 = .ok (.iconst (-1), 1) := by decide +kernel
theorem dX11_tried_92 : decode cX11_tried 92 = .ok (.putfield 108, 3) := by decide +kernel
theorem dX11_tried_95 : decode cX11_tried 95 = .ok (.aload_n 0, 1) := by decide +kernel
theorem dX11_tried_96 : decode cX11_tried 96 = .ok (.iconst 1, 1) := by decide +kernel
theorem dX11_tried_97 : decode cX11_tried 97 = .ok (.iconst 2, 1) := by decide +kernel
theorem dX11_tried_98 : decode cX11_tried 98 = .ok (.invokevirtual 381, 3) := by decide +kernel
theorem dX11_tried_101 : decode cX11_tried 101 = .ok (.ireturn, 1) := by decide +kernel
theorem dX11_undo_0 : decode cX11_undo 0 = .ok (.aload_n 0, 1) := by decide +kernel
theorem dX11_undo_1 : decode cX11_undo 1 = .ok (.iconst 0, 1) := by decide +kernel
theorem dX11_undo_2 : decode cX11_undo 2 = .ok (.putfield 151, 3) := by decide +kernel
theorem dX11_undo_5 : decode cX11_undo 5 = .ok (.aload_n 0, 1) := by decide +kernel
theorem dX11_undo_6 : decode cX11_undo 6 = .ok (.getfield 320, 3) := by decide +kernel
theorem dX11_undo_9 : decode cX11_undo 9 = .ok (.ifCond .ne 5, 3) := by decide +kernel
theorem dX11_undo_12 : decode cX11_undo 12 = .ok (.iconst (-1), 1) := by decide +kernel
theorem dX11_undo_13 : decode cX11_undo 13 = .ok (.ireturn, 1) := by decide +kernel
theorem dX11_undo_14 : decode cX11_undo 14 = .ok (.aload_n 0, 1) := by decide +kernel
theorem dX11_undo_15 : decode cX11_undo 15 = .ok (.dup, 1) := by decide +kernel
theorem dX11_undo_16 : decode cX11_undo 16 = .ok (.getfield 320, 3) := by decide +kernel
theorem dX11_undo_19 : decode cX11_undo 19 = .ok (.iconst 1, 1) := by decide +kernel
theorem dX11_undo_20 : decode cX11_undo 20 = .ok (.isub, 1) := by decide +kernel
theorem dX11_undo_21 : decode cX11_undo 21 = .ok (.putfield 320, 3) := by decide +kernel
theorem dX11_undo_24 : decode cX11_undo 24 = .ok (.aload_n 0, 1) := by decide +kernel
theorem dX11_undo_25 : decode cX11_undo 25 = .ok (.iconst 0, 1) := by decide +kernel
theorem dX11_undo_26 : decode cX11_undo 26 = .ok (.iconst 3, 1) := by decide +kernel
theorem dX11_undo_27 : decode cX11_undo 27 = .ok (.aload_n 0, 1) := by decide +kernel
theorem dX11_undo_28 : decode cX11_undo 28 = .ok (.getfield 320, 3) := by decide +kernel
theorem dX11_undo_31 : decode cX11_undo 31 = .ok (.iadd, 1) := by decide +kernel
theorem dX11_undo_32 : decode cX11_undo 32 = .ok (.invokevirtual 474, 3) := by decide +kernel
theorem dX11_undo_35 : decode cX11_undo 35 = .ok (.aload_n 0, 1) := by decide +kernel
theorem dX11_undo_36 : decode cX11_undo 36 = .ok (.getfield 320, 3) := by decide +kernel
theorem dX11_undo_39 : decode cX11_undo 39 = .ok (.ireturn, 1) := by decide +kernel
theorem dX11_keep_0 : decode cX11_keep 0 = .ok (.aload_n 0, 1) := by decide +kernel
theorem dX11_keep_1 : decode cX11_keep 1 = .ok (.iconst 0, 1) := by decide +kernel
theorem dX11_keep_2 : decode cX11_keep 2 = .ok (.putfield 151, 3) := by decide +kernel
theorem dX11_keep_5 : decode cX11_keep 5 = .ok (.aload_n 0, 1) := by decide +kernel
theorem dX11_keep_6 : decode cX11_keep 6 = .ok (.iconst 2, 1) := by decide +kernel
theorem dX11_keep_7 : decode cX11_keep 7 = .ok (.iconst 0, 1) := by decide +kernel
theorem dX11_keep_8 : decode cX11_keep 8 = .ok (.invokevirtual 474, 3) := by decide +kernel
theorem dX11_keep_11 : decode cX11_keep 11 = .ok (.aload_n 0, 1) := by decide +kernel
theorem dX11_keep_12 : decode cX11_keep 12 = .ok (.iconst 1, 1) := by decide +kernel
theorem dX11_keep_13 : decode cX11_keep 13 = .ok (.putfield 316, 3) := by decide +kernel
theorem dX11_keep_16 : decode cX11_keep 16 = .ok (.aload_n 0, 1) := by decide +kernel
theorem dX11_keep_17 : decode cX11_keep 17 = .ok (.getfield 87, 3) := by decide +kernel
theorem dX11_keep_20 : decode cX11_keep 20 = .ok (.iconst 0, 1) := by decide +kernel
theorem dX11_keep_21 : decode cX11_keep 21 = .ok (.iaload, 1) := by decide +kernel
theorem dX11_keep_22 : decode cX11_keep 22 = .ok (.ireturn, 1) := by decide +kernel
theorem dX11_back_0 : decode cX11_back 0 = .ok (.aload_n 0, 1) := by decide +kernel
theorem dX11_back_1 : decode cX11_back 1 = .ok (.iconst 0, 1) := by decide +kernel
theorem dX11_back_2 : decode cX11_back 2 = .ok (.putfield 151, 3) := by decide +kernel
theorem dX11_back_5 : decode cX11_back 5 = .ok (.aload_n 0, 1) := by decide +kernel
theorem dX11_back_6 : decode cX11_back 6 = .ok (.getfield 316, 3) := by decide +kernel
theorem dX11_back_9 : decode cX11_back 9 = .ok (.ifCond .ne 5, 3) := by decide +kernel
theorem dX11_back_12 : decode cX11_back 12 = .ok (.iconst (-1), 1) := by decide +kernel
theorem dX11_back_13 : decode cX11_back 13 = .ok (.ireturn, 1) := by decide +kernel
theorem dX11_back_14 : decode cX11_back 14 = .ok (.aload_n 0, 1) := by decide +kernel
theorem dX11_back_15 : decode cX11_back 15 = .ok (.iconst 0, 1) := by decide +kernel
theorem dX11_back_16 : decode cX11_back 16 = .ok (.iconst 2, 1) := by decide +kernel
theorem dX11_back_17 : decode cX11_back 17 = .ok (.invokevirtual 474, 3) := by decide +kernel
theorem dX11_back_20 : decode cX11_back 20 = .ok (.aload_n 0, 1) := by decide +kernel
theorem dX11_back_21 : decode cX11_back 21 = .ok (.iconst 0, 1) := by decide +kernel
theorem dX11_back_22 : decode cX11_back 22 = .ok (.putfield 320, 3) := by decide +kernel
theorem dX11_back_25 : decode cX11_back 25 = .ok (.aload_n 0, 1) := by decide +kernel
theorem dX11_back_26 : decode cX11_back 26 = .ok (.getfield 87, 3) := by decide +kernel
theorem dX11_back_29 : decode cX11_back 29 = .ok (.iconst 0, 1) := by decide +kernel
theorem dX11_back_30 : decode cX11_back 30 = .ok (.iaload, 1) := by decide +kernel
theorem dX11_back_31 : decode cX11_back 31 = .ok (.ireturn, 1) := by decide +kernel
theorem dX11_count_0 : decode cX11_count 0 = .ok (.aload_n 0, 1) := by decide +kernel
theorem dX11_count_1 : decode cX11_count 1 = .ok (.iconst 0, 1) := by decide +kernel
theorem dX11_count_2 : decode cX11_count 2 = .ok (.putfield 151, 3) := by decide +kernel
theorem dX11_count_5 : decode cX11_count 5 = .ok (.iload_n 1, 1) := by decide +kernel
theorem dX11_count_6 : decode cX11_count 6 = .ok (.tableswitch 198 0 15 #[78, 85, 92, 99, 106, 113, 121, 128, 140, 147, 154, 166, 173, 183, 188, 193], 78) := by decide +kernel
theorem dX11_count_84 : decode cX11_count 84 = .ok (.aload_n 0, 1) := by decide +kernel
theorem dX11_count_85 : decode cX11_count 85 = .ok (.getfield 13, 3) := by decide +kernel
theorem dX11_count_88 : decode cX11_count 88 = .ok (.iconst 0, 1) := by decide +kernel
theorem dX11_count_89 : decode cX11_count 89 = .ok (.iaload, 1) := by decide +kernel
theorem dX11_count_90 : decode cX11_count 90 = .ok (.ireturn, 1) := by decide +kernel
theorem dX11_count_91 : decode cX11_count 91 = .ok (.aload_n 0, 1) := by decide +kernel
theorem dX11_count_92 : decode cX11_count 92 = .ok (.getfield 13, 3) := by decide +kernel
theorem dX11_count_95 : decode cX11_count 95 = .ok (.iconst 1, 1) := by decide +kernel
theorem dX11_count_96 : decode cX11_count 96 = .ok (.iaload, 1) := by decide +kernel
theorem dX11_count_97 : decode cX11_count 97 = .ok (.ireturn, 1) := by decide +kernel
theorem dX11_count_98 : decode cX11_count 98 = .ok (.aload_n 0, 1) := by decide +kernel
theorem dX11_count_99 : decode cX11_count 99 = .ok (.getfield 13, 3) := by decide +kernel
theorem dX11_count_102 : decode cX11_count 102 = .ok (.iconst 2, 1) := by decide +kernel
theorem dX11_count_103 : decode cX11_count 103 = .ok (.iaload, 1) := by decide +kernel
theorem dX11_count_104 : decode cX11_count 104 = .ok (.ireturn, 1) := by decide +kernel
theorem dX11_count_105 : decode cX11_count 105 = .ok (.aload_n 0, 1) := by decide +kernel
theorem dX11_count_106 : decode cX11_count 106 = .ok (.getfield 13, 3) := by decide +kernel
theorem dX11_count_109 : decode cX11_count 109 = .ok (.iconst 3, 1) := by decide +kernel
theorem dX11_count_110 : decode cX11_count 110 = .ok (.iaload, 1) := by decide +kernel
theorem dX11_count_111 : decode cX11_count 111 = .ok (.ireturn, 1) := by decide +kernel
theorem dX11_count_112 : decode cX11_count 112 = .ok (.aload_n 0, 1) := by decide +kernel
theorem dX11_count_113 : decode cX11_count 113 = .ok (.getfield 13, 3) := by decide +kernel
theorem dX11_count_116 : decode cX11_count 116 = .ok (.iconst 4, 1) := by decide +kernel
theorem dX11_count_117 : decode cX11_count 117 = .ok (.iaload, 1) := by decide +kernel
theorem dX11_count_118 : decode cX11_count 118 = .ok (.ireturn, 1) := by decide +kernel
theorem dX11_count_119 : decode cX11_count 119 = .ok (.aload_n 0, 1) := by decide +kernel
theorem dX11_count_120 : decode cX11_count 120 = .ok (.getfield 13, 3) := by decide +kernel
theorem dX11_count_123 : decode cX11_count 123 = .ok (.bipush 8, 2) := by decide +kernel
theorem dX11_count_125 : decode cX11_count 125 = .ok (.iaload, 1) := by decide +kernel
theorem dX11_count_126 : decode cX11_count 126 = .ok (.ireturn, 1) := by decide +kernel
theorem dX11_count_127 : decode cX11_count 127 = .ok (.aload_n 0, 1) := by decide +kernel
theorem dX11_count_128 : decode cX11_count 128 = .ok (.getfield 87, 3) := by decide +kernel
theorem dX11_count_131 : decode cX11_count 131 = .ok (.iconst 0, 1) := by decide +kernel
theorem dX11_count_132 : decode cX11_count 132 = .ok (.iaload, 1) := by decide +kernel
theorem dX11_count_133 : decode cX11_count 133 = .ok (.ireturn, 1) := by decide +kernel
theorem dX11_count_134 : decode cX11_count 134 = .ok (.aload_n 0, 1) := by decide +kernel
theorem dX11_count_135 : decode cX11_count 135 = .ok (.aload_n 0, 1) := by decide +kernel
theorem dX11_count_136 : decode cX11_count 136 = .ok (.getfield 99, 3) := by decide +kernel
theorem dX11_count_139 : decode cX11_count 139 = .ok (.bipush 7, 2) := by decide +kernel
theorem dX11_count_141 : decode cX11_count 141 = .ok (.iconst 0, 1) := by decide +kernel
theorem dX11_count_142 : decode cX11_count 142 = .ok (.invokevirtual 483, 3) := by decide +kernel
theorem dX11_count_145 : decode cX11_count 145 = .ok (.ireturn, 1) := by decide +kernel
theorem dX11_count_146 : decode cX11_count 146 = .ok (.aload_n 0, 1) := by decide +kernel
theorem dX11_count_147 : decode cX11_count 147 = .ok (.iconst 0, 1) := by decide +kernel
theorem dX11_count_148 : decode cX11_count 148 = .ok (.iconst 1, 1) := by decide +kernel
theorem dX11_count_149 : decode cX11_count 149 = .ok (.invokevirtual 381, 3) := by decide +kernel
theorem dX11_count_152 : decode cX11_count 152 = .ok (.ireturn, 1) := by decide +kernel
theorem dX11_count_153 : decode cX11_count 153 = .ok (.aload_n 0, 1) := by decide +kernel
theorem dX11_count_154 : decode cX11_count 154 = .ok (.iconst 0, 1) := by decide +kernel
theorem dX11_count_155 : decode cX11_count 155 = .ok (.iconst 2, 1) := by decide +kernel
theorem dX11_count_156 : decode cX11_count 156 = .ok (.invokevirtual 381, 3) := by decide +kernel
theorem dX11_count_159 : decode cX11_count 159 = .ok (.ireturn, 1) := by decide +kernel
theorem dX11_count_160 : decode cX11_count 160 = .ok (.aload_n 0, 1) := by decide +kernel
theorem dX11_count_161 : decode cX11_count 161 = .ok (.aload_n 0, 1) := by decide +kernel
theorem dX11_count_162 : decode cX11_count 162 = .ok (.getfield 105, 3) := by decide +kernel
theorem dX11_count_165 : decode cX11_count 165 = .ok (.bipush 8, 2) := by decide +kernel
theorem dX11_count_167 : decode cX11_count 167 = .ok (.iconst 0, 1) := by decide +kernel
theorem dX11_count_168 : decode cX11_count 168 = .ok (.invokevirtual 483, 3) := by decide +kernel
theorem dX11_count_171 : decode cX11_count 171 = .ok (.ireturn, 1) := by decide +kernel
theorem dX11_count_172 : decode cX11_count 172 = .ok (.aload_n 0, 1) := by decide +kernel
theorem dX11_count_173 : decode cX11_count 173 = .ok (.getfield 93, 3) := by decide +kernel
theorem dX11_count_176 : decode cX11_count 176 = .ok (.iconst 0, 1) := by decide +kernel
theorem dX11_count_177 : decode cX11_count 177 = .ok (.iaload, 1) := by decide +kernel
theorem dX11_count_178 : decode cX11_count 178 = .ok (.ireturn, 1) := by decide +kernel
theorem dX11_count_179 : decode cX11_count 179 = .ok (.aload_n 0, 1) := by decide +kernel
theorem dX11_count_180 : decode cX11_count 180 = .ok (.getfield 96, 3) := by decide +kernel
theorem dX11_count_183 : decode cX11_count 183 = .ok (.iconst 0, 1) := by decide +kernel
theorem dX11_count_184 : decode cX11_count 184 = .ok (.iaload, 1) := by decide +kernel
theorem dX11_count_185 : decode cX11_count 185 = .ok (.invokestatic 486, 3) := by decide +kernel
theorem dX11_count_188 : decode cX11_count 188 = .ok (.ireturn, 1) := by decide +kernel
theorem dX11_count_189 : decode cX11_count 189 = .ok (.aload_n 0, 1) := by decide +kernel
theorem dX11_count_190 : decode cX11_count 190 = .ok (.getfield 313, 3) := by decide +kernel
theorem dX11_count_193 : decode cX11_count 193 = .ok (.ireturn, 1) := by decide +kernel
theorem dX11_count_194 : decode cX11_count 194 = .ok (.aload_n 0, 1) := by decide +kernel
theorem dX11_count_195 : decode cX11_count 195 = .ok (.invokevirtual 574, 3) := by decide +kernel
theorem dX11_count_198 : decode cX11_count 198 = .ok (.ireturn, 1) := by decide +kernel
theorem dX11_count_199 : decode cX11_count 199 = .ok (.aload_n 0, 1) := by decide +kernel
theorem dX11_count_200 : decode cX11_count 200 = .ok (.getfield 320, 3) := by decide +kernel
theorem dX11_count_203 : decode cX11_count 203 = .ok (.ireturn, 1) := by decide +kernel
theorem dX11_count_204 : decode cX11_count 204 = .ok (.iconst (-1), 1) := by decide +kernel
theorem dX11_count_205 : decode cX11_count 205 = .ok (.ireturn, 1) := by decide +kernel
