theorem dX11_init_0 : decode cX11_init 0 = .ok (.aload_n 0, 1) := by decide +kernel
theorem dX11_init_1 : decode cX11_init 1 = .ok (.invokespecial 1, 3) := by decide +kernel
theorem dX11_init_4 : decode cX11_init 4 = .ok (.aload_n 0, 1) := by decide +kernel
theorem dX11_init_5 : decode cX11_init 5 = .ok (.sipush 1700, 3) := by decide +kernel
theorem dX11_init_8 : decode cX11_init 8 = .ok (.newarray .int, 2) := by decide +kernel
theorem dX11_init_10 : decode cX11_init 10 = .ok (.putfield 7, 3) := by decide +kernel
theorem dX11_init_13 : decode cX11_init 13 = .ok (.aload_n 0, 1) := by decide +kernel
theorem dX11_init_14 : decode cX11_init 14 = .ok (.iconst (-1), 1) := by decide +kernel
theorem dX11_init_15 : decode cX11_init 15 = .ok (.putfield 13, 3) := by decide +kernel
theorem dX11_init_18 : decode cX11_init 18 = .ok (.aload_n 0, 1) := by decide +kernel
theorem dX11_init_19 : decode cX11_init 19 = .ok (.bipush 50, 2) := by decide +kernel
theorem dX11_init_21 : decode cX11_init 21 = .ok (.newarray .long, 2) := by decide +kernel
theorem dX11_init_23 : decode cX11_init 23 = .ok (.putfield 17, 3) := by decide +kernel
theorem dX11_init_26 : decode cX11_init 26 = .ok (.aload_n 0, 1) := by decide +kernel
theorem dX11_init_27 : decode cX11_init 27 = .ok (.iconst 5, 1) := by decide +kernel
theorem dX11_init_28 : decode cX11_init 28 = .ok (.newarray .int, 2) := by decide +kernel
theorem dX11_init_30 : decode cX11_init 30 = .ok (.putfield 21, 3) := by decide +kernel
theorem dX11_init_33 : decode cX11_init 33 = .ok (.aload_n 0, 1) := by decide +kernel
theorem dX11_init_34 : decode cX11_init 34 = .ok (.iconst 5, 1) := by decide +kernel
theorem dX11_init_35 : decode cX11_init 35 = .ok (.newarray .int, 2) := by decide +kernel
theorem dX11_init_37 : decode cX11_init 37 = .ok (.putfield 24, 3) := by decide +kernel
theorem dX11_init_40 : decode cX11_init 40 = .ok (.aload_n 0, 1) := by decide +kernel
theorem dX11_init_41 : decode cX11_init 41 = .ok (.sipush 128, 3) := by decide +kernel
theorem dX11_init_44 : decode cX11_init 44 = .ok (.newarray .int, 2) := by decide +kernel
theorem dX11_init_46 : decode cX11_init 46 = .ok (.putfield 27, 3) := by decide +kernel
theorem dX11_init_49 : decode cX11_init 49 = .ok (.aload_n 0, 1) := by decide +kernel
theorem dX11_init_50 : decode cX11_init 50 = .ok (.bipush 64, 2) := by decide +kernel
theorem dX11_init_52 : decode cX11_init 52 = .ok (.newarray .int, 2) := by decide +kernel
theorem dX11_init_54 : decode cX11_init 54 = .ok (.putfield 30, 3) := by decide +kernel
theorem dX11_init_57 : decode cX11_init 57 = .ok (.aload_n 0, 1) := by decide +kernel
theorem dX11_init_58 : decode cX11_init 58 = .ok (.bipush 96, 2) := by decide +kernel
theorem dX11_init_60 : decode cX11_init 60 = .ok (.newarray .int, 2) := by decide +kernel
theorem dX11_init_62 : decode cX11_init 62 = .ok (.putfield 33, 3) := by decide +kernel
theorem dX11_init_65 : decode cX11_init 65 = .ok (.aload_n 0, 1) := by decide +kernel
theorem dX11_init_66 : decode cX11_init 66 = .ok (.bipush 64, 2) := by decide +kernel
theorem dX11_init_68 : decode cX11_init 68 = .ok (.newarray .int, 2) := by decide +kernel
theorem dX11_init_70 : decode cX11_init 70 = .ok (.putfield 36, 3) := by decide +kernel
theorem dX11_init_73 : decode cX11_init 73 = .ok (.aload_n 0, 1) := by decide +kernel
theorem dX11_init_74 : decode cX11_init 74 = .ok (.bipush 8, 2) := by decide +kernel
theorem dX11_init_76 : decode cX11_init 76 = .ok (.newarray .int, 2) := by decide +kernel
theorem dX11_init_78 : decode cX11_init 78 = .ok (.putfield 39, 3) := by decide +kernel
theorem dX11_init_81 : decode cX11_init 81 = .ok (.aload_n 0, 1) := by decide +kernel
theorem dX11_init_82 : decode cX11_init 82 = .ok (.bipush 8, 2) := by decide +kernel
theorem dX11_init_84 : decode cX11_init 84 = .ok (.newarray .int, 2) := by decide +kernel
theorem dX11_init_86 : decode cX11_init 86 = .ok (.putfield 42, 3) := by decide +kernel
theorem dX11_init_89 : decode cX11_init 89 = .ok (.aload_n 0, 1) := by decide +kernel
theorem dX11_init_90 : decode cX11_init 90 = .ok (.bipush 8, 2) := by decide +kernel
theorem dX11_init_92 : decode cX11_init 92 = .ok (.newarray .int, 2) := by decide +kernel
theorem dX11_init_94 : decode cX11_init 94 = .ok (.putfield 45, 3) := by decide +kernel
theorem dX11_init_97 : decode cX11_init 97 = .ok (.aload_n 0, 1) := by decide +kernel
theorem dX11_init_98 : decode cX11_init 98 = .ok (.bipush 64, 2) := by decide +kernel
theorem dX11_init_100 : decode cX11_init 100 = .ok (.newarray .int, 2) := by decide +kernel
theorem dX11_init_102 : decode cX11_init 102 = .ok (.putfield 48, 3) := by decide +kernel
theorem dX11_init_105 : decode cX11_init 105 = .ok (.aload_n 0, 1) := by decide +kernel
theorem dX11_init_106 : decode cX11_init 106 = .ok (.sipush 128, 3) := by decide +kernel
theorem dX11_init_109 : decode cX11_init 109 = .ok (.newarray .int, 2) := by decide +kernel
theorem dX11_init_111 : decode cX11_init 111 = .ok (.putfield 51, 3) := by decide +kernel
theorem dX11_init_114 : decode cX11_init 114 = .ok (.aload_n 0, 1) := by decide +kernel
theorem dX11_init_115 : decode cX11_init 115 = .ok (.bipush 64, 2) := by decide +kernel
theorem dX11_init_117 : decode cX11_init 117 = .ok (.newarray .int, 2) := by decide +kernel
theorem dX11_init_119 : decode cX11_init 119 = .ok (.putfield 54, 3) := by decide +kernel
theorem dX11_init_122 : decode cX11_init 122 = .ok (.aload_n 0, 1) := by decide +kernel
theorem dX11_init_123 : decode cX11_init 123 = .ok (.bipush 96, 2) := by decide +kernel
theorem dX11_init_125 : decode cX11_init 125 = .ok (.newarray .int, 2) := by decide +kernel
theorem dX11_init_127 : decode cX11_init 127 = .ok (.putfield 57, 3) := by decide +kernel
theorem dX11_init_130 : decode cX11_init 130 = .ok (.aload_n 0, 1) := by decide +kernel
theorem dX11_init_131 : decode cX11_init 131 = .ok (.bipush 64, 2) := by decide +kernel
theorem dX11_init_133 : decode cX11_init 133 = .ok (.newarray .int, 2) := by decide +kernel
theorem dX11_init_135 : decode cX11_init 135 = .ok (.putfield 60, 3) := by decide +kernel
theorem dX11_init_138 : decode cX11_init 138 = .ok (.aload_n 0, 1) := by decide +kernel
theorem dX11_init_139 : decode cX11_init 139 = .ok (.bipush 8, 2) := by decide +kernel
theorem dX11_init_141 : decode cX11_init 141 = .ok (.newarray .int, 2) := by decide +kernel
theorem dX11_init_143 : decode cX11_init 143 = .ok (.putfield 63, 3) := by decide +kernel
theorem dX11_init_146 : decode cX11_init 146 = .ok (.aload_n 0, 1) := by decide +kernel
theorem dX11_init_147 : decode cX11_init 147 = .ok (.bipush 8, 2) := by decide +kernel
theorem dX11_init_149 : decode cX11_init 149 = .ok (.newarray .int, 2) := by decide +kernel
theorem dX11_init_151 : decode cX11_init 151 = .ok (.putfield 66, 3) := by decide +kernel
theorem dX11_init_154 : decode cX11_init 154 = .ok (.aload_n 0, 1) := by decide +kernel
theorem dX11_init_155 : decode cX11_init 155 = .ok (.bipush 8, 2) := by decide +kernel
theorem dX11_init_157 : decode cX11_init 157 = .ok (.newarray .int, 2) := by decide +kernel
theorem dX11_init_159 : decode cX11_init 159 = .ok (.putfield 69, 3) := by decide +kernel
theorem dX11_init_162 : decode cX11_init 162 = .ok (.aload_n 0, 1) := by decide +kernel
theorem dX11_init_163 : decode cX11_init 163 = .ok (.bipush 64, 2) := by decide +kernel
theorem dX11_init_165 : decode cX11_init 165 = .ok (.newarray .int, 2) := by decide +kernel
theorem dX11_init_167 : decode cX11_init 167 = .ok (.putfield 72, 3) := by decide +kernel
theorem dX11_init_170 : decode cX11_init 170 = .ok (.aload_n 0, 1) := by decide +kernel
theorem dX11_init_171 : decode cX11_init 171 = .ok (.bipush 16, 2) := by decide +kernel
theorem dX11_init_173 : decode cX11_init 173 = .ok (.newarray .int, 2) := by decide +kernel
theorem dX11_init_175 : decode cX11_init 175 = .ok (.putfield 75, 3) := by decide +kernel
theorem dX11_init_178 : decode cX11_init 178 = .ok (.aload_n 0, 1) := by decide +kernel
theorem dX11_init_179 : decode cX11_init 179 = .ok (.iconst 2, 1) := by decide +kernel
theorem dX11_init_180 : decode cX11_init 180 = .ok (.newarray .int, 2) := by decide +kernel
theorem dX11_init_182 : decode cX11_init 182 = .ok (.putfield 78, 3) := by decide +kernel
theorem dX11_init_185 : decode cX11_init 185 = .ok (.aload_n 0, 1) := by decide +kernel
theorem dX11_init_186 : decode cX11_init 186 = .ok (.bipush 32, 2) := by decide +kernel
theorem dX11_init_188 : decode cX11_init 188 = .ok (.newarray .long, 2) := by decide +kernel
theorem dX11_init_190 : decode cX11_init 190 = .ok (.putfield 81, 3) := by decide +kernel
theorem dX11_init_193 : decode cX11_init 193 = .ok (.aload_n 0, 1) := by decide +kernel
theorem dX11_init_194 : decode cX11_init 194 = .ok (.bipush 8, 2) := by decide +kernel
theorem dX11_init_196 : decode cX11_init 196 = .ok (.newarray .int, 2) := by decide +kernel
theorem dX11_init_198 : decode cX11_init 198 = .ok (.putfield 84, 3) := by decide +kernel
theorem dX11_init_201 : decode cX11_init 201 = .ok (.aload_n 0, 1) := by decide +kernel
theorem dX11_init_202 : decode cX11_init 202 = .ok (.sipush 30000, 3) := by decide +kernel
theorem dX11_init_205 : decode cX11_init 205 = .ok (.newarray .long, 2) := by decide +kernel
theorem dX11_init_207 : decode cX11_init 207 = .ok (.putfield 87, 3) := by decide +kernel
theorem dX11_init_210 : decode cX11_init 210 = .ok (.aload_n 0, 1) := by decide +kernel
theorem dX11_init_211 : decode cX11_init 211 = .ok (.ldc 90, 2) := by decide +kernel
theorem dX11_init_213 : decode cX11_init 213 = .ok (.newarray .int, 2) := by decide +kernel
theorem dX11_init_215 : decode cX11_init 215 = .ok (.putfield 91, 3) := by decide +kernel
theorem dX11_init_218 : decode cX11_init 218 = .ok (.aload_n 0, 1) := by decide +kernel
theorem dX11_init_219 : decode cX11_init 219 = .ok (.sipush 5000, 3) := by decide +kernel
theorem dX11_init_222 : decode cX11_init 222 = .ok (.newarray .int, 2) := by decide +kernel
theorem dX11_init_224 : decode cX11_init 224 = .ok (.putfield 94, 3) := by decide +kernel
theorem dX11_init_227 : decode cX11_init 227 = .ok (.aload_n 0, 1) := by decide +kernel
theorem dX11_init_228 : decode cX11_init 228 = .ok (.bipush 24, 2) := by decide +kernel
theorem dX11_init_230 : decode cX11_init 230 = .ok (.newarray .long, 2) := by decide +kernel
theorem dX11_init_232 : decode cX11_init 232 = .ok (.putfield 97, 3) := by decide +kernel
theorem dX11_init_235 : decode cX11_init 235 = .ok (.aload_n 0, 1) := by decide +kernel
theorem dX11_init_236 : decode cX11_init 236 = .ok (.bipush 6, 2) := by decide +kernel
theorem dX11_init_238 : decode cX11_init 238 = .ok (.newarray .int, 2) := by decide +kernel
theorem dX11_init_240 : decode cX11_init 240 = .ok (.putfield 100, 3) := by decide +kernel
theorem dX11_init_243 : decode cX11_init 243 = .ok (.aload_n 0, 1) := by decide +kernel
theorem dX11_init_244 : decode cX11_init 244 = .ok (.bipush 6, 2) := by decide +kernel
theorem dX11_init_246 : decode cX11_init 246 = .ok (.newarray .int, 2) := by decide +kernel
theorem dX11_init_248 : decode cX11_init 248 = .ok (.putfield 103, 3) := by decide +kernel
theorem dX11_init_251 : decode cX11_init 251 = .ok (.aload_n 0, 1) := by decide +kernel
theorem dX11_init_252 : decode cX11_init 252 = .ok (.bipush 8, 2) := by decide +kernel
theorem dX11_init_254 : decode cX11_init 254 = .ok (.newarray .int, 2) := by decide +kernel
theorem dX11_init_256 : decode cX11_init 256 = .ok (.putfield 106, 3) := by decide +kernel
theorem dX11_init_259 : decode cX11_init 259 = .ok (.aload_n 0, 1) := by decide +kernel
theorem dX11_init_260 : decode cX11_init 260 = .ok (.iconst 1, 1) := by decide +kernel
theorem dX11_init_261 : decode cX11_init 261 = .ok (.putfield 109, 3) := by decide +kernel
theorem dX11_init_264 : decode cX11_init 264 = .ok (.aload_n 0, 1) := by decide +kernel
theorem dX11_init_265 : decode cX11_init 265 = .ok (.bipush 72, 2) := by decide +kernel
theorem dX11_init_267 : decode cX11_init 267 = .ok (.newarray .int, 2) := by decide +kernel
theorem dX11_init_269 : decode cX11_init 269 = .ok (.putfield 112, 3) := by decide +kernel
theorem dX11_init_272 : decode cX11_init 272 = .ok (.aload_n 0, 1) := by decide +kernel
theorem dX11_init_273 : decode cX11_init 273 = .ok (.bipush 72, 2) := by decide +kernel
theorem dX11_init_275 : decode cX11_init 275 = .ok (.newarray .int, 2) := by decide +kernel
theorem dX11_init_277 : decode cX11_init 277 = .ok (.putfield 115, 3) := by decide +kernel
theorem dX11_init_280 : decode cX11_init 280 = .ok (.aload_n 0, 1) := by decide +kernel
theorem dX11_init_281 : decode cX11_init 281 = .ok (.bipush 40, 2) := by decide +kernel
theorem dX11_init_283 : decode cX11_init 283 = .ok (.newarray .int, 2) := by decide +kernel
theorem dX11_init_285 : decode cX11_init 285 = .ok (.putfield 118, 3) := by decide +kernel
theorem dX11_init_288 : decode cX11_init 288 = .ok (.aload_n 0, 1) := by decide +kernel
theorem dX11_init_289 : decode cX11_init 289 = .ok (.bipush 40, 2) := by decide +kernel
theorem dX11_init_291 : decode cX11_init 291 = .ok (.newarray .int, 2) := by decide +kernel
theorem dX11_init_293 : decode cX11_init 293 = .ok (.putfield 121, 3) := by decide +kernel
theorem dX11_init_296 : decode cX11_init 296 = .ok (.aload_n 0, 1) := by decide +kernel
theorem dX11_init_297 : decode cX11_init 297 = .ok (.bipush 40, 2) := by decide +kernel
theorem dX11_init_299 : decode cX11_init 299 = .ok (.newarray .int, 2) := by decide +kernel
theorem dX11_init_301 : decode cX11_init 301 = .ok (.putfield 124, 3) := by decide +kernel
theorem dX11_init_304 : decode cX11_init 304 = .ok (.aload_n 0, 1) := by decide +kernel
theorem dX11_init_305 : decode cX11_init 305 = .ok (.bipush 40, 2) := by decide +kernel
theorem dX11_init_307 : decode cX11_init 307 = .ok (.newarray .int, 2) := by decide +kernel
theorem dX11_init_309 : decode cX11_init 309 = .ok (.putfield 127, 3) := by decide +kernel
theorem dX11_init_312 : decode cX11_init 312 = .ok (.aload_n 0, 1) := by decide +kernel
theorem dX11_init_313 : decode cX11_init 313 = .ok (.bipush 40, 2) := by decide +kernel
theorem dX11_init_315 : decode cX11_init 315 = .ok (.newarray .int, 2) := by decide +kernel
theorem dX11_init_317 : decode cX11_init 317 = .ok (.putfield 130, 3) := by decide +kernel
theorem dX11_init_320 : decode cX11_init 320 = .ok (.aload_n 0, 1) := by decide +kernel
theorem dX11_init_321 : decode cX11_init 321 = .ok (.bipush 40, 2) := by decide +kernel
theorem dX11_init_323 : decode cX11_init 323 = .ok (.newarray .int, 2) := by decide +kernel
theorem dX11_init_325 : decode cX11_init 325 = .ok (.putfield 133, 3) := by decide +kernel
theorem dX11_init_328 : decode cX11_init 328 = .ok (.aload_n 0, 1) := by decide +kernel
theorem dX11_init_329 : decode cX11_init 329 = .ok (.bipush 72, 2) := by decide +kernel
theorem dX11_init_331 : decode cX11_init 331 = .ok (.newarray .int, 2) := by decide +kernel
theorem dX11_init_333 : decode cX11_init 333 = .ok (.putfield 136, 3) := by decide +kernel
theorem dX11_init_336 : decode cX11_init 336 = .ok (.aload_n 0, 1) := by decide +kernel
theorem dX11_init_337 : decode cX11_init 337 = .ok (.bipush 72, 2) := by decide +kernel
theorem dX11_init_339 : decode cX11_init 339 = .ok (.newarray .long, 2) := by decide +kernel
theorem dX11_init_341 : decode cX11_init 341 = .ok (.putfield 139, 3) := by decide +kernel
theorem dX11_init_344 : decode cX11_init 344 = .ok (.aload_n 0, 1) := by decide +kernel
theorem dX11_init_345 : decode cX11_init 345 = .ok (.iconst 3, 1) := by decide +kernel
theorem dX11_init_346 : decode cX11_init 346 = .ok (.newarray .boolean, 2) := by decide +kernel
theorem dX11_init_348 : decode cX11_init 348 = .ok (.putfield 142, 3) := by decide +kernel
theorem dX11_init_351 : decode cX11_init 351 = .ok (.aload_n 0, 1) := by decide +kernel
theorem dX11_init_352 : decode cX11_init 352 = .ok (.bipush 24, 2) := by decide +kernel
theorem dX11_init_354 : decode cX11_init 354 = .ok (.newarray .int, 2) := by decide +kernel
theorem dX11_init_356 : decode cX11_init 356 = .ok (.putfield 146, 3) := by decide +kernel
theorem dX11_init_359 : decode cX11_init 359 = .ok (.aload_n 0, 1) := by decide +kernel
theorem dX11_init_360 : decode cX11_init 360 = .ok (.iconst 3, 1) := by decide +kernel
theorem dX11_init_361 : decode cX11_init 361 = .ok (.newarray .int, 2) := by decide +kernel
theorem dX11_init_363 : decode cX11_init 363 = .ok (.putfield 149, 3) := by decide +kernel
theorem dX11_init_366 : decode cX11_init 366 = .ok (.aload_n 0, 1) := by decide +kernel
theorem dX11_init_367 : decode cX11_init 367 = .ok (.iconst 3, 1) := by decide +kernel
theorem dX11_init_368 : decode cX11_init 368 = .ok (.newarray .int, 2) := by decide +kernel
theorem dX11_init_370 : decode cX11_init 370 = .ok (.putfield 152, 3) := by decide +kernel
theorem dX11_init_373 : decode cX11_init 373 = .ok (.aload_n 0, 1) := by decide +kernel
theorem dX11_init_374 : decode cX11_init 374 = .ok (.iconst 3, 1) := by decide +kernel
theorem dX11_init_375 : decode cX11_init 375 = .ok (.newarray .int, 2) := by decide +kernel
theorem dX11_init_377 : decode cX11_init 377 = .ok (.putfield 155, 3) := by decide +kernel
theorem dX11_init_380 : decode cX11_init 380 = .ok (.aload_n 0, 1) := by decide +kernel
theorem dX11_init_381 : decode cX11_init 381 = .ok (.iconst 4, 1) := by decide +kernel
theorem dX11_init_382 : decode cX11_init 382 = .ok (.putfield 158, 3) := by decide +kernel
theorem dX11_init_385 : decode cX11_init 385 = .ok (.aload_n 0, 1) := by decide +kernel
theorem dX11_init_386 : decode cX11_init 386 = .ok (.bipush 12, 2) := by decide +kernel
theorem dX11_init_388 : decode cX11_init 388 = .ok (.putfield 161, 3) := by decide +kernel
theorem dX11_init_391 : decode cX11_init 391 = .ok (.aload_n 0, 1) := by decide +kernel
theorem dX11_init_392 : decode cX11_init 392 = .ok (.bipush 10, 2) := by decide +kernel
theorem dX11_init_394 : decode cX11_init 394 = .ok (.putfield 164, 3) := by decide +kernel
theorem dX11_init_397 : decode cX11_init 397 = .ok (.return_, 1) := by decide +kernel
theorem dX11_feed_0 : decode cX11_feed 0 = .ok (.aload_n 0, 1) := by decide +kernel
theorem dX11_feed_1 : decode cX11_feed 1 = .ok (.getfield 167, 3) := by decide +kernel
theorem dX11_feed_4 : decode cX11_feed 4 = .ok (.bipush 20, 2) := by decide +kernel
theorem dX11_feed_6 : decode cX11_feed 6 = .ok (.iadd, 1) := by decide +kernel
theorem dX11_feed_7 : decode cX11_feed 7 = .ok (.sipush 1700, 3) := by decide +kernel
theorem dX11_feed_10 : decode cX11_feed 10 = .ok (.if_icmp .le 5, 3) := by decide +kernel
theorem dX11_feed_13 : decode cX11_feed 13 = .ok (.iconst (-1), 1) := by decide +kernel
theorem dX11_feed_14 : decode cX11_feed 14 = .ok (.ireturn, 1) := by decide +kernel
theorem dX11_feed_15 : decode cX11_feed 15 = .ok (.aload_n 0, 1) := by decide +kernel
theorem dX11_feed_16 : decode cX11_feed 16 = .ok (.iload_n 1, 1) := by decide +kernel
theorem dX11_feed_17 : decode cX11_feed 17 = .ok (.invokevirtual 170, 3) := by decide +kernel
theorem dX11_feed_20 : decode cX11_feed 20 = .ok (.aload_n 0, 1) := by decide +kernel
theorem dX11_feed_21 : decode cX11_feed 21 = .ok (.iload_n 2, 1) := by decide +kernel
theorem dX11_feed_22 : decode cX11_feed 22 = .ok (.invokevirtual 170, 3) := by decide +kernel
theorem dX11_feed_25 : decode cX11_feed 25 = .ok (.aload_n 0, 1) := by decide +kernel
theorem dX11_feed_26 : decode cX11_feed 26 = .ok (.iload_n 3, 1) := by decide +kernel
theorem dX11_feed_27 : decode cX11_feed 27 = .ok (.invokevirtual 170, 3) := by decide +kernel
theorem dX11_feed_30 : decode cX11_feed 30 = .ok (.aload_n 0, 1) := by decide +kernel
theorem dX11_feed_31 : decode cX11_feed 31 = .ok (.iload 4, 2) := by decide +kernel
theorem dX11_feed_33 : decode cX11_feed 33 = .ok (.invokevirtual 170, 3) := by decide +kernel
theorem dX11_feed_36 : decode cX11_feed 36 = .ok (.aload_n 0, 1) := by decide +kernel
theorem dX11_feed_37 : decode cX11_feed 37 = .ok (.iload 5, 2) := by decide +kernel
theorem dX11_feed_39 : decode cX11_feed 39 = .ok (.invokevirtual 170, 3) := by decide +kernel
theorem dX11_feed_42 : decode cX11_feed 42 = .ok (.aload_n 0, 1) := by decide +kernel
theorem dX11_feed_43 : decode cX11_feed 43 = .ok (.getfield 167, 3) := by decide +kernel
theorem dX11_feed_46 : decode cX11_feed 46 = .ok (.ireturn, 1) := by decide +kernel
theorem dX11_four_0 : decode cX11_four 0 = .ok (.bipush 24, 2) := by decide +kernel
theorem dX11_four_2 : decode cX11_four 2 = .ok (.istore_n 2, 1) := by decide +kernel
theorem dX11_four_3 : decode cX11_four 3 = .ok (.iload_n 2, 1) := by decide +kernel
theorem dX11_four_4 : decode cX11_four 4 = .ok (.ifCond .lt 35, 3) := by decide +kernel
theorem dX11_four_7 : decode cX11_four 7 = .ok (.aload_n 0, 1) := by decide +kernel
theorem dX11_four_8 : decode cX11_four 8 = .ok (.getfield 7, 3) := by decide +kernel
theorem dX11_four_11 : decode cX11_four 11 = .ok (.aload_n 0, 1) := by decide +kernel
theorem dX11_four_12 : decode cX11_four 12 = .ok (.getfield 167, 3) := by decide +kernel
theorem dX11_four_15 : decode cX11_four 15 = .ok (.iload_n 1, 1) := by decide +kernel
theorem dX11_four_16 : decode cX11_four 16 = .ok (.iload_n 2, 1) := by decide +kernel
theorem dX11_four_17 : decode cX11_four 17 = .ok (.ishr, 1) := by decide +kernel
theorem dX11_four_18 : decode cX11_four 18 = .ok (.sipush 255, 3) := by decide +kernel
theorem dX11_four_21 : decode cX11_four 21 = .ok (.iand, 1) := by decide +kernel
theorem dX11_four_22 : decode cX11_four 22 = .ok (.iastore, 1) := by decide +kernel
theorem dX11_four_23 : decode cX11_four 23 = .ok (.aload_n 0, 1) := by decide +kernel
theorem dX11_four_24 : decode cX11_four 24 = .ok (.dup, 1) := by decide +kernel
theorem dX11_four_25 : decode cX11_four 25 = .ok (.getfield 167, 3) := by decide +kernel
theorem dX11_four_28 : decode cX11_four 28 = .ok (.iconst 1, 1) := by decide +kernel
theorem dX11_four_29 : decode cX11_four 29 = .ok (.iadd, 1) := by decide +kernel
theorem dX11_four_30 : decode cX11_four 30 = .ok (.putfield 167, 3) := by decide +kernel
theorem dX11_four_33 : decode cX11_four 33 = .ok (.iinc 2 (-8), 3) := by decide +kernel
theorem dX11_four_36 : decode cX11_four 36 = .ok (.goto (-33), 3) := by decide +kernel
theorem dX11_four_39 : decode cX11_four 39 = .ok (.return_, 1) := by decide +kernel
theorem dX11_end_0 : decode cX11_end 0 = .ok (.iload_n 1, 1) := by decide +kernel
theorem dX11_end_1 : decode cX11_end 1 = .ok (.ifCond .lt 11, 3) := by decide +kernel
theorem dX11_end_4 : decode cX11_end 4 = .ok (.iload_n 1, 1) := by decide +kernel
theorem dX11_end_5 : decode cX11_end 5 = .ok (.aload_n 0, 1) := by decide +kernel
theorem dX11_end_6 : decode cX11_end 6 = .ok (.getfield 167, 3) := by decide +kernel
theorem dX11_end_9 : decode cX11_end 9 = .ok (.if_icmp .le 5, 3) := by decide +kernel
theorem dX11_end_12 : decode cX11_end 12 = .ok (.iconst (-1), 1) := by decide +kernel
theorem dX11_end_13 : decode cX11_end 13 = .ok (.ireturn, 1) := by decide +kernel
theorem dX11_end_14 : decode cX11_end 14 = .ok (.aload_n 0, 1) := by decide +kernel
theorem dX11_end_15 : decode cX11_end 15 = .ok (.iload_n 1, 1) := by decide +kernel
theorem dX11_end_16 : decode cX11_end 16 = .ok (.putfield 167, 3) := by decide +kernel
theorem dX11_end_19 : decode cX11_end 19 = .ok (.iload_n 1, 1) := by decide +kernel
theorem dX11_end_20 : decode cX11_end 20 = .ok (.ireturn, 1) := by decide +kernel
theorem dX11_here_0 : decode cX11_here 0 = .ok (.aload_n 0, 1) := by decide +kernel
theorem dX11_here_1 : decode cX11_here 1 = .ok (.getfield 174, 3) := by decide +kernel
theorem dX11_here_4 : decode cX11_here 4 = .ok (.iload_n 1, 1) := by decide +kernel
theorem dX11_here_5 : decode cX11_here 5 = .ok (.iadd, 1) := by decide +kernel
theorem dX11_here_6 : decode cX11_here 6 = .ok (.aload_n 0, 1) := by decide +kernel
theorem dX11_here_7 : decode cX11_here 7 = .ok (.getfield 177, 3) := by decide +kernel
theorem dX11_here_10 : decode cX11_here 10 = .ok (.if_icmp .ge 17, 3) := by decide +kernel
theorem dX11_here_13 : decode cX11_here 13 = .ok (.aload_n 0, 1) := by decide +kernel
theorem dX11_here_14 : decode cX11_here 14 = .ok (.getfield 7, 3) := by decide +kernel
theorem dX11_here_17 : decode cX11_here 17 = .ok (.aload_n 0, 1) := by decide +kernel
theorem dX11_here_18 : decode cX11_here 18 = .ok (.getfield 174, 3) := by decide +kernel
theorem dX11_here_21 : decode cX11_here 21 = .ok (.iload_n 1, 1) := by decide +kernel
theorem dX11_here_22 : decode cX11_here 22 = .ok (.iadd, 1) := by decide +kernel
theorem dX11_here_23 : decode cX11_here 23 = .ok (.iaload, 1) := by decide +kernel
theorem dX11_here_24 : decode cX11_here 24 = .ok (.goto 4, 3) := by decide +kernel
theorem dX11_here_27 : decode cX11_here 27 = .ok (.iconst (-1), 1) := by decide +kernel
theorem dX11_here_28 : decode cX11_here 28 = .ok (.ireturn, 1) := by decide +kernel
theorem dX11_isLetter_0 : decode cX11_isLetter 0 = .ok (.iload_n 0, 1) := by decide +kernel
theorem dX11_isLetter_1 : decode cX11_isLetter 1 = .ok (.bipush 97, 2) := by decide +kernel
theorem dX11_isLetter_3 : decode cX11_isLetter 3 = .ok (.if_icmp .lt 13, 3) := by decide +kernel
theorem dX11_isLetter_6 : decode cX11_isLetter 6 = .ok (.iload_n 0, 1) := by decide +kernel
theorem dX11_isLetter_7 : decode cX11_isLetter 7 = .ok (.bipush 122, 2) := by decide +kernel
theorem dX11_isLetter_9 : decode cX11_isLetter 9 = .ok (.if_icmp .gt 7, 3) := by decide +kernel
theorem dX11_isLetter_12 : decode cX11_isLetter 12 = .ok (.iconst 1, 1) := by decide +kernel
theorem dX11_isLetter_13 : decode cX11_isLetter 13 = .ok (.goto 4, 3) := by decide +kernel
theorem dX11_isLetter_16 : decode cX11_isLetter 16 = .ok (.iconst 0, 1) := by decide +kernel
theorem dX11_isLetter_17 : decode cX11_isLetter 17 = .ok (.ireturn, 1) := by decide +kernel
theorem dX11_isDigit_0 : decode cX11_isDigit 0 = .ok (.iload_n 0, 1) := by decide +kernel
theorem dX11_isDigit_1 : decode cX11_isDigit 1 = .ok (.bipush 48, 2) := by decide +kernel
theorem dX11_isDigit_3 : decode cX11_isDigit 3 = .ok (.if_icmp .lt 13, 3) := by decide +kernel
theorem dX11_isDigit_6 : decode cX11_isDigit 6 = .ok (.iload_n 0, 1) := by decide +kernel
theorem dX11_isDigit_7 : decode cX11_isDigit 7 = .ok (.bipush 57, 2) := by decide +kernel
theorem dX11_isDigit_9 : decode cX11_isDigit 9 = .ok (.if_icmp .gt 7, 3) := by decide +kernel
theorem dX11_isDigit_12 : decode cX11_isDigit 12 = .ok (.iconst 1, 1) := by decide +kernel
theorem dX11_isDigit_13 : decode cX11_isDigit 13 = .ok (.goto 4, 3) := by decide +kernel
theorem dX11_isDigit_16 : decode cX11_isDigit 16 = .ok (.iconst 0, 1) := by decide +kernel
theorem dX11_isDigit_17 : decode cX11_isDigit 17 = .ok (.ireturn, 1) := by decide +kernel
theorem dX11_token_0 : decode cX11_token 0 = .ok (.aload_n 0, 1) := by decide +kernel
theorem dX11_token_1 : decode cX11_token 1 = .ok (.iconst 0, 1) := by decide +kernel
theorem dX11_token_2 : decode cX11_token 2 = .ok (.invokevirtual 180, 3) := by decide +kernel
theorem dX11_token_5 : decode cX11_token 5 = .ok (.bipush 32, 2) := by decide +kernel
theorem dX11_token_7 : decode cX11_token 7 = .ok (.if_icmp .eq 13, 3) := by decide +kernel
theorem dX11_token_10 : decode cX11_token 10 = .ok (.aload_n 0, 1) := by decide +kernel
theorem dX11_token_11 : decode cX11_token 11 = .ok (.iconst 0, 1) := by decide +kernel
theorem dX11_token_12 : decode cX11_token 12 = .ok (.invokevirtual 180, 3) := by decide +kernel
theorem dX11_token_15 : decode cX11_token 15 = .ok (.bipush 10, 2) := by decide +kernel
theorem dX11_token_17 : decode cX11_token 17 = .ok (.if_icmp .ne 16, 3) := by decide +kernel
theorem dX11_token_20 : decode cX11_token 20 = .ok (.aload_n 0, 1) := by decide +kernel
theorem dX11_token_21 : decode cX11_token 21 = .ok (.dup, 1) := by decide +kernel
theorem dX11_token_22 : decode cX11_token 22 = .ok (.getfield 174, 3) := by decide +kernel
theorem dX11_token_25 : decode cX11_token 25 = .ok (.iconst 1, 1) := by decide +kernel
theorem dX11_token_26 : decode cX11_token 26 = .ok (.iadd, 1) := by decide +kernel
theorem dX11_token_27 : decode cX11_token 27 = .ok (.putfield 174, 3) := by decide +kernel
theorem dX11_token_30 : decode cX11_token 30 = .ok (.goto (-30), 3) := by decide +kernel
theorem dX11_token_33 : decode cX11_token 33 = .ok (.aload_n 0, 1) := by decide +kernel
theorem dX11_token_34 : decode cX11_token 34 = .ok (.aload_n 0, 1) := by decide +kernel
theorem dX11_token_35 : decode cX11_token 35 = .ok (.getfield 174, 3) := by decide +kernel
theorem dX11_token_38 : decode cX11_token 38 = .ok (.putfield 184, 3) := by decide +kernel
theorem dX11_token_41 : decode cX11_token 41 = .ok (.aload_n 0, 1) := by decide +kernel
theorem dX11_token_42 : decode cX11_token 42 = .ok (.iconst 0, 1) := by decide +kernel
theorem dX11_token_43 : decode cX11_token 43 = .ok (.invokevirtual 180, 3) := by decide +kernel
theorem dX11_token_46 : decode cX11_token 46 = .ok (.istore_n 1, 1) := by decide +kernel
theorem dX11_token_47 : decode cX11_token 47 = .ok (.iconst 0, 1) := by decide +kernel
theorem dX11_token_48 : decode cX11_token 48 = .ok (.istore_n 2, 1) := by decide +kernel
theorem dX11_token_49 : decode cX11_token 49 = .ok (.aload_n 0, 1) := by decide +kernel
theorem dX11_token_50 : decode cX11_token 50 = .ok (.lconst 0, 1) := by decide +kernel
theorem dX11_token_51 : decode cX11_token 51 = .ok (.putfield 187, 3) := by decide +kernel
theorem dX11_token_54 : decode cX11_token 54 = .ok (.aload_n 0, 1) := by decide +kernel
theorem dX11_token_55 : decode cX11_token 55 = .ok (.iconst 0, 1) := by decide +kernel
theorem dX11_token_56 : decode cX11_token 56 = .ok (.putfield 191, 3) := by decide +kernel
theorem dX11_token_59 : decode cX11_token 59 = .ok (.iload_n 1, 1) := by decide +kernel
theorem dX11_token_60 : decode cX11_token 60 = .ok (.ifCond .ge 11, 3) := by decide +kernel
theorem dX11_token_63 : decode cX11_token 63 = .ok (.aload_n 0, 1) := by decide +kernel
theorem dX11_token_64 : decode cX11_token 64 = .ok (.iconst 0, 1) := by decide +kernel
theorem dX11_token_65 : decode cX11_token 65 = .ok (.putfield 194, 3) := by decide +kernel
theorem dX11_token_68 : decode cX11_token 68 = .ok (.goto 163, 3) := by decide +kernel
theorem dX11_token_71 : decode cX11_token 71 = .ok (.iload_n 1, 1) := by decide +kernel
theorem dX11_token_72 : decode cX11_token 72 = .ok (.invokestatic 197, 3) := by decide +kernel
theorem dX11_token_75 : decode cX11_token 75 = .ok (.ifCond .eq 62, 3) := by decide +kernel
theorem dX11_token_78 : decode cX11_token 78 = .ok (.aload_n 0, 1) := by decide +kernel
theorem dX11_token_79 : decode cX11_token 79 = .ok (.iload_n 2, 1) := by decide +kernel
theorem dX11_token_80 : decode cX11_token 80 = .ok (.invokevirtual 180, 3) := by decide +kernel
theorem dX11_token_83 : decode cX11_token 83 = .ok (.invokestatic 197, 3) := by decide +kernel
theorem dX11_token_86 : decode cX11_token 86 = .ok (.ifCond .eq 33, 3) := by decide +kernel
theorem dX11_token_89 : decode cX11_token 89 = .ok (.iload_n 2, 1) := by decide +kernel
theorem dX11_token_90 : decode cX11_token 90 = .ok (.bipush 8, 2) := by decide +kernel
theorem dX11_token_92 : decode cX11_token 92 = .ok (.if_icmp .ge 21, 3) := by decide +kernel
theorem dX11_token_95 : decode cX11_token 95 = .ok (.aload_n 0, 1) := by decide +kernel
theorem dX11_token_96 : decode cX11_token 96 = .ok (.aload_n 0, 1) := by decide +kernel
theorem dX11_token_97 : decode cX11_token 97 = .ok (.getfield 187, 3) := by decide +kernel
theorem dX11_token_100 : decode cX11_token 100 = .ok (.bipush 8, 2) := by decide +kernel
theorem dX11_token_102 : decode cX11_token 102 = .ok (.lshl, 1) := by decide +kernel
theorem dX11_token_103 : decode cX11_token 103 = .ok (.aload_n 0, 1) := by decide +kernel
theorem dX11_token_104 : decode cX11_token 104 = .ok (.iload_n 2, 1) := by decide +kernel
theorem dX11_token_105 : decode cX11_token 105 = .ok (.invokevirtual 180, 3) := by decide +kernel
theorem dX11_token_108 : decode cX11_token 108 = .ok (.i2l, 1) := by decide +kernel
theorem dX11_token_109 : decode cX11_token 109 = .ok (.lor, 1) := by decide +kernel
theorem dX11_token_110 : decode cX11_token 110 = .ok (.putfield 187, 3) := by decide +kernel
theorem dX11_token_113 : decode cX11_token 113 = .ok (.iinc 2 1, 3) := by decide +kernel
theorem dX11_token_116 : decode cX11_token 116 = .ok (.goto (-38), 3) := by decide +kernel
theorem dX11_token_119 : decode cX11_token 119 = .ok (.aload_n 0, 1) := by decide +kernel
theorem dX11_token_120 : decode cX11_token 120 = .ok (.iload_n 2, 1) := by decide +kernel
theorem dX11_token_121 : decode cX11_token 121 = .ok (.bipush 8, 2) := by decide +kernel
theorem dX11_token_123 : decode cX11_token 123 = .ok (.if_icmp .le 7, 3) := by decide +kernel
theorem dX11_token_126 : decode cX11_token 126 = .ok (.iconst 3, 1) := by decide +kernel
theorem dX11_token_127 : decode cX11_token 127 = .ok (.goto 4, 3) := by decide +kernel
theorem dX11_token_130 : decode cX11_token 130 = .ok (.iconst 1, 1) := by decide +kernel
theorem dX11_token_131 : decode cX11_token 131 = .ok (.putfield 194, 3) := by decide +kernel
theorem dX11_token_134 : decode cX11_token 134 = .ok (.goto 97, 3) := by decide +kernel
theorem dX11_token_137 : decode cX11_token 137 = .ok (.iload_n 1, 1) := by decide +kernel
theorem dX11_token_138 : decode cX11_token 138 = .ok (.invokestatic 201, 3) := by decide +kernel
theorem dX11_token_141 : decode cX11_token 141 = .ok (.ifCond .eq 73, 3) := by decide +kernel
theorem dX11_token_144 : decode cX11_token 144 = .ok (.aload_n 0, 1) := by decide +kernel
theorem dX11_token_145 : decode cX11_token 145 = .ok (.iload_n 2, 1) := by decide +kernel
theorem dX11_token_146 : decode cX11_token 146 = .ok (.invokevirtual 180, 3) := by decide +kernel
theorem dX11_token_149 : decode cX11_token 149 = .ok (.invokestatic 201, 3) := by decide +kernel
theorem dX11_token_152 : decode cX11_token 152 = .ok (.ifCond .eq 34, 3) := by decide +kernel
theorem dX11_token_155 : decode cX11_token 155 = .ok (.iload_n 2, 1) := by decide +kernel
theorem dX11_token_156 : decode cX11_token 156 = .ok (.iconst 4, 1) := by decide +kernel
theorem dX11_token_157 : decode cX11_token 157 = .ok (.if_icmp .ge 23, 3) := by decide +kernel
theorem dX11_token_160 : decode cX11_token 160 = .ok (.aload_n 0, 1) := by decide +kernel
theorem dX11_token_161 : decode cX11_token 161 = .ok (.bipush 10, 2) := by decide +kernel
theorem dX11_token_163 : decode cX11_token 163 = .ok (.aload_n 0, 1) := by decide +kernel
theorem dX11_token_164 : decode cX11_token 164 = .ok (.getfield 191, 3) := by decide +kernel
theorem dX11_token_167 : decode cX11_token 167 = .ok (.imul, 1) := by decide +kernel
theorem dX11_token_168 : decode cX11_token 168 = .ok (.aload_n 0, 1) := by decide +kernel
theorem dX11_token_169 : decode cX11_token 169 = .ok (.iload_n 2, 1) := by decide +kernel
theorem dX11_token_170 : decode cX11_token 170 = .ok (.invokevirtual 180, 3) := by decide +kernel
theorem dX11_token_173 : decode cX11_token 173 = .ok (.iadd, 1) := by decide +kernel
theorem dX11_token_174 : decode cX11_token 174 = .ok (.bipush 48, 2) := by decide +kernel
theorem dX11_token_176 : decode cX11_token 176 = .ok (.isub, 1) := by decide +kernel
theorem dX11_token_177 : decode cX11_token 177 = .ok (.putfield 191, 3) := by decide +kernel
theorem dX11_token_180 : decode cX11_token 180 = .ok (.iinc 2 1, 3) := by decide +kernel
theorem dX11_token_183 : decode cX11_token 183 = .ok (.goto (-39), 3) := by decide +kernel
theorem dX11_token_186 : decode cX11_token 186 = .ok (.aload_n 0, 1) := by decide +kernel
theorem dX11_token_187 : decode cX11_token 187 = .ok (.iload_n 2, 1) := by decide +kernel
theorem dX11_token_188 : decode cX11_token 188 = .ok (.iconst 4, 1) := by decide +kernel
theorem dX11_token_189 : decode cX11_token 189 = .ok (.if_icmp .gt 14, 3) := by decide +kernel
theorem dX11_token_192 : decode cX11_token 192 = .ok (.aload_n 0, 1) := by decide +kernel
theorem dX11_token_193 : decode cX11_token 193 = .ok (.iload_n 2, 1) := by decide +kernel
theorem dX11_token_194 : decode cX11_token 194 = .ok (.invokevirtual 180, 3) := by decide +kernel
theorem dX11_token_197 : decode cX11_token 197 = .ok (.invokestatic 197, 3) := by decide +kernel
theorem dX11_token_200 : decode cX11_token 200 = .ok (.ifCond .eq 7, 3) := by decide +kernel
theorem dX11_token_203 : decode cX11_token 203 = .ok (.iconst 3, 1) := by decide +kernel
theorem dX11_token_204 : decode cX11_token 204 = .ok (.goto 4, 3) := by decide +kernel
theorem dX11_token_207 : decode cX11_token 207 = .ok (.iconst 2, 1) := by decide +kernel
theorem dX11_token_208 : decode cX11_token 208 = .ok (.putfield 194, 3) := by decide +kernel
theorem dX11_token_211 : decode cX11_token 211 = .ok (.goto 20, 3) := by decide +kernel
theorem dX11_token_214 : decode cX11_token 214 = .ok (.iconst 1, 1) := by decide +kernel
theorem dX11_token_215 : decode cX11_token 215 = .ok (.istore_n 2, 1) := by decide +kernel
theorem dX11_token_216 : decode cX11_token 216 = .ok (.aload_n 0, 1) := by decide +kernel
theorem dX11_token_217 : decode cX11_token 217 = .ok (.iload_n 1, 1) := by decide +kernel
theorem dX11_token_218 : decode cX11_token 218 = .ok (.bipush 59, 2) := by decide +kernel
theorem dX11_token_220 : decode cX11_token 220 = .ok (.if_icmp .ne 7, 3) := by decide +kernel
theorem dX11_token_223 : decode cX11_token 223 = .ok (.iload_n 1, 1) := by decide +kernel
theorem dX11_token_224 : decode cX11_token 224 = .ok (.goto 4, 3) := by decide +kernel
theorem dX11_token_227 : decode cX11_token 227 = .ok (.iconst 3, 1) := by decide +kernel
theorem dX11_token_228 : decode cX11_token 228 = .ok (.putfield 194, 3) := by decide +kernel
theorem dX11_token_231 : decode cX11_token 231 = .ok (.aload_n 0, 1) := by decide +kernel
theorem dX11_token_232 : decode cX11_token 232 = .ok (.getfield 194, 3) := by decide +kernel
theorem dX11_token_235 : decode cX11_token 235 = .ok (.iconst 3, 1) := by decide +kernel
theorem dX11_token_236 : decode cX11_token 236 = .ok (.if_icmp .eq 13, 3) := by decide +kernel
theorem dX11_token_239 : decode cX11_token 239 = .ok (.aload_n 0, 1) := by decide +kernel
theorem dX11_token_240 : decode cX11_token 240 = .ok (.dup, 1) := by decide +kernel
theorem dX11_token_241 : decode cX11_token 241 = .ok (.getfield 174, 3) := by decide +kernel
theorem dX11_token_244 : decode cX11_token 244 = .ok (.iload_n 2, 1) := by decide +kernel
theorem dX11_token_245 : decode cX11_token 245 = .ok (.iadd, 1) := by decide +kernel
theorem dX11_token_246 : decode cX11_token 246 = .ok (.putfield 174, 3) := by decide +kernel
theorem dX11_token_249 : decode cX11_token 249 = .ok (.return_, 1) := by decide +kernel
theorem dX11_wrong_0 : decode cX11_wrong 0 = .ok (.aload_n 0, 1) := by decide +kernel
theorem dX11_wrong_1 : decode cX11_wrong 1 = .ok (.getfield 204, 3) := by decide +kernel
theorem dX11_wrong_4 : decode cX11_wrong 4 = .ok (.ifCond .le 4, 3) := by decide +kernel
theorem dX11_wrong_7 : decode cX11_wrong 7 = .ok (.return_, 1) := by decide +kernel
theorem dX11_wrong_8 : decode cX11_wrong 8 = .ok (.aload_n 0, 1) := by decide +kernel
theorem dX11_wrong_9 : decode cX11_wrong 9 = .ok (.aload_n 0, 1) := by decide +kernel
theorem dX11_wrong_10 : decode cX11_wrong 10 = .ok (.getfield 194, 3) := by decide +kernel
theorem dX11_wrong_13 : decode cX11_wrong 13 = .ok (.iconst 3, 1) := by decide +kernel
theorem dX11_wrong_14 : decode cX11_wrong 14 = .ok (.if_icmp .ne 7, 3) := by decide +kernel
theorem dX11_wrong_17 : decode cX11_wrong 17 = .ok (.iconst 1, 1) := by decide +kernel
theorem dX11_wrong_18 : decode cX11_wrong 18 = .ok (.goto 4, 3) := by decide +kernel
theorem dX11_wrong_21 : decode cX11_wrong 21 = .ok (.iload_n 1, 1) := by decide +kernel
theorem dX11_wrong_22 : decode cX11_wrong 22 = .ok (.putfield 204, 3) := by decide +kernel
theorem dX11_wrong_25 : decode cX11_wrong 25 = .ok (.aload_n 0, 1) := by decide +kernel
theorem dX11_wrong_26 : decode cX11_wrong 26 = .ok (.aload_n 0, 1) := by decide +kernel
theorem dX11_wrong_27 : decode cX11_wrong 27 = .ok (.getfield 184, 3) := by decide +kernel
theorem dX11_wrong_30 : decode cX11_wrong 30 = .ok (.putfield 13, 3) := by decide +kernel
theorem dX11_wrong_33 : decode cX11_wrong 33 = .ok (.return_, 1) := by decide +kernel
theorem dX11_isWord_0 : decode cX11_isWord 0 = .ok (.aload_n 0, 1) := by decide +kernel
theorem dX11_isWord_1 : decode cX11_isWord 1 = .ok (.getfield 194, 3) := by decide +kernel
theorem dX11_isWord_4 : decode cX11_isWord 4 = .ok (.iconst 1, 1) := by decide +kernel
theorem dX11_isWord_5 : decode cX11_isWord 5 = .ok (.if_icmp .ne 16, 3) := by decide +kernel
theorem dX11_isWord_8 : decode cX11_isWord 8 = .ok (.aload_n 0, 1) := by decide +kernel
theorem dX11_isWord_9 : decode cX11_isWord 9 = .ok (.getfield 187, 3) := by decide +kernel
theorem dX11_isWord_12 : decode cX11_isWord 12 = .ok (.lload_n 1, 1) := by decide +kernel
theorem dX11_isWord_13 : decode cX11_isWord 13 = .ok (.lcmp, 1) := by decide +kernel
theorem dX11_isWord_14 : decode cX11_isWord 14 = .ok (.ifCond .ne 7, 3) := by decide +kernel
theorem dX11_isWord_17 : decode cX11_isWord 17 = .ok (.iconst 1, 1) := by decide +kernel
theorem dX11_isWord_18 : decode cX11_isWord 18 = .ok (.goto 4, 3) := by decide +kernel
theorem dX11_isWord_21 : decode cX11_isWord 21 = .ok (.iconst 0, 1) := by decide +kernel
theorem dX11_isWord_22 : decode cX11_isWord 22 = .ok (.ireturn, 1) := by decide +kernel
theorem dX11_isName_0 : decode cX11_isName 0 = .ok (.aload_n 0, 1) := by decide +kernel
theorem dX11_isName_1 : decode cX11_isName 1 = .ok (.getfield 194, 3) := by decide +kernel
theorem dX11_isName_4 : decode cX11_isName 4 = .ok (.iconst 1, 1) := by decide +kernel
theorem dX11_isName_5 : decode cX11_isName 5 = .ok (.if_icmp .eq 5, 3) := by decide +kernel
theorem dX11_isName_8 : decode cX11_isName 8 = .ok (.iconst 0, 1) := by decide +kernel
theorem dX11_isName_9 : decode cX11_isName 9 = .ok (.ireturn, 1) := by decide +kernel
theorem dX11_isName_10 : decode cX11_isName 10 = .ok (.aload_n 0, 1) := by decide +kernel
theorem dX11_isName_11 : decode cX11_isName 11 = .ok (.getfield 187, 3) := by decide +kernel
theorem dX11_isName_14 : decode cX11_isName 14 = .ok (.ldc2_w 207, 3) := by decide +kernel
theorem dX11_isName_17 : decode cX11_isName 17 = .ok (.lcmp, 1) := by decide +kernel
theorem dX11_isName_18 : decode cX11_isName 18 = .ok (.ifCond .eq 69, 3) := by decide +kernel
theorem dX11_isName_21 : decode cX11_isName 21 = .ok (.aload_n 0, 1) := by decide +kernel
theorem dX11_isName_22 : decode cX11_isName 22 = .ok (.getfield 187, 3) := by decide +kernel
theorem dX11_isName_25 : decode cX11_isName 25 = .ok (.ldc2_w 209, 3) := by decide +kernel
theorem dX11_isName_28 : decode cX11_isName 28 = .ok (.lcmp, 1) := by decide +kernel
theorem dX11_isName_29 : decode cX11_isName 29 = .ok (.ifCond .eq 58, 3) := by decide +kernel
theorem dX11_isName_32 : decode cX11_isName 32 = .ok (.aload_n 0, 1) := by decide +kernel
theorem dX11_isName_33 : decode cX11_isName 33 = .ok (.getfield 187, 3) := by decide +kernel
theorem dX11_isName_36 : decode cX11_isName 36 = .ok (.ldc2_w 211, 3) := by decide +kernel
theorem dX11_isName_39 : decode cX11_isName 39 = .ok (.lcmp, 1) := by decide +kernel
theorem dX11_isName_40 : decode cX11_isName 40 = .ok (.ifCond .eq 47, 3) := by decide +kernel
theorem dX11_isName_43 : decode cX11_isName 43 = .ok (.aload_n 0, 1) := by decide +kernel
theorem dX11_isName_44 : decode cX11_isName 44 = .ok (.getfield 187, 3) := by decide +kernel
theorem dX11_isName_47 : decode cX11_isName 47 = .ok (.ldc2_w 213, 3) := by decide +kernel
theorem dX11_isName_50 : decode cX11_isName 50 = .ok (.lcmp, 1) := by decide +kernel
theorem dX11_isName_51 : decode cX11_isName 51 = .ok (.ifCond .eq 36, 3) := by decide +kernel
theorem dX11_isName_54 : decode cX11_isName 54 = .ok (.aload_n 0, 1) := by decide +kernel
theorem dX11_isName_55 : decode cX11_isName 55 = .ok (.getfield 187, 3) := by decide +kernel
theorem dX11_isName_58 : decode cX11_isName 58 = .ok (.ldc2_w 215, 3) := by decide +kernel
theorem dX11_isName_61 : decode cX11_isName 61 = .ok (.lcmp, 1) := by decide +kernel
theorem dX11_isName_62 : decode cX11_isName 62 = .ok (.ifCond .eq 25, 3) := by decide +kernel
theorem dX11_isName_65 : decode cX11_isName 65 = .ok (.aload_n 0, 1) := by decide +kernel
theorem dX11_isName_66 : decode cX11_isName 66 = .ok (.getfield 187, 3) := by decide +kernel
theorem dX11_isName_69 : decode cX11_isName 69 = .ok (.ldc2_w 217, 3) := by decide +kernel
theorem dX11_isName_72 : decode cX11_isName 72 = .ok (.lcmp, 1) := by decide +kernel
theorem dX11_isName_73 : decode cX11_isName 73 = .ok (.ifCond .eq 14, 3) := by decide +kernel
theorem dX11_isName_76 : decode cX11_isName 76 = .ok (.aload_n 0, 1) := by decide +kernel
theorem dX11_isName_77 : decode cX11_isName 77 = .ok (.getfield 187, 3) := by decide +kernel
theorem dX11_isName_80 : decode cX11_isName 80 = .ok (.ldc2_w 219, 3) := by decide +kernel
theorem dX11_isName_83 : decode cX11_isName 83 = .ok (.lcmp, 1) := by decide +kernel
theorem dX11_isName_84 : decode cX11_isName 84 = .ok (.ifCond .ne 7, 3) := by decide +kernel
theorem dX11_isName_87 : decode cX11_isName 87 = .ok (.iconst 1, 1) := by decide +kernel
theorem dX11_isName_88 : decode cX11_isName 88 = .ok (.goto 4, 3) := by decide +kernel
theorem dX11_isName_91 : decode cX11_isName 91 = .ok (.iconst 0, 1) := by decide +kernel
theorem dX11_isName_92 : decode cX11_isName 92 = .ok (.istore_n 1, 1) := by decide +kernel
theorem dX11_isName_93 : decode cX11_isName 93 = .ok (.aload_n 0, 1) := by decide +kernel
theorem dX11_isName_94 : decode cX11_isName 94 = .ok (.getfield 187, 3) := by decide +kernel
theorem dX11_isName_97 : decode cX11_isName 97 = .ok (.ldc2_w 221, 3) := by decide +kernel
theorem dX11_isName_100 : decode cX11_isName 100 = .ok (.lcmp, 1) := by decide +kernel
theorem dX11_isName_101 : decode cX11_isName 101 = .ok (.ifCond .eq 69, 3) := by decide +kernel
theorem dX11_isName_104 : decode cX11_isName 104 = .ok (.aload_n 0, 1) := by decide +kernel
theorem dX11_isName_105 : decode cX11_isName 105 = .ok (.getfield 187, 3) := by decide +kernel
theorem dX11_isName_108 : decode cX11_isName 108 = .ok (.ldc2_w 223, 3) := by decide +kernel
theorem dX11_isName_111 : decode cX11_isName 111 = .ok (.lcmp, 1) := by decide +kernel
theorem dX11_isName_112 : decode cX11_isName 112 = .ok (.ifCond .eq 58, 3) := by decide +kernel
theorem dX11_isName_115 : decode cX11_isName 115 = .ok (.aload_n 0, 1) := by decide +kernel
theorem dX11_isName_116 : decode cX11_isName 116 = .ok (.getfield 187, 3) := by decide +kernel
theorem dX11_isName_119 : decode cX11_isName 119 = .ok (.ldc2_w 225, 3) := by decide +kernel
theorem dX11_isName_122 : decode cX11_isName 122 = .ok (.lcmp, 1) := by decide +kernel
theorem dX11_isName_123 : decode cX11_isName 123 = .ok (.ifCond .eq 47, 3) := by decide +kernel
theorem dX11_isName_126 : decode cX11_isName 126 = .ok (.aload_n 0, 1) := by decide +kernel
theorem dX11_isName_127 : decode cX11_isName 127 = .ok (.getfield 187, 3) := by decide +kernel
theorem dX11_isName_130 : decode cX11_isName 130 = .ok (.ldc2_w 227, 3) := by decide +kernel
theorem dX11_isName_133 : decode cX11_isName 133 = .ok (.lcmp, 1) := by decide +kernel
theorem dX11_isName_134 : decode cX11_isName 134 = .ok (.ifCond .eq 36, 3) := by decide +kernel
theorem dX11_isName_137 : decode cX11_isName 137 = .ok (.aload_n 0, 1) := by decide +kernel
theorem dX11_isName_138 : decode cX11_isName 138 = .ok (.getfield 187, 3) := by decide +kernel
theorem dX11_isName_141 : decode cX11_isName 141 = .ok (.ldc2_w 229, 3) := by decide +kernel
theorem dX11_isName_144 : decode cX11_isName 144 = .ok (.lcmp, 1) := by decide +kernel
theorem dX11_isName_145 : decode cX11_isName 145 = .ok (.ifCond .eq 25, 3) := by decide +kernel
theorem dX11_isName_148 : decode cX11_isName 148 = .ok (.aload_n 0, 1) := by decide +kernel
theorem dX11_isName_149 : decode cX11_isName 149 = .ok (.getfield 187, 3) := by decide +kernel
theorem dX11_isName_152 : decode cX11_isName 152 = .ok (.ldc2_w 231, 3) := by decide +kernel
theorem dX11_isName_155 : decode cX11_isName 155 = .ok (.lcmp, 1) := by decide +kernel
theorem dX11_isName_156 : decode cX11_isName 156 = .ok (.ifCond .eq 14, 3) := by decide +kernel
theorem dX11_isName_159 : decode cX11_isName 159 = .ok (.aload_n 0, 1) := by decide +kernel
theorem dX11_isName_160 : decode cX11_isName 160 = .ok (.getfield 187, 3) := by decide +kernel
theorem dX11_isName_163 : decode cX11_isName 163 = .ok (.ldc2_w 233, 3) := by decide +kernel
theorem dX11_isName_166 : decode cX11_isName 166 = .ok (.lcmp, 1) := by decide +kernel
theorem dX11_isName_167 : decode cX11_isName 167 = .ok (.ifCond .ne 7, 3) := by decide +kernel
theorem dX11_isName_170 : decode cX11_isName 170 = .ok (.iconst 1, 1) := by decide +kernel
theorem dX11_isName_171 : decode cX11_isName 171 = .ok (.goto 4, 3) := by decide +kernel
theorem dX11_isName_174 : decode cX11_isName 174 = .ok (.iconst 0, 1) := by decide +kernel
theorem dX11_isName_175 : decode cX11_isName 175 = .ok (.istore_n 2, 1) := by decide +kernel
theorem dX11_isName_176 : decode cX11_isName 176 = .ok (.iload_n 1, 1) := by decide +kernel
theorem dX11_isName_177 : decode cX11_isName 177 = .ok (.ifCond .ne 11, 3) := by decide +kernel
theorem dX11_isName_180 : decode cX11_isName 180 = .ok (.iload_n 2, 1) := by decide +kernel
theorem dX11_isName_181 : decode cX11_isName 181 = .ok (.ifCond .ne 7, 3) := by decide +kernel
theorem dX11_isName_184 : decode cX11_isName 184 = .ok (.iconst 1, 1) := by decide +kernel
theorem dX11_isName_185 : decode cX11_isName 185 = .ok (.goto 4, 3) := by decide +kernel
theorem dX11_isName_188 : decode cX11_isName 188 = .ok (.iconst 0, 1) := by decide +kernel
theorem dX11_isName_189 : decode cX11_isName 189 = .ok (.ireturn, 1) := by decide +kernel
theorem dX11_want_0 : decode cX11_want 0 = .ok (.aload_n 0, 1) := by decide +kernel
theorem dX11_want_1 : decode cX11_want 1 = .ok (.getfield 204, 3) := by decide +kernel
theorem dX11_want_4 : decode cX11_want 4 = .ok (.ifCond .le 4, 3) := by decide +kernel
theorem dX11_want_7 : decode cX11_want 7 = .ok (.return_, 1) := by decide +kernel
theorem dX11_want_8 : decode cX11_want 8 = .ok (.aload_n 0, 1) := by decide +kernel
theorem dX11_want_9 : decode cX11_want 9 = .ok (.lload_n 1, 1) := by decide +kernel
theorem dX11_want_10 : decode cX11_want 10 = .ok (.invokevirtual 235, 3) := by decide +kernel
theorem dX11_want_13 : decode cX11_want 13 = .ok (.ifCond .ne 11, 3) := by decide +kernel
theorem dX11_want_16 : decode cX11_want 16 = .ok (.aload_n 0, 1) := by decide +kernel
theorem dX11_want_17 : decode cX11_want 17 = .ok (.iconst 2, 1) := by decide +kernel
theorem dX11_want_18 : decode cX11_want 18 = .ok (.invokevirtual 239, 3) := by decide +kernel
theorem dX11_want_21 : decode cX11_want 21 = .ok (.goto 7, 3) := by decide +kernel
theorem dX11_want_24 : decode cX11_want 24 = .ok (.aload_n 0, 1) := by decide +kernel
theorem dX11_want_25 : decode cX11_want 25 = .ok (.invokevirtual 242, 3) := by decide +kernel
theorem dX11_want_28 : decode cX11_want 28 = .ok (.return_, 1) := by decide +kernel
theorem dX11_toldNumber_0 : decode cX11_toldNumber 0 = .ok (.aload_n 0, 1) := by decide +kernel
theorem dX11_toldNumber_1 : decode cX11_toldNumber 1 = .ok (.getfield 204, 3) := by decide +kernel
theorem dX11_toldNumber_4 : decode cX11_toldNumber 4 = .ok (.ifCond .le 5, 3) := by decide +kernel
theorem dX11_toldNumber_7 : decode cX11_toldNumber 7 = .ok (.iconst 0, 1) := by decide +kernel
theorem dX11_toldNumber_8 : decode cX11_toldNumber 8 = .ok (.ireturn, 1) := by decide +kernel
theorem dX11_toldNumber_9 : decode cX11_toldNumber 9 = .ok (.aload_n 0, 1) := by decide +kernel
theorem dX11_toldNumber_10 : decode cX11_toldNumber 10 = .ok (.getfield 194, 3) := by decide +kernel
theorem dX11_toldNumber_13 : decode cX11_toldNumber 13 = .ok (.iconst 2, 1) := by decide +kernel
theorem dX11_toldNumber_14 : decode cX11_toldNumber 14 = .ok (.if_icmp .eq 11, 3) := by decide +kernel
theorem dX11_toldNumber_17 : decode cX11_toldNumber 17 = .ok (.aload_n 0, 1) := by decide +kernel
theorem dX11_toldNumber_18 : decode cX11_toldNumber 18 = .ok (.iconst 2, 1) := by decide +kernel
theorem dX11_toldNumber_19 : decode cX11_toldNumber 19 = .ok (.invokevirtual 239, 3) := by decide +kernel
theorem dX11_toldNumber_22 : decode cX11_toldNumber 22 = .ok (.goto 24, 3) := by decide +kernel
theorem dX11_toldNumber_25 : decode cX11_toldNumber 25 = .ok (.aload_n 0, 1) := by decide +kernel
theorem dX11_toldNumber_26 : decode cX11_toldNumber 26 = .ok (.getfield 191, 3) := by decide +kernel
theorem dX11_toldNumber_29 : decode cX11_toldNumber 29 = .ok (.iload_n 1, 1) := by decide +kernel
theorem dX11_toldNumber_30 : decode cX11_toldNumber 30 = .ok (.if_icmp .lt 11, 3) := by decide +kernel
theorem dX11_toldNumber_33 : decode cX11_toldNumber 33 = .ok (.aload_n 0, 1) := by decide +kernel
theorem dX11_toldNumber_34 : decode cX11_toldNumber 34 = .ok (.getfield 191, 3) := by decide +kernel
theorem dX11_toldNumber_37 : decode cX11_toldNumber 37 = .ok (.iload_n 2, 1) := by decide +kernel
theorem dX11_toldNumber_38 : decode cX11_toldNumber 38 = .ok (.if_icmp .le 8, 3) := by decide +kernel
theorem dX11_toldNumber_41 : decode cX11_toldNumber 41 = .ok (.aload_n 0, 1) := by decide +kernel
theorem dX11_toldNumber_42 : decode cX11_toldNumber 42 = .ok (.iconst 4, 1) := by decide +kernel
theorem dX11_toldNumber_43 : decode cX11_toldNumber 43 = .ok (.invokevirtual 239, 3) := by decide +kernel
theorem dX11_toldNumber_46 : decode cX11_toldNumber 46 = .ok (.aload_n 0, 1) := by decide +kernel
theorem dX11_toldNumber_47 : decode cX11_toldNumber 47 = .ok (.getfield 191, 3) := by decide +kernel
theorem dX11_toldNumber_50 : decode cX11_toldNumber 50 = .ok (.istore_n 3, 1) := by decide +kernel
theorem dX11_toldNumber_51 : decode cX11_toldNumber 51 = .ok (.aload_n 0, 1) := by decide +kernel
theorem dX11_toldNumber_52 : decode cX11_toldNumber 52 = .ok (.getfield 204, 3) := by decide +kernel
theorem dX11_toldNumber_55 : decode cX11_toldNumber 55 = .ok (.ifCond .ne 7, 3) := by decide +kernel
theorem dX11_toldNumber_58 : decode cX11_toldNumber 58 = .ok (.aload_n 0, 1) := by decide +kernel
theorem dX11_toldNumber_59 : decode cX11_toldNumber 59 = .ok (.invokevirtual 242, 3) := by decide +kernel
theorem dX11_toldNumber_62 : decode cX11_toldNumber 62 = .ok (.iload_n 3, 1) := by decide +kernel
theorem dX11_toldNumber_63 : decode cX11_toldNumber 63 = .ok (.ireturn, 1) := by decide +kernel
theorem dX11_told_0 : decode cX11_told 0 = .ok (.aload_n 0, 1) := by decide +kernel
theorem dX11_told_1 : decode cX11_told 1 = .ok (.lload_n 1, 1) := by decide +kernel
theorem dX11_told_2 : decode cX11_told 2 = .ok (.invokevirtual 245, 3) := by decide +kernel
theorem dX11_told_5 : decode cX11_told 5 = .ok (.aload_n 0, 1) := by decide +kernel
theorem dX11_told_6 : decode cX11_told 6 = .ok (.iload_n 3, 1) := by decide +kernel
theorem dX11_told_7 : decode cX11_told 7 = .ok (.iload 4, 2) := by decide +kernel
theorem dX11_told_9 : decode cX11_told 9 = .ok (.invokevirtual 249, 3) := by decide +kernel
theorem dX11_told_12 : decode cX11_told 12 = .ok (.ireturn, 1) := by decide +kernel
theorem dX11_find_0 : decode cX11_find 0 = .ok (.iconst (-1), 1) := by decide +kernel
theorem dX11_find_1 : decode cX11_find 1 = .ok (.istore_n 2, 1) := by decide +kernel
theorem dX11_find_2 : decode cX11_find 2 = .ok (.iconst 0, 1) := by decide +kernel
theorem dX11_find_3 : decode cX11_find 3 = .ok (.istore_n 3, 1) := by decide +kernel
theorem dX11_find_4 : decode cX11_find 4 = .ok (.iload_n 3, 1) := by decide +kernel
theorem dX11_find_5 : decode cX11_find 5 = .ok (.aload_n 0, 1) := by decide +kernel
theorem dX11_find_6 : decode cX11_find 6 = .ok (.getfield 21, 3) := by decide +kernel
theorem dX11_find_9 : decode cX11_find 9 = .ok (.iload_n 1, 1) := by decide +kernel
theorem dX11_find_10 : decode cX11_find 10 = .ok (.iaload, 1) := by decide +kernel
theorem dX11_find_11 : decode cX11_find 11 = .ok (.if_icmp .ge 34, 3) := by decide +kernel
theorem dX11_find_14 : decode cX11_find 14 = .ok (.aload_n 0, 1) := by decide +kernel
theorem dX11_find_15 : decode cX11_find 15 = .ok (.getfield 17, 3) := by decide +kernel
theorem dX11_find_18 : decode cX11_find 18 = .ok (.bipush 10, 2) := by decide +kernel
theorem dX11_find_20 : decode cX11_find 20 = .ok (.iload_n 1, 1) := by decide +kernel
theorem dX11_find_21 : decode cX11_find 21 = .ok (.imul, 1) := by decide +kernel
theorem dX11_find_22 : decode cX11_find 22 = .ok (.iload_n 3, 1) := by decide +kernel
theorem dX11_find_23 : decode cX11_find 23 = .ok (.iadd, 1) := by decide +kernel
theorem dX11_find_24 : decode cX11_find 24 = .ok (.laload, 1) := by decide +kernel
theorem dX11_find_25 : decode cX11_find 25 = .ok (.aload_n 0, 1) := by decide +kernel
theorem dX11_find_26 : decode cX11_find 26 = .ok (.getfield 187, 3) := by decide +kernel
theorem dX11_find_29 : decode cX11_find 29 = .ok (.lcmp, 1) := by decide +kernel
theorem dX11_find_30 : decode cX11_find 30 = .ok (.ifCond .ne 7, 3) := by decide +kernel
theorem dX11_find_33 : decode cX11_find 33 = .ok (.iload_n 3, 1) := by decide +kernel
theorem dX11_find_34 : decode cX11_find 34 = .ok (.goto 4, 3) := by decide +kernel
theorem dX11_find_37 : decode cX11_find 37 = .ok (.iload_n 2, 1) := by decide +kernel
theorem dX11_find_38 : decode cX11_find 38 = .ok (.istore_n 2, 1) := by decide +kernel
theorem dX11_find_39 : decode cX11_find 39 = .ok (.iinc 3 1, 3) := by decide +kernel
theorem dX11_find_42 : decode cX11_find 42 = .ok (.goto (-38), 3) := by decide +kernel
theorem dX11_find_45 : decode cX11_find 45 = .ok (.iload_n 2, 1) := by decide +kernel
theorem dX11_find_46 : decode cX11_find 46 = .ok (.ireturn, 1) := by decide +kernel
theorem dX11_readName_0 : decode cX11_readName 0 = .ok (.aload_n 0, 1) := by decide +kernel
theorem dX11_readName_1 : decode cX11_readName 1 = .ok (.invokevirtual 242, 3) := by decide +kernel
theorem dX11_readName_4 : decode cX11_readName 4 = .ok (.aload_n 0, 1) := by decide +kernel
theorem dX11_readName_5 : decode cX11_readName 5 = .ok (.invokevirtual 253, 3) := by decide +kernel
theorem dX11_readName_8 : decode cX11_readName 8 = .ok (.ifCond .ne 11, 3) := by decide +kernel
theorem dX11_readName_11 : decode cX11_readName 11 = .ok (.aload_n 0, 1) := by decide +kernel
theorem dX11_readName_12 : decode cX11_readName 12 = .ok (.iconst 2, 1) := by decide +kernel
theorem dX11_readName_13 : decode cX11_readName 13 = .ok (.invokevirtual 239, 3) := by decide +kernel
theorem dX11_readName_16 : decode cX11_readName 16 = .ok (.goto 16, 3) := by decide +kernel
theorem dX11_readName_19 : decode cX11_readName 19 = .ok (.aload_n 0, 1) := by decide +kernel
theorem dX11_readName_20 : decode cX11_readName 20 = .ok (.iload_n 1, 1) := by decide +kernel
theorem dX11_readName_21 : decode cX11_readName 21 = .ok (.invokevirtual 257, 3) := by decide +kernel
theorem dX11_readName_24 : decode cX11_readName 24 = .ok (.ifCond .lt 8, 3) := by decide +kernel
theorem dX11_readName_27 : decode cX11_readName 27 = .ok (.aload_n 0, 1) := by decide +kernel
theorem dX11_readName_28 : decode cX11_readName 28 = .ok (.iconst 3, 1) := by decide +kernel
theorem dX11_readName_29 : decode cX11_readName 29 = .ok (.invokevirtual 239, 3) := by decide +kernel
theorem dX11_readName_32 : decode cX11_readName 32 = .ok (.aload_n 0, 1) := by decide +kernel
theorem dX11_readName_33 : decode cX11_readName 33 = .ok (.getfield 204, 3) := by decide +kernel
theorem dX11_readName_36 : decode cX11_readName 36 = .ok (.ifCond .le 4, 3) := by decide +kernel
theorem dX11_readName_39 : decode cX11_readName 39 = .ok (.return_, 1) := by decide +kernel
theorem dX11_readName_40 : decode cX11_readName 40 = .ok (.aload_n 0, 1) := by decide +kernel
theorem dX11_readName_41 : decode cX11_readName 41 = .ok (.getfield 17, 3) := by decide +kernel
theorem dX11_readName_44 : decode cX11_readName 44 = .ok (.bipush 10, 2) := by decide +kernel
theorem dX11_readName_46 : decode cX11_readName 46 = .ok (.iload_n 1, 1) := by decide +kernel
theorem dX11_readName_47 : decode cX11_readName 47 = .ok (.imul, 1) := by decide +kernel
theorem dX11_readName_48 : decode cX11_readName 48 = .ok (.aload_n 0, 1) := by decide +kernel
theorem dX11_readName_49 : decode cX11_readName 49 = .ok (.getfield 21, 3) := by decide +kernel
theorem dX11_readName_52 : decode cX11_readName 52 = .ok (.iload_n 1, 1) := by decide +kernel
theorem dX11_readName_53 : decode cX11_readName 53 = .ok (.iaload, 1) := by decide +kernel
theorem dX11_readName_54 : decode cX11_readName 54 = .ok (.iadd, 1) := by decide +kernel
theorem dX11_readName_55 : decode cX11_readName 55 = .ok (.aload_n 0, 1) := by decide +kernel
theorem dX11_readName_56 : decode cX11_readName 56 = .ok (.getfield 187, 3) := by decide +kernel
theorem dX11_readName_59 : decode cX11_readName 59 = .ok (.lastore, 1) := by decide +kernel
theorem dX11_readName_60 : decode cX11_readName 60 = .ok (.aload_n 0, 1) := by decide +kernel
theorem dX11_readName_61 : decode cX11_readName 61 = .ok (.invokevirtual 242, 3) := by decide +kernel
theorem dX11_readName_64 : decode cX11_readName 64 = .ok (.return_, 1) := by decide +kernel
theorem dX11_readBands_0 : decode cX11_readBands 0 = .ok (.aload_n 0, 1) := by decide +kernel
theorem dX11_readBands_1 : decode cX11_readBands 1 = .ok (.ldc2_w 215, 3) := by decide +kernel
theorem dX11_readBands_4 : decode cX11_readBands 4 = .ok (.invokevirtual 245, 3) := by decide +kernel
theorem dX11_readBands_7 : decode cX11_readBands 7 = .ok (.iconst 0, 1) := by decide +kernel
theorem dX11_readBands_8 : decode cX11_readBands 8 = .ok (.istore 4, 2) := by decide +kernel
theorem dX11_readBands_10 : decode cX11_readBands 10 = .ok (.iload 4, 2) := by decide +kernel
theorem dX11_readBands_12 : decode cX11_readBands 12 = .ok (.aload_n 0, 1) := by decide +kernel
theorem dX11_readBands_13 : decode cX11_readBands 13 = .ok (.getfield 260, 3) := by decide +kernel
theorem dX11_readBands_16 : decode cX11_readBands 16 = .ok (.if_icmp .ge 28, 3) := by decide +kernel
theorem dX11_readBands_19 : decode cX11_readBands 19 = .ok (.aload_n 0, 1) := by decide +kernel
theorem dX11_readBands_20 : decode cX11_readBands 20 = .ok (.getfield 204, 3) := by decide +kernel
theorem dX11_readBands_23 : decode cX11_readBands 23 = .ok (.ifCond .ne 21, 3) := by decide +kernel
theorem dX11_readBands_26 : decode cX11_readBands 26 = .ok (.aload_n 1, 1) := by decide +kernel
theorem dX11_readBands_27 : decode cX11_readBands 27 = .ok (.iload_n 2, 1) := by decide +kernel
theorem dX11_readBands_28 : decode cX11_readBands 28 = .ok (.iload 4, 2) := by decide +kernel
theorem dX11_readBands_30 : decode cX11_readBands 30 = .ok (.iadd, 1) := by decide +kernel
theorem dX11_readBands_31 : decode cX11_readBands 31 = .ok (.aload_n 0, 1) := by decide +kernel
theorem dX11_readBands_32 : decode cX11_readBands 32 = .ok (.iconst 0, 1) := by decide +kernel
theorem dX11_readBands_33 : decode cX11_readBands 33 = .ok (.iload_n 3, 1) := by decide +kernel
theorem dX11_readBands_34 : decode cX11_readBands 34 = .ok (.invokevirtual 249, 3) := by decide +kernel
theorem dX11_readBands_37 : decode cX11_readBands 37 = .ok (.iastore, 1) := by decide +kernel
theorem dX11_readBands_38 : decode cX11_readBands 38 = .ok (.iinc 4 1, 3) := by decide +kernel
theorem dX11_readBands_41 : decode cX11_readBands 41 = .ok (.goto (-31), 3) := by decide +kernel
theorem dX11_readBands_44 : decode cX11_readBands 44 = .ok (.return_, 1) := by decide +kernel
theorem dX11_readDye_0 : decode cX11_readDye 0 = .ok (.aload_n 0, 1) := by decide +kernel
theorem dX11_readDye_1 : decode cX11_readDye 1 = .ok (.getfield 21, 3) := by decide +kernel
theorem dX11_readDye_4 : decode cX11_readDye 4 = .ok (.iconst 0, 1) := by decide +kernel
theorem dX11_readDye_5 : decode cX11_readDye 5 = .ok (.iaload, 1) := by decide +kernel
theorem dX11_readDye_6 : decode cX11_readDye 6 = .ok (.istore_n 1, 1) := by decide +kernel
theorem dX11_readDye_7 : decode cX11_readDye 7 = .ok (.aload_n 0, 1) := by decide +kernel
theorem dX11_readDye_8 : decode cX11_readDye 8 = .ok (.iconst 0, 1) := by decide +kernel
theorem dX11_readDye_9 : decode cX11_readDye 9 = .ok (.invokevirtual 263, 3) := by decide +kernel
theorem dX11_readDye_12 : decode cX11_readDye 12 = .ok (.aload_n 0, 1) := by decide +kernel
theorem dX11_readDye_13 : decode cX11_readDye 13 = .ok (.getfield 39, 3) := by decide +kernel
theorem dX11_readDye_16 : decode cX11_readDye 16 = .ok (.iload_n 1, 1) := by decide +kernel
theorem dX11_readDye_17 : decode cX11_readDye 17 = .ok (.aload_n 0, 1) := by decide +kernel
theorem dX11_readDye_18 : decode cX11_readDye 18 = .ok (.ldc2_w 211, 3) := by decide +kernel
theorem dX11_readDye_21 : decode cX11_readDye 21 = .ok (.iconst 0, 1) := by decide +kernel
theorem dX11_readDye_22 : decode cX11_readDye 22 = .ok (.bipush 99, 2) := by decide +kernel
theorem dX11_readDye_24 : decode cX11_readDye 24 = .ok (.invokevirtual 266, 3) := by decide +kernel
theorem dX11_readDye_27 : decode cX11_readDye 27 = .ok (.iastore, 1) := by decide +kernel
theorem dX11_readDye_28 : decode cX11_readDye 28 = .ok (.aload_n 0, 1) := by decide +kernel
theorem dX11_readDye_29 : decode cX11_readDye 29 = .ok (.getfield 42, 3) := by decide +kernel
theorem dX11_readDye_32 : decode cX11_readDye 32 = .ok (.iload_n 1, 1) := by decide +kernel
theorem dX11_readDye_33 : decode cX11_readDye 33 = .ok (.aload_n 0, 1) := by decide +kernel
theorem dX11_readDye_34 : decode cX11_readDye 34 = .ok (.ldc2_w 213, 3) := by decide +kernel
theorem dX11_readDye_37 : decode cX11_readDye 37 = .ok (.iconst 0, 1) := by decide +kernel
theorem dX11_readDye_38 : decode cX11_readDye 38 = .ok (.bipush 99, 2) := by decide +kernel
theorem dX11_readDye_40 : decode cX11_readDye 40 = .ok (.invokevirtual 266, 3) := by decide +kernel
theorem dX11_readDye_43 : decode cX11_readDye 43 = .ok (.iastore, 1) := by decide +kernel
theorem dX11_readDye_44 : decode cX11_readDye 44 = .ok (.aload_n 0, 1) := by decide +kernel
theorem dX11_readDye_45 : decode cX11_readDye 45 = .ok (.aload_n 0, 1) := by decide +kernel
theorem dX11_readDye_46 : decode cX11_readDye 46 = .ok (.getfield 27, 3) := by decide +kernel
theorem dX11_readDye_49 : decode cX11_readDye 49 = .ok (.bipush 16, 2) := by decide +kernel
theorem dX11_readDye_51 : decode cX11_readDye 51 = .ok (.iload_n 1, 1) := by decide +kernel
theorem dX11_readDye_52 : decode cX11_readDye 52 = .ok (.imul, 1) := by decide +kernel
theorem dX11_readDye_53 : decode cX11_readDye 53 = .ok (.bipush 99, 2) := by decide +kernel
theorem dX11_readDye_55 : decode cX11_readDye 55 = .ok (.invokevirtual 270, 3) := by decide +kernel
theorem dX11_readDye_58 : decode cX11_readDye 58 = .ok (.aload_n 0, 1) := by decide +kernel
theorem dX11_readDye_59 : decode cX11_readDye 59 = .ok (.getfield 204, 3) := by decide +kernel
theorem dX11_readDye_62 : decode cX11_readDye 62 = .ok (.ifCond .ne 13, 3) := by decide +kernel
theorem dX11_readDye_65 : decode cX11_readDye 65 = .ok (.aload_n 0, 1) := by decide +kernel
theorem dX11_readDye_66 : decode cX11_readDye 66 = .ok (.getfield 21, 3) := by decide +kernel
theorem dX11_readDye_69 : decode cX11_readDye 69 = .ok (.iconst 0, 1) := by decide +kernel
theorem dX11_readDye_70 : decode cX11_readDye 70 = .ok (.dup2, 1) := by decide +kernel
theorem dX11_readDye_71 : decode cX11_readDye 71 = .ok (.iaload, 1) := by decide +kernel
theorem dX11_readDye_72 : decode cX11_readDye 72 = .ok (.iconst 1, 1) := by decide +kernel
theorem dX11_readDye_73 : decode cX11_readDye 73 = .ok (.iadd, 1) := by decide +kernel
theorem dX11_readDye_74 : decode cX11_readDye 74 = .ok (.iastore, 1) := by decide +kernel
theorem dX11_readDye_75 : decode cX11_readDye 75 = .ok (.return_, 1) := by decide +kernel
theorem dX11_readRow_0 : decode cX11_readRow 0 = .ok (.aload_n 0, 1) := by decide +kernel
theorem dX11_readRow_1 : decode cX11_readRow 1 = .ok (.iload_n 1, 1) := by decide +kernel
theorem dX11_readRow_2 : decode cX11_readRow 2 = .ok (.invokevirtual 263, 3) := by decide +kernel
theorem dX11_readRow_5 : decode cX11_readRow 5 = .ok (.aload_n 0, 1) := by decide +kernel
theorem dX11_readRow_6 : decode cX11_readRow 6 = .ok (.aload_n 2, 1) := by decide +kernel
theorem dX11_readRow_7 : decode cX11_readRow 7 = .ok (.bipush 16, 2) := by decide +kernel
theorem dX11_readRow_9 : decode cX11_readRow 9 = .ok (.aload_n 0, 1) := by decide +kernel
theorem dX11_readRow_10 : decode cX11_readRow 10 = .ok (.getfield 21, 3) := by decide +kernel
theorem dX11_readRow_13 : decode cX11_readRow 13 = .ok (.iload_n 1, 1) := by decide +kernel
theorem dX11_readRow_14 : decode cX11_readRow 14 = .ok (.iaload, 1) := by decide +kernel
theorem dX11_readRow_15 : decode cX11_readRow 15 = .ok (.imul, 1) := by decide +kernel
theorem dX11_readRow_16 : decode cX11_readRow 16 = .ok (.iload_n 3, 1) := by decide +kernel
theorem dX11_readRow_17 : decode cX11_readRow 17 = .ok (.invokevirtual 270, 3) := by decide +kernel
theorem dX11_readRow_20 : decode cX11_readRow 20 = .ok (.aload_n 0, 1) := by decide +kernel
theorem dX11_readRow_21 : decode cX11_readRow 21 = .ok (.getfield 204, 3) := by decide +kernel
theorem dX11_readRow_24 : decode cX11_readRow 24 = .ok (.ifCond .ne 13, 3) := by decide +kernel
theorem dX11_readRow_27 : decode cX11_readRow 27 = .ok (.aload_n 0, 1) := by decide +kernel
theorem dX11_readRow_28 : decode cX11_readRow 28 = .ok (.getfield 21, 3) := by decide +kernel
theorem dX11_readRow_31 : decode cX11_readRow 31 = .ok (.iload_n 1, 1) := by decide +kernel
theorem dX11_readRow_32 : decode cX11_readRow 32 = .ok (.dup2, 1) := by decide +kernel
theorem dX11_readRow_33 : decode cX11_readRow 33 = .ok (.iaload, 1) := by decide +kernel
theorem dX11_readRow_34 : decode cX11_readRow 34 = .ok (.iconst 1, 1) := by decide +kernel
theorem dX11_readRow_35 : decode cX11_readRow 35 = .ok (.iadd, 1) := by decide +kernel
theorem dX11_readRow_36 : decode cX11_readRow 36 = .ok (.iastore, 1) := by decide +kernel
theorem dX11_readRow_37 : decode cX11_readRow 37 = .ok (.return_, 1) := by decide +kernel
theorem dX11_readGood_0 : decode cX11_readGood 0 = .ok (.aload_n 0, 1) := by decide +kernel
theorem dX11_readGood_1 : decode cX11_readGood 1 = .ok (.getfield 21, 3) := by decide +kernel
theorem dX11_readGood_4 : decode cX11_readGood 4 = .ok (.iconst 4, 1) := by decide +kernel
theorem dX11_readGood_5 : decode cX11_readGood 5 = .ok (.iaload, 1) := by decide +kernel
theorem dX11_readGood_6 : decode cX11_readGood 6 = .ok (.istore_n 1, 1) := by decide +kernel
theorem dX11_readGood_7 : decode cX11_readGood 7 = .ok (.aload_n 0, 1) := by decide +kernel
theorem dX11_readGood_8 : decode cX11_readGood 8 = .ok (.iconst 4, 1) := by decide +kernel
theorem dX11_readGood_9 : decode cX11_readGood 9 = .ok (.invokevirtual 263, 3) := by decide +kernel
theorem dX11_readGood_12 : decode cX11_readGood 12 = .ok (.aload_n 0, 1) := by decide +kernel
theorem dX11_readGood_13 : decode cX11_readGood 13 = .ok (.ldc2_w 225, 3) := by decide +kernel
theorem dX11_readGood_16 : decode cX11_readGood 16 = .ok (.invokevirtual 245, 3) := by decide +kernel
theorem dX11_readGood_19 : decode cX11_readGood 19 = .ok (.aload_n 0, 1) := by decide +kernel
theorem dX11_readGood_20 : decode cX11_readGood 20 = .ok (.getfield 204, 3) := by decide +kernel
theorem dX11_readGood_23 : decode cX11_readGood 23 = .ok (.ifCond .le 4, 3) := by decide +kernel
theorem dX11_readGood_26 : decode cX11_readGood 26 = .ok (.return_, 1) := by decide +kernel
theorem dX11_readGood_27 : decode cX11_readGood 27 = .ok (.aload_n 0, 1) := by decide +kernel
theorem dX11_readGood_28 : decode cX11_readGood 28 = .ok (.iconst 1, 1) := by decide +kernel
theorem dX11_readGood_29 : decode cX11_readGood 29 = .ok (.invokevirtual 257, 3) := by decide +kernel
theorem dX11_readGood_32 : decode cX11_readGood 32 = .ok (.istore_n 2, 1) := by decide +kernel
theorem dX11_readGood_33 : decode cX11_readGood 33 = .ok (.aload_n 0, 1) := by decide +kernel
theorem dX11_readGood_34 : decode cX11_readGood 34 = .ok (.invokevirtual 253, 3) := by decide +kernel
theorem dX11_readGood_37 : decode cX11_readGood 37 = .ok (.ifCond .ne 11, 3) := by decide +kernel
theorem dX11_readGood_40 : decode cX11_readGood 40 = .ok (.aload_n 0, 1) := by decide +kernel
theorem dX11_readGood_41 : decode cX11_readGood 41 = .ok (.iconst 2, 1) := by decide +kernel
theorem dX11_readGood_42 : decode cX11_readGood 42 = .ok (.invokevirtual 239, 3) := by decide +kernel
theorem dX11_readGood_45 : decode cX11_readGood 45 = .ok (.goto 12, 3) := by decide +kernel
theorem dX11_readGood_48 : decode cX11_readGood 48 = .ok (.iload_n 2, 1) := by decide +kernel
theorem dX11_readGood_49 : decode cX11_readGood 49 = .ok (.ifCond .ge 8, 3) := by decide +kernel
theorem dX11_readGood_52 : decode cX11_readGood 52 = .ok (.aload_n 0, 1) := by decide +kernel
theorem dX11_readGood_53 : decode cX11_readGood 53 = .ok (.iconst 5, 1) := by decide +kernel
theorem dX11_readGood_54 : decode cX11_readGood 54 = .ok (.invokevirtual 239, 3) := by decide +kernel
theorem dX11_readGood_57 : decode cX11_readGood 57 = .ok (.aload_n 0, 1) := by decide +kernel
theorem dX11_readGood_58 : decode cX11_readGood 58 = .ok (.getfield 204, 3) := by decide +kernel
theorem dX11_readGood_61 : decode cX11_readGood 61 = .ok (.ifCond .ne 7, 3) := by decide +kernel
theorem dX11_readGood_64 : decode cX11_readGood 64 = .ok (.aload_n 0, 1) := by decide +kernel
theorem dX11_readGood_65 : decode cX11_readGood 65 = .ok (.invokevirtual 242, 3) := by decide +kernel
theorem dX11_readGood_68 : decode cX11_readGood 68 = .ok (.aload_n 0, 1) := by decide +kernel
theorem dX11_readGood_69 : decode cX11_readGood 69 = .ok (.getfield 45, 3) := by decide +kernel
theorem dX11_readGood_72 : decode cX11_readGood 72 = .ok (.iload_n 1, 1) := by decide +kernel
theorem dX11_readGood_73 : decode cX11_readGood 73 = .ok (.iload_n 2, 1) := by decide +kernel
theorem dX11_readGood_74 : decode cX11_readGood 74 = .ok (.iastore, 1) := by decide +kernel
theorem dX11_readGood_75 : decode cX11_readGood 75 = .ok (.aload_n 0, 1) := by decide +kernel
theorem dX11_readGood_76 : decode cX11_readGood 76 = .ok (.ldc2_w 215, 3) := by decide +kernel
theorem dX11_readGood_79 : decode cX11_readGood 79 = .ok (.invokevirtual 245, 3) := by decide +kernel
theorem dX11_readGood_82 : decode cX11_readGood 82 = .ok (.aload_n 0, 1) := by decide +kernel
theorem dX11_readGood_83 : decode cX11_readGood 83 = .ok (.getfield 274, 3) := by decide +kernel
theorem dX11_readGood_86 : decode cX11_readGood 86 = .ok (.istore_n 3, 1) := by decide +kernel
theorem dX11_readGood_87 : decode cX11_readGood 87 = .ok (.iconst 0, 1) := by decide +kernel
theorem dX11_readGood_88 : decode cX11_readGood 88 = .ok (.istore 4, 2) := by decide +kernel
theorem dX11_readGood_90 : decode cX11_readGood 90 = .ok (.iload 4, 2) := by decide +kernel
theorem dX11_readGood_92 : decode cX11_readGood 92 = .ok (.aload_n 0, 1) := by decide +kernel
theorem dX11_readGood_93 : decode cX11_readGood 93 = .ok (.getfield 21, 3) := by decide +kernel
theorem dX11_readGood_96 : decode cX11_readGood 96 = .ok (.iconst 0, 1) := by decide +kernel
theorem dX11_readGood_97 : decode cX11_readGood 97 = .ok (.iaload, 1) := by decide +kernel
theorem dX11_readGood_98 : decode cX11_readGood 98 = .ok (.if_icmp .ge 43, 3) := by decide +kernel
theorem dX11_readGood_101 : decode cX11_readGood 101 = .ok (.aload_n 0, 1) := by decide +kernel
theorem dX11_readGood_102 : decode cX11_readGood 102 = .ok (.getfield 204, 3) := by decide +kernel
theorem dX11_readGood_105 : decode cX11_readGood 105 = .ok (.ifCond .ne 36, 3) := by decide +kernel
theorem dX11_readGood_108 : decode cX11_readGood 108 = .ok (.aload_n 0, 1) := by decide +kernel
theorem dX11_readGood_109 : decode cX11_readGood 109 = .ok (.iconst 0, 1) := by decide +kernel
theorem dX11_readGood_110 : decode cX11_readGood 110 = .ok (.iload_n 3, 1) := by decide +kernel
theorem dX11_readGood_111 : decode cX11_readGood 111 = .ok (.invokevirtual 249, 3) := by decide +kernel
theorem dX11_readGood_114 : decode cX11_readGood 114 = .ok (.istore 5, 2) := by decide +kernel
theorem dX11_readGood_116 : decode cX11_readGood 116 = .ok (.aload_n 0, 1) := by decide +kernel
theorem dX11_readGood_117 : decode cX11_readGood 117 = .ok (.getfield 48, 3) := by decide +kernel
theorem dX11_readGood_120 : decode cX11_readGood 120 = .ok (.bipush 8, 2) := by decide +kernel
theorem dX11_readGood_122 : decode cX11_readGood 122 = .ok (.iload_n 1, 1) := by decide +kernel
theorem dX11_readGood_123 : decode cX11_readGood 123 = .ok (.imul, 1) := by decide +kernel
theorem dX11_readGood_124 : decode cX11_readGood 124 = .ok (.iload 4, 2) := by decide +kernel
theorem dX11_readGood_126 : decode cX11_readGood 126 = .ok (.iadd, 1) := by decide +kernel
theorem dX11_readGood_127 : decode cX11_readGood 127 = .ok (.iload 5, 2) := by decide +kernel
theorem dX11_readGood_129 : decode cX11_readGood 129 = .ok (.iastore, 1) := by decide +kernel
theorem dX11_readGood_130 : decode cX11_readGood 130 = .ok (.iload_n 3, 1) := by decide +kernel
theorem dX11_readGood_131 : decode cX11_readGood 131 = .ok (.iload 5, 2) := by decide +kernel
theorem dX11_readGood_133 : decode cX11_readGood 133 = .ok (.isub, 1) := by decide +kernel
theorem dX11_readGood_134 : decode cX11_readGood 134 = .ok (.istore_n 3, 1) := by decide +kernel
theorem dX11_readGood_135 : decode cX11_readGood 135 = .ok (.iinc 4 1, 3) := by decide +kernel
theorem dX11_readGood_138 : decode cX11_readGood 138 = .ok (.goto (-48), 3) := by decide +kernel
theorem dX11_readGood_141 : decode cX11_readGood 141 = .ok (.aload_n 0, 1) := by decide +kernel
theorem dX11_readGood_142 : decode cX11_readGood 142 = .ok (.getfield 204, 3) := by decide +kernel
theorem dX11_readGood_145 : decode cX11_readGood 145 = .ok (.ifCond .ne 13, 3) := by decide +kernel
theorem dX11_readGood_148 : decode cX11_readGood 148 = .ok (.aload_n 0, 1) := by decide +kernel
theorem dX11_readGood_149 : decode cX11_readGood 149 = .ok (.getfield 21, 3) := by decide +kernel
theorem dX11_readGood_152 : decode cX11_readGood 152 = .ok (.iconst 4, 1) := by decide +kernel
theorem dX11_readGood_153 : decode cX11_readGood 153 = .ok (.dup2, 1) := by decide +kernel
theorem dX11_readGood_154 : decode cX11_readGood 154 = .ok (.iaload, 1) := by decide +kernel
theorem dX11_readGood_155 : decode cX11_readGood 155 = .ok (.iconst 1, 1) := by decide +kernel
theorem dX11_readGood_156 : decode cX11_readGood 156 = .ok (.iadd, 1) := by decide +kernel
theorem dX11_readGood_157 : decode cX11_readGood 157 = .ok (.iastore, 1) := by decide +kernel
theorem dX11_readGood_158 : decode cX11_readGood 158 = .ok (.return_, 1) := by decide +kernel
theorem dX11_hasRows_0 : decode cX11_hasRows 0 = .ok (.aload_n 0, 1) := by decide +kernel
theorem dX11_hasRows_1 : decode cX11_hasRows 1 = .ok (.getfield 21, 3) := by decide +kernel
theorem dX11_hasRows_4 : decode cX11_hasRows 4 = .ok (.iconst 0, 1) := by decide +kernel
theorem dX11_hasRows_5 : decode cX11_hasRows 5 = .ok (.iaload, 1) := by decide +kernel
theorem dX11_hasRows_6 : decode cX11_hasRows 6 = .ok (.aload_n 0, 1) := by decide +kernel
theorem dX11_hasRows_7 : decode cX11_hasRows 7 = .ok (.getfield 21, 3) := by decide +kernel
theorem dX11_hasRows_10 : decode cX11_hasRows 10 = .ok (.iconst 1, 1) := by decide +kernel
theorem dX11_hasRows_11 : decode cX11_hasRows 11 = .ok (.iaload, 1) := by decide +kernel
theorem dX11_hasRows_12 : decode cX11_hasRows 12 = .ok (.iadd, 1) := by decide +kernel
theorem dX11_hasRows_13 : decode cX11_hasRows 13 = .ok (.aload_n 0, 1) := by decide +kernel
theorem dX11_hasRows_14 : decode cX11_hasRows 14 = .ok (.getfield 21, 3) := by decide +kernel
theorem dX11_hasRows_17 : decode cX11_hasRows 17 = .ok (.iconst 2, 1) := by decide +kernel
theorem dX11_hasRows_18 : decode cX11_hasRows 18 = .ok (.iaload, 1) := by decide +kernel
theorem dX11_hasRows_19 : decode cX11_hasRows 19 = .ok (.iadd, 1) := by decide +kernel
theorem dX11_hasRows_20 : decode cX11_hasRows 20 = .ok (.aload_n 0, 1) := by decide +kernel
theorem dX11_hasRows_21 : decode cX11_hasRows 21 = .ok (.getfield 21, 3) := by decide +kernel
theorem dX11_hasRows_24 : decode cX11_hasRows 24 = .ok (.iconst 3, 1) := by decide +kernel
theorem dX11_hasRows_25 : decode cX11_hasRows 25 = .ok (.iaload, 1) := by decide +kernel
theorem dX11_hasRows_26 : decode cX11_hasRows 26 = .ok (.iadd, 1) := by decide +kernel
theorem dX11_hasRows_27 : decode cX11_hasRows 27 = .ok (.ifCond .le 7, 3) := by decide +kernel
theorem dX11_hasRows_30 : decode cX11_hasRows 30 = .ok (.iconst 1, 1) := by decide +kernel
theorem dX11_hasRows_31 : decode cX11_hasRows 31 = .ok (.goto 4, 3) := by decide +kernel
theorem dX11_hasRows_34 : decode cX11_hasRows 34 = .ok (.iconst 0, 1) := by decide +kernel
theorem dX11_hasRows_35 : decode cX11_hasRows 35 = .ok (.ireturn, 1) := by decide +kernel
theorem dX11_readNumber_0 : decode cX11_readNumber 0 = .ok (.aload_n 0, 1) := by decide +kernel
theorem dX11_readNumber_1 : decode cX11_readNumber 1 = .ok (.invokevirtual 242, 3) := by decide +kernel
theorem dX11_readNumber_4 : decode cX11_readNumber 4 = .ok (.aload_n 0, 1) := by decide +kernel
theorem dX11_readNumber_5 : decode cX11_readNumber 5 = .ok (.iload_n 1, 1) := by decide +kernel
theorem dX11_readNumber_6 : decode cX11_readNumber 6 = .ok (.iload_n 2, 1) := by decide +kernel
theorem dX11_readNumber_7 : decode cX11_readNumber 7 = .ok (.invokevirtual 249, 3) := by decide +kernel
theorem dX11_readNumber_10 : decode cX11_readNumber 10 = .ok (.ireturn, 1) := by decide +kernel
theorem dX11_readOver_0 : decode cX11_readOver 0 = .ok (.aload_n 0, 1) := by decide +kernel
theorem dX11_readOver_1 : decode cX11_readOver 1 = .ok (.invokevirtual 242, 3) := by decide +kernel
theorem dX11_readOver_4 : decode cX11_readOver 4 = .ok (.aload_n 0, 1) := by decide +kernel
theorem dX11_readOver_5 : decode cX11_readOver 5 = .ok (.iconst 1, 1) := by decide +kernel
theorem dX11_readOver_6 : decode cX11_readOver 6 = .ok (.putfield 277, 3) := by decide +kernel
theorem dX11_readOver_9 : decode cX11_readOver 9 = .ok (.return_, 1) := by decide +kernel
theorem dX11_isNumberLine_0 : decode cX11_isNumberLine 0 = .ok (.aload_n 0, 1) := by decide +kernel
theorem dX11_isNumberLine_1 : decode cX11_isNumberLine 1 = .ok (.ldc2_w 207, 3) := by decide +kernel
theorem dX11_isNumberLine_4 : decode cX11_isNumberLine 4 = .ok (.invokevirtual 235, 3) := by decide +kernel
theorem dX11_isNumberLine_7 : decode cX11_isNumberLine 7 = .ok (.ifCond .eq 17, 3) := by decide +kernel
theorem dX11_isNumberLine_10 : decode cX11_isNumberLine 10 = .ok (.aload_n 0, 1) := by decide +kernel
theorem dX11_isNumberLine_11 : decode cX11_isNumberLine 11 = .ok (.getfield 281, 3) := by decide +kernel
theorem dX11_isNumberLine_14 : decode cX11_isNumberLine 14 = .ok (.ifCond .ne 10, 3) := by decide +kernel
theorem dX11_isNumberLine_17 : decode cX11_isNumberLine 17 = .ok (.aload_n 0, 1) := by decide +kernel
theorem dX11_isNumberLine_18 : decode cX11_isNumberLine 18 = .ok (.invokevirtual 284, 3) := by decide +kernel
theorem dX11_isNumberLine_21 : decode cX11_isNumberLine 21 = .ok (.ifCond .eq 63, 3) := by decide +kernel
theorem dX11_isNumberLine_24 : decode cX11_isNumberLine 24 = .ok (.aload_n 0, 1) := by decide +kernel
theorem dX11_isNumberLine_25 : decode cX11_isNumberLine 25 = .ok (.ldc2_w 227, 3) := by decide +kernel
theorem dX11_isNumberLine_28 : decode cX11_isNumberLine 28 = .ok (.invokevirtual 235, 3) := by decide +kernel
theorem dX11_isNumberLine_31 : decode cX11_isNumberLine 31 = .ok (.ifCond .eq 19, 3) := by decide +kernel
theorem dX11_isNumberLine_34 : decode cX11_isNumberLine 34 = .ok (.aload_n 0, 1) := by decide +kernel
theorem dX11_isNumberLine_35 : decode cX11_isNumberLine 35 = .ok (.getfield 287, 3) := by decide +kernel
theorem dX11_isNumberLine_38 : decode cX11_isNumberLine 38 = .ok (.ifCond .ne 12, 3) := by decide +kernel
theorem dX11_isNumberLine_41 : decode cX11_isNumberLine 41 = .ok (.aload_n 0, 1) := by decide +kernel
theorem dX11_isNumberLine_42 : decode cX11_isNumberLine 42 = .ok (.getfield 21, 3) := by decide +kernel
theorem dX11_isNumberLine_45 : decode cX11_isNumberLine 45 = .ok (.iconst 4, 1) := by decide +kernel
theorem dX11_isNumberLine_46 : decode cX11_isNumberLine 46 = .ok (.iaload, 1) := by decide +kernel
theorem dX11_isNumberLine_47 : decode cX11_isNumberLine 47 = .ok (.ifCond .eq 37, 3) := by decide +kernel
theorem dX11_isNumberLine_50 : decode cX11_isNumberLine 50 = .ok (.aload_n 0, 1) := by decide +kernel
theorem dX11_isNumberLine_51 : decode cX11_isNumberLine 51 = .ok (.ldc2_w 229, 3) := by decide +kernel
theorem dX11_isNumberLine_54 : decode cX11_isNumberLine 54 = .ok (.invokevirtual 235, 3) := by decide +kernel
theorem dX11_isNumberLine_57 : decode cX11_isNumberLine 57 = .ok (.ifCond .eq 10, 3) := by decide +kernel
theorem dX11_isNumberLine_60 : decode cX11_isNumberLine 60 = .ok (.aload_n 0, 1) := by decide +kernel
theorem dX11_isNumberLine_61 : decode cX11_isNumberLine 61 = .ok (.getfield 290, 3) := by decide +kernel
theorem dX11_isNumberLine_64 : decode cX11_isNumberLine 64 = .ok (.ifCond .eq 20, 3) := by decide +kernel
theorem dX11_isNumberLine_67 : decode cX11_isNumberLine 67 = .ok (.aload_n 0, 1) := by decide +kernel
theorem dX11_isNumberLine_68 : decode cX11_isNumberLine 68 = .ok (.ldc2_w 233, 3) := by decide +kernel
theorem dX11_isNumberLine_71 : decode cX11_isNumberLine 71 = .ok (.invokevirtual 235, 3) := by decide +kernel
theorem dX11_isNumberLine_74 : decode cX11_isNumberLine 74 = .ok (.ifCond .eq 14, 3) := by decide +kernel
theorem dX11_isNumberLine_77 : decode cX11_isNumberLine 77 = .ok (.aload_n 0, 1) := by decide +kernel
theorem dX11_isNumberLine_78 : decode cX11_isNumberLine 78 = .ok (.getfield 293, 3) := by decide +kernel
theorem dX11_isNumberLine_81 : decode cX11_isNumberLine 81 = .ok (.ifCond .ne 7, 3) := by decide +kernel
theorem dX11_isNumberLine_84 : decode cX11_isNumberLine 84 = .ok (.iconst 1, 1) := by decide +kernel
theorem dX11_isNumberLine_85 : decode cX11_isNumberLine 85 = .ok (.goto 4, 3) := by decide +kernel
theorem dX11_isNumberLine_88 : decode cX11_isNumberLine 88 = .ok (.iconst 0, 1) := by decide +kernel
theorem dX11_isNumberLine_89 : decode cX11_isNumberLine 89 = .ok (.ireturn, 1) := by decide +kernel
theorem dX11_readNumberLine_0 : decode cX11_readNumberLine 0 = .ok (.aload_n 0, 1) := by decide +kernel
theorem dX11_readNumberLine_1 : decode cX11_readNumberLine 1 = .ok (.ldc2_w 207, 3) := by decide +kernel
theorem dX11_readNumberLine_4 : decode cX11_readNumberLine 4 = .ok (.invokevirtual 235, 3) := by decide +kernel
theorem dX11_readNumberLine_7 : decode cX11_readNumberLine 7 = .ok (.ifCond .eq 22, 3) := by decide +kernel
theorem dX11_readNumberLine_10 : decode cX11_readNumberLine 10 = .ok (.aload_n 0, 1) := by decide +kernel
theorem dX11_readNumberLine_11 : decode cX11_readNumberLine 11 = .ok (.iconst 1, 1) := by decide +kernel
theorem dX11_readNumberLine_12 : decode cX11_readNumberLine 12 = .ok (.putfield 281, 3) := by decide +kernel
theorem dX11_readNumberLine_15 : decode cX11_readNumberLine 15 = .ok (.aload_n 0, 1) := by decide +kernel
theorem dX11_readNumberLine_16 : decode cX11_readNumberLine 16 = .ok (.aload_n 0, 1) := by decide +kernel
theorem dX11_readNumberLine_17 : decode cX11_readNumberLine 17 = .ok (.iconst 1, 1) := by decide +kernel
theorem dX11_readNumberLine_18 : decode cX11_readNumberLine 18 = .ok (.bipush 16, 2) := by decide +kernel
theorem dX11_readNumberLine_20 : decode cX11_readNumberLine 20 = .ok (.invokevirtual 296, 3) := by decide +kernel
theorem dX11_readNumberLine_23 : decode cX11_readNumberLine 23 = .ok (.putfield 260, 3) := by decide +kernel
theorem dX11_readNumberLine_26 : decode cX11_readNumberLine 26 = .ok (.goto 78, 3) := by decide +kernel
theorem dX11_readNumberLine_29 : decode cX11_readNumberLine 29 = .ok (.aload_n 0, 1) := by decide +kernel
theorem dX11_readNumberLine_30 : decode cX11_readNumberLine 30 = .ok (.ldc2_w 227, 3) := by decide +kernel
theorem dX11_readNumberLine_33 : decode cX11_readNumberLine 33 = .ok (.invokevirtual 235, 3) := by decide +kernel
theorem dX11_readNumberLine_36 : decode cX11_readNumberLine 36 = .ok (.ifCond .eq 22, 3) := by decide +kernel
theorem dX11_readNumberLine_39 : decode cX11_readNumberLine 39 = .ok (.aload_n 0, 1) := by decide +kernel
theorem dX11_readNumberLine_40 : decode cX11_readNumberLine 40 = .ok (.iconst 1, 1) := by decide +kernel
theorem dX11_readNumberLine_41 : decode cX11_readNumberLine 41 = .ok (.putfield 287, 3) := by decide +kernel
theorem dX11_readNumberLine_44 : decode cX11_readNumberLine 44 = .ok (.aload_n 0, 1) := by decide +kernel
theorem dX11_readNumberLine_45 : decode cX11_readNumberLine 45 = .ok (.aload_n 0, 1) := by decide +kernel
theorem dX11_readNumberLine_46 : decode cX11_readNumberLine 46 = .ok (.iconst 1, 1) := by decide +kernel
theorem dX11_readNumberLine_47 : decode cX11_readNumberLine 47 = .ok (.bipush 24, 2) := by decide +kernel
theorem dX11_readNumberLine_49 : decode cX11_readNumberLine 49 = .ok (.invokevirtual 296, 3) := by decide +kernel
theorem dX11_readNumberLine_52 : decode cX11_readNumberLine 52 = .ok (.putfield 274, 3) := by decide +kernel
theorem dX11_readNumberLine_55 : decode cX11_readNumberLine 55 = .ok (.goto 49, 3) := by decide +kernel
theorem dX11_readNumberLine_58 : decode cX11_readNumberLine 58 = .ok (.aload_n 0, 1) := by decide +kernel
theorem dX11_readNumberLine_59 : decode cX11_readNumberLine 59 = .ok (.ldc2_w 229, 3) := by decide +kernel
theorem dX11_readNumberLine_62 : decode cX11_readNumberLine 62 = .ok (.invokevirtual 235, 3) := by decide +kernel
theorem dX11_readNumberLine_65 : decode cX11_readNumberLine 65 = .ok (.ifCond .eq 23, 3) := by decide +kernel
theorem dX11_readNumberLine_68 : decode cX11_readNumberLine 68 = .ok (.aload_n 0, 1) := by decide +kernel
theorem dX11_readNumberLine_69 : decode cX11_readNumberLine 69 = .ok (.iconst 1, 1) := by decide +kernel
theorem dX11_readNumberLine_70 : decode cX11_readNumberLine 70 = .ok (.putfield 290, 3) := by decide +kernel
theorem dX11_readNumberLine_73 : decode cX11_readNumberLine 73 = .ok (.aload_n 0, 1) := by decide +kernel
theorem dX11_readNumberLine_74 : decode cX11_readNumberLine 74 = .ok (.aload_n 0, 1) := by decide +kernel
theorem dX11_readNumberLine_75 : decode cX11_readNumberLine 75 = .ok (.iconst 0, 1) := by decide +kernel
theorem dX11_readNumberLine_76 : decode cX11_readNumberLine 76 = .ok (.sipush 9999, 3) := by decide +kernel
theorem dX11_readNumberLine_79 : decode cX11_readNumberLine 79 = .ok (.invokevirtual 296, 3) := by decide +kernel
theorem dX11_readNumberLine_82 : decode cX11_readNumberLine 82 = .ok (.putfield 299, 3) := by decide +kernel
theorem dX11_readNumberLine_85 : decode cX11_readNumberLine 85 = .ok (.goto 19, 3) := by decide +kernel
theorem dX11_readNumberLine_88 : decode cX11_readNumberLine 88 = .ok (.aload_n 0, 1) := by decide +kernel
theorem dX11_readNumberLine_89 : decode cX11_readNumberLine 89 = .ok (.iconst 1, 1) := by decide +kernel
theorem dX11_readNumberLine_90 : decode cX11_readNumberLine 90 = .ok (.putfield 293, 3) := by decide +kernel
theorem dX11_readNumberLine_93 : decode cX11_readNumberLine 93 = .ok (.aload_n 0, 1) := by decide +kernel
theorem dX11_readNumberLine_94 : decode cX11_readNumberLine 94 = .ok (.aload_n 0, 1) := by decide +kernel
theorem dX11_readNumberLine_95 : decode cX11_readNumberLine 95 = .ok (.iconst 0, 1) := by decide +kernel
theorem dX11_readNumberLine_96 : decode cX11_readNumberLine 96 = .ok (.bipush 9, 2) := by decide +kernel
theorem dX11_readNumberLine_98 : decode cX11_readNumberLine 98 = .ok (.invokevirtual 296, 3) := by decide +kernel
theorem dX11_readNumberLine_101 : decode cX11_readNumberLine 101 = .ok (.putfield 302, 3) := by decide +kernel
theorem dX11_readNumberLine_104 : decode cX11_readNumberLine 104 = .ok (.return_, 1) := by decide +kernel
theorem dX11_readLine_0 : decode cX11_readLine 0 = .ok (.aload_n 0, 1) := by decide +kernel
theorem dX11_readLine_1 : decode cX11_readLine 1 = .ok (.invokevirtual 305, 3) := by decide +kernel
theorem dX11_readLine_4 : decode cX11_readLine 4 = .ok (.ifCond .eq 10, 3) := by decide +kernel
theorem dX11_readLine_7 : decode cX11_readLine 7 = .ok (.aload_n 0, 1) := by decide +kernel
theorem dX11_readLine_8 : decode cX11_readLine 8 = .ok (.invokevirtual 308, 3) := by decide +kernel
theorem dX11_readLine_11 : decode cX11_readLine 11 = .ok (.goto 209, 3) := by decide +kernel
theorem dX11_readLine_14 : decode cX11_readLine 14 = .ok (.aload_n 0, 1) := by decide +kernel
theorem dX11_readLine_15 : decode cX11_readLine 15 = .ok (.ldc2_w 209, 3) := by decide +kernel
theorem dX11_readLine_18 : decode cX11_readLine 18 = .ok (.invokevirtual 235, 3) := by decide +kernel
theorem dX11_readLine_21 : decode cX11_readLine 21 = .ok (.ifCond .eq 30, 3) := by decide +kernel
theorem dX11_readLine_24 : decode cX11_readLine 24 = .ok (.aload_n 0, 1) := by decide +kernel
theorem dX11_readLine_25 : decode cX11_readLine 25 = .ok (.getfield 21, 3) := by decide +kernel
theorem dX11_readLine_28 : decode cX11_readLine 28 = .ok (.iconst 0, 1) := by decide +kernel
theorem dX11_readLine_29 : decode cX11_readLine 29 = .ok (.iaload, 1) := by decide +kernel
theorem dX11_readLine_30 : decode cX11_readLine 30 = .ok (.bipush 8, 2) := by decide +kernel
theorem dX11_readLine_32 : decode cX11_readLine 32 = .ok (.if_icmp .ge 19, 3) := by decide +kernel
theorem dX11_readLine_35 : decode cX11_readLine 35 = .ok (.aload_n 0, 1) := by decide +kernel
theorem dX11_readLine_36 : decode cX11_readLine 36 = .ok (.getfield 21, 3) := by decide +kernel
theorem dX11_readLine_39 : decode cX11_readLine 39 = .ok (.iconst 4, 1) := by decide +kernel
theorem dX11_readLine_40 : decode cX11_readLine 40 = .ok (.iaload, 1) := by decide +kernel
theorem dX11_readLine_41 : decode cX11_readLine 41 = .ok (.ifCond .ne 10, 3) := by decide +kernel
theorem dX11_readLine_44 : decode cX11_readLine 44 = .ok (.aload_n 0, 1) := by decide +kernel
theorem dX11_readLine_45 : decode cX11_readLine 45 = .ok (.invokevirtual 311, 3) := by decide +kernel
theorem dX11_readLine_48 : decode cX11_readLine 48 = .ok (.goto 172, 3) := by decide +kernel
theorem dX11_readLine_51 : decode cX11_readLine 51 = .ok (.aload_n 0, 1) := by decide +kernel
theorem dX11_readLine_52 : decode cX11_readLine 52 = .ok (.ldc2_w 217, 3) := by decide +kernel
theorem dX11_readLine_55 : decode cX11_readLine 55 = .ok (.invokevirtual 235, 3) := by decide +kernel
theorem dX11_readLine_58 : decode cX11_readLine 58 = .ok (.ifCond .eq 27, 3) := by decide +kernel
theorem dX11_readLine_61 : decode cX11_readLine 61 = .ok (.aload_n 0, 1) := by decide +kernel
theorem dX11_readLine_62 : decode cX11_readLine 62 = .ok (.getfield 21, 3) := by decide +kernel
theorem dX11_readLine_65 : decode cX11_readLine 65 = .ok (.iconst 1, 1) := by decide +kernel
theorem dX11_readLine_66 : decode cX11_readLine 66 = .ok (.iaload, 1) := by decide +kernel
theorem dX11_readLine_67 : decode cX11_readLine 67 = .ok (.iconst 4, 1) := by decide +kernel
theorem dX11_readLine_68 : decode cX11_readLine 68 = .ok (.if_icmp .ge 17, 3) := by decide +kernel
theorem dX11_readLine_71 : decode cX11_readLine 71 = .ok (.aload_n 0, 1) := by decide +kernel
theorem dX11_readLine_72 : decode cX11_readLine 72 = .ok (.iconst 1, 1) := by decide +kernel
theorem dX11_readLine_73 : decode cX11_readLine 73 = .ok (.aload_n 0, 1) := by decide +kernel
theorem dX11_readLine_74 : decode cX11_readLine 74 = .ok (.getfield 30, 3) := by decide +kernel
theorem dX11_readLine_77 : decode cX11_readLine 77 = .ok (.bipush 99, 2) := by decide +kernel
theorem dX11_readLine_79 : decode cX11_readLine 79 = .ok (.invokevirtual 314, 3) := by decide +kernel
theorem dX11_readLine_82 : decode cX11_readLine 82 = .ok (.goto 138, 3) := by decide +kernel
theorem dX11_readLine_85 : decode cX11_readLine 85 = .ok (.aload_n 0, 1) := by decide +kernel
theorem dX11_readLine_86 : decode cX11_readLine 86 = .ok (.ldc2_w 219, 3) := by decide +kernel
theorem dX11_readLine_89 : decode cX11_readLine 89 = .ok (.invokevirtual 235, 3) := by decide +kernel
theorem dX11_readLine_92 : decode cX11_readLine 92 = .ok (.ifCond .eq 28, 3) := by decide +kernel
theorem dX11_readLine_95 : decode cX11_readLine 95 = .ok (.aload_n 0, 1) := by decide +kernel
theorem dX11_readLine_96 : decode cX11_readLine 96 = .ok (.getfield 21, 3) := by decide +kernel
theorem dX11_readLine_99 : decode cX11_readLine 99 = .ok (.iconst 2, 1) := by decide +kernel
theorem dX11_readLine_100 : decode cX11_readLine 100 = .ok (.iaload, 1) := by decide +kernel
theorem dX11_readLine_101 : decode cX11_readLine 101 = .ok (.bipush 6, 2) := by decide +kernel
theorem dX11_readLine_103 : decode cX11_readLine 103 = .ok (.if_icmp .ge 17, 3) := by decide +kernel
theorem dX11_readLine_106 : decode cX11_readLine 106 = .ok (.aload_n 0, 1) := by decide +kernel
theorem dX11_readLine_107 : decode cX11_readLine 107 = .ok (.iconst 2, 1) := by decide +kernel
theorem dX11_readLine_108 : decode cX11_readLine 108 = .ok (.aload_n 0, 1) := by decide +kernel
theorem dX11_readLine_109 : decode cX11_readLine 109 = .ok (.getfield 33, 3) := by decide +kernel
theorem dX11_readLine_112 : decode cX11_readLine 112 = .ok (.bipush 99, 2) := by decide +kernel
theorem dX11_readLine_114 : decode cX11_readLine 114 = .ok (.invokevirtual 314, 3) := by decide +kernel
theorem dX11_readLine_117 : decode cX11_readLine 117 = .ok (.goto 103, 3) := by decide +kernel
theorem dX11_readLine_120 : decode cX11_readLine 120 = .ok (.aload_n 0, 1) := by decide +kernel
theorem dX11_readLine_121 : decode cX11_readLine 121 = .ok (.ldc2_w 221, 3) := by decide +kernel
theorem dX11_readLine_124 : decode cX11_readLine 124 = .ok (.invokevirtual 235, 3) := by decide +kernel
theorem dX11_readLine_127 : decode cX11_readLine 127 = .ok (.ifCond .eq 27, 3) := by decide +kernel
theorem dX11_readLine_130 : decode cX11_readLine 130 = .ok (.aload_n 0, 1) := by decide +kernel
theorem dX11_readLine_131 : decode cX11_readLine 131 = .ok (.getfield 21, 3) := by decide +kernel
theorem dX11_readLine_134 : decode cX11_readLine 134 = .ok (.iconst 3, 1) := by decide +kernel
theorem dX11_readLine_135 : decode cX11_readLine 135 = .ok (.iaload, 1) := by decide +kernel
theorem dX11_readLine_136 : decode cX11_readLine 136 = .ok (.iconst 4, 1) := by decide +kernel
theorem dX11_readLine_137 : decode cX11_readLine 137 = .ok (.if_icmp .ge 17, 3) := by decide +kernel
theorem dX11_readLine_140 : decode cX11_readLine 140 = .ok (.aload_n 0, 1) := by decide +kernel
theorem dX11_readLine_141 : decode cX11_readLine 141 = .ok (.iconst 3, 1) := by decide +kernel
theorem dX11_readLine_142 : decode cX11_readLine 142 = .ok (.aload_n 0, 1) := by decide +kernel
theorem dX11_readLine_143 : decode cX11_readLine 143 = .ok (.getfield 36, 3) := by decide +kernel
theorem dX11_readLine_146 : decode cX11_readLine 146 = .ok (.bipush 9, 2) := by decide +kernel
theorem dX11_readLine_148 : decode cX11_readLine 148 = .ok (.invokevirtual 314, 3) := by decide +kernel
theorem dX11_readLine_151 : decode cX11_readLine 151 = .ok (.goto 69, 3) := by decide +kernel
theorem dX11_readLine_154 : decode cX11_readLine 154 = .ok (.aload_n 0, 1) := by decide +kernel
theorem dX11_readLine_155 : decode cX11_readLine 155 = .ok (.ldc2_w 223, 3) := by decide +kernel
theorem dX11_readLine_158 : decode cX11_readLine 158 = .ok (.invokevirtual 235, 3) := by decide +kernel
theorem dX11_readLine_161 : decode cX11_readLine 161 = .ok (.ifCond .eq 30, 3) := by decide +kernel
theorem dX11_readLine_164 : decode cX11_readLine 164 = .ok (.aload_n 0, 1) := by decide +kernel
theorem dX11_readLine_165 : decode cX11_readLine 165 = .ok (.getfield 21, 3) := by decide +kernel
theorem dX11_readLine_168 : decode cX11_readLine 168 = .ok (.iconst 4, 1) := by decide +kernel
theorem dX11_readLine_169 : decode cX11_readLine 169 = .ok (.iaload, 1) := by decide +kernel
theorem dX11_readLine_170 : decode cX11_readLine 170 = .ok (.bipush 8, 2) := by decide +kernel
theorem dX11_readLine_172 : decode cX11_readLine 172 = .ok (.if_icmp .ge 19, 3) := by decide +kernel
theorem dX11_readLine_175 : decode cX11_readLine 175 = .ok (.aload_n 0, 1) := by decide +kernel
theorem dX11_readLine_176 : decode cX11_readLine 176 = .ok (.getfield 21, 3) := by decide +kernel
theorem dX11_readLine_179 : decode cX11_readLine 179 = .ok (.iconst 0, 1) := by decide +kernel
theorem dX11_readLine_180 : decode cX11_readLine 180 = .ok (.iaload, 1) := by decide +kernel
theorem dX11_readLine_181 : decode cX11_readLine 181 = .ok (.ifCond .le 10, 3) := by decide +kernel
theorem dX11_readLine_184 : decode cX11_readLine 184 = .ok (.aload_n 0, 1) := by decide +kernel
theorem dX11_readLine_185 : decode cX11_readLine 185 = .ok (.invokevirtual 318, 3) := by decide +kernel
theorem dX11_readLine_188 : decode cX11_readLine 188 = .ok (.goto 32, 3) := by decide +kernel
theorem dX11_readLine_191 : decode cX11_readLine 191 = .ok (.aload_n 0, 1) := by decide +kernel
theorem dX11_readLine_192 : decode cX11_readLine 192 = .ok (.ldc2_w 231, 3) := by decide +kernel
theorem dX11_readLine_195 : decode cX11_readLine 195 = .ok (.invokevirtual 235, 3) := by decide +kernel
theorem dX11_readLine_198 : decode cX11_readLine 198 = .ok (.ifCond .eq 17, 3) := by decide +kernel
theorem dX11_readLine_201 : decode cX11_readLine 201 = .ok (.aload_n 0, 1) := by decide +kernel
theorem dX11_readLine_202 : decode cX11_readLine 202 = .ok (.getfield 277, 3) := by decide +kernel
theorem dX11_readLine_205 : decode cX11_readLine 205 = .ok (.ifCond .ne 10, 3) := by decide +kernel
theorem dX11_readLine_208 : decode cX11_readLine 208 = .ok (.aload_n 0, 1) := by decide +kernel
theorem dX11_readLine_209 : decode cX11_readLine 209 = .ok (.invokevirtual 321, 3) := by decide +kernel
theorem dX11_readLine_212 : decode cX11_readLine 212 = .ok (.goto 8, 3) := by decide +kernel
theorem dX11_readLine_215 : decode cX11_readLine 215 = .ok (.aload_n 0, 1) := by decide +kernel
theorem dX11_readLine_216 : decode cX11_readLine 216 = .ok (.iconst 2, 1) := by decide +kernel
theorem dX11_readLine_217 : decode cX11_readLine 217 = .ok (.invokevirtual 239, 3) := by decide +kernel
theorem dX11_readLine_220 : decode cX11_readLine 220 = .ok (.aload_n 0, 1) := by decide +kernel
theorem dX11_readLine_221 : decode cX11_readLine 221 = .ok (.getfield 204, 3) := by decide +kernel
theorem dX11_readLine_224 : decode cX11_readLine 224 = .ok (.ifCond .ne 17, 3) := by decide +kernel
theorem dX11_readLine_227 : decode cX11_readLine 227 = .ok (.aload_n 0, 1) := by decide +kernel
theorem dX11_readLine_228 : decode cX11_readLine 228 = .ok (.getfield 194, 3) := by decide +kernel
theorem dX11_readLine_231 : decode cX11_readLine 231 = .ok (.bipush 59, 2) := by decide +kernel
theorem dX11_readLine_233 : decode cX11_readLine 233 = .ok (.if_icmp .eq 8, 3) := by decide +kernel
theorem dX11_readLine_236 : decode cX11_readLine 236 = .ok (.aload_n 0, 1) := by decide +kernel
theorem dX11_readLine_237 : decode cX11_readLine 237 = .ok (.iconst 2, 1) := by decide +kernel
theorem dX11_readLine_238 : decode cX11_readLine 238 = .ok (.invokevirtual 239, 3) := by decide +kernel
theorem dX11_readLine_241 : decode cX11_readLine 241 = .ok (.aload_n 0, 1) := by decide +kernel
theorem dX11_readLine_242 : decode cX11_readLine 242 = .ok (.getfield 204, 3) := by decide +kernel
theorem dX11_readLine_245 : decode cX11_readLine 245 = .ok (.ifCond .ne 7, 3) := by decide +kernel
theorem dX11_readLine_248 : decode cX11_readLine 248 = .ok (.aload_n 0, 1) := by decide +kernel
theorem dX11_readLine_249 : decode cX11_readLine 249 = .ok (.invokevirtual 242, 3) := by decide +kernel
theorem dX11_readLine_252 : decode cX11_readLine 252 = .ok (.return_, 1) := by decide +kernel
theorem dX11_readAll_0 : decode cX11_readAll 0 = .ok (.aload_n 0, 1) := by decide +kernel
theorem dX11_readAll_1 : decode cX11_readAll 1 = .ok (.aload_n 0, 1) := by decide +kernel
theorem dX11_readAll_2 : decode cX11_readAll 2 = .ok (.getfield 167, 3) := by decide +kernel
theorem dX11_readAll_5 : decode cX11_readAll 5 = .ok (.putfield 177, 3) := by decide +kernel
theorem dX11_readAll_8 : decode cX11_readAll 8 = .ok (.aload_n 0, 1) := by decide +kernel
theorem dX11_readAll_9 : decode cX11_readAll 9 = .ok (.iconst 0, 1) := by decide +kernel
theorem dX11_readAll_10 : decode cX11_readAll 10 = .ok (.putfield 167, 3) := by decide +kernel
theorem dX11_readAll_13 : decode cX11_readAll 13 = .ok (.aload_n 0, 1) := by decide +kernel
theorem dX11_readAll_14 : decode cX11_readAll 14 = .ok (.iconst 0, 1) := by decide +kernel
theorem dX11_readAll_15 : decode cX11_readAll 15 = .ok (.putfield 174, 3) := by decide +kernel
theorem dX11_readAll_18 : decode cX11_readAll 18 = .ok (.aload_n 0, 1) := by decide +kernel
theorem dX11_readAll_19 : decode cX11_readAll 19 = .ok (.iconst 0, 1) := by decide +kernel
theorem dX11_readAll_20 : decode cX11_readAll 20 = .ok (.putfield 204, 3) := by decide +kernel
theorem dX11_readAll_23 : decode cX11_readAll 23 = .ok (.aload_n 0, 1) := by decide +kernel
theorem dX11_readAll_24 : decode cX11_readAll 24 = .ok (.iconst (-1), 1) := by decide +kernel
theorem dX11_readAll_25 : decode cX11_readAll 25 = .ok (.putfield 13, 3) := by decide +kernel
theorem dX11_readAll_28 : decode cX11_readAll 28 = .ok (.iconst 0, 1) := by decide +kernel
theorem dX11_readAll_29 : decode cX11_readAll 29 = .ok (.istore_n 1, 1) := by decide +kernel
theorem dX11_readAll_30 : decode cX11_readAll 30 = .ok (.iload_n 1, 1) := by decide +kernel
theorem dX11_readAll_31 : decode cX11_readAll 31 = .ok (.iconst 5, 1) := by decide +kernel
theorem dX11_readAll_32 : decode cX11_readAll 32 = .ok (.if_icmp .ge 16, 3) := by decide +kernel
theorem dX11_readAll_35 : decode cX11_readAll 35 = .ok (.aload_n 0, 1) := by decide +kernel
theorem dX11_readAll_36 : decode cX11_readAll 36 = .ok (.getfield 21, 3) := by decide +kernel
theorem dX11_readAll_39 : decode cX11_readAll 39 = .ok (.iload_n 1, 1) := by decide +kernel
theorem dX11_readAll_40 : decode cX11_readAll 40 = .ok (.iconst 0, 1) := by decide +kernel
theorem dX11_readAll_41 : decode cX11_readAll 41 = .ok (.iastore, 1) := by decide +kernel
theorem dX11_readAll_42 : decode cX11_readAll 42 = .ok (.iinc 1 1, 3) := by decide +kernel
theorem dX11_readAll_45 : decode cX11_readAll 45 = .ok (.goto (-15), 3) := by decide +kernel
theorem dX11_readAll_48 : decode cX11_readAll 48 = .ok (.aload_n 0, 1) := by decide +kernel
theorem dX11_readAll_49 : decode cX11_readAll 49 = .ok (.iconst 4, 1) := by decide +kernel
theorem dX11_readAll_50 : decode cX11_readAll 50 = .ok (.putfield 260, 3) := by decide +kernel
theorem dX11_readAll_53 : decode cX11_readAll 53 = .ok (.aload_n 0, 1) := by decide +kernel
theorem dX11_readAll_54 : decode cX11_readAll 54 = .ok (.bipush 12, 2) := by decide +kernel
theorem dX11_readAll_56 : decode cX11_readAll 56 = .ok (.putfield 274, 3) := by decide +kernel
theorem dX11_readAll_59 : decode cX11_readAll 59 = .ok (.aload_n 0, 1) := by decide +kernel
theorem dX11_readAll_60 : decode cX11_readAll 60 = .ok (.bipush 10, 2) := by decide +kernel
theorem dX11_readAll_62 : decode cX11_readAll 62 = .ok (.putfield 299, 3) := by decide +kernel
theorem dX11_readAll_65 : decode cX11_readAll 65 = .ok (.aload_n 0, 1) := by decide +kernel
theorem dX11_readAll_66 : decode cX11_readAll 66 = .ok (.iconst 0, 1) := by decide +kernel
theorem dX11_readAll_67 : decode cX11_readAll 67 = .ok (.putfield 302, 3) := by decide +kernel
theorem dX11_readAll_70 : decode cX11_readAll 70 = .ok (.aload_n 0, 1) := by decide +kernel
theorem dX11_readAll_71 : decode cX11_readAll 71 = .ok (.iconst 0, 1) := by decide +kernel
theorem dX11_readAll_72 : decode cX11_readAll 72 = .ok (.putfield 281, 3) := by decide +kernel
theorem dX11_readAll_75 : decode cX11_readAll 75 = .ok (.aload_n 0, 1) := by decide +kernel
theorem dX11_readAll_76 : decode cX11_readAll 76 = .ok (.iconst 0, 1) := by decide +kernel
theorem dX11_readAll_77 : decode cX11_readAll 77 = .ok (.putfield 287, 3) := by decide +kernel
theorem dX11_readAll_80 : decode cX11_readAll 80 = .ok (.aload_n 0, 1) := by decide +kernel
theorem dX11_readAll_81 : decode cX11_readAll 81 = .ok (.iconst 0, 1) := by decide +kernel
theorem dX11_readAll_82 : decode cX11_readAll 82 = .ok (.putfield 290, 3) := by decide +kernel
theorem dX11_readAll_85 : decode cX11_readAll 85 = .ok (.aload_n 0, 1) := by decide +kernel
theorem dX11_readAll_86 : decode cX11_readAll 86 = .ok (.iconst 0, 1) := by decide +kernel
theorem dX11_readAll_87 : decode cX11_readAll 87 = .ok (.putfield 277, 3) := by decide +kernel
theorem dX11_readAll_90 : decode cX11_readAll 90 = .ok (.aload_n 0, 1) := by decide +kernel
theorem dX11_readAll_91 : decode cX11_readAll 91 = .ok (.iconst 0, 1) := by decide +kernel
theorem dX11_readAll_92 : decode cX11_readAll 92 = .ok (.putfield 293, 3) := by decide +kernel
theorem dX11_readAll_95 : decode cX11_readAll 95 = .ok (.aload_n 0, 1) := by decide +kernel
theorem dX11_readAll_96 : decode cX11_readAll 96 = .ok (.invokevirtual 242, 3) := by decide +kernel
theorem dX11_readAll_99 : decode cX11_readAll 99 = .ok (.aload_n 0, 1) := by decide +kernel
theorem dX11_readAll_100 : decode cX11_readAll 100 = .ok (.getfield 204, 3) := by decide +kernel
theorem dX11_readAll_103 : decode cX11_readAll 103 = .ok (.ifCond .ne 17, 3) := by decide +kernel
theorem dX11_readAll_106 : decode cX11_readAll 106 = .ok (.aload_n 0, 1) := by decide +kernel
theorem dX11_readAll_107 : decode cX11_readAll 107 = .ok (.getfield 194, 3) := by decide +kernel
theorem dX11_readAll_110 : decode cX11_readAll 110 = .ok (.ifCond .eq 10, 3) := by decide +kernel
theorem dX11_readAll_113 : decode cX11_readAll 113 = .ok (.aload_n 0, 1) := by decide +kernel
theorem dX11_readAll_114 : decode cX11_readAll 114 = .ok (.invokevirtual 324, 3) := by decide +kernel
theorem dX11_readAll_117 : decode cX11_readAll 117 = .ok (.goto (-18), 3) := by decide +kernel
theorem dX11_readAll_120 : decode cX11_readAll 120 = .ok (.return_, 1) := by decide +kernel
theorem dX11_bench_0 : decode cX11_bench 0 = .ok (.aload_n 0, 1) := by decide +kernel
theorem dX11_bench_1 : decode cX11_bench 1 = .ok (.invokevirtual 327, 3) := by decide +kernel
theorem dX11_bench_4 : decode cX11_bench 4 = .ok (.aload_n 0, 1) := by decide +kernel
theorem dX11_bench_5 : decode cX11_bench 5 = .ok (.getfield 204, 3) := by decide +kernel
theorem dX11_bench_8 : decode cX11_bench 8 = .ok (.ifCond .le 5, 3) := by decide +kernel
theorem dX11_bench_11 : decode cX11_bench 11 = .ok (.iconst (-1), 1) := by decide +kernel
theorem dX11_bench_12 : decode cX11_bench 12 = .ok (.ireturn, 1) := by decide +kernel
theorem dX11_bench_13 : decode cX11_bench 13 = .ok (.iconst 0, 1) := by decide +kernel
theorem dX11_bench_14 : decode cX11_bench 14 = .ok (.istore_n 1, 1) := by decide +kernel
theorem dX11_bench_15 : decode cX11_bench 15 = .ok (.iload_n 1, 1) := by decide +kernel
theorem dX11_bench_16 : decode cX11_bench 16 = .ok (.iconst 5, 1) := by decide +kernel
theorem dX11_bench_17 : decode cX11_bench 17 = .ok (.if_icmp .ge 21, 3) := by decide +kernel
theorem dX11_bench_20 : decode cX11_bench 20 = .ok (.aload_n 0, 1) := by decide +kernel
theorem dX11_bench_21 : decode cX11_bench 21 = .ok (.getfield 24, 3) := by decide +kernel
theorem dX11_bench_24 : decode cX11_bench 24 = .ok (.iload_n 1, 1) := by decide +kernel
theorem dX11_bench_25 : decode cX11_bench 25 = .ok (.aload_n 0, 1) := by decide +kernel
theorem dX11_bench_26 : decode cX11_bench 26 = .ok (.getfield 21, 3) := by decide +kernel
theorem dX11_bench_29 : decode cX11_bench 29 = .ok (.iload_n 1, 1) := by decide +kernel
theorem dX11_bench_30 : decode cX11_bench 30 = .ok (.iaload, 1) := by decide +kernel
theorem dX11_bench_31 : decode cX11_bench 31 = .ok (.iastore, 1) := by decide +kernel
theorem dX11_bench_32 : decode cX11_bench 32 = .ok (.iinc 1 1, 3) := by decide +kernel
theorem dX11_bench_35 : decode cX11_bench 35 = .ok (.goto (-20), 3) := by decide +kernel
theorem dX11_bench_38 : decode cX11_bench 38 = .ok (.iconst 0, 1) := by decide +kernel
theorem dX11_bench_39 : decode cX11_bench 39 = .ok (.istore_n 1, 1) := by decide +kernel
theorem dX11_bench_40 : decode cX11_bench 40 = .ok (.iload_n 1, 1) := by decide +kernel
theorem dX11_bench_41 : decode cX11_bench 41 = .ok (.sipush 128, 3) := by decide +kernel
theorem dX11_bench_44 : decode cX11_bench 44 = .ok (.if_icmp .ge 21, 3) := by decide +kernel
theorem dX11_bench_47 : decode cX11_bench 47 = .ok (.aload_n 0, 1) := by decide +kernel
theorem dX11_bench_48 : decode cX11_bench 48 = .ok (.getfield 51, 3) := by decide +kernel
theorem dX11_bench_51 : decode cX11_bench 51 = .ok (.iload_n 1, 1) := by decide +kernel
theorem dX11_bench_52 : decode cX11_bench 52 = .ok (.aload_n 0, 1) := by decide +kernel
theorem dX11_bench_53 : decode cX11_bench 53 = .ok (.getfield 27, 3) := by decide +kernel
theorem dX11_bench_56 : decode cX11_bench 56 = .ok (.iload_n 1, 1) := by decide +kernel
theorem dX11_bench_57 : decode cX11_bench 57 = .ok (.iaload, 1) := by decide +kernel
theorem dX11_bench_58 : decode cX11_bench 58 = .ok (.iastore, 1) := by decide +kernel
theorem dX11_bench_59 : decode cX11_bench 59 = .ok (.iinc 1 1, 3) := by decide +kernel
theorem dX11_bench_62 : decode cX11_bench 62 = .ok (.goto (-22), 3) := by decide +kernel
theorem dX11_bench_65 : decode cX11_bench 65 = .ok (.iconst 0, 1) := by decide +kernel
theorem dX11_bench_66 : decode cX11_bench 66 = .ok (.istore_n 1, 1) := by decide +kernel
theorem dX11_bench_67 : decode cX11_bench 67 = .ok (.iload_n 1, 1) := by decide +kernel
theorem dX11_bench_68 : decode cX11_bench 68 = .ok (.bipush 96, 2) := by decide +kernel
theorem dX11_bench_70 : decode cX11_bench 70 = .ok (.if_icmp .ge 21, 3) := by decide +kernel
theorem dX11_bench_73 : decode cX11_bench 73 = .ok (.aload_n 0, 1) := by decide +kernel
theorem dX11_bench_74 : decode cX11_bench 74 = .ok (.getfield 57, 3) := by decide +kernel
theorem dX11_bench_77 : decode cX11_bench 77 = .ok (.iload_n 1, 1) := by decide +kernel
theorem dX11_bench_78 : decode cX11_bench 78 = .ok (.aload_n 0, 1) := by decide +kernel
theorem dX11_bench_79 : decode cX11_bench 79 = .ok (.getfield 33, 3) := by decide +kernel
theorem dX11_bench_82 : decode cX11_bench 82 = .ok (.iload_n 1, 1) := by decide +kernel
theorem dX11_bench_83 : decode cX11_bench 83 = .ok (.iaload, 1) := by decide +kernel
theorem dX11_bench_84 : decode cX11_bench 84 = .ok (.iastore, 1) := by decide +kernel
theorem dX11_bench_85 : decode cX11_bench 85 = .ok (.iinc 1 1, 3) := by decide +kernel
theorem dX11_bench_88 : decode cX11_bench 88 = .ok (.goto (-21), 3) := by decide +kernel
theorem dX11_bench_91 : decode cX11_bench 91 = .ok (.iconst 0, 1) := by decide +kernel
theorem dX11_bench_92 : decode cX11_bench 92 = .ok (.istore_n 1, 1) := by decide +kernel
theorem dX11_bench_93 : decode cX11_bench 93 = .ok (.iload_n 1, 1) := by decide +kernel
theorem dX11_bench_94 : decode cX11_bench 94 = .ok (.bipush 64, 2) := by decide +kernel
theorem dX11_bench_96 : decode cX11_bench 96 = .ok (.if_icmp .ge 45, 3) := by decide +kernel
theorem dX11_bench_99 : decode cX11_bench 99 = .ok (.aload_n 0, 1) := by decide +kernel
theorem dX11_bench_100 : decode cX11_bench 100 = .ok (.getfield 54, 3) := by decide +kernel
theorem dX11_bench_103 : decode cX11_bench 103 = .ok (.iload_n 1, 1) := by decide +kernel
theorem dX11_bench_104 : decode cX11_bench 104 = .ok (.aload_n 0, 1) := by decide +kernel
theorem dX11_bench_105 : decode cX11_bench 105 = .ok (.getfield 30, 3) := by decide +kernel
theorem dX11_bench_108 : decode cX11_bench 108 = .ok (.iload_n 1, 1) := by decide +kernel
theorem dX11_bench_109 : decode cX11_bench 109 = .ok (.iaload, 1) := by decide +kernel
theorem dX11_bench_110 : decode cX11_bench 110 = .ok (.iastore, 1) := by decide +kernel
theorem dX11_bench_111 : decode cX11_bench 111 = .ok (.aload_n 0, 1) := by decide +kernel
theorem dX11_bench_112 : decode cX11_bench 112 = .ok (.getfield 60, 3) := by decide +kernel
theorem dX11_bench_115 : decode cX11_bench 115 = .ok (.iload_n 1, 1) := by decide +kernel
theorem dX11_bench_116 : decode cX11_bench 116 = .ok (.aload_n 0, 1) := by decide +kernel
theorem dX11_bench_117 : decode cX11_bench 117 = .ok (.getfield 36, 3) := by decide +kernel
theorem dX11_bench_120 : decode cX11_bench 120 = .ok (.iload_n 1, 1) := by decide +kernel
theorem dX11_bench_121 : decode cX11_bench 121 = .ok (.iaload, 1) := by decide +kernel
theorem dX11_bench_122 : decode cX11_bench 122 = .ok (.iastore, 1) := by decide +kernel
theorem dX11_bench_123 : decode cX11_bench 123 = .ok (.aload_n 0, 1) := by decide +kernel
theorem dX11_bench_124 : decode cX11_bench 124 = .ok (.getfield 72, 3) := by decide +kernel
theorem dX11_bench_127 : decode cX11_bench 127 = .ok (.iload_n 1, 1) := by decide +kernel
theorem dX11_bench_128 : decode cX11_bench 128 = .ok (.aload_n 0, 1) := by decide +kernel
theorem dX11_bench_129 : decode cX11_bench 129 = .ok (.getfield 48, 3) := by decide +kernel
theorem dX11_bench_132 : decode cX11_bench 132 = .ok (.iload_n 1, 1) := by decide +kernel
theorem dX11_bench_133 : decode cX11_bench 133 = .ok (.iaload, 1) := by decide +kernel
theorem dX11_bench_134 : decode cX11_bench 134 = .ok (.iastore, 1) := by decide +kernel
theorem dX11_bench_135 : decode cX11_bench 135 = .ok (.iinc 1 1, 3) := by decide +kernel
theorem dX11_bench_138 : decode cX11_bench 138 = .ok (.goto (-45), 3) := by decide +kernel
theorem dX11_bench_141 : decode cX11_bench 141 = .ok (.iconst 0, 1) := by decide +kernel
theorem dX11_bench_142 : decode cX11_bench 142 = .ok (.istore_n 1, 1) := by decide +kernel
theorem dX11_bench_143 : decode cX11_bench 143 = .ok (.iload_n 1, 1) := by decide +kernel
theorem dX11_bench_144 : decode cX11_bench 144 = .ok (.bipush 8, 2) := by decide +kernel
theorem dX11_bench_146 : decode cX11_bench 146 = .ok (.if_icmp .ge 45, 3) := by decide +kernel
theorem dX11_bench_149 : decode cX11_bench 149 = .ok (.aload_n 0, 1) := by decide +kernel
theorem dX11_bench_150 : decode cX11_bench 150 = .ok (.getfield 63, 3) := by decide +kernel
theorem dX11_bench_153 : decode cX11_bench 153 = .ok (.iload_n 1, 1) := by decide +kernel
theorem dX11_bench_154 : decode cX11_bench 154 = .ok (.aload_n 0, 1) := by decide +kernel
theorem dX11_bench_155 : decode cX11_bench 155 = .ok (.getfield 39, 3) := by decide +kernel
theorem dX11_bench_158 : decode cX11_bench 158 = .ok (.iload_n 1, 1) := by decide +kernel
theorem dX11_bench_159 : decode cX11_bench 159 = .ok (.iaload, 1) := by decide +kernel
theorem dX11_bench_160 : decode cX11_bench 160 = .ok (.iastore, 1) := by decide +kernel
theorem dX11_bench_161 : decode cX11_bench 161 = .ok (.aload_n 0, 1) := by decide +kernel
theorem dX11_bench_162 : decode cX11_bench 162 = .ok (.getfield 66, 3) := by decide +kernel
theorem dX11_bench_165 : decode cX11_bench 165 = .ok (.iload_n 1, 1) := by decide +kernel
theorem dX11_bench_166 : decode cX11_bench 166 = .ok (.aload_n 0, 1) := by decide +kernel
theorem dX11_bench_167 : decode cX11_bench 167 = .ok (.getfield 42, 3) := by decide +kernel
theorem dX11_bench_170 : decode cX11_bench 170 = .ok (.iload_n 1, 1) := by decide +kernel
theorem dX11_bench_171 : decode cX11_bench 171 = .ok (.iaload, 1) := by decide +kernel
theorem dX11_bench_172 : decode cX11_bench 172 = .ok (.iastore, 1) := by decide +kernel
theorem dX11_bench_173 : decode cX11_bench 173 = .ok (.aload_n 0, 1) := by decide +kernel
theorem dX11_bench_174 : decode cX11_bench 174 = .ok (.getfield 69, 3) := by decide +kernel
theorem dX11_bench_177 : decode cX11_bench 177 = .ok (.iload_n 1, 1) := by decide +kernel
theorem dX11_bench_178 : decode cX11_bench 178 = .ok (.aload_n 0, 1) := by decide +kernel
theorem dX11_bench_179 : decode cX11_bench 179 = .ok (.getfield 45, 3) := by decide +kernel
theorem dX11_bench_182 : decode cX11_bench 182 = .ok (.iload_n 1, 1) := by decide +kernel
theorem dX11_bench_183 : decode cX11_bench 183 = .ok (.iaload, 1) := by decide +kernel
theorem dX11_bench_184 : decode cX11_bench 184 = .ok (.iastore, 1) := by decide +kernel
theorem dX11_bench_185 : decode cX11_bench 185 = .ok (.iinc 1 1, 3) := by decide +kernel
theorem dX11_bench_188 : decode cX11_bench 188 = .ok (.goto (-45), 3) := by decide +kernel
theorem dX11_bench_191 : decode cX11_bench 191 = .ok (.aload_n 0, 1) := by decide +kernel
theorem dX11_bench_192 : decode cX11_bench 192 = .ok (.aload_n 0, 1) := by decide +kernel
theorem dX11_bench_193 : decode cX11_bench 193 = .ok (.getfield 260, 3) := by decide +kernel
theorem dX11_bench_196 : decode cX11_bench 196 = .ok (.putfield 158, 3) := by decide +kernel
theorem dX11_bench_199 : decode cX11_bench 199 = .ok (.aload_n 0, 1) := by decide +kernel
theorem dX11_bench_200 : decode cX11_bench 200 = .ok (.aload_n 0, 1) := by decide +kernel
theorem dX11_bench_201 : decode cX11_bench 201 = .ok (.getfield 274, 3) := by decide +kernel
theorem dX11_bench_204 : decode cX11_bench 204 = .ok (.putfield 161, 3) := by decide +kernel
theorem dX11_bench_207 : decode cX11_bench 207 = .ok (.aload_n 0, 1) := by decide +kernel
theorem dX11_bench_208 : decode cX11_bench 208 = .ok (.aload_n 0, 1) := by decide +kernel
theorem dX11_bench_209 : decode cX11_bench 209 = .ok (.getfield 299, 3) := by decide +kernel
theorem dX11_bench_212 : decode cX11_bench 212 = .ok (.putfield 164, 3) := by decide +kernel
theorem dX11_bench_215 : decode cX11_bench 215 = .ok (.aload_n 0, 1) := by decide +kernel
theorem dX11_bench_216 : decode cX11_bench 216 = .ok (.aload_n 0, 1) := by decide +kernel
theorem dX11_bench_217 : decode cX11_bench 217 = .ok (.getfield 302, 3) := by decide +kernel
theorem dX11_bench_220 : decode cX11_bench 220 = .ok (.putfield 330, 3) := by decide +kernel
theorem dX11_bench_223 : decode cX11_bench 223 = .ok (.aload_n 0, 1) := by decide +kernel
theorem dX11_bench_224 : decode cX11_bench 224 = .ok (.aload_n 0, 1) := by decide +kernel
theorem dX11_bench_225 : decode cX11_bench 225 = .ok (.getfield 277, 3) := by decide +kernel
theorem dX11_bench_228 : decode cX11_bench 228 = .ok (.putfield 333, 3) := by decide +kernel
theorem dX11_bench_231 : decode cX11_bench 231 = .ok (.aload_n 0, 1) := by decide +kernel
theorem dX11_bench_232 : decode cX11_bench 232 = .ok (.iconst 0, 1) := by decide +kernel
theorem dX11_bench_233 : decode cX11_bench 233 = .ok (.invokevirtual 336, 3) := by decide +kernel
theorem dX11_bench_236 : decode cX11_bench 236 = .ok (.aload_n 0, 1) := by decide +kernel
theorem dX11_bench_237 : decode cX11_bench 237 = .ok (.iconst 0, 1) := by decide +kernel
theorem dX11_bench_238 : decode cX11_bench 238 = .ok (.putfield 339, 3) := by decide +kernel
theorem dX11_bench_241 : decode cX11_bench 241 = .ok (.aload_n 0, 1) := by decide +kernel
theorem dX11_bench_242 : decode cX11_bench 242 = .ok (.iconst 0, 1) := by decide +kernel
theorem dX11_bench_243 : decode cX11_bench 243 = .ok (.putfield 342, 3) := by decide +kernel
theorem dX11_bench_246 : decode cX11_bench 246 = .ok (.aload_n 0, 1) := by decide +kernel
theorem dX11_bench_247 : decode cX11_bench 247 = .ok (.iconst 0, 1) := by decide +kernel
theorem dX11_bench_248 : decode cX11_bench 248 = .ok (.putfield 345, 3) := by decide +kernel
theorem dX11_bench_251 : decode cX11_bench 251 = .ok (.aload_n 0, 1) := by decide +kernel
theorem dX11_bench_252 : decode cX11_bench 252 = .ok (.iconst 0, 1) := by decide +kernel
theorem dX11_bench_253 : decode cX11_bench 253 = .ok (.putfield 348, 3) := by decide +kernel
theorem dX11_bench_256 : decode cX11_bench 256 = .ok (.aload_n 0, 1) := by decide +kernel
theorem dX11_bench_257 : decode cX11_bench 257 = .ok (.iconst 0, 1) := by decide +kernel
theorem dX11_bench_258 : decode cX11_bench 258 = .ok (.putfield 351, 3) := by decide +kernel
theorem dX11_bench_261 : decode cX11_bench 261 = .ok (.iconst 0, 1) := by decide +kernel
theorem dX11_bench_262 : decode cX11_bench 262 = .ok (.istore_n 1, 1) := by decide +kernel
theorem dX11_bench_263 : decode cX11_bench 263 = .ok (.iload_n 1, 1) := by decide +kernel
theorem dX11_bench_264 : decode cX11_bench 264 = .ok (.iconst 3, 1) := by decide +kernel
theorem dX11_bench_265 : decode cX11_bench 265 = .ok (.if_icmp .ge 16, 3) := by decide +kernel
theorem dX11_bench_268 : decode cX11_bench 268 = .ok (.aload_n 0, 1) := by decide +kernel
theorem dX11_bench_269 : decode cX11_bench 269 = .ok (.getfield 142, 3) := by decide +kernel
theorem dX11_bench_272 : decode cX11_bench 272 = .ok (.iload_n 1, 1) := by decide +kernel
theorem dX11_bench_273 : decode cX11_bench 273 = .ok (.iconst 0, 1) := by decide +kernel
theorem dX11_bench_274 : decode cX11_bench 274 = .ok (.bastore, 1) := by decide +kernel
theorem dX11_bench_275 : decode cX11_bench 275 = .ok (.iinc 1 1, 3) := by decide +kernel
theorem dX11_bench_278 : decode cX11_bench 278 = .ok (.goto (-15), 3) := by decide +kernel
theorem dX11_bench_281 : decode cX11_bench 281 = .ok (.aload_n 0, 1) := by decide +kernel
theorem dX11_bench_282 : decode cX11_bench 282 = .ok (.invokevirtual 354, 3) := by decide +kernel
theorem dX11_bench_285 : decode cX11_bench 285 = .ok (.aload_n 0, 1) := by decide +kernel
theorem dX11_bench_286 : decode cX11_bench 286 = .ok (.getfield 24, 3) := by decide +kernel
theorem dX11_bench_289 : decode cX11_bench 289 = .ok (.iconst 4, 1) := by decide +kernel
theorem dX11_bench_290 : decode cX11_bench 290 = .ok (.iaload, 1) := by decide +kernel
theorem dX11_bench_291 : decode cX11_bench 291 = .ok (.ireturn, 1) := by decide +kernel
theorem dX11_fault_0 : decode cX11_fault 0 = .ok (.iload_n 1, 1) := by decide +kernel
theorem dX11_fault_1 : decode cX11_fault 1 = .ok (.ifCond .ne 10, 3) := by decide +kernel
theorem dX11_fault_4 : decode cX11_fault 4 = .ok (.aload_n 0, 1) := by decide +kernel
theorem dX11_fault_5 : decode cX11_fault 5 = .ok (.getfield 204, 3) := by decide +kernel
theorem dX11_fault_8 : decode cX11_fault 8 = .ok (.goto 16, 3) := by decide +kernel
theorem dX11_fault_11 : decode cX11_fault 11 = .ok (.iload_n 1, 1) := by decide +kernel
theorem dX11_fault_12 : decode cX11_fault 12 = .ok (.iconst 1, 1) := by decide +kernel
theorem dX11_fault_13 : decode cX11_fault 13 = .ok (.if_icmp .ne 10, 3) := by decide +kernel
theorem dX11_fault_16 : decode cX11_fault 16 = .ok (.aload_n 0, 1) := by decide +kernel
theorem dX11_fault_17 : decode cX11_fault 17 = .ok (.getfield 13, 3) := by decide +kernel
theorem dX11_fault_20 : decode cX11_fault 20 = .ok (.goto 4, 3) := by decide +kernel
theorem dX11_fault_23 : decode cX11_fault 23 = .ok (.iconst (-1), 1) := by decide +kernel
theorem dX11_fault_24 : decode cX11_fault 24 = .ok (.ireturn, 1) := by decide +kernel
theorem dX11_dyes_0 : decode cX11_dyes 0 = .ok (.aload_n 0, 1) := by decide +kernel
theorem dX11_dyes_1 : decode cX11_dyes 1 = .ok (.getfield 24, 3) := by decide +kernel
theorem dX11_dyes_4 : decode cX11_dyes 4 = .ok (.iconst 0, 1) := by decide +kernel
theorem dX11_dyes_5 : decode cX11_dyes 5 = .ok (.iaload, 1) := by decide +kernel
theorem dX11_dyes_6 : decode cX11_dyes 6 = .ok (.ireturn, 1) := by decide +kernel
theorem dX11_lamps_0 : decode cX11_lamps 0 = .ok (.aload_n 0, 1) := by decide +kernel
theorem dX11_lamps_1 : decode cX11_lamps 1 = .ok (.getfield 24, 3) := by decide +kernel
theorem dX11_lamps_4 : decode cX11_lamps 4 = .ok (.iconst 2, 1) := by decide +kernel
theorem dX11_lamps_5 : decode cX11_lamps 5 = .ok (.iaload, 1) := by decide +kernel
theorem dX11_lamps_6 : decode cX11_lamps 6 = .ok (.ireturn, 1) := by decide +kernel
theorem dX11_eyes_0 : decode cX11_eyes 0 = .ok (.aload_n 0, 1) := by decide +kernel
theorem dX11_eyes_1 : decode cX11_eyes 1 = .ok (.getfield 24, 3) := by decide +kernel
theorem dX11_eyes_4 : decode cX11_eyes 4 = .ok (.iconst 3, 1) := by decide +kernel
theorem dX11_eyes_5 : decode cX11_eyes 5 = .ok (.iaload, 1) := by decide +kernel
theorem dX11_eyes_6 : decode cX11_eyes 6 = .ok (.ireturn, 1) := by decide +kernel
theorem dX11_isIn_0 : decode cX11_isIn 0 = .ok (.iload_n 0, 1) := by decide +kernel
theorem dX11_isIn_1 : decode cX11_isIn 1 = .ok (.iload_n 1, 1) := by decide +kernel
theorem dX11_isIn_2 : decode cX11_isIn 2 = .ok (.if_icmp .lt 12, 3) := by decide +kernel
theorem dX11_isIn_5 : decode cX11_isIn 5 = .ok (.iload_n 0, 1) := by decide +kernel
theorem dX11_isIn_6 : decode cX11_isIn 6 = .ok (.iload_n 2, 1) := by decide +kernel
theorem dX11_isIn_7 : decode cX11_isIn 7 = .ok (.if_icmp .gt 7, 3) := by decide +kernel
theorem dX11_isIn_10 : decode cX11_isIn 10 = .ok (.iconst 1, 1) := by decide +kernel
theorem dX11_isIn_11 : decode cX11_isIn 11 = .ok (.goto 4, 3) := by decide +kernel
theorem dX11_isIn_14 : decode cX11_isIn 14 = .ok (.iconst 0, 1) := by decide +kernel
theorem dX11_isIn_15 : decode cX11_isIn 15 = .ok (.ireturn, 1) := by decide +kernel
theorem dX11_isDye_0 : decode cX11_isDye 0 = .ok (.iload_n 1, 1) := by decide +kernel
theorem dX11_isDye_1 : decode cX11_isDye 1 = .ok (.iconst 0, 1) := by decide +kernel
theorem dX11_isDye_2 : decode cX11_isDye 2 = .ok (.aload_n 0, 1) := by decide +kernel
theorem dX11_isDye_3 : decode cX11_isDye 3 = .ok (.invokevirtual 357, 3) := by decide +kernel
theorem dX11_isDye_6 : decode cX11_isDye 6 = .ok (.iconst 1, 1) := by decide +kernel
theorem dX11_isDye_7 : decode cX11_isDye 7 = .ok (.isub, 1) := by decide +kernel
theorem dX11_isDye_8 : decode cX11_isDye 8 = .ok (.invokestatic 361, 3) := by decide +kernel
theorem dX11_isDye_11 : decode cX11_isDye 11 = .ok (.ireturn, 1) := by decide +kernel
theorem dX11_isLamp_0 : decode cX11_isLamp 0 = .ok (.iload_n 1, 1) := by decide +kernel
theorem dX11_isLamp_1 : decode cX11_isLamp 1 = .ok (.iconst 0, 1) := by decide +kernel
theorem dX11_isLamp_2 : decode cX11_isLamp 2 = .ok (.aload_n 0, 1) := by decide +kernel
theorem dX11_isLamp_3 : decode cX11_isLamp 3 = .ok (.invokevirtual 365, 3) := by decide +kernel
theorem dX11_isLamp_6 : decode cX11_isLamp 6 = .ok (.iconst 1, 1) := by decide +kernel
theorem dX11_isLamp_7 : decode cX11_isLamp 7 = .ok (.isub, 1) := by decide +kernel
theorem dX11_isLamp_8 : decode cX11_isLamp 8 = .ok (.invokestatic 361, 3) := by decide +kernel
theorem dX11_isLamp_11 : decode cX11_isLamp 11 = .ok (.ireturn, 1) := by decide +kernel
theorem dX11_isEye_0 : decode cX11_isEye 0 = .ok (.iload_n 1, 1) := by decide +kernel
theorem dX11_isEye_1 : decode cX11_isEye 1 = .ok (.iconst 0, 1) := by decide +kernel
theorem dX11_isEye_2 : decode cX11_isEye 2 = .ok (.aload_n 0, 1) := by decide +kernel
theorem dX11_isEye_3 : decode cX11_isEye 3 = .ok (.invokevirtual 368, 3) := by decide +kernel
theorem dX11_isEye_6 : decode cX11_isEye 6 = .ok (.iconst 1, 1) := by decide +kernel
theorem dX11_isEye_7 : decode cX11_isEye 7 = .ok (.isub, 1) := by decide +kernel
theorem dX11_isEye_8 : decode cX11_isEye 8 = .ok (.invokestatic 361, 3) := by decide +kernel
theorem dX11_isEye_11 : decode cX11_isEye 11 = .ok (.ireturn, 1) := by decide +kernel
theorem dX11_isGround_0 : decode cX11_isGround 0 = .ok (.iload_n 1, 1) := by decide +kernel
theorem dX11_isGround_1 : decode cX11_isGround 1 = .ok (.iconst 0, 1) := by decide +kernel
theorem dX11_isGround_2 : decode cX11_isGround 2 = .ok (.aload_n 0, 1) := by decide +kernel
theorem dX11_isGround_3 : decode cX11_isGround 3 = .ok (.getfield 24, 3) := by decide +kernel
theorem dX11_isGround_6 : decode cX11_isGround 6 = .ok (.iconst 1, 1) := by decide +kernel
theorem dX11_isGround_7 : decode cX11_isGround 7 = .ok (.iaload, 1) := by decide +kernel
theorem dX11_isGround_8 : decode cX11_isGround 8 = .ok (.iconst 1, 1) := by decide +kernel
theorem dX11_isGround_9 : decode cX11_isGround 9 = .ok (.isub, 1) := by decide +kernel
theorem dX11_isGround_10 : decode cX11_isGround 10 = .ok (.invokestatic 361, 3) := by decide +kernel
theorem dX11_isGround_13 : decode cX11_isGround 13 = .ok (.ireturn, 1) := by decide +kernel
theorem dX11_isGood_0 : decode cX11_isGood 0 = .ok (.iload_n 1, 1) := by decide +kernel
theorem dX11_isGood_1 : decode cX11_isGood 1 = .ok (.iconst (-1), 1) := by decide +kernel
theorem dX11_isGood_2 : decode cX11_isGood 2 = .ok (.if_icmp .ne 20, 3) := by decide +kernel
theorem dX11_isGood_5 : decode cX11_isGood 5 = .ok (.aload_n 0, 1) := by decide +kernel
theorem dX11_isGood_6 : decode cX11_isGood 6 = .ok (.getfield 24, 3) := by decide +kernel
theorem dX11_isGood_9 : decode cX11_isGood 9 = .ok (.iconst 1, 1) := by decide +kernel
theorem dX11_isGood_10 : decode cX11_isGood 10 = .ok (.iaload, 1) := by decide +kernel
theorem dX11_isGood_11 : decode cX11_isGood 11 = .ok (.ifCond .le 7, 3) := by decide +kernel
theorem dX11_isGood_14 : decode cX11_isGood 14 = .ok (.iconst 1, 1) := by decide +kernel
theorem dX11_isGood_15 : decode cX11_isGood 15 = .ok (.goto 20, 3) := by decide +kernel
theorem dX11_isGood_18 : decode cX11_isGood 18 = .ok (.iconst 0, 1) := by decide +kernel
theorem dX11_isGood_19 : decode cX11_isGood 19 = .ok (.goto 16, 3) := by decide +kernel
theorem dX11_isGood_22 : decode cX11_isGood 22 = .ok (.iload_n 1, 1) := by decide +kernel
theorem dX11_isGood_23 : decode cX11_isGood 23 = .ok (.iconst 0, 1) := by decide +kernel
theorem dX11_isGood_24 : decode cX11_isGood 24 = .ok (.aload_n 0, 1) := by decide +kernel
theorem dX11_isGood_25 : decode cX11_isGood 25 = .ok (.getfield 24, 3) := by decide +kernel
theorem dX11_isGood_28 : decode cX11_isGood 28 = .ok (.iconst 4, 1) := by decide +kernel
theorem dX11_isGood_29 : decode cX11_isGood 29 = .ok (.iaload, 1) := by decide +kernel
theorem dX11_isGood_30 : decode cX11_isGood 30 = .ok (.iconst 1, 1) := by decide +kernel
theorem dX11_isGood_31 : decode cX11_isGood 31 = .ok (.isub, 1) := by decide +kernel
theorem dX11_isGood_32 : decode cX11_isGood 32 = .ok (.invokestatic 361, 3) := by decide +kernel
theorem dX11_isGood_35 : decode cX11_isGood 35 = .ok (.ireturn, 1) := by decide +kernel
theorem dX11_lay_0 : decode cX11_lay 0 = .ok (.iconst 0, 1) := by decide +kernel
theorem dX11_lay_1 : decode cX11_lay 1 = .ok (.istore_n 2, 1) := by decide +kernel
theorem dX11_lay_2 : decode cX11_lay 2 = .ok (.iconst 0, 1) := by decide +kernel
theorem dX11_lay_3 : decode cX11_lay 3 = .ok (.istore_n 3, 1) := by decide +kernel
theorem dX11_lay_4 : decode cX11_lay 4 = .ok (.iload_n 3, 1) := by decide +kernel
theorem dX11_lay_5 : decode cX11_lay 5 = .ok (.aload_n 0, 1) := by decide +kernel
theorem dX11_lay_6 : decode cX11_lay 6 = .ok (.invokevirtual 357, 3) := by decide +kernel
theorem dX11_lay_9 : decode cX11_lay 9 = .ok (.if_icmp .ge 23, 3) := by decide +kernel
theorem dX11_lay_12 : decode cX11_lay 12 = .ok (.iload_n 2, 1) := by decide +kernel
theorem dX11_lay_13 : decode cX11_lay 13 = .ok (.aload_n 0, 1) := by decide +kernel
theorem dX11_lay_14 : decode cX11_lay 14 = .ok (.getfield 75, 3) := by decide +kernel
theorem dX11_lay_17 : decode cX11_lay 17 = .ok (.bipush 8, 2) := by decide +kernel
theorem dX11_lay_19 : decode cX11_lay 19 = .ok (.iload_n 1, 1) := by decide +kernel
theorem dX11_lay_20 : decode cX11_lay 20 = .ok (.imul, 1) := by decide +kernel
theorem dX11_lay_21 : decode cX11_lay 21 = .ok (.iload_n 3, 1) := by decide +kernel
theorem dX11_lay_22 : decode cX11_lay 22 = .ok (.iadd, 1) := by decide +kernel
theorem dX11_lay_23 : decode cX11_lay 23 = .ok (.iaload, 1) := by decide +kernel
theorem dX11_lay_24 : decode cX11_lay 24 = .ok (.iadd, 1) := by decide +kernel
theorem dX11_lay_25 : decode cX11_lay 25 = .ok (.istore_n 2, 1) := by decide +kernel
theorem dX11_lay_26 : decode cX11_lay 26 = .ok (.iinc 3 1, 3) := by decide +kernel
theorem dX11_lay_29 : decode cX11_lay 29 = .ok (.goto (-25), 3) := by decide +kernel
theorem dX11_lay_32 : decode cX11_lay 32 = .ok (.iconst 0, 1) := by decide +kernel
theorem dX11_lay_33 : decode cX11_lay 33 = .ok (.istore_n 3, 1) := by decide +kernel
theorem dX11_lay_34 : decode cX11_lay 34 = .ok (.iload_n 3, 1) := by decide +kernel
theorem dX11_lay_35 : decode cX11_lay 35 = .ok (.aload_n 0, 1) := by decide +kernel
theorem dX11_lay_36 : decode cX11_lay 36 = .ok (.getfield 158, 3) := by decide +kernel
theorem dX11_lay_39 : decode cX11_lay 39 = .ok (.if_icmp .ge 48, 3) := by decide +kernel
theorem dX11_lay_42 : decode cX11_lay 42 = .ok (.aload_n 0, 1) := by decide +kernel
theorem dX11_lay_43 : decode cX11_lay 43 = .ok (.getfield 81, 3) := by decide +kernel
theorem dX11_lay_46 : decode cX11_lay 46 = .ok (.bipush 16, 2) := by decide +kernel
theorem dX11_lay_48 : decode cX11_lay 48 = .ok (.iload_n 1, 1) := by decide +kernel
theorem dX11_lay_49 : decode cX11_lay 49 = .ok (.imul, 1) := by decide +kernel
theorem dX11_lay_50 : decode cX11_lay 50 = .ok (.iload_n 3, 1) := by decide +kernel
theorem dX11_lay_51 : decode cX11_lay 51 = .ok (.iadd, 1) := by decide +kernel
theorem dX11_lay_52 : decode cX11_lay 52 = .ok (.aload_n 0, 1) := by decide +kernel
theorem dX11_lay_53 : decode cX11_lay 53 = .ok (.getfield 333, 3) := by decide +kernel
theorem dX11_lay_56 : decode cX11_lay 56 = .ok (.ifCond .eq 12, 3) := by decide +kernel
theorem dX11_lay_59 : decode cX11_lay 59 = .ok (.aload_n 0, 1) := by decide +kernel
theorem dX11_lay_60 : decode cX11_lay 60 = .ok (.iload_n 1, 1) := by decide +kernel
theorem dX11_lay_61 : decode cX11_lay 61 = .ok (.iload_n 3, 1) := by decide +kernel
theorem dX11_lay_62 : decode cX11_lay 62 = .ok (.invokevirtual 371, 3) := by decide +kernel
theorem dX11_lay_65 : decode cX11_lay 65 = .ok (.goto 15, 3) := by decide +kernel
theorem dX11_lay_68 : decode cX11_lay 68 = .ok (.aload_n 0, 1) := by decide +kernel
theorem dX11_lay_69 : decode cX11_lay 69 = .ok (.iload_n 1, 1) := by decide +kernel
theorem dX11_lay_70 : decode cX11_lay 70 = .ok (.iload_n 3, 1) := by decide +kernel
theorem dX11_lay_71 : decode cX11_lay 71 = .ok (.aload_n 0, 1) := by decide +kernel
theorem dX11_lay_72 : decode cX11_lay 72 = .ok (.getfield 161, 3) := by decide +kernel
theorem dX11_lay_75 : decode cX11_lay 75 = .ok (.iload_n 2, 1) := by decide +kernel
theorem dX11_lay_76 : decode cX11_lay 76 = .ok (.isub, 1) := by decide +kernel
theorem dX11_lay_77 : decode cX11_lay 77 = .ok (.invokevirtual 375, 3) := by decide +kernel
theorem dX11_lay_80 : decode cX11_lay 80 = .ok (.lastore, 1) := by decide +kernel
theorem dX11_lay_81 : decode cX11_lay 81 = .ok (.iinc 3 1, 3) := by decide +kernel
theorem dX11_lay_84 : decode cX11_lay 84 = .ok (.goto (-50), 3) := by decide +kernel
theorem dX11_lay_87 : decode cX11_lay 87 = .ok (.return_, 1) := by decide +kernel
theorem dX11_laidBeside_0 : decode cX11_laidBeside 0 = .ok (.iload_n 3, 1) := by decide +kernel
theorem dX11_laidBeside_1 : decode cX11_laidBeside 1 = .ok (.aload_n 0, 1) := by decide +kernel
theorem dX11_laidBeside_2 : decode cX11_laidBeside 2 = .ok (.getfield 54, 3) := by decide +kernel
theorem dX11_laidBeside_5 : decode cX11_laidBeside 5 = .ok (.bipush 16, 2) := by decide +kernel
theorem dX11_laidBeside_7 : decode cX11_laidBeside 7 = .ok (.aload_n 0, 1) := by decide +kernel
theorem dX11_laidBeside_8 : decode cX11_laidBeside 8 = .ok (.getfield 78, 3) := by decide +kernel
theorem dX11_laidBeside_11 : decode cX11_laidBeside 11 = .ok (.iload_n 1, 1) := by decide +kernel
theorem dX11_laidBeside_12 : decode cX11_laidBeside 12 = .ok (.iaload, 1) := by decide +kernel
theorem dX11_laidBeside_13 : decode cX11_laidBeside 13 = .ok (.imul, 1) := by decide +kernel
theorem dX11_laidBeside_14 : decode cX11_laidBeside 14 = .ok (.iload_n 2, 1) := by decide +kernel
theorem dX11_laidBeside_15 : decode cX11_laidBeside 15 = .ok (.iadd, 1) := by decide +kernel
theorem dX11_laidBeside_16 : decode cX11_laidBeside 16 = .ok (.iaload, 1) := by decide +kernel
theorem dX11_laidBeside_17 : decode cX11_laidBeside 17 = .ok (.imul, 1) := by decide +kernel
theorem dX11_laidBeside_18 : decode cX11_laidBeside 18 = .ok (.istore 4, 2) := by decide +kernel
theorem dX11_laidBeside_20 : decode cX11_laidBeside 20 = .ok (.iconst 0, 1) := by decide +kernel
theorem dX11_laidBeside_21 : decode cX11_laidBeside 21 = .ok (.istore 5, 2) := by decide +kernel
theorem dX11_laidBeside_23 : decode cX11_laidBeside 23 = .ok (.iload 5, 2) := by decide +kernel
theorem dX11_laidBeside_25 : decode cX11_laidBeside 25 = .ok (.aload_n 0, 1) := by decide +kernel
theorem dX11_laidBeside_26 : decode cX11_laidBeside 26 = .ok (.invokevirtual 357, 3) := by decide +kernel
theorem dX11_laidBeside_29 : decode cX11_laidBeside 29 = .ok (.if_icmp .ge 39, 3) := by decide +kernel
theorem dX11_laidBeside_32 : decode cX11_laidBeside 32 = .ok (.iload 4, 2) := by decide +kernel
theorem dX11_laidBeside_34 : decode cX11_laidBeside 34 = .ok (.aload_n 0, 1) := by decide +kernel
theorem dX11_laidBeside_35 : decode cX11_laidBeside 35 = .ok (.getfield 75, 3) := by decide +kernel
theorem dX11_laidBeside_38 : decode cX11_laidBeside 38 = .ok (.bipush 8, 2) := by decide +kernel
theorem dX11_laidBeside_40 : decode cX11_laidBeside 40 = .ok (.iload_n 1, 1) := by decide +kernel
theorem dX11_laidBeside_41 : decode cX11_laidBeside 41 = .ok (.imul, 1) := by decide +kernel
theorem dX11_laidBeside_42 : decode cX11_laidBeside 42 = .ok (.iload 5, 2) := by decide +kernel
theorem dX11_laidBeside_44 : decode cX11_laidBeside 44 = .ok (.iadd, 1) := by decide +kernel
theorem dX11_laidBeside_45 : decode cX11_laidBeside 45 = .ok (.iaload, 1) := by decide +kernel
theorem dX11_laidBeside_46 : decode cX11_laidBeside 46 = .ok (.aload_n 0, 1) := by decide +kernel
theorem dX11_laidBeside_47 : decode cX11_laidBeside 47 = .ok (.getfield 51, 3) := by decide +kernel
theorem dX11_laidBeside_50 : decode cX11_laidBeside 50 = .ok (.bipush 16, 2) := by decide +kernel
theorem dX11_laidBeside_52 : decode cX11_laidBeside 52 = .ok (.iload 5, 2) := by decide +kernel
theorem dX11_laidBeside_54 : decode cX11_laidBeside 54 = .ok (.imul, 1) := by decide +kernel
theorem dX11_laidBeside_55 : decode cX11_laidBeside 55 = .ok (.iload_n 2, 1) := by decide +kernel
theorem dX11_laidBeside_56 : decode cX11_laidBeside 56 = .ok (.iadd, 1) := by decide +kernel
theorem dX11_laidBeside_57 : decode cX11_laidBeside 57 = .ok (.iaload, 1) := by decide +kernel
theorem dX11_laidBeside_58 : decode cX11_laidBeside 58 = .ok (.imul, 1) := by decide +kernel
theorem dX11_laidBeside_59 : decode cX11_laidBeside 59 = .ok (.iadd, 1) := by decide +kernel
theorem dX11_laidBeside_60 : decode cX11_laidBeside 60 = .ok (.istore 4, 2) := by decide +kernel
theorem dX11_laidBeside_62 : decode cX11_laidBeside 62 = .ok (.iinc 5 1, 3) := by decide +kernel
theorem dX11_laidBeside_65 : decode cX11_laidBeside 65 = .ok (.goto (-42), 3) := by decide +kernel
theorem dX11_laidBeside_68 : decode cX11_laidBeside 68 = .ok (.iload 4, 2) := by decide +kernel
theorem dX11_laidBeside_70 : decode cX11_laidBeside 70 = .ok (.sipush 1000, 3) := by decide +kernel
theorem dX11_laidBeside_73 : decode cX11_laidBeside 73 = .ok (.imul, 1) := by decide +kernel
theorem dX11_laidBeside_74 : decode cX11_laidBeside 74 = .ok (.aload_n 0, 1) := by decide +kernel
theorem dX11_laidBeside_75 : decode cX11_laidBeside 75 = .ok (.getfield 161, 3) := by decide +kernel
theorem dX11_laidBeside_78 : decode cX11_laidBeside 78 = .ok (.idiv, 1) := by decide +kernel
theorem dX11_laidBeside_79 : decode cX11_laidBeside 79 = .ok (.i2l, 1) := by decide +kernel
theorem dX11_laidBeside_80 : decode cX11_laidBeside 80 = .ok (.lreturn, 1) := by decide +kernel
theorem dX11_laidOver_0 : decode cX11_laidOver 0 = .ok (.sipush 1000, 3) := by decide +kernel
theorem dX11_laidOver_3 : decode cX11_laidOver 3 = .ok (.aload_n 0, 1) := by decide +kernel
theorem dX11_laidOver_4 : decode cX11_laidOver 4 = .ok (.getfield 54, 3) := by decide +kernel
theorem dX11_laidOver_7 : decode cX11_laidOver 7 = .ok (.bipush 16, 2) := by decide +kernel
theorem dX11_laidOver_9 : decode cX11_laidOver 9 = .ok (.aload_n 0, 1) := by decide +kernel
theorem dX11_laidOver_10 : decode cX11_laidOver 10 = .ok (.getfield 78, 3) := by decide +kernel
theorem dX11_laidOver_13 : decode cX11_laidOver 13 = .ok (.iload_n 1, 1) := by decide +kernel
theorem dX11_laidOver_14 : decode cX11_laidOver 14 = .ok (.iaload, 1) := by decide +kernel
theorem dX11_laidOver_15 : decode cX11_laidOver 15 = .ok (.imul, 1) := by decide +kernel
theorem dX11_laidOver_16 : decode cX11_laidOver 16 = .ok (.iload_n 2, 1) := by decide +kernel
theorem dX11_laidOver_17 : decode cX11_laidOver 17 = .ok (.iadd, 1) := by decide +kernel
theorem dX11_laidOver_18 : decode cX11_laidOver 18 = .ok (.iaload, 1) := by decide +kernel
theorem dX11_laidOver_19 : decode cX11_laidOver 19 = .ok (.imul, 1) := by decide +kernel
theorem dX11_laidOver_20 : decode cX11_laidOver 20 = .ok (.istore_n 3, 1) := by decide +kernel
theorem dX11_laidOver_21 : decode cX11_laidOver 21 = .ok (.iconst 0, 1) := by decide +kernel
theorem dX11_laidOver_22 : decode cX11_laidOver 22 = .ok (.istore 4, 2) := by decide +kernel
theorem dX11_laidOver_24 : decode cX11_laidOver 24 = .ok (.iload 4, 2) := by decide +kernel
theorem dX11_laidOver_26 : decode cX11_laidOver 26 = .ok (.aload_n 0, 1) := by decide +kernel
theorem dX11_laidOver_27 : decode cX11_laidOver 27 = .ok (.invokevirtual 357, 3) := by decide +kernel
theorem dX11_laidOver_30 : decode cX11_laidOver 30 = .ok (.if_icmp .ge 53, 3) := by decide +kernel
theorem dX11_laidOver_33 : decode cX11_laidOver 33 = .ok (.iconst 0, 1) := by decide +kernel
theorem dX11_laidOver_34 : decode cX11_laidOver 34 = .ok (.istore 5, 2) := by decide +kernel
theorem dX11_laidOver_36 : decode cX11_laidOver 36 = .ok (.iload 5, 2) := by decide +kernel
theorem dX11_laidOver_38 : decode cX11_laidOver 38 = .ok (.aload_n 0, 1) := by decide +kernel
theorem dX11_laidOver_39 : decode cX11_laidOver 39 = .ok (.getfield 75, 3) := by decide +kernel
theorem dX11_laidOver_42 : decode cX11_laidOver 42 = .ok (.bipush 8, 2) := by decide +kernel
theorem dX11_laidOver_44 : decode cX11_laidOver 44 = .ok (.iload_n 1, 1) := by decide +kernel
theorem dX11_laidOver_45 : decode cX11_laidOver 45 = .ok (.imul, 1) := by decide +kernel
theorem dX11_laidOver_46 : decode cX11_laidOver 46 = .ok (.iload 4, 2) := by decide +kernel
theorem dX11_laidOver_48 : decode cX11_laidOver 48 = .ok (.iadd, 1) := by decide +kernel
theorem dX11_laidOver_49 : decode cX11_laidOver 49 = .ok (.iaload, 1) := by decide +kernel
theorem dX11_laidOver_50 : decode cX11_laidOver 50 = .ok (.if_icmp .ge 27, 3) := by decide +kernel
theorem dX11_laidOver_53 : decode cX11_laidOver 53 = .ok (.iload_n 3, 1) := by decide +kernel
theorem dX11_laidOver_54 : decode cX11_laidOver 54 = .ok (.aload_n 0, 1) := by decide +kernel
theorem dX11_laidOver_55 : decode cX11_laidOver 55 = .ok (.getfield 51, 3) := by decide +kernel
theorem dX11_laidOver_58 : decode cX11_laidOver 58 = .ok (.bipush 16, 2) := by decide +kernel
theorem dX11_laidOver_60 : decode cX11_laidOver 60 = .ok (.iload 4, 2) := by decide +kernel
theorem dX11_laidOver_62 : decode cX11_laidOver 62 = .ok (.imul, 1) := by decide +kernel
theorem dX11_laidOver_63 : decode cX11_laidOver 63 = .ok (.iload_n 2, 1) := by decide +kernel
theorem dX11_laidOver_64 : decode cX11_laidOver 64 = .ok (.iadd, 1) := by decide +kernel
theorem dX11_laidOver_65 : decode cX11_laidOver 65 = .ok (.iaload, 1) := by decide +kernel
theorem dX11_laidOver_66 : decode cX11_laidOver 66 = .ok (.imul, 1) := by decide +kernel
theorem dX11_laidOver_67 : decode cX11_laidOver 67 = .ok (.bipush 100, 2) := by decide +kernel
theorem dX11_laidOver_69 : decode cX11_laidOver 69 = .ok (.idiv, 1) := by decide +kernel
theorem dX11_laidOver_70 : decode cX11_laidOver 70 = .ok (.istore_n 3, 1) := by decide +kernel
theorem dX11_laidOver_71 : decode cX11_laidOver 71 = .ok (.iinc 5 1, 3) := by decide +kernel
theorem dX11_laidOver_74 : decode cX11_laidOver 74 = .ok (.goto (-38), 3) := by decide +kernel
theorem dX11_laidOver_77 : decode cX11_laidOver 77 = .ok (.iinc 4 1, 3) := by decide +kernel
theorem dX11_laidOver_80 : decode cX11_laidOver 80 = .ok (.goto (-56), 3) := by decide +kernel
theorem dX11_laidOver_83 : decode cX11_laidOver 83 = .ok (.iload_n 3, 1) := by decide +kernel
theorem dX11_laidOver_84 : decode cX11_laidOver 84 = .ok (.i2l, 1) := by decide +kernel
theorem dX11_laidOver_85 : decode cX11_laidOver 85 = .ok (.lreturn, 1) := by decide +kernel
theorem dX11_become_0 : decode cX11_become 0 = .ok (.aload_n 0, 1) := by decide +kernel
theorem dX11_become_1 : decode cX11_become 1 = .ok (.getfield 78, 3) := by decide +kernel
theorem dX11_become_4 : decode cX11_become 4 = .ok (.iload_n 1, 1) := by decide +kernel
theorem dX11_become_5 : decode cX11_become 5 = .ok (.iload_n 2, 1) := by decide +kernel
theorem dX11_become_6 : decode cX11_become 6 = .ok (.ifCond .ge 10, 3) := by decide +kernel
theorem dX11_become_9 : decode cX11_become 9 = .ok (.aload_n 0, 1) := by decide +kernel
theorem dX11_become_10 : decode cX11_become 10 = .ok (.getfield 379, 3) := by decide +kernel
theorem dX11_become_13 : decode cX11_become 13 = .ok (.goto 9, 3) := by decide +kernel
theorem dX11_become_16 : decode cX11_become 16 = .ok (.aload_n 0, 1) := by decide +kernel
theorem dX11_become_17 : decode cX11_become 17 = .ok (.getfield 69, 3) := by decide +kernel
theorem dX11_become_20 : decode cX11_become 20 = .ok (.iload_n 2, 1) := by decide +kernel
theorem dX11_become_21 : decode cX11_become 21 = .ok (.iaload, 1) := by decide +kernel
theorem dX11_become_22 : decode cX11_become 22 = .ok (.iastore, 1) := by decide +kernel
theorem dX11_become_23 : decode cX11_become 23 = .ok (.iconst 0, 1) := by decide +kernel
theorem dX11_become_24 : decode cX11_become 24 = .ok (.istore 4, 2) := by decide +kernel
theorem dX11_become_26 : decode cX11_become 26 = .ok (.iload 4, 2) := by decide +kernel
theorem dX11_become_28 : decode cX11_become 28 = .ok (.bipush 8, 2) := by decide +kernel
theorem dX11_become_30 : decode cX11_become 30 = .ok (.if_icmp .ge 66, 3) := by decide +kernel
theorem dX11_become_33 : decode cX11_become 33 = .ok (.aload_n 0, 1) := by decide +kernel
theorem dX11_become_34 : decode cX11_become 34 = .ok (.getfield 75, 3) := by decide +kernel
theorem dX11_become_37 : decode cX11_become 37 = .ok (.bipush 8, 2) := by decide +kernel
theorem dX11_become_39 : decode cX11_become 39 = .ok (.iload_n 1, 1) := by decide +kernel
theorem dX11_become_40 : decode cX11_become 40 = .ok (.imul, 1) := by decide +kernel
theorem dX11_become_41 : decode cX11_become 41 = .ok (.iload 4, 2) := by decide +kernel
theorem dX11_become_43 : decode cX11_become 43 = .ok (.iadd, 1) := by decide +kernel
theorem dX11_become_44 : decode cX11_become 44 = .ok (.iload 4, 2) := by decide +kernel
theorem dX11_become_46 : decode cX11_become 46 = .ok (.aload_n 0, 1) := by decide +kernel
theorem dX11_become_47 : decode cX11_become 47 = .ok (.invokevirtual 357, 3) := by decide +kernel
theorem dX11_become_50 : decode cX11_become 50 = .ok (.if_icmp .ge 9, 3) := by decide +kernel
theorem dX11_become_53 : decode cX11_become 53 = .ok (.iload 4, 2) := by decide +kernel
theorem dX11_become_55 : decode cX11_become 55 = .ok (.iload_n 3, 1) := by decide +kernel
theorem dX11_become_56 : decode cX11_become 56 = .ok (.if_icmp .ne 7, 3) := by decide +kernel
theorem dX11_become_59 : decode cX11_become 59 = .ok (.iconst 0, 1) := by decide +kernel
theorem dX11_become_60 : decode cX11_become 60 = .ok (.goto 29, 3) := by decide +kernel
theorem dX11_become_63 : decode cX11_become 63 = .ok (.iload_n 2, 1) := by decide +kernel
theorem dX11_become_64 : decode cX11_become 64 = .ok (.ifCond .ge 13, 3) := by decide +kernel
theorem dX11_become_67 : decode cX11_become 67 = .ok (.aload_n 0, 1) := by decide +kernel
theorem dX11_become_68 : decode cX11_become 68 = .ok (.getfield 106, 3) := by decide +kernel
theorem dX11_become_71 : decode cX11_become 71 = .ok (.iload 4, 2) := by decide +kernel
theorem dX11_become_73 : decode cX11_become 73 = .ok (.iaload, 1) := by decide +kernel
theorem dX11_become_74 : decode cX11_become 74 = .ok (.goto 15, 3) := by decide +kernel
theorem dX11_become_77 : decode cX11_become 77 = .ok (.aload_n 0, 1) := by decide +kernel
theorem dX11_become_78 : decode cX11_become 78 = .ok (.getfield 72, 3) := by decide +kernel
theorem dX11_become_81 : decode cX11_become 81 = .ok (.bipush 8, 2) := by decide +kernel
theorem dX11_become_83 : decode cX11_become 83 = .ok (.iload_n 2, 1) := by decide +kernel
theorem dX11_become_84 : decode cX11_become 84 = .ok (.imul, 1) := by decide +kernel
theorem dX11_become_85 : decode cX11_become 85 = .ok (.iload 4, 2) := by decide +kernel
theorem dX11_become_87 : decode cX11_become 87 = .ok (.iadd, 1) := by decide +kernel
theorem dX11_become_88 : decode cX11_become 88 = .ok (.iaload, 1) := by decide +kernel
theorem dX11_become_89 : decode cX11_become 89 = .ok (.iastore, 1) := by decide +kernel
theorem dX11_become_90 : decode cX11_become 90 = .ok (.iinc 4 1, 3) := by decide +kernel
theorem dX11_become_93 : decode cX11_become 93 = .ok (.goto (-67), 3) := by decide +kernel
theorem dX11_become_96 : decode cX11_become 96 = .ok (.aload_n 0, 1) := by decide +kernel
theorem dX11_become_97 : decode cX11_become 97 = .ok (.iload_n 1, 1) := by decide +kernel
theorem dX11_become_98 : decode cX11_become 98 = .ok (.invokevirtual 382, 3) := by decide +kernel
theorem dX11_become_101 : decode cX11_become 101 = .ok (.return_, 1) := by decide +kernel
theorem dX11_seenBy_0 : decode cX11_seenBy 0 = .ok (.lconst 0, 1) := by decide +kernel
theorem dX11_seenBy_1 : decode cX11_seenBy 1 = .ok (.lstore 4, 2) := by decide +kernel
theorem dX11_seenBy_3 : decode cX11_seenBy 3 = .ok (.iconst 0, 1) := by decide +kernel
theorem dX11_seenBy_4 : decode cX11_seenBy 4 = .ok (.istore 6, 2) := by decide +kernel
theorem dX11_seenBy_6 : decode cX11_seenBy 6 = .ok (.iload 6, 2) := by decide +kernel
theorem dX11_seenBy_8 : decode cX11_seenBy 8 = .ok (.aload_n 0, 1) := by decide +kernel
theorem dX11_seenBy_9 : decode cX11_seenBy 9 = .ok (.getfield 158, 3) := by decide +kernel
theorem dX11_seenBy_12 : decode cX11_seenBy 12 = .ok (.if_icmp .ge 54, 3) := by decide +kernel
theorem dX11_seenBy_15 : decode cX11_seenBy 15 = .ok (.lload 4, 2) := by decide +kernel
theorem dX11_seenBy_17 : decode cX11_seenBy 17 = .ok (.aload_n 0, 1) := by decide +kernel
theorem dX11_seenBy_18 : decode cX11_seenBy 18 = .ok (.getfield 81, 3) := by decide +kernel
theorem dX11_seenBy_21 : decode cX11_seenBy 21 = .ok (.bipush 16, 2) := by decide +kernel
theorem dX11_seenBy_23 : decode cX11_seenBy 23 = .ok (.iload_n 1, 1) := by decide +kernel
theorem dX11_seenBy_24 : decode cX11_seenBy 24 = .ok (.imul, 1) := by decide +kernel
theorem dX11_seenBy_25 : decode cX11_seenBy 25 = .ok (.iload 6, 2) := by decide +kernel
theorem dX11_seenBy_27 : decode cX11_seenBy 27 = .ok (.iadd, 1) := by decide +kernel
theorem dX11_seenBy_28 : decode cX11_seenBy 28 = .ok (.laload, 1) := by decide +kernel
theorem dX11_seenBy_29 : decode cX11_seenBy 29 = .ok (.aload_n 0, 1) := by decide +kernel
theorem dX11_seenBy_30 : decode cX11_seenBy 30 = .ok (.getfield 57, 3) := by decide +kernel
theorem dX11_seenBy_33 : decode cX11_seenBy 33 = .ok (.bipush 16, 2) := by decide +kernel
theorem dX11_seenBy_35 : decode cX11_seenBy 35 = .ok (.iload_n 2, 1) := by decide +kernel
theorem dX11_seenBy_36 : decode cX11_seenBy 36 = .ok (.imul, 1) := by decide +kernel
theorem dX11_seenBy_37 : decode cX11_seenBy 37 = .ok (.iload 6, 2) := by decide +kernel
theorem dX11_seenBy_39 : decode cX11_seenBy 39 = .ok (.iadd, 1) := by decide +kernel
theorem dX11_seenBy_40 : decode cX11_seenBy 40 = .ok (.iaload, 1) := by decide +kernel
theorem dX11_seenBy_41 : decode cX11_seenBy 41 = .ok (.i2l, 1) := by decide +kernel
theorem dX11_seenBy_42 : decode cX11_seenBy 42 = .ok (.lmul, 1) := by decide +kernel
theorem dX11_seenBy_43 : decode cX11_seenBy 43 = .ok (.aload_n 0, 1) := by decide +kernel
theorem dX11_seenBy_44 : decode cX11_seenBy 44 = .ok (.getfield 60, 3) := by decide +kernel
theorem dX11_seenBy_47 : decode cX11_seenBy 47 = .ok (.bipush 16, 2) := by decide +kernel
theorem dX11_seenBy_49 : decode cX11_seenBy 49 = .ok (.iload_n 3, 1) := by decide +kernel
theorem dX11_seenBy_50 : decode cX11_seenBy 50 = .ok (.imul, 1) := by decide +kernel
theorem dX11_seenBy_51 : decode cX11_seenBy 51 = .ok (.iload 6, 2) := by decide +kernel
theorem dX11_seenBy_53 : decode cX11_seenBy 53 = .ok (.iadd, 1) := by decide +kernel
theorem dX11_seenBy_54 : decode cX11_seenBy 54 = .ok (.iaload, 1) := by decide +kernel
theorem dX11_seenBy_55 : decode cX11_seenBy 55 = .ok (.i2l, 1) := by decide +kernel
theorem dX11_seenBy_56 : decode cX11_seenBy 56 = .ok (.lmul, 1) := by decide +kernel
theorem dX11_seenBy_57 : decode cX11_seenBy 57 = .ok (.ladd, 1) := by decide +kernel
theorem dX11_seenBy_58 : decode cX11_seenBy 58 = .ok (.lstore 4, 2) := by decide +kernel
theorem dX11_seenBy_60 : decode cX11_seenBy 60 = .ok (.iinc 6 1, 3) := by decide +kernel
theorem dX11_seenBy_63 : decode cX11_seenBy 63 = .ok (.goto (-57), 3) := by decide +kernel
theorem dX11_seenBy_66 : decode cX11_seenBy 66 = .ok (.lload 4, 2) := by decide +kernel
theorem dX11_seenBy_68 : decode cX11_seenBy 68 = .ok (.lreturn, 1) := by decide +kernel
theorem dX11_doesSee_0 : decode cX11_doesSee 0 = .ok (.iload_n 1, 1) := by decide +kernel
theorem dX11_doesSee_1 : decode cX11_doesSee 1 = .ok (.aload_n 0, 1) := by decide +kernel
theorem dX11_doesSee_2 : decode cX11_doesSee 2 = .ok (.invokevirtual 368, 3) := by decide +kernel
theorem dX11_doesSee_5 : decode cX11_doesSee 5 = .ok (.if_icmp .ge 25, 3) := by decide +kernel
theorem dX11_doesSee_8 : decode cX11_doesSee 8 = .ok (.iload_n 1, 1) := by decide +kernel
theorem dX11_doesSee_9 : decode cX11_doesSee 9 = .ok (.iconst 2, 1) := by decide +kernel
theorem dX11_doesSee_10 : decode cX11_doesSee 10 = .ok (.if_icmp .lt 16, 3) := by decide +kernel
theorem dX11_doesSee_13 : decode cX11_doesSee 13 = .ok (.iload_n 1, 1) := by decide +kernel
theorem dX11_doesSee_14 : decode cX11_doesSee 14 = .ok (.iload_n 2, 1) := by decide +kernel
theorem dX11_doesSee_15 : decode cX11_doesSee 15 = .ok (.ifCond .eq 7, 3) := by decide +kernel
theorem dX11_doesSee_18 : decode cX11_doesSee 18 = .ok (.iconst 3, 1) := by decide +kernel
theorem dX11_doesSee_19 : decode cX11_doesSee 19 = .ok (.goto 4, 3) := by decide +kernel
theorem dX11_doesSee_22 : decode cX11_doesSee 22 = .ok (.iconst 2, 1) := by decide +kernel
theorem dX11_doesSee_23 : decode cX11_doesSee 23 = .ok (.if_icmp .ne 7, 3) := by decide +kernel
theorem dX11_doesSee_26 : decode cX11_doesSee 26 = .ok (.iconst 1, 1) := by decide +kernel
theorem dX11_doesSee_27 : decode cX11_doesSee 27 = .ok (.goto 4, 3) := by decide +kernel
theorem dX11_doesSee_30 : decode cX11_doesSee 30 = .ok (.iconst 0, 1) := by decide +kernel
theorem dX11_doesSee_31 : decode cX11_doesSee 31 = .ok (.ireturn, 1) := by decide +kernel
theorem dX11_apartBy_0 : decode cX11_apartBy 0 = .ok (.lconst 0, 1) := by decide +kernel
theorem dX11_apartBy_1 : decode cX11_apartBy 1 = .ok (.lstore_n 3, 1) := by decide +kernel
theorem dX11_apartBy_2 : decode cX11_apartBy 2 = .ok (.iconst 0, 1) := by decide +kernel
theorem dX11_apartBy_3 : decode cX11_apartBy 3 = .ok (.istore 5, 2) := by decide +kernel
theorem dX11_apartBy_5 : decode cX11_apartBy 5 = .ok (.iload 5, 2) := by decide +kernel
theorem dX11_apartBy_7 : decode cX11_apartBy 7 = .ok (.iconst 4, 1) := by decide +kernel
theorem dX11_apartBy_8 : decode cX11_apartBy 8 = .ok (.if_icmp .ge 72, 3) := by decide +kernel
theorem dX11_apartBy_11 : decode cX11_apartBy 11 = .ok (.aload_n 0, 1) := by decide +kernel
theorem dX11_apartBy_12 : decode cX11_apartBy 12 = .ok (.iload 5, 2) := by decide +kernel
theorem dX11_apartBy_14 : decode cX11_apartBy 14 = .ok (.iload_n 2, 1) := by decide +kernel
theorem dX11_apartBy_15 : decode cX11_apartBy 15 = .ok (.invokevirtual 385, 3) := by decide +kernel
theorem dX11_apartBy_18 : decode cX11_apartBy 18 = .ok (.ifCond .ne 6, 3) := by decide +kernel
theorem dX11_apartBy_21 : decode cX11_apartBy 21 = .ok (.goto 53, 3) := by decide +kernel
theorem dX11_apartBy_24 : decode cX11_apartBy 24 = .ok (.aload_n 0, 1) := by decide +kernel
theorem dX11_apartBy_25 : decode cX11_apartBy 25 = .ok (.iconst 0, 1) := by decide +kernel
theorem dX11_apartBy_26 : decode cX11_apartBy 26 = .ok (.iload_n 1, 1) := by decide +kernel
theorem dX11_apartBy_27 : decode cX11_apartBy 27 = .ok (.iload 5, 2) := by decide +kernel
theorem dX11_apartBy_29 : decode cX11_apartBy 29 = .ok (.invokevirtual 389, 3) := by decide +kernel
theorem dX11_apartBy_32 : decode cX11_apartBy 32 = .ok (.aload_n 0, 1) := by decide +kernel
theorem dX11_apartBy_33 : decode cX11_apartBy 33 = .ok (.iconst 1, 1) := by decide +kernel
theorem dX11_apartBy_34 : decode cX11_apartBy 34 = .ok (.iload_n 1, 1) := by decide +kernel
theorem dX11_apartBy_35 : decode cX11_apartBy 35 = .ok (.iload 5, 2) := by decide +kernel
theorem dX11_apartBy_37 : decode cX11_apartBy 37 = .ok (.invokevirtual 389, 3) := by decide +kernel
theorem dX11_apartBy_40 : decode cX11_apartBy 40 = .ok (.lsub, 1) := by decide +kernel
theorem dX11_apartBy_41 : decode cX11_apartBy 41 = .ok (.lstore 6, 2) := by decide +kernel
theorem dX11_apartBy_43 : decode cX11_apartBy 43 = .ok (.lload 6, 2) := by decide +kernel
theorem dX11_apartBy_45 : decode cX11_apartBy 45 = .ok (.lconst 0, 1) := by decide +kernel
theorem dX11_apartBy_46 : decode cX11_apartBy 46 = .ok (.lcmp, 1) := by decide +kernel
theorem dX11_apartBy_47 : decode cX11_apartBy 47 = .ok (.ifCond .ge 9, 3) := by decide +kernel
theorem dX11_apartBy_50 : decode cX11_apartBy 50 = .ok (.lload 6, 2) := by decide +kernel
theorem dX11_apartBy_52 : decode cX11_apartBy 52 = .ok (.lneg, 1) := by decide +kernel
theorem dX11_apartBy_53 : decode cX11_apartBy 53 = .ok (.goto 5, 3) := by decide +kernel
theorem dX11_apartBy_56 : decode cX11_apartBy 56 = .ok (.lload 6, 2) := by decide +kernel
theorem dX11_apartBy_58 : decode cX11_apartBy 58 = .ok (.lstore 6, 2) := by decide +kernel
theorem dX11_apartBy_60 : decode cX11_apartBy 60 = .ok (.lload 6, 2) := by decide +kernel
theorem dX11_apartBy_62 : decode cX11_apartBy 62 = .ok (.lload_n 3, 1) := by decide +kernel
theorem dX11_apartBy_63 : decode cX11_apartBy 63 = .ok (.lcmp, 1) := by decide +kernel
theorem dX11_apartBy_64 : decode cX11_apartBy 64 = .ok (.ifCond .le 8, 3) := by decide +kernel
theorem dX11_apartBy_67 : decode cX11_apartBy 67 = .ok (.lload 6, 2) := by decide +kernel
theorem dX11_apartBy_69 : decode cX11_apartBy 69 = .ok (.goto 4, 3) := by decide +kernel
theorem dX11_apartBy_72 : decode cX11_apartBy 72 = .ok (.lload_n 3, 1) := by decide +kernel
theorem dX11_apartBy_73 : decode cX11_apartBy 73 = .ok (.lstore_n 3, 1) := by decide +kernel
theorem dX11_apartBy_74 : decode cX11_apartBy 74 = .ok (.iinc 5 1, 3) := by decide +kernel
theorem dX11_apartBy_77 : decode cX11_apartBy 77 = .ok (.goto (-72), 3) := by decide +kernel
theorem dX11_apartBy_80 : decode cX11_apartBy 80 = .ok (.lload_n 3, 1) := by decide +kernel
theorem dX11_apartBy_81 : decode cX11_apartBy 81 = .ok (.lreturn, 1) := by decide +kernel
theorem dX11_isAlike_0 : decode cX11_isAlike 0 = .ok (.aload_n 0, 1) := by decide +kernel
theorem dX11_isAlike_1 : decode cX11_isAlike 1 = .ok (.iload_n 1, 1) := by decide +kernel
theorem dX11_isAlike_2 : decode cX11_isAlike 2 = .ok (.iload_n 2, 1) := by decide +kernel
theorem dX11_isAlike_3 : decode cX11_isAlike 3 = .ok (.invokevirtual 392, 3) := by decide +kernel
theorem dX11_isAlike_6 : decode cX11_isAlike 6 = .ok (.aload_n 0, 1) := by decide +kernel
theorem dX11_isAlike_7 : decode cX11_isAlike 7 = .ok (.getfield 164, 3) := by decide +kernel
theorem dX11_isAlike_10 : decode cX11_isAlike 10 = .ok (.i2l, 1) := by decide +kernel
theorem dX11_isAlike_11 : decode cX11_isAlike 11 = .ok (.ldc2_w 396, 3) := by decide +kernel
theorem dX11_isAlike_14 : decode cX11_isAlike 14 = .ok (.lmul, 1) := by decide +kernel
theorem dX11_isAlike_15 : decode cX11_isAlike 15 = .ok (.lcmp, 1) := by decide +kernel
theorem dX11_isAlike_16 : decode cX11_isAlike 16 = .ok (.ifCond .gt 7, 3) := by decide +kernel
theorem dX11_isAlike_19 : decode cX11_isAlike 19 = .ok (.iconst 1, 1) := by decide +kernel
theorem dX11_isAlike_20 : decode cX11_isAlike 20 = .ok (.goto 4, 3) := by decide +kernel
theorem dX11_isAlike_23 : decode cX11_isAlike 23 = .ok (.iconst 0, 1) := by decide +kernel
theorem dX11_isAlike_24 : decode cX11_isAlike 24 = .ok (.ireturn, 1) := by decide +kernel
theorem dX11_costOf_0 : decode cX11_costOf 0 = .ok (.iconst 0, 1) := by decide +kernel
theorem dX11_costOf_1 : decode cX11_costOf 1 = .ok (.istore_n 2, 1) := by decide +kernel
theorem dX11_costOf_2 : decode cX11_costOf 2 = .ok (.iconst 0, 1) := by decide +kernel
theorem dX11_costOf_3 : decode cX11_costOf 3 = .ok (.istore_n 3, 1) := by decide +kernel
theorem dX11_costOf_4 : decode cX11_costOf 4 = .ok (.iload_n 3, 1) := by decide +kernel
theorem dX11_costOf_5 : decode cX11_costOf 5 = .ok (.aload_n 0, 1) := by decide +kernel
theorem dX11_costOf_6 : decode cX11_costOf 6 = .ok (.invokevirtual 357, 3) := by decide +kernel
theorem dX11_costOf_9 : decode cX11_costOf 9 = .ok (.if_icmp .ge 30, 3) := by decide +kernel
theorem dX11_costOf_12 : decode cX11_costOf 12 = .ok (.iload_n 2, 1) := by decide +kernel
theorem dX11_costOf_13 : decode cX11_costOf 13 = .ok (.aload_n 0, 1) := by decide +kernel
theorem dX11_costOf_14 : decode cX11_costOf 14 = .ok (.getfield 75, 3) := by decide +kernel
theorem dX11_costOf_17 : decode cX11_costOf 17 = .ok (.bipush 8, 2) := by decide +kernel
theorem dX11_costOf_19 : decode cX11_costOf 19 = .ok (.iload_n 1, 1) := by decide +kernel
theorem dX11_costOf_20 : decode cX11_costOf 20 = .ok (.imul, 1) := by decide +kernel
theorem dX11_costOf_21 : decode cX11_costOf 21 = .ok (.iload_n 3, 1) := by decide +kernel
theorem dX11_costOf_22 : decode cX11_costOf 22 = .ok (.iadd, 1) := by decide +kernel
theorem dX11_costOf_23 : decode cX11_costOf 23 = .ok (.iaload, 1) := by decide +kernel
theorem dX11_costOf_24 : decode cX11_costOf 24 = .ok (.aload_n 0, 1) := by decide +kernel
theorem dX11_costOf_25 : decode cX11_costOf 25 = .ok (.getfield 63, 3) := by decide +kernel
theorem dX11_costOf_28 : decode cX11_costOf 28 = .ok (.iload_n 3, 1) := by decide +kernel
theorem dX11_costOf_29 : decode cX11_costOf 29 = .ok (.iaload, 1) := by decide +kernel
theorem dX11_costOf_30 : decode cX11_costOf 30 = .ok (.imul, 1) := by decide +kernel
theorem dX11_costOf_31 : decode cX11_costOf 31 = .ok (.iadd, 1) := by decide +kernel
theorem dX11_costOf_32 : decode cX11_costOf 32 = .ok (.istore_n 2, 1) := by decide +kernel
theorem dX11_costOf_33 : decode cX11_costOf 33 = .ok (.iinc 3 1, 3) := by decide +kernel
theorem dX11_costOf_36 : decode cX11_costOf 36 = .ok (.goto (-32), 3) := by decide +kernel
theorem dX11_costOf_39 : decode cX11_costOf 39 = .ok (.iload_n 2, 1) := by decide +kernel
theorem dX11_costOf_40 : decode cX11_costOf 40 = .ok (.ireturn, 1) := by decide +kernel
theorem dX11_sumOf_0 : decode cX11_sumOf 0 = .ok (.iconst 0, 1) := by decide +kernel
theorem dX11_sumOf_1 : decode cX11_sumOf 1 = .ok (.istore_n 2, 1) := by decide +kernel
theorem dX11_sumOf_2 : decode cX11_sumOf 2 = .ok (.iconst 0, 1) := by decide +kernel
theorem dX11_sumOf_3 : decode cX11_sumOf 3 = .ok (.istore_n 3, 1) := by decide +kernel
theorem dX11_sumOf_4 : decode cX11_sumOf 4 = .ok (.iload_n 3, 1) := by decide +kernel
theorem dX11_sumOf_5 : decode cX11_sumOf 5 = .ok (.aload_n 0, 1) := by decide +kernel
theorem dX11_sumOf_6 : decode cX11_sumOf 6 = .ok (.invokevirtual 357, 3) := by decide +kernel
theorem dX11_sumOf_9 : decode cX11_sumOf 9 = .ok (.if_icmp .ge 23, 3) := by decide +kernel
theorem dX11_sumOf_12 : decode cX11_sumOf 12 = .ok (.iload_n 2, 1) := by decide +kernel
theorem dX11_sumOf_13 : decode cX11_sumOf 13 = .ok (.aload_n 0, 1) := by decide +kernel
theorem dX11_sumOf_14 : decode cX11_sumOf 14 = .ok (.getfield 75, 3) := by decide +kernel
theorem dX11_sumOf_17 : decode cX11_sumOf 17 = .ok (.bipush 8, 2) := by decide +kernel
theorem dX11_sumOf_19 : decode cX11_sumOf 19 = .ok (.iload_n 1, 1) := by decide +kernel
theorem dX11_sumOf_20 : decode cX11_sumOf 20 = .ok (.imul, 1) := by decide +kernel
theorem dX11_sumOf_21 : decode cX11_sumOf 21 = .ok (.iload_n 3, 1) := by decide +kernel
theorem dX11_sumOf_22 : decode cX11_sumOf 22 = .ok (.iadd, 1) := by decide +kernel
theorem dX11_sumOf_23 : decode cX11_sumOf 23 = .ok (.iaload, 1) := by decide +kernel
theorem dX11_sumOf_24 : decode cX11_sumOf 24 = .ok (.iadd, 1) := by decide +kernel
theorem dX11_sumOf_25 : decode cX11_sumOf 25 = .ok (.istore_n 2, 1) := by decide +kernel
theorem dX11_sumOf_26 : decode cX11_sumOf 26 = .ok (.iinc 3 1, 3) := by decide +kernel
theorem dX11_sumOf_29 : decode cX11_sumOf 29 = .ok (.goto (-25), 3) := by decide +kernel
theorem dX11_sumOf_32 : decode cX11_sumOf 32 = .ok (.iload_n 2, 1) := by decide +kernel
theorem dX11_sumOf_33 : decode cX11_sumOf 33 = .ok (.ireturn, 1) := by decide +kernel
theorem dX11_throwsBack_0 : decode cX11_throwsBack 0 = .ok (.aload_n 0, 1) := by decide +kernel
theorem dX11_throwsBack_1 : decode cX11_throwsBack 1 = .ok (.iload_n 1, 1) := by decide +kernel
theorem dX11_throwsBack_2 : decode cX11_throwsBack 2 = .ok (.invokevirtual 398, 3) := by decide +kernel
theorem dX11_throwsBack_5 : decode cX11_throwsBack 5 = .ok (.ifCond .eq 17, 3) := by decide +kernel
theorem dX11_throwsBack_8 : decode cX11_throwsBack 8 = .ok (.iload_n 2, 1) := by decide +kernel
theorem dX11_throwsBack_9 : decode cX11_throwsBack 9 = .ok (.iconst 0, 1) := by decide +kernel
theorem dX11_throwsBack_10 : decode cX11_throwsBack 10 = .ok (.aload_n 0, 1) := by decide +kernel
theorem dX11_throwsBack_11 : decode cX11_throwsBack 11 = .ok (.getfield 158, 3) := by decide +kernel
theorem dX11_throwsBack_14 : decode cX11_throwsBack 14 = .ok (.iconst 1, 1) := by decide +kernel
theorem dX11_throwsBack_15 : decode cX11_throwsBack 15 = .ok (.isub, 1) := by decide +kernel
theorem dX11_throwsBack_16 : decode cX11_throwsBack 16 = .ok (.invokestatic 361, 3) := by decide +kernel
theorem dX11_throwsBack_19 : decode cX11_throwsBack 19 = .ok (.ifCond .ne 5, 3) := by decide +kernel
theorem dX11_throwsBack_22 : decode cX11_throwsBack 22 = .ok (.iconst (-1), 1) := by decide +kernel
theorem dX11_throwsBack_23 : decode cX11_throwsBack 23 = .ok (.ireturn, 1) := by decide +kernel
theorem dX11_throwsBack_24 : decode cX11_throwsBack 24 = .ok (.aload_n 0, 1) := by decide +kernel
theorem dX11_throwsBack_25 : decode cX11_throwsBack 25 = .ok (.iconst 0, 1) := by decide +kernel
theorem dX11_throwsBack_26 : decode cX11_throwsBack 26 = .ok (.iload_n 1, 1) := by decide +kernel
theorem dX11_throwsBack_27 : decode cX11_throwsBack 27 = .ok (.iconst (-1), 1) := by decide +kernel
theorem dX11_throwsBack_28 : decode cX11_throwsBack 28 = .ok (.invokevirtual 401, 3) := by decide +kernel
theorem dX11_throwsBack_31 : decode cX11_throwsBack 31 = .ok (.aload_n 0, 1) := by decide +kernel
theorem dX11_throwsBack_32 : decode cX11_throwsBack 32 = .ok (.getfield 81, 3) := by decide +kernel
theorem dX11_throwsBack_35 : decode cX11_throwsBack 35 = .ok (.iload_n 2, 1) := by decide +kernel
theorem dX11_throwsBack_36 : decode cX11_throwsBack 36 = .ok (.laload, 1) := by decide +kernel
theorem dX11_throwsBack_37 : decode cX11_throwsBack 37 = .ok (.l2i, 1) := by decide +kernel
theorem dX11_throwsBack_38 : decode cX11_throwsBack 38 = .ok (.ireturn, 1) := by decide +kernel
theorem dX11_seen_0 : decode cX11_seen 0 = .ok (.aload_n 0, 1) := by decide +kernel
theorem dX11_seen_1 : decode cX11_seen 1 = .ok (.iload_n 1, 1) := by decide +kernel
theorem dX11_seen_2 : decode cX11_seen 2 = .ok (.invokevirtual 398, 3) := by decide +kernel
theorem dX11_seen_5 : decode cX11_seen 5 = .ok (.ifCond .eq 19, 3) := by decide +kernel
theorem dX11_seen_8 : decode cX11_seen 8 = .ok (.aload_n 0, 1) := by decide +kernel
theorem dX11_seen_9 : decode cX11_seen 9 = .ok (.iload_n 2, 1) := by decide +kernel
theorem dX11_seen_10 : decode cX11_seen 10 = .ok (.invokevirtual 405, 3) := by decide +kernel
theorem dX11_seen_13 : decode cX11_seen 13 = .ok (.ifCond .eq 11, 3) := by decide +kernel
theorem dX11_seen_16 : decode cX11_seen 16 = .ok (.aload_n 0, 1) := by decide +kernel
theorem dX11_seen_17 : decode cX11_seen 17 = .ok (.iload_n 3, 1) := by decide +kernel
theorem dX11_seen_18 : decode cX11_seen 18 = .ok (.invokevirtual 408, 3) := by decide +kernel
theorem dX11_seen_21 : decode cX11_seen 21 = .ok (.ifCond .ne 7, 3) := by decide +kernel
theorem dX11_seen_24 : decode cX11_seen 24 = .ok (.ldc2_w 411, 3) := by decide +kernel
theorem dX11_seen_27 : decode cX11_seen 27 = .ok (.lreturn, 1) := by decide +kernel
theorem dX11_seen_28 : decode cX11_seen 28 = .ok (.aload_n 0, 1) := by decide +kernel
theorem dX11_seen_29 : decode cX11_seen 29 = .ok (.iconst 0, 1) := by decide +kernel
theorem dX11_seen_30 : decode cX11_seen 30 = .ok (.iload_n 1, 1) := by decide +kernel
theorem dX11_seen_31 : decode cX11_seen 31 = .ok (.iconst (-1), 1) := by decide +kernel
theorem dX11_seen_32 : decode cX11_seen 32 = .ok (.invokevirtual 401, 3) := by decide +kernel
theorem dX11_seen_35 : decode cX11_seen 35 = .ok (.aload_n 0, 1) := by decide +kernel
theorem dX11_seen_36 : decode cX11_seen 36 = .ok (.iconst 0, 1) := by decide +kernel
theorem dX11_seen_37 : decode cX11_seen 37 = .ok (.iload_n 2, 1) := by decide +kernel
theorem dX11_seen_38 : decode cX11_seen 38 = .ok (.iload_n 3, 1) := by decide +kernel
theorem dX11_seen_39 : decode cX11_seen 39 = .ok (.invokevirtual 389, 3) := by decide +kernel
theorem dX11_seen_42 : decode cX11_seen 42 = .ok (.lreturn, 1) := by decide +kernel
theorem dX11_layTwo_0 : decode cX11_layTwo 0 = .ok (.aload_n 0, 1) := by decide +kernel
theorem dX11_layTwo_1 : decode cX11_layTwo 1 = .ok (.iload_n 1, 1) := by decide +kernel
theorem dX11_layTwo_2 : decode cX11_layTwo 2 = .ok (.invokevirtual 398, 3) := by decide +kernel
theorem dX11_layTwo_5 : decode cX11_layTwo 5 = .ok (.ifCond .eq 11, 3) := by decide +kernel
theorem dX11_layTwo_8 : decode cX11_layTwo 8 = .ok (.aload_n 0, 1) := by decide +kernel
theorem dX11_layTwo_9 : decode cX11_layTwo 9 = .ok (.iload_n 2, 1) := by decide +kernel
theorem dX11_layTwo_10 : decode cX11_layTwo 10 = .ok (.invokevirtual 398, 3) := by decide +kernel
theorem dX11_layTwo_13 : decode cX11_layTwo 13 = .ok (.ifCond .ne 5, 3) := by decide +kernel
theorem dX11_layTwo_16 : decode cX11_layTwo 16 = .ok (.iconst 0, 1) := by decide +kernel
theorem dX11_layTwo_17 : decode cX11_layTwo 17 = .ok (.ireturn, 1) := by decide +kernel
theorem dX11_layTwo_18 : decode cX11_layTwo 18 = .ok (.aload_n 0, 1) := by decide +kernel
theorem dX11_layTwo_19 : decode cX11_layTwo 19 = .ok (.iconst 0, 1) := by decide +kernel
theorem dX11_layTwo_20 : decode cX11_layTwo 20 = .ok (.iload_n 1, 1) := by decide +kernel
theorem dX11_layTwo_21 : decode cX11_layTwo 21 = .ok (.iconst (-1), 1) := by decide +kernel
theorem dX11_layTwo_22 : decode cX11_layTwo 22 = .ok (.invokevirtual 401, 3) := by decide +kernel
theorem dX11_layTwo_25 : decode cX11_layTwo 25 = .ok (.aload_n 0, 1) := by decide +kernel
theorem dX11_layTwo_26 : decode cX11_layTwo 26 = .ok (.iconst 1, 1) := by decide +kernel
theorem dX11_layTwo_27 : decode cX11_layTwo 27 = .ok (.iload_n 2, 1) := by decide +kernel
theorem dX11_layTwo_28 : decode cX11_layTwo 28 = .ok (.iconst (-1), 1) := by decide +kernel
theorem dX11_layTwo_29 : decode cX11_layTwo 29 = .ok (.invokevirtual 401, 3) := by decide +kernel
theorem dX11_layTwo_32 : decode cX11_layTwo 32 = .ok (.iconst 1, 1) := by decide +kernel
theorem dX11_layTwo_33 : decode cX11_layTwo 33 = .ok (.ireturn, 1) := by decide +kernel
theorem dX11_apart_0 : decode cX11_apart 0 = .ok (.aload_n 0, 1) := by decide +kernel
theorem dX11_apart_1 : decode cX11_apart 1 = .ok (.iload_n 3, 1) := by decide +kernel
theorem dX11_apart_2 : decode cX11_apart 2 = .ok (.invokevirtual 405, 3) := by decide +kernel
theorem dX11_apart_5 : decode cX11_apart 5 = .ok (.ifCond .eq 22, 3) := by decide +kernel
theorem dX11_apart_8 : decode cX11_apart 8 = .ok (.aload_n 0, 1) := by decide +kernel
theorem dX11_apart_9 : decode cX11_apart 9 = .ok (.iload_n 1, 1) := by decide +kernel
theorem dX11_apart_10 : decode cX11_apart 10 = .ok (.iload_n 2, 1) := by decide +kernel
theorem dX11_apart_11 : decode cX11_apart 11 = .ok (.invokevirtual 413, 3) := by decide +kernel
theorem dX11_apart_14 : decode cX11_apart 14 = .ok (.ifCond .eq 13, 3) := by decide +kernel
theorem dX11_apart_17 : decode cX11_apart 17 = .ok (.aload_n 0, 1) := by decide +kernel
theorem dX11_apart_18 : decode cX11_apart 18 = .ok (.iload_n 3, 1) := by decide +kernel
theorem dX11_apart_19 : decode cX11_apart 19 = .ok (.iload 4, 2) := by decide +kernel
theorem dX11_apart_21 : decode cX11_apart 21 = .ok (.invokevirtual 392, 3) := by decide +kernel
theorem dX11_apart_24 : decode cX11_apart 24 = .ok (.goto 6, 3) := by decide +kernel
theorem dX11_apart_27 : decode cX11_apart 27 = .ok (.ldc2_w 411, 3) := by decide +kernel
theorem dX11_apart_30 : decode cX11_apart 30 = .ok (.lreturn, 1) := by decide +kernel
theorem dX11_alike_0 : decode cX11_alike 0 = .ok (.aload_n 0, 1) := by decide +kernel
theorem dX11_alike_1 : decode cX11_alike 1 = .ok (.iload_n 1, 1) := by decide +kernel
theorem dX11_alike_2 : decode cX11_alike 2 = .ok (.iload_n 2, 1) := by decide +kernel
theorem dX11_alike_3 : decode cX11_alike 3 = .ok (.invokevirtual 413, 3) := by decide +kernel
theorem dX11_alike_6 : decode cX11_alike 6 = .ok (.ifCond .ne 5, 3) := by decide +kernel
theorem dX11_alike_9 : decode cX11_alike 9 = .ok (.iconst (-1), 1) := by decide +kernel
theorem dX11_alike_10 : decode cX11_alike 10 = .ok (.ireturn, 1) := by decide +kernel
theorem dX11_alike_11 : decode cX11_alike 11 = .ok (.iconst 0, 1) := by decide +kernel
theorem dX11_alike_12 : decode cX11_alike 12 = .ok (.istore 4, 2) := by decide +kernel
theorem dX11_alike_14 : decode cX11_alike 14 = .ok (.iconst 0, 1) := by decide +kernel
theorem dX11_alike_15 : decode cX11_alike 15 = .ok (.istore 5, 2) := by decide +kernel
theorem dX11_alike_17 : decode cX11_alike 17 = .ok (.iload 5, 2) := by decide +kernel
theorem dX11_alike_19 : decode cX11_alike 19 = .ok (.aload_n 0, 1) := by decide +kernel
theorem dX11_alike_20 : decode cX11_alike 20 = .ok (.invokevirtual 365, 3) := by decide +kernel
theorem dX11_alike_23 : decode cX11_alike 23 = .ok (.if_icmp .ge 32, 3) := by decide +kernel
theorem dX11_alike_26 : decode cX11_alike 26 = .ok (.iload 4, 2) := by decide +kernel
theorem dX11_alike_28 : decode cX11_alike 28 = .ok (.aload_n 0, 1) := by decide +kernel
theorem dX11_alike_29 : decode cX11_alike 29 = .ok (.iload 5, 2) := by decide +kernel
theorem dX11_alike_31 : decode cX11_alike 31 = .ok (.iload_n 3, 1) := by decide +kernel
theorem dX11_alike_32 : decode cX11_alike 32 = .ok (.invokevirtual 417, 3) := by decide +kernel
theorem dX11_alike_35 : decode cX11_alike 35 = .ok (.ifCond .eq 10, 3) := by decide +kernel
theorem dX11_alike_38 : decode cX11_alike 38 = .ok (.iconst 1, 1) := by decide +kernel
theorem dX11_alike_39 : decode cX11_alike 39 = .ok (.iload 5, 2) := by decide +kernel
theorem dX11_alike_41 : decode cX11_alike 41 = .ok (.ishl, 1) := by decide +kernel
theorem dX11_alike_42 : decode cX11_alike 42 = .ok (.goto 4, 3) := by decide +kernel
theorem dX11_alike_45 : decode cX11_alike 45 = .ok (.iconst 0, 1) := by decide +kernel
theorem dX11_alike_46 : decode cX11_alike 46 = .ok (.ior, 1) := by decide +kernel
theorem dX11_alike_47 : decode cX11_alike 47 = .ok (.istore 4, 2) := by decide +kernel
theorem dX11_alike_49 : decode cX11_alike 49 = .ok (.iinc 5 1, 3) := by decide +kernel
theorem dX11_alike_52 : decode cX11_alike 52 = .ok (.goto (-35), 3) := by decide +kernel
theorem dX11_alike_55 : decode cX11_alike 55 = .ok (.iload 4, 2) := by decide +kernel
theorem dX11_alike_57 : decode cX11_alike 57 = .ok (.ireturn, 1) := by decide +kernel
theorem dX11_cost_0 : decode cX11_cost 0 = .ok (.iload_n 1, 1) := by decide +kernel
theorem dX11_cost_1 : decode cX11_cost 1 = .ok (.iconst (-1), 1) := by decide +kernel
theorem dX11_cost_2 : decode cX11_cost 2 = .ok (.if_icmp .eq 14, 3) := by decide +kernel
theorem dX11_cost_5 : decode cX11_cost 5 = .ok (.aload_n 0, 1) := by decide +kernel
theorem dX11_cost_6 : decode cX11_cost 6 = .ok (.iload_n 1, 1) := by decide +kernel
theorem dX11_cost_7 : decode cX11_cost 7 = .ok (.invokevirtual 398, 3) := by decide +kernel
theorem dX11_cost_10 : decode cX11_cost 10 = .ok (.ifCond .ne 6, 3) := by decide +kernel
theorem dX11_cost_13 : decode cX11_cost 13 = .ok (.bipush (-2), 2) := by decide +kernel
theorem dX11_cost_15 : decode cX11_cost 15 = .ok (.ireturn, 1) := by decide +kernel
theorem dX11_cost_16 : decode cX11_cost 16 = .ok (.aload_n 0, 1) := by decide +kernel
theorem dX11_cost_17 : decode cX11_cost 17 = .ok (.iconst 0, 1) := by decide +kernel
theorem dX11_cost_18 : decode cX11_cost 18 = .ok (.iload_n 1, 1) := by decide +kernel
theorem dX11_cost_19 : decode cX11_cost 19 = .ok (.iconst (-1), 1) := by decide +kernel
theorem dX11_cost_20 : decode cX11_cost 20 = .ok (.invokevirtual 401, 3) := by decide +kernel
theorem dX11_cost_23 : decode cX11_cost 23 = .ok (.aload_n 0, 1) := by decide +kernel
theorem dX11_cost_24 : decode cX11_cost 24 = .ok (.iconst 0, 1) := by decide +kernel
theorem dX11_cost_25 : decode cX11_cost 25 = .ok (.invokevirtual 420, 3) := by decide +kernel
theorem dX11_cost_28 : decode cX11_cost 28 = .ok (.ireturn, 1) := by decide +kernel
theorem dX11_ask_0 : decode cX11_ask 0 = .ok (.iload_n 1, 1) := by decide +kernel
theorem dX11_ask_1 : decode cX11_ask 1 = .ok (.iconst 0, 1) := by decide +kernel
theorem dX11_ask_2 : decode cX11_ask 2 = .ok (.aload_n 0, 1) := by decide +kernel
theorem dX11_ask_3 : decode cX11_ask 3 = .ok (.getfield 24, 3) := by decide +kernel
theorem dX11_ask_6 : decode cX11_ask 6 = .ok (.iconst 4, 1) := by decide +kernel
theorem dX11_ask_7 : decode cX11_ask 7 = .ok (.iaload, 1) := by decide +kernel
theorem dX11_ask_8 : decode cX11_ask 8 = .ok (.iconst 1, 1) := by decide +kernel
theorem dX11_ask_9 : decode cX11_ask 9 = .ok (.isub, 1) := by decide +kernel
theorem dX11_ask_10 : decode cX11_ask 10 = .ok (.invokestatic 361, 3) := by decide +kernel
theorem dX11_ask_13 : decode cX11_ask 13 = .ok (.ifCond .eq 34, 3) := by decide +kernel
theorem dX11_ask_16 : decode cX11_ask 16 = .ok (.aload_n 0, 1) := by decide +kernel
theorem dX11_ask_17 : decode cX11_ask 17 = .ok (.iload_n 2, 1) := by decide +kernel
theorem dX11_ask_18 : decode cX11_ask 18 = .ok (.invokevirtual 423, 3) := by decide +kernel
theorem dX11_ask_21 : decode cX11_ask 21 = .ok (.ifCond .eq 26, 3) := by decide +kernel
theorem dX11_ask_24 : decode cX11_ask 24 = .ok (.iload_n 3, 1) := by decide +kernel
theorem dX11_ask_25 : decode cX11_ask 25 = .ok (.iconst 0, 1) := by decide +kernel
theorem dX11_ask_26 : decode cX11_ask 26 = .ok (.aload_n 0, 1) := by decide +kernel
theorem dX11_ask_27 : decode cX11_ask 27 = .ok (.getfield 161, 3) := by decide +kernel
theorem dX11_ask_30 : decode cX11_ask 30 = .ok (.invokestatic 361, 3) := by decide +kernel
theorem dX11_ask_33 : decode cX11_ask 33 = .ok (.ifCond .eq 14, 3) := by decide +kernel
theorem dX11_ask_36 : decode cX11_ask 36 = .ok (.iload 4, 2) := by decide +kernel
theorem dX11_ask_38 : decode cX11_ask 38 = .ok (.iconst 0, 1) := by decide +kernel
theorem dX11_ask_39 : decode cX11_ask 39 = .ok (.bipush 8, 2) := by decide +kernel
theorem dX11_ask_41 : decode cX11_ask 41 = .ok (.invokestatic 361, 3) := by decide +kernel
theorem dX11_ask_44 : decode cX11_ask 44 = .ok (.ifCond .ne 5, 3) := by decide +kernel
theorem dX11_ask_47 : decode cX11_ask 47 = .ok (.iconst 0, 1) := by decide +kernel
theorem dX11_ask_48 : decode cX11_ask 48 = .ok (.ireturn, 1) := by decide +kernel
theorem dX11_ask_49 : decode cX11_ask 49 = .ok (.aload_n 0, 1) := by decide +kernel
theorem dX11_ask_50 : decode cX11_ask 50 = .ok (.iload_n 1, 1) := by decide +kernel
theorem dX11_ask_51 : decode cX11_ask 51 = .ok (.putfield 426, 3) := by decide +kernel
theorem dX11_ask_54 : decode cX11_ask 54 = .ok (.aload_n 0, 1) := by decide +kernel
theorem dX11_ask_55 : decode cX11_ask 55 = .ok (.iload_n 2, 1) := by decide +kernel
theorem dX11_ask_56 : decode cX11_ask 56 = .ok (.putfield 429, 3) := by decide +kernel
theorem dX11_ask_59 : decode cX11_ask 59 = .ok (.aload_n 0, 1) := by decide +kernel
theorem dX11_ask_60 : decode cX11_ask 60 = .ok (.iload_n 3, 1) := by decide +kernel
theorem dX11_ask_61 : decode cX11_ask 61 = .ok (.putfield 432, 3) := by decide +kernel
theorem dX11_ask_64 : decode cX11_ask 64 = .ok (.aload_n 0, 1) := by decide +kernel
theorem dX11_ask_65 : decode cX11_ask 65 = .ok (.iload 4, 2) := by decide +kernel
theorem dX11_ask_67 : decode cX11_ask 67 = .ok (.putfield 435, 3) := by decide +kernel
theorem dX11_ask_70 : decode cX11_ask 70 = .ok (.aload_n 0, 1) := by decide +kernel
theorem dX11_ask_71 : decode cX11_ask 71 = .ok (.iconst 1, 1) := by decide +kernel
theorem dX11_ask_72 : decode cX11_ask 72 = .ok (.putfield 342, 3) := by decide +kernel
theorem dX11_ask_75 : decode cX11_ask 75 = .ok (.iconst 1, 1) := by decide +kernel
theorem dX11_ask_76 : decode cX11_ask 76 = .ok (.ireturn, 1) := by decide +kernel
theorem dX11_choose_0 : decode cX11_choose 0 = .ok (.lconst 1, 1) := by decide +kernel
theorem dX11_choose_1 : decode cX11_choose 1 = .ok (.lstore_n 2, 1) := by decide +kernel
theorem dX11_choose_2 : decode cX11_choose 2 = .ok (.iconst 1, 1) := by decide +kernel
theorem dX11_choose_3 : decode cX11_choose 3 = .ok (.istore 4, 2) := by decide +kernel
theorem dX11_choose_5 : decode cX11_choose 5 = .ok (.iload 4, 2) := by decide +kernel
theorem dX11_choose_7 : decode cX11_choose 7 = .ok (.iload_n 1, 1) := by decide +kernel
theorem dX11_choose_8 : decode cX11_choose 8 = .ok (.if_icmp .gt 23, 3) := by decide +kernel
theorem dX11_choose_11 : decode cX11_choose 11 = .ok (.lload_n 2, 1) := by decide +kernel
theorem dX11_choose_12 : decode cX11_choose 12 = .ok (.iload_n 0, 1) := by decide +kernel
theorem dX11_choose_13 : decode cX11_choose 13 = .ok (.iload_n 1, 1) := by decide +kernel
theorem dX11_choose_14 : decode cX11_choose 14 = .ok (.isub, 1) := by decide +kernel
theorem dX11_choose_15 : decode cX11_choose 15 = .ok (.iload 4, 2) := by decide +kernel
theorem dX11_choose_17 : decode cX11_choose 17 = .ok (.iadd, 1) := by decide +kernel
theorem dX11_choose_18 : decode cX11_choose 18 = .ok (.i2l, 1) := by decide +kernel
theorem dX11_choose_19 : decode cX11_choose 19 = .ok (.lmul, 1) := by decide +kernel
theorem dX11_choose_20 : decode cX11_choose 20 = .ok (.iload 4, 2) := by decide +kernel
theorem dX11_choose_22 : decode cX11_choose 22 = .ok (.i2l, 1) := by decide +kernel
theorem dX11_choose_23 : decode cX11_choose 23 = .ok (.ldiv, 1) := by decide +kernel
theorem dX11_choose_24 : decode cX11_choose 24 = .ok (.lstore_n 2, 1) := by decide +kernel
theorem dX11_choose_25 : decode cX11_choose 25 = .ok (.iinc 4 1, 3) := by decide +kernel
theorem dX11_choose_28 : decode cX11_choose 28 = .ok (.goto (-23), 3) := by decide +kernel
theorem dX11_choose_31 : decode cX11_choose 31 = .ok (.lload_n 2, 1) := by decide +kernel
theorem dX11_choose_32 : decode cX11_choose 32 = .ok (.l2i, 1) := by decide +kernel
theorem dX11_choose_33 : decode cX11_choose 33 = .ok (.ireturn, 1) := by decide +kernel
theorem dX11_mixes_0 : decode cX11_mixes 0 = .ok (.aload_n 0, 1) := by decide +kernel
theorem dX11_mixes_1 : decode cX11_mixes 1 = .ok (.getfield 342, 3) := by decide +kernel
theorem dX11_mixes_4 : decode cX11_mixes 4 = .ok (.ifCond .ne 5, 3) := by decide +kernel
theorem dX11_mixes_7 : decode cX11_mixes 7 = .ok (.iconst (-1), 1) := by decide +kernel
theorem dX11_mixes_8 : decode cX11_mixes 8 = .ok (.ireturn, 1) := by decide +kernel
theorem dX11_mixes_9 : decode cX11_mixes 9 = .ok (.iconst 0, 1) := by decide +kernel
theorem dX11_mixes_10 : decode cX11_mixes 10 = .ok (.istore_n 1, 1) := by decide +kernel
theorem dX11_mixes_11 : decode cX11_mixes 11 = .ok (.iconst 0, 1) := by decide +kernel
theorem dX11_mixes_12 : decode cX11_mixes 12 = .ok (.istore_n 2, 1) := by decide +kernel
theorem dX11_mixes_13 : decode cX11_mixes 13 = .ok (.iload_n 2, 1) := by decide +kernel
theorem dX11_mixes_14 : decode cX11_mixes 14 = .ok (.aload_n 0, 1) := by decide +kernel
theorem dX11_mixes_15 : decode cX11_mixes 15 = .ok (.getfield 435, 3) := by decide +kernel
theorem dX11_mixes_18 : decode cX11_mixes 18 = .ok (.if_icmp .gt 45, 3) := by decide +kernel
theorem dX11_mixes_21 : decode cX11_mixes 21 = .ok (.iload_n 2, 1) := by decide +kernel
theorem dX11_mixes_22 : decode cX11_mixes 22 = .ok (.aload_n 0, 1) := by decide +kernel
theorem dX11_mixes_23 : decode cX11_mixes 23 = .ok (.invokevirtual 357, 3) := by decide +kernel
theorem dX11_mixes_26 : decode cX11_mixes 26 = .ok (.if_icmp .gt 37, 3) := by decide +kernel
theorem dX11_mixes_29 : decode cX11_mixes 29 = .ok (.iload_n 2, 1) := by decide +kernel
theorem dX11_mixes_30 : decode cX11_mixes 30 = .ok (.aload_n 0, 1) := by decide +kernel
theorem dX11_mixes_31 : decode cX11_mixes 31 = .ok (.getfield 432, 3) := by decide +kernel
theorem dX11_mixes_34 : decode cX11_mixes 34 = .ok (.if_icmp .gt 29, 3) := by decide +kernel
theorem dX11_mixes_37 : decode cX11_mixes 37 = .ok (.iload_n 1, 1) := by decide +kernel
theorem dX11_mixes_38 : decode cX11_mixes 38 = .ok (.aload_n 0, 1) := by decide +kernel
theorem dX11_mixes_39 : decode cX11_mixes 39 = .ok (.invokevirtual 357, 3) := by decide +kernel
theorem dX11_mixes_42 : decode cX11_mixes 42 = .ok (.iload_n 2, 1) := by decide +kernel
theorem dX11_mixes_43 : decode cX11_mixes 43 = .ok (.invokestatic 438, 3) := by decide +kernel
theorem dX11_mixes_46 : decode cX11_mixes 46 = .ok (.aload_n 0, 1) := by decide +kernel
theorem dX11_mixes_47 : decode cX11_mixes 47 = .ok (.getfield 432, 3) := by decide +kernel
theorem dX11_mixes_50 : decode cX11_mixes 50 = .ok (.iload_n 2, 1) := by decide +kernel
theorem dX11_mixes_51 : decode cX11_mixes 51 = .ok (.invokestatic 438, 3) := by decide +kernel
theorem dX11_mixes_54 : decode cX11_mixes 54 = .ok (.imul, 1) := by decide +kernel
theorem dX11_mixes_55 : decode cX11_mixes 55 = .ok (.iadd, 1) := by decide +kernel
theorem dX11_mixes_56 : decode cX11_mixes 56 = .ok (.istore_n 1, 1) := by decide +kernel
theorem dX11_mixes_57 : decode cX11_mixes 57 = .ok (.iinc 2 1, 3) := by decide +kernel
theorem dX11_mixes_60 : decode cX11_mixes 60 = .ok (.goto (-47), 3) := by decide +kernel
theorem dX11_mixes_63 : decode cX11_mixes 63 = .ok (.iload_n 1, 1) := by decide +kernel
theorem dX11_mixes_64 : decode cX11_mixes 64 = .ok (.ireturn, 1) := by decide +kernel
theorem dX11_beginMixes_0 : decode cX11_beginMixes 0 = .ok (.aload_n 0, 1) := by decide +kernel
theorem dX11_beginMixes_1 : decode cX11_beginMixes 1 = .ok (.iconst 0, 1) := by decide +kernel
theorem dX11_beginMixes_2 : decode cX11_beginMixes 2 = .ok (.aload_n 0, 1) := by decide +kernel
theorem dX11_beginMixes_3 : decode cX11_beginMixes 3 = .ok (.getfield 426, 3) := by decide +kernel
theorem dX11_beginMixes_6 : decode cX11_beginMixes 6 = .ok (.iconst (-1), 1) := by decide +kernel
theorem dX11_beginMixes_7 : decode cX11_beginMixes 7 = .ok (.invokevirtual 401, 3) := by decide +kernel
theorem dX11_beginMixes_10 : decode cX11_beginMixes 10 = .ok (.aload_n 0, 1) := by decide +kernel
theorem dX11_beginMixes_11 : decode cX11_beginMixes 11 = .ok (.getfield 78, 3) := by decide +kernel
theorem dX11_beginMixes_14 : decode cX11_beginMixes 14 = .ok (.iconst 1, 1) := by decide +kernel
theorem dX11_beginMixes_15 : decode cX11_beginMixes 15 = .ok (.aload_n 0, 1) := by decide +kernel
theorem dX11_beginMixes_16 : decode cX11_beginMixes 16 = .ok (.getfield 429, 3) := by decide +kernel
theorem dX11_beginMixes_19 : decode cX11_beginMixes 19 = .ok (.iastore, 1) := by decide +kernel
theorem dX11_beginMixes_20 : decode cX11_beginMixes 20 = .ok (.iconst 0, 1) := by decide +kernel
theorem dX11_beginMixes_21 : decode cX11_beginMixes 21 = .ok (.istore_n 1, 1) := by decide +kernel
theorem dX11_beginMixes_22 : decode cX11_beginMixes 22 = .ok (.iload_n 1, 1) := by decide +kernel
theorem dX11_beginMixes_23 : decode cX11_beginMixes 23 = .ok (.bipush 8, 2) := by decide +kernel
theorem dX11_beginMixes_25 : decode cX11_beginMixes 25 = .ok (.if_icmp .ge 19, 3) := by decide +kernel
theorem dX11_beginMixes_28 : decode cX11_beginMixes 28 = .ok (.aload_n 0, 1) := by decide +kernel
theorem dX11_beginMixes_29 : decode cX11_beginMixes 29 = .ok (.getfield 75, 3) := by decide +kernel
theorem dX11_beginMixes_32 : decode cX11_beginMixes 32 = .ok (.bipush 8, 2) := by decide +kernel
theorem dX11_beginMixes_34 : decode cX11_beginMixes 34 = .ok (.iload_n 1, 1) := by decide +kernel
theorem dX11_beginMixes_35 : decode cX11_beginMixes 35 = .ok (.iadd, 1) := by decide +kernel
theorem dX11_beginMixes_36 : decode cX11_beginMixes 36 = .ok (.iconst 0, 1) := by decide +kernel
theorem dX11_beginMixes_37 : decode cX11_beginMixes 37 = .ok (.iastore, 1) := by decide +kernel
theorem dX11_beginMixes_38 : decode cX11_beginMixes 38 = .ok (.iinc 1 1, 3) := by decide +kernel
theorem dX11_beginMixes_41 : decode cX11_beginMixes 41 = .ok (.goto (-19), 3) := by decide +kernel
theorem dX11_beginMixes_44 : decode cX11_beginMixes 44 = .ok (.aload_n 0, 1) := by decide +kernel
theorem dX11_beginMixes_45 : decode cX11_beginMixes 45 = .ok (.iconst 1, 1) := by decide +kernel
theorem dX11_beginMixes_46 : decode cX11_beginMixes 46 = .ok (.invokevirtual 382, 3) := by decide +kernel
theorem dX11_beginMixes_49 : decode cX11_beginMixes 49 = .ok (.return_, 1) := by decide +kernel
theorem dX11_unlike_0 : decode cX11_unlike 0 = .ok (.iconst 0, 1) := by decide +kernel
theorem dX11_unlike_1 : decode cX11_unlike 1 = .ok (.istore_n 1, 1) := by decide +kernel
theorem dX11_unlike_2 : decode cX11_unlike 2 = .ok (.iconst 0, 1) := by decide +kernel
theorem dX11_unlike_3 : decode cX11_unlike 3 = .ok (.istore_n 2, 1) := by decide +kernel
theorem dX11_unlike_4 : decode cX11_unlike 4 = .ok (.iload_n 2, 1) := by decide +kernel
theorem dX11_unlike_5 : decode cX11_unlike 5 = .ok (.aload_n 0, 1) := by decide +kernel
theorem dX11_unlike_6 : decode cX11_unlike 6 = .ok (.invokevirtual 357, 3) := by decide +kernel
theorem dX11_unlike_9 : decode cX11_unlike 9 = .ok (.if_icmp .ge 29, 3) := by decide +kernel
theorem dX11_unlike_12 : decode cX11_unlike 12 = .ok (.iload_n 1, 1) := by decide +kernel
theorem dX11_unlike_13 : decode cX11_unlike 13 = .ok (.aload_n 0, 1) := by decide +kernel
theorem dX11_unlike_14 : decode cX11_unlike 14 = .ok (.getfield 75, 3) := by decide +kernel
theorem dX11_unlike_17 : decode cX11_unlike 17 = .ok (.bipush 8, 2) := by decide +kernel
theorem dX11_unlike_19 : decode cX11_unlike 19 = .ok (.iload_n 2, 1) := by decide +kernel
theorem dX11_unlike_20 : decode cX11_unlike 20 = .ok (.iadd, 1) := by decide +kernel
theorem dX11_unlike_21 : decode cX11_unlike 21 = .ok (.iaload, 1) := by decide +kernel
theorem dX11_unlike_22 : decode cX11_unlike 22 = .ok (.ifCond .le 7, 3) := by decide +kernel
theorem dX11_unlike_25 : decode cX11_unlike 25 = .ok (.iconst 1, 1) := by decide +kernel
theorem dX11_unlike_26 : decode cX11_unlike 26 = .ok (.goto 4, 3) := by decide +kernel
theorem dX11_unlike_29 : decode cX11_unlike 29 = .ok (.iconst 0, 1) := by decide +kernel
theorem dX11_unlike_30 : decode cX11_unlike 30 = .ok (.iadd, 1) := by decide +kernel
theorem dX11_unlike_31 : decode cX11_unlike 31 = .ok (.istore_n 1, 1) := by decide +kernel
theorem dX11_unlike_32 : decode cX11_unlike 32 = .ok (.iinc 2 1, 3) := by decide +kernel
theorem dX11_unlike_35 : decode cX11_unlike 35 = .ok (.goto (-31), 3) := by decide +kernel
theorem dX11_unlike_38 : decode cX11_unlike 38 = .ok (.iload_n 1, 1) := by decide +kernel
theorem dX11_unlike_39 : decode cX11_unlike 39 = .ok (.ireturn, 1) := by decide +kernel
theorem dX11_nextMix_0 : decode cX11_nextMix 0 = .ok (.aload_n 0, 1) := by decide +kernel
theorem dX11_nextMix_1 : decode cX11_nextMix 1 = .ok (.invokevirtual 357, 3) := by decide +kernel
theorem dX11_nextMix_4 : decode cX11_nextMix 4 = .ok (.iconst 1, 1) := by decide +kernel
theorem dX11_nextMix_5 : decode cX11_nextMix 5 = .ok (.isub, 1) := by decide +kernel
theorem dX11_nextMix_6 : decode cX11_nextMix 6 = .ok (.istore_n 1, 1) := by decide +kernel
theorem dX11_nextMix_7 : decode cX11_nextMix 7 = .ok (.iload_n 1, 1) := by decide +kernel
theorem dX11_nextMix_8 : decode cX11_nextMix 8 = .ok (.ifCond .lt 62, 3) := by decide +kernel
theorem dX11_nextMix_11 : decode cX11_nextMix 11 = .ok (.aload_n 0, 1) := by decide +kernel
theorem dX11_nextMix_12 : decode cX11_nextMix 12 = .ok (.getfield 75, 3) := by decide +kernel
theorem dX11_nextMix_15 : decode cX11_nextMix 15 = .ok (.bipush 8, 2) := by decide +kernel
theorem dX11_nextMix_17 : decode cX11_nextMix 17 = .ok (.iload_n 1, 1) := by decide +kernel
theorem dX11_nextMix_18 : decode cX11_nextMix 18 = .ok (.iadd, 1) := by decide +kernel
theorem dX11_nextMix_19 : decode cX11_nextMix 19 = .ok (.dup2, 1) := by decide +kernel
theorem dX11_nextMix_20 : decode cX11_nextMix 20 = .ok (.iaload, 1) := by decide +kernel
theorem dX11_nextMix_21 : decode cX11_nextMix 21 = .ok (.iconst 1, 1) := by decide +kernel
theorem dX11_nextMix_22 : decode cX11_nextMix 22 = .ok (.iadd, 1) := by decide +kernel
theorem dX11_nextMix_23 : decode cX11_nextMix 23 = .ok (.iastore, 1) := by decide +kernel
theorem dX11_nextMix_24 : decode cX11_nextMix 24 = .ok (.aload_n 0, 1) := by decide +kernel
theorem dX11_nextMix_25 : decode cX11_nextMix 25 = .ok (.iconst 1, 1) := by decide +kernel
theorem dX11_nextMix_26 : decode cX11_nextMix 26 = .ok (.invokevirtual 441, 3) := by decide +kernel
theorem dX11_nextMix_29 : decode cX11_nextMix 29 = .ok (.aload_n 0, 1) := by decide +kernel
theorem dX11_nextMix_30 : decode cX11_nextMix 30 = .ok (.getfield 432, 3) := by decide +kernel
theorem dX11_nextMix_33 : decode cX11_nextMix 33 = .ok (.if_icmp .gt 21, 3) := by decide +kernel
theorem dX11_nextMix_36 : decode cX11_nextMix 36 = .ok (.aload_n 0, 1) := by decide +kernel
theorem dX11_nextMix_37 : decode cX11_nextMix 37 = .ok (.invokevirtual 444, 3) := by decide +kernel
theorem dX11_nextMix_40 : decode cX11_nextMix 40 = .ok (.aload_n 0, 1) := by decide +kernel
theorem dX11_nextMix_41 : decode cX11_nextMix 41 = .ok (.getfield 435, 3) := by decide +kernel
theorem dX11_nextMix_44 : decode cX11_nextMix 44 = .ok (.if_icmp .gt 10, 3) := by decide +kernel
theorem dX11_nextMix_47 : decode cX11_nextMix 47 = .ok (.aload_n 0, 1) := by decide +kernel
theorem dX11_nextMix_48 : decode cX11_nextMix 48 = .ok (.iconst 1, 1) := by decide +kernel
theorem dX11_nextMix_49 : decode cX11_nextMix 49 = .ok (.invokevirtual 382, 3) := by decide +kernel
theorem dX11_nextMix_52 : decode cX11_nextMix 52 = .ok (.iconst 1, 1) := by decide +kernel
theorem dX11_nextMix_53 : decode cX11_nextMix 53 = .ok (.ireturn, 1) := by decide +kernel
theorem dX11_nextMix_54 : decode cX11_nextMix 54 = .ok (.aload_n 0, 1) := by decide +kernel
theorem dX11_nextMix_55 : decode cX11_nextMix 55 = .ok (.getfield 75, 3) := by decide +kernel
theorem dX11_nextMix_58 : decode cX11_nextMix 58 = .ok (.bipush 8, 2) := by decide +kernel
theorem dX11_nextMix_60 : decode cX11_nextMix 60 = .ok (.iload_n 1, 1) := by decide +kernel
theorem dX11_nextMix_61 : decode cX11_nextMix 61 = .ok (.iadd, 1) := by decide +kernel
theorem dX11_nextMix_62 : decode cX11_nextMix 62 = .ok (.iconst 0, 1) := by decide +kernel
theorem dX11_nextMix_63 : decode cX11_nextMix 63 = .ok (.iastore, 1) := by decide +kernel
theorem dX11_nextMix_64 : decode cX11_nextMix 64 = .ok (.iinc 1 (-1), 3) := by decide +kernel
theorem dX11_nextMix_67 : decode cX11_nextMix 67 = .ok (.goto (-60), 3) := by decide +kernel
theorem dX11_nextMix_70 : decode cX11_nextMix 70 = .ok (.iconst 0, 1) := by decide +kernel
theorem dX11_nextMix_71 : decode cX11_nextMix 71 = .ok (.ireturn, 1) := by decide +kernel
theorem dX11_putDown_0 : decode cX11_putDown 0 = .ok (.iconst 0, 1) := by decide +kernel
theorem dX11_putDown_1 : decode cX11_putDown 1 = .ok (.istore_n 1, 1) := by decide +kernel
theorem dX11_putDown_2 : decode cX11_putDown 2 = .ok (.iload_n 1, 1) := by decide +kernel
theorem dX11_putDown_3 : decode cX11_putDown 3 = .ok (.bipush 8, 2) := by decide +kernel
theorem dX11_putDown_5 : decode cX11_putDown 5 = .ok (.if_icmp .ge 24, 3) := by decide +kernel
theorem dX11_putDown_8 : decode cX11_putDown 8 = .ok (.aload_n 0, 1) := by decide +kernel
theorem dX11_putDown_9 : decode cX11_putDown 9 = .ok (.getfield 84, 3) := by decide +kernel
theorem dX11_putDown_12 : decode cX11_putDown 12 = .ok (.iload_n 1, 1) := by decide +kernel
theorem dX11_putDown_13 : decode cX11_putDown 13 = .ok (.aload_n 0, 1) := by decide +kernel
theorem dX11_putDown_14 : decode cX11_putDown 14 = .ok (.getfield 75, 3) := by decide +kernel
theorem dX11_putDown_17 : decode cX11_putDown 17 = .ok (.bipush 8, 2) := by decide +kernel
theorem dX11_putDown_19 : decode cX11_putDown 19 = .ok (.iload_n 1, 1) := by decide +kernel
theorem dX11_putDown_20 : decode cX11_putDown 20 = .ok (.iadd, 1) := by decide +kernel
theorem dX11_putDown_21 : decode cX11_putDown 21 = .ok (.iaload, 1) := by decide +kernel
theorem dX11_putDown_22 : decode cX11_putDown 22 = .ok (.iastore, 1) := by decide +kernel
theorem dX11_putDown_23 : decode cX11_putDown 23 = .ok (.iinc 1 1, 3) := by decide +kernel
theorem dX11_putDown_26 : decode cX11_putDown 26 = .ok (.goto (-24), 3) := by decide +kernel
theorem dX11_putDown_29 : decode cX11_putDown 29 = .ok (.aload_n 0, 1) := by decide +kernel
theorem dX11_putDown_30 : decode cX11_putDown 30 = .ok (.aload_n 0, 1) := by decide +kernel
theorem dX11_putDown_31 : decode cX11_putDown 31 = .ok (.iconst 1, 1) := by decide +kernel
theorem dX11_putDown_32 : decode cX11_putDown 32 = .ok (.invokevirtual 420, 3) := by decide +kernel
theorem dX11_putDown_35 : decode cX11_putDown 35 = .ok (.putfield 447, 3) := by decide +kernel
theorem dX11_putDown_38 : decode cX11_putDown 38 = .ok (.aload_n 0, 1) := by decide +kernel
theorem dX11_putDown_39 : decode cX11_putDown 39 = .ok (.aload_n 0, 1) := by decide +kernel
theorem dX11_putDown_40 : decode cX11_putDown 40 = .ok (.iconst 1, 1) := by decide +kernel
theorem dX11_putDown_41 : decode cX11_putDown 41 = .ok (.invokevirtual 441, 3) := by decide +kernel
theorem dX11_putDown_44 : decode cX11_putDown 44 = .ok (.putfield 450, 3) := by decide +kernel
theorem dX11_putDown_47 : decode cX11_putDown 47 = .ok (.aload_n 0, 1) := by decide +kernel
theorem dX11_putDown_48 : decode cX11_putDown 48 = .ok (.iconst 1, 1) := by decide +kernel
theorem dX11_putDown_49 : decode cX11_putDown 49 = .ok (.putfield 348, 3) := by decide +kernel
theorem dX11_putDown_52 : decode cX11_putDown 52 = .ok (.return_, 1) := by decide +kernel
theorem dX11_isCheaper_0 : decode cX11_isCheaper 0 = .ok (.aload_n 0, 1) := by decide +kernel
theorem dX11_isCheaper_1 : decode cX11_isCheaper 1 = .ok (.iconst 1, 1) := by decide +kernel
theorem dX11_isCheaper_2 : decode cX11_isCheaper 2 = .ok (.invokevirtual 420, 3) := by decide +kernel
theorem dX11_isCheaper_5 : decode cX11_isCheaper 5 = .ok (.istore_n 1, 1) := by decide +kernel
theorem dX11_isCheaper_6 : decode cX11_isCheaper 6 = .ok (.iload_n 1, 1) := by decide +kernel
theorem dX11_isCheaper_7 : decode cX11_isCheaper 7 = .ok (.aload_n 0, 1) := by decide +kernel
theorem dX11_isCheaper_8 : decode cX11_isCheaper 8 = .ok (.getfield 447, 3) := by decide +kernel
theorem dX11_isCheaper_11 : decode cX11_isCheaper 11 = .ok (.if_icmp .lt 23, 3) := by decide +kernel
theorem dX11_isCheaper_14 : decode cX11_isCheaper 14 = .ok (.iload_n 1, 1) := by decide +kernel
theorem dX11_isCheaper_15 : decode cX11_isCheaper 15 = .ok (.aload_n 0, 1) := by decide +kernel
theorem dX11_isCheaper_16 : decode cX11_isCheaper 16 = .ok (.getfield 447, 3) := by decide +kernel
theorem dX11_isCheaper_19 : decode cX11_isCheaper 19 = .ok (.if_icmp .ne 19, 3) := by decide +kernel
theorem dX11_isCheaper_22 : decode cX11_isCheaper 22 = .ok (.aload_n 0, 1) := by decide +kernel
theorem dX11_isCheaper_23 : decode cX11_isCheaper 23 = .ok (.iconst 1, 1) := by decide +kernel
theorem dX11_isCheaper_24 : decode cX11_isCheaper 24 = .ok (.invokevirtual 441, 3) := by decide +kernel
theorem dX11_isCheaper_27 : decode cX11_isCheaper 27 = .ok (.aload_n 0, 1) := by decide +kernel
theorem dX11_isCheaper_28 : decode cX11_isCheaper 28 = .ok (.getfield 450, 3) := by decide +kernel
theorem dX11_isCheaper_31 : decode cX11_isCheaper 31 = .ok (.if_icmp .ge 7, 3) := by decide +kernel
theorem dX11_isCheaper_34 : decode cX11_isCheaper 34 = .ok (.iconst 1, 1) := by decide +kernel
theorem dX11_isCheaper_35 : decode cX11_isCheaper 35 = .ok (.goto 4, 3) := by decide +kernel
theorem dX11_isCheaper_38 : decode cX11_isCheaper 38 = .ok (.iconst 0, 1) := by decide +kernel
theorem dX11_isCheaper_39 : decode cX11_isCheaper 39 = .ok (.ireturn, 1) := by decide +kernel
theorem dX11_isSet_0 : decode cX11_isSet 0 = .ok (.iload_n 1, 1) := by decide +kernel
theorem dX11_isSet_1 : decode cX11_isSet 1 = .ok (.ifCond .le 17, 3) := by decide +kernel
theorem dX11_isSet_4 : decode cX11_isSet 4 = .ok (.iload_n 1, 1) := by decide +kernel
theorem dX11_isSet_5 : decode cX11_isSet 5 = .ok (.iconst 1, 1) := by decide +kernel
theorem dX11_isSet_6 : decode cX11_isSet 6 = .ok (.aload_n 0, 1) := by decide +kernel
theorem dX11_isSet_7 : decode cX11_isSet 7 = .ok (.invokevirtual 365, 3) := by decide +kernel
theorem dX11_isSet_10 : decode cX11_isSet 10 = .ok (.ishl, 1) := by decide +kernel
theorem dX11_isSet_11 : decode cX11_isSet 11 = .ok (.if_icmp .ge 7, 3) := by decide +kernel
theorem dX11_isSet_14 : decode cX11_isSet 14 = .ok (.iconst 1, 1) := by decide +kernel
theorem dX11_isSet_15 : decode cX11_isSet 15 = .ok (.goto 4, 3) := by decide +kernel
theorem dX11_isSet_18 : decode cX11_isSet 18 = .ok (.iconst 0, 1) := by decide +kernel
theorem dX11_isSet_19 : decode cX11_isSet 19 = .ok (.ireturn, 1) := by decide +kernel
theorem dX11_isAlikeBy_0 : decode cX11_isAlikeBy 0 = .ok (.iconst 1, 1) := by decide +kernel
theorem dX11_isAlikeBy_1 : decode cX11_isAlikeBy 1 = .ok (.istore_n 3, 1) := by decide +kernel
theorem dX11_isAlikeBy_2 : decode cX11_isAlikeBy 2 = .ok (.iconst 0, 1) := by decide +kernel
theorem dX11_isAlikeBy_3 : decode cX11_isAlikeBy 3 = .ok (.istore 4, 2) := by decide +kernel
theorem dX11_isAlikeBy_5 : decode cX11_isAlikeBy 5 = .ok (.iload 4, 2) := by decide +kernel
theorem dX11_isAlikeBy_7 : decode cX11_isAlikeBy 7 = .ok (.aload_n 0, 1) := by decide +kernel
theorem dX11_isAlikeBy_8 : decode cX11_isAlikeBy 8 = .ok (.invokevirtual 365, 3) := by decide +kernel
theorem dX11_isAlikeBy_11 : decode cX11_isAlikeBy 11 = .ok (.if_icmp .ge 38, 3) := by decide +kernel
theorem dX11_isAlikeBy_14 : decode cX11_isAlikeBy 14 = .ok (.iload_n 3, 1) := by decide +kernel
theorem dX11_isAlikeBy_15 : decode cX11_isAlikeBy 15 = .ok (.ifCond .eq 34, 3) := by decide +kernel
theorem dX11_isAlikeBy_18 : decode cX11_isAlikeBy 18 = .ok (.iload_n 1, 1) := by decide +kernel
theorem dX11_isAlikeBy_19 : decode cX11_isAlikeBy 19 = .ok (.iload 4, 2) := by decide +kernel
theorem dX11_isAlikeBy_21 : decode cX11_isAlikeBy 21 = .ok (.ishr, 1) := by decide +kernel
theorem dX11_isAlikeBy_22 : decode cX11_isAlikeBy 22 = .ok (.iconst 1, 1) := by decide +kernel
theorem dX11_isAlikeBy_23 : decode cX11_isAlikeBy 23 = .ok (.iand, 1) := by decide +kernel
theorem dX11_isAlikeBy_24 : decode cX11_isAlikeBy 24 = .ok (.ifCond .eq 13, 3) := by decide +kernel
theorem dX11_isAlikeBy_27 : decode cX11_isAlikeBy 27 = .ok (.aload_n 0, 1) := by decide +kernel
theorem dX11_isAlikeBy_28 : decode cX11_isAlikeBy 28 = .ok (.iload 4, 2) := by decide +kernel
theorem dX11_isAlikeBy_30 : decode cX11_isAlikeBy 30 = .ok (.iload_n 2, 1) := by decide +kernel
theorem dX11_isAlikeBy_31 : decode cX11_isAlikeBy 31 = .ok (.invokevirtual 417, 3) := by decide +kernel
theorem dX11_isAlikeBy_34 : decode cX11_isAlikeBy 34 = .ok (.ifCond .eq 7, 3) := by decide +kernel
theorem dX11_isAlikeBy_37 : decode cX11_isAlikeBy 37 = .ok (.iconst 1, 1) := by decide +kernel
theorem dX11_isAlikeBy_38 : decode cX11_isAlikeBy 38 = .ok (.goto 4, 3) := by decide +kernel
theorem dX11_isAlikeBy_41 : decode cX11_isAlikeBy 41 = .ok (.iconst 0, 1) := by decide +kernel
theorem dX11_isAlikeBy_42 : decode cX11_isAlikeBy 42 = .ok (.istore_n 3, 1) := by decide +kernel
theorem dX11_isAlikeBy_43 : decode cX11_isAlikeBy 43 = .ok (.iinc 4 1, 3) := by decide +kernel
theorem dX11_isAlikeBy_46 : decode cX11_isAlikeBy 46 = .ok (.goto (-41), 3) := by decide +kernel
theorem dX11_isAlikeBy_49 : decode cX11_isAlikeBy 49 = .ok (.iload_n 3, 1) := by decide +kernel
theorem dX11_isAlikeBy_50 : decode cX11_isAlikeBy 50 = .ok (.ireturn, 1) := by decide +kernel
theorem dX11_farthest_0 : decode cX11_farthest 0 = .ok (.lconst 0, 1) := by decide +kernel
theorem dX11_farthest_1 : decode cX11_farthest 1 = .ok (.lstore_n 3, 1) := by decide +kernel
theorem dX11_farthest_2 : decode cX11_farthest 2 = .ok (.iconst 0, 1) := by decide +kernel
theorem dX11_farthest_3 : decode cX11_farthest 3 = .ok (.istore 5, 2) := by decide +kernel
theorem dX11_farthest_5 : decode cX11_farthest 5 = .ok (.iload 5, 2) := by decide +kernel
theorem dX11_farthest_7 : decode cX11_farthest 7 = .ok (.aload_n 0, 1) := by decide +kernel
theorem dX11_farthest_8 : decode cX11_farthest 8 = .ok (.invokevirtual 365, 3) := by decide +kernel
theorem dX11_farthest_11 : decode cX11_farthest 11 = .ok (.if_icmp .ge 46, 3) := by decide +kernel
theorem dX11_farthest_14 : decode cX11_farthest 14 = .ok (.iload_n 1, 1) := by decide +kernel
theorem dX11_farthest_15 : decode cX11_farthest 15 = .ok (.iload 5, 2) := by decide +kernel
theorem dX11_farthest_17 : decode cX11_farthest 17 = .ok (.ishr, 1) := by decide +kernel
theorem dX11_farthest_18 : decode cX11_farthest 18 = .ok (.iconst 1, 1) := by decide +kernel
theorem dX11_farthest_19 : decode cX11_farthest 19 = .ok (.iand, 1) := by decide +kernel
theorem dX11_farthest_20 : decode cX11_farthest 20 = .ok (.iconst 1, 1) := by decide +kernel
theorem dX11_farthest_21 : decode cX11_farthest 21 = .ok (.if_icmp .ne 13, 3) := by decide +kernel
theorem dX11_farthest_24 : decode cX11_farthest 24 = .ok (.aload_n 0, 1) := by decide +kernel
theorem dX11_farthest_25 : decode cX11_farthest 25 = .ok (.iload 5, 2) := by decide +kernel
theorem dX11_farthest_27 : decode cX11_farthest 27 = .ok (.iload_n 2, 1) := by decide +kernel
theorem dX11_farthest_28 : decode cX11_farthest 28 = .ok (.invokevirtual 392, 3) := by decide +kernel
theorem dX11_farthest_31 : decode cX11_farthest 31 = .ok (.goto 4, 3) := by decide +kernel
theorem dX11_farthest_34 : decode cX11_farthest 34 = .ok (.lconst 0, 1) := by decide +kernel
theorem dX11_farthest_35 : decode cX11_farthest 35 = .ok (.lstore 6, 2) := by decide +kernel
theorem dX11_farthest_37 : decode cX11_farthest 37 = .ok (.lload 6, 2) := by decide +kernel
theorem dX11_farthest_39 : decode cX11_farthest 39 = .ok (.lload_n 3, 1) := by decide +kernel
theorem dX11_farthest_40 : decode cX11_farthest 40 = .ok (.lcmp, 1) := by decide +kernel
theorem dX11_farthest_41 : decode cX11_farthest 41 = .ok (.ifCond .le 8, 3) := by decide +kernel
theorem dX11_farthest_44 : decode cX11_farthest 44 = .ok (.lload 6, 2) := by decide +kernel
theorem dX11_farthest_46 : decode cX11_farthest 46 = .ok (.goto 4, 3) := by decide +kernel
theorem dX11_farthest_49 : decode cX11_farthest 49 = .ok (.lload_n 3, 1) := by decide +kernel
theorem dX11_farthest_50 : decode cX11_farthest 50 = .ok (.lstore_n 3, 1) := by decide +kernel
theorem dX11_farthest_51 : decode cX11_farthest 51 = .ok (.iinc 5 1, 3) := by decide +kernel
theorem dX11_farthest_54 : decode cX11_farthest 54 = .ok (.goto (-49), 3) := by decide +kernel
theorem dX11_farthest_57 : decode cX11_farthest 57 = .ok (.lload_n 3, 1) := by decide +kernel
theorem dX11_farthest_58 : decode cX11_farthest 58 = .ok (.lreturn, 1) := by decide +kernel
theorem dX11_match_0 : decode cX11_match 0 = .ok (.aload_n 0, 1) := by decide +kernel
theorem dX11_match_1 : decode cX11_match 1 = .ok (.iconst 0, 1) := by decide +kernel
theorem dX11_match_2 : decode cX11_match 2 = .ok (.putfield 348, 3) := by decide +kernel
theorem dX11_match_5 : decode cX11_match 5 = .ok (.aload_n 0, 1) := by decide +kernel
theorem dX11_match_6 : decode cX11_match 6 = .ok (.getfield 342, 3) := by decide +kernel
theorem dX11_match_9 : decode cX11_match 9 = .ok (.ifCond .eq 11, 3) := by decide +kernel
theorem dX11_match_12 : decode cX11_match 12 = .ok (.aload_n 0, 1) := by decide +kernel
theorem dX11_match_13 : decode cX11_match 13 = .ok (.iload_n 1, 1) := by decide +kernel
theorem dX11_match_14 : decode cX11_match 14 = .ok (.invokevirtual 453, 3) := by decide +kernel
theorem dX11_match_17 : decode cX11_match 17 = .ok (.ifCond .ne 5, 3) := by decide +kernel
theorem dX11_match_20 : decode cX11_match 20 = .ok (.iconst (-1), 1) := by decide +kernel
theorem dX11_match_21 : decode cX11_match 21 = .ok (.ireturn, 1) := by decide +kernel
theorem dX11_match_22 : decode cX11_match 22 = .ok (.aload_n 0, 1) := by decide +kernel
theorem dX11_match_23 : decode cX11_match 23 = .ok (.invokevirtual 456, 3) := by decide +kernel
theorem dX11_match_26 : decode cX11_match 26 = .ok (.ldc_w 459, 3) := by decide +kernel
theorem dX11_match_29 : decode cX11_match 29 = .ok (.if_icmp .le 6, 3) := by decide +kernel
theorem dX11_match_32 : decode cX11_match 32 = .ok (.bipush (-2), 2) := by decide +kernel
theorem dX11_match_34 : decode cX11_match 34 = .ok (.ireturn, 1) := by decide +kernel
theorem dX11_match_35 : decode cX11_match 35 = .ok (.aload_n 0, 1) := by decide +kernel
theorem dX11_match_36 : decode cX11_match 36 = .ok (.invokevirtual 460, 3) := by decide +kernel
theorem dX11_match_39 : decode cX11_match 39 = .ok (.iconst 1, 1) := by decide +kernel
theorem dX11_match_40 : decode cX11_match 40 = .ok (.istore_n 3, 1) := by decide +kernel
theorem dX11_match_41 : decode cX11_match 41 = .ok (.iload_n 3, 1) := by decide +kernel
theorem dX11_match_42 : decode cX11_match 42 = .ok (.ifCond .eq 38, 3) := by decide +kernel
theorem dX11_match_45 : decode cX11_match 45 = .ok (.aload_n 0, 1) := by decide +kernel
theorem dX11_match_46 : decode cX11_match 46 = .ok (.iload_n 1, 1) := by decide +kernel
theorem dX11_match_47 : decode cX11_match 47 = .ok (.iload_n 2, 1) := by decide +kernel
theorem dX11_match_48 : decode cX11_match 48 = .ok (.invokevirtual 463, 3) := by decide +kernel
theorem dX11_match_51 : decode cX11_match 51 = .ok (.ifCond .eq 21, 3) := by decide +kernel
theorem dX11_match_54 : decode cX11_match 54 = .ok (.aload_n 0, 1) := by decide +kernel
theorem dX11_match_55 : decode cX11_match 55 = .ok (.getfield 348, 3) := by decide +kernel
theorem dX11_match_58 : decode cX11_match 58 = .ok (.ifCond .eq 10, 3) := by decide +kernel
theorem dX11_match_61 : decode cX11_match 61 = .ok (.aload_n 0, 1) := by decide +kernel
theorem dX11_match_62 : decode cX11_match 62 = .ok (.invokevirtual 466, 3) := by decide +kernel
theorem dX11_match_65 : decode cX11_match 65 = .ok (.ifCond .eq 7, 3) := by decide +kernel
theorem dX11_match_68 : decode cX11_match 68 = .ok (.aload_n 0, 1) := by decide +kernel
theorem dX11_match_69 : decode cX11_match 69 = .ok (.invokevirtual 469, 3) := by decide +kernel
theorem dX11_match_72 : decode cX11_match 72 = .ok (.aload_n 0, 1) := by decide +kernel
theorem dX11_match_73 : decode cX11_match 73 = .ok (.invokevirtual 472, 3) := by decide +kernel
theorem dX11_match_76 : decode cX11_match 76 = .ok (.istore_n 3, 1) := by decide +kernel
theorem dX11_match_77 : decode cX11_match 77 = .ok (.goto (-36), 3) := by decide +kernel
theorem dX11_match_80 : decode cX11_match 80 = .ok (.aload_n 0, 1) := by decide +kernel
theorem dX11_match_81 : decode cX11_match 81 = .ok (.getfield 348, 3) := by decide +kernel
theorem dX11_match_84 : decode cX11_match 84 = .ok (.ifCond .eq 10, 3) := by decide +kernel
theorem dX11_match_87 : decode cX11_match 87 = .ok (.aload_n 0, 1) := by decide +kernel
theorem dX11_match_88 : decode cX11_match 88 = .ok (.getfield 447, 3) := by decide +kernel
theorem dX11_match_91 : decode cX11_match 91 = .ok (.goto 4, 3) := by decide +kernel
theorem dX11_match_94 : decode cX11_match 94 = .ok (.iconst (-1), 1) := by decide +kernel
theorem dX11_match_95 : decode cX11_match 95 = .ok (.ireturn, 1) := by decide +kernel
theorem dX11_nearest_0 : decode cX11_nearest 0 = .ok (.aload_n 0, 1) := by decide +kernel
theorem dX11_nearest_1 : decode cX11_nearest 1 = .ok (.iconst 0, 1) := by decide +kernel
theorem dX11_nearest_2 : decode cX11_nearest 2 = .ok (.putfield 348, 3) := by decide +kernel
theorem dX11_nearest_5 : decode cX11_nearest 5 = .ok (.aload_n 0, 1) := by decide +kernel
theorem dX11_nearest_6 : decode cX11_nearest 6 = .ok (.getfield 342, 3) := by decide +kernel
theorem dX11_nearest_9 : decode cX11_nearest 9 = .ok (.ifCond .eq 11, 3) := by decide +kernel
theorem dX11_nearest_12 : decode cX11_nearest 12 = .ok (.aload_n 0, 1) := by decide +kernel
theorem dX11_nearest_13 : decode cX11_nearest 13 = .ok (.iload_n 1, 1) := by decide +kernel
theorem dX11_nearest_14 : decode cX11_nearest 14 = .ok (.invokevirtual 453, 3) := by decide +kernel
theorem dX11_nearest_17 : decode cX11_nearest 17 = .ok (.ifCond .ne 7, 3) := by decide +kernel
theorem dX11_nearest_20 : decode cX11_nearest 20 = .ok (.ldc2_w 411, 3) := by decide +kernel
theorem dX11_nearest_23 : decode cX11_nearest 23 = .ok (.lreturn, 1) := by decide +kernel
theorem dX11_nearest_24 : decode cX11_nearest 24 = .ok (.aload_n 0, 1) := by decide +kernel
theorem dX11_nearest_25 : decode cX11_nearest 25 = .ok (.invokevirtual 456, 3) := by decide +kernel
theorem dX11_nearest_28 : decode cX11_nearest 28 = .ok (.ldc_w 459, 3) := by decide +kernel
theorem dX11_nearest_31 : decode cX11_nearest 31 = .ok (.if_icmp .le 7, 3) := by decide +kernel
theorem dX11_nearest_34 : decode cX11_nearest 34 = .ok (.ldc2_w 475, 3) := by decide +kernel
theorem dX11_nearest_37 : decode cX11_nearest 37 = .ok (.lreturn, 1) := by decide +kernel
theorem dX11_nearest_38 : decode cX11_nearest 38 = .ok (.aload_n 0, 1) := by decide +kernel
theorem dX11_nearest_39 : decode cX11_nearest 39 = .ok (.invokevirtual 460, 3) := by decide +kernel
theorem dX11_nearest_42 : decode cX11_nearest 42 = .ok (.lconst 0, 1) := by decide +kernel
theorem dX11_nearest_43 : decode cX11_nearest 43 = .ok (.lstore_n 3, 1) := by decide +kernel
theorem dX11_nearest_44 : decode cX11_nearest 44 = .ok (.iconst 1, 1) := by decide +kernel
theorem dX11_nearest_45 : decode cX11_nearest 45 = .ok (.istore 5, 2) := by decide +kernel
theorem dX11_nearest_47 : decode cX11_nearest 47 = .ok (.iload 5, 2) := by decide +kernel
theorem dX11_nearest_49 : decode cX11_nearest 49 = .ok (.ifCond .eq 55, 3) := by decide +kernel
theorem dX11_nearest_52 : decode cX11_nearest 52 = .ok (.aload_n 0, 1) := by decide +kernel
theorem dX11_nearest_53 : decode cX11_nearest 53 = .ok (.iload_n 1, 1) := by decide +kernel
theorem dX11_nearest_54 : decode cX11_nearest 54 = .ok (.iload_n 2, 1) := by decide +kernel
theorem dX11_nearest_55 : decode cX11_nearest 55 = .ok (.invokevirtual 477, 3) := by decide +kernel
theorem dX11_nearest_58 : decode cX11_nearest 58 = .ok (.lstore 6, 2) := by decide +kernel
theorem dX11_nearest_60 : decode cX11_nearest 60 = .ok (.aload_n 0, 1) := by decide +kernel
theorem dX11_nearest_61 : decode cX11_nearest 61 = .ok (.getfield 348, 3) := by decide +kernel
theorem dX11_nearest_64 : decode cX11_nearest 64 = .ok (.ifCond .eq 24, 3) := by decide +kernel
theorem dX11_nearest_67 : decode cX11_nearest 67 = .ok (.lload 6, 2) := by decide +kernel
theorem dX11_nearest_69 : decode cX11_nearest 69 = .ok (.lload_n 3, 1) := by decide +kernel
theorem dX11_nearest_70 : decode cX11_nearest 70 = .ok (.lcmp, 1) := by decide +kernel
theorem dX11_nearest_71 : decode cX11_nearest 71 = .ok (.ifCond .lt 17, 3) := by decide +kernel
theorem dX11_nearest_74 : decode cX11_nearest 74 = .ok (.lload 6, 2) := by decide +kernel
theorem dX11_nearest_76 : decode cX11_nearest 76 = .ok (.lload_n 3, 1) := by decide +kernel
theorem dX11_nearest_77 : decode cX11_nearest 77 = .ok (.lcmp, 1) := by decide +kernel
theorem dX11_nearest_78 : decode cX11_nearest 78 = .ok (.ifCond .ne 17, 3) := by decide +kernel
theorem dX11_nearest_81 : decode cX11_nearest 81 = .ok (.aload_n 0, 1) := by decide +kernel
theorem dX11_nearest_82 : decode cX11_nearest 82 = .ok (.invokevirtual 466, 3) := by decide +kernel
theorem dX11_nearest_85 : decode cX11_nearest 85 = .ok (.ifCond .eq 10, 3) := by decide +kernel
theorem dX11_nearest_88 : decode cX11_nearest 88 = .ok (.aload_n 0, 1) := by decide +kernel
theorem dX11_nearest_89 : decode cX11_nearest 89 = .ok (.invokevirtual 469, 3) := by decide +kernel
theorem dX11_nearest_92 : decode cX11_nearest 92 = .ok (.lload 6, 2) := by decide +kernel
theorem dX11_nearest_94 : decode cX11_nearest 94 = .ok (.lstore_n 3, 1) := by decide +kernel
theorem dX11_nearest_95 : decode cX11_nearest 95 = .ok (.aload_n 0, 1) := by decide +kernel
theorem dX11_nearest_96 : decode cX11_nearest 96 = .ok (.invokevirtual 472, 3) := by decide +kernel
theorem dX11_nearest_99 : decode cX11_nearest 99 = .ok (.istore 5, 2) := by decide +kernel
theorem dX11_nearest_101 : decode cX11_nearest 101 = .ok (.goto (-54), 3) := by decide +kernel
theorem dX11_nearest_104 : decode cX11_nearest 104 = .ok (.lload_n 3, 1) := by decide +kernel
theorem dX11_nearest_105 : decode cX11_nearest 105 = .ok (.lreturn, 1) := by decide +kernel
theorem dX11_trick_0 : decode cX11_trick 0 = .ok (.aload_n 0, 1) := by decide +kernel
theorem dX11_trick_1 : decode cX11_trick 1 = .ok (.iconst 0, 1) := by decide +kernel
theorem dX11_trick_2 : decode cX11_trick 2 = .ok (.putfield 348, 3) := by decide +kernel
theorem dX11_trick_5 : decode cX11_trick 5 = .ok (.aload_n 0, 1) := by decide +kernel
theorem dX11_trick_6 : decode cX11_trick 6 = .ok (.getfield 342, 3) := by decide +kernel
theorem dX11_trick_9 : decode cX11_trick 9 = .ok (.ifCond .eq 19, 3) := by decide +kernel
theorem dX11_trick_12 : decode cX11_trick 12 = .ok (.aload_n 0, 1) := by decide +kernel
theorem dX11_trick_13 : decode cX11_trick 13 = .ok (.iload_n 1, 1) := by decide +kernel
theorem dX11_trick_14 : decode cX11_trick 14 = .ok (.invokevirtual 405, 3) := by decide +kernel
theorem dX11_trick_17 : decode cX11_trick 17 = .ok (.ifCond .eq 11, 3) := by decide +kernel
theorem dX11_trick_20 : decode cX11_trick 20 = .ok (.aload_n 0, 1) := by decide +kernel
theorem dX11_trick_21 : decode cX11_trick 21 = .ok (.iload_n 2, 1) := by decide +kernel
theorem dX11_trick_22 : decode cX11_trick 22 = .ok (.invokevirtual 405, 3) := by decide +kernel
theorem dX11_trick_25 : decode cX11_trick 25 = .ok (.ifCond .ne 7, 3) := by decide +kernel
theorem dX11_trick_28 : decode cX11_trick 28 = .ok (.ldc2_w 411, 3) := by decide +kernel
theorem dX11_trick_31 : decode cX11_trick 31 = .ok (.lreturn, 1) := by decide +kernel
theorem dX11_trick_32 : decode cX11_trick 32 = .ok (.aload_n 0, 1) := by decide +kernel
theorem dX11_trick_33 : decode cX11_trick 33 = .ok (.invokevirtual 456, 3) := by decide +kernel
theorem dX11_trick_36 : decode cX11_trick 36 = .ok (.ldc_w 459, 3) := by decide +kernel
theorem dX11_trick_39 : decode cX11_trick 39 = .ok (.if_icmp .le 7, 3) := by decide +kernel
theorem dX11_trick_42 : decode cX11_trick 42 = .ok (.ldc2_w 475, 3) := by decide +kernel
theorem dX11_trick_45 : decode cX11_trick 45 = .ok (.lreturn, 1) := by decide +kernel
theorem dX11_trick_46 : decode cX11_trick 46 = .ok (.aload_n 0, 1) := by decide +kernel
theorem dX11_trick_47 : decode cX11_trick 47 = .ok (.invokevirtual 460, 3) := by decide +kernel
theorem dX11_trick_50 : decode cX11_trick 50 = .ok (.lconst 0, 1) := by decide +kernel
theorem dX11_trick_51 : decode cX11_trick 51 = .ok (.lstore 4, 2) := by decide +kernel
theorem dX11_trick_53 : decode cX11_trick 53 = .ok (.iconst 1, 1) := by decide +kernel
theorem dX11_trick_54 : decode cX11_trick 54 = .ok (.istore 6, 2) := by decide +kernel
theorem dX11_trick_56 : decode cX11_trick 56 = .ok (.iload 6, 2) := by decide +kernel
theorem dX11_trick_58 : decode cX11_trick 58 = .ok (.ifCond .eq 80, 3) := by decide +kernel
theorem dX11_trick_61 : decode cX11_trick 61 = .ok (.aload_n 0, 1) := by decide +kernel
theorem dX11_trick_62 : decode cX11_trick 62 = .ok (.iload_n 1, 1) := by decide +kernel
theorem dX11_trick_63 : decode cX11_trick 63 = .ok (.iload_n 3, 1) := by decide +kernel
theorem dX11_trick_64 : decode cX11_trick 64 = .ok (.invokevirtual 417, 3) := by decide +kernel
theorem dX11_trick_67 : decode cX11_trick 67 = .ok (.ifCond .eq 12, 3) := by decide +kernel
theorem dX11_trick_70 : decode cX11_trick 70 = .ok (.aload_n 0, 1) := by decide +kernel
theorem dX11_trick_71 : decode cX11_trick 71 = .ok (.iload_n 2, 1) := by decide +kernel
theorem dX11_trick_72 : decode cX11_trick 72 = .ok (.iload_n 3, 1) := by decide +kernel
theorem dX11_trick_73 : decode cX11_trick 73 = .ok (.invokevirtual 392, 3) := by decide +kernel
theorem dX11_trick_76 : decode cX11_trick 76 = .ok (.goto 6, 3) := by decide +kernel
theorem dX11_trick_79 : decode cX11_trick 79 = .ok (.ldc2_w 411, 3) := by decide +kernel
theorem dX11_trick_82 : decode cX11_trick 82 = .ok (.lstore 7, 2) := by decide +kernel
theorem dX11_trick_84 : decode cX11_trick 84 = .ok (.lload 7, 2) := by decide +kernel
theorem dX11_trick_86 : decode cX11_trick 86 = .ok (.lconst 0, 1) := by decide +kernel
theorem dX11_trick_87 : decode cX11_trick 87 = .ok (.lcmp, 1) := by decide +kernel
theorem dX11_trick_88 : decode cX11_trick 88 = .ok (.ifCond .lt 41, 3) := by decide +kernel
theorem dX11_trick_91 : decode cX11_trick 91 = .ok (.aload_n 0, 1) := by decide +kernel
theorem dX11_trick_92 : decode cX11_trick 92 = .ok (.getfield 348, 3) := by decide +kernel
theorem dX11_trick_95 : decode cX11_trick 95 = .ok (.ifCond .eq 26, 3) := by decide +kernel
theorem dX11_trick_98 : decode cX11_trick 98 = .ok (.lload 7, 2) := by decide +kernel
theorem dX11_trick_100 : decode cX11_trick 100 = .ok (.lload 4, 2) := by decide +kernel
theorem dX11_trick_102 : decode cX11_trick 102 = .ok (.lcmp, 1) := by decide +kernel
theorem dX11_trick_103 : decode cX11_trick 103 = .ok (.ifCond .gt 18, 3) := by decide +kernel
theorem dX11_trick_106 : decode cX11_trick 106 = .ok (.lload 7, 2) := by decide +kernel
theorem dX11_trick_108 : decode cX11_trick 108 = .ok (.lload 4, 2) := by decide +kernel
theorem dX11_trick_110 : decode cX11_trick 110 = .ok (.lcmp, 1) := by decide +kernel
theorem dX11_trick_111 : decode cX11_trick 111 = .ok (.ifCond .ne 18, 3) := by decide +kernel
theorem dX11_trick_114 : decode cX11_trick 114 = .ok (.aload_n 0, 1) := by decide +kernel
theorem dX11_trick_115 : decode cX11_trick 115 = .ok (.invokevirtual 466, 3) := by decide +kernel
theorem dX11_trick_118 : decode cX11_trick 118 = .ok (.ifCond .eq 11, 3) := by decide +kernel
theorem dX11_trick_121 : decode cX11_trick 121 = .ok (.aload_n 0, 1) := by decide +kernel
theorem dX11_trick_122 : decode cX11_trick 122 = .ok (.invokevirtual 469, 3) := by decide +kernel
theorem dX11_trick_125 : decode cX11_trick 125 = .ok (.lload 7, 2) := by decide +kernel
theorem dX11_trick_127 : decode cX11_trick 127 = .ok (.lstore 4, 2) := by decide +kernel
theorem dX11_trick_129 : decode cX11_trick 129 = .ok (.aload_n 0, 1) := by decide +kernel
theorem dX11_trick_130 : decode cX11_trick 130 = .ok (.invokevirtual 472, 3) := by decide +kernel
theorem dX11_trick_133 : decode cX11_trick 133 = .ok (.istore 6, 2) := by decide +kernel
theorem dX11_trick_135 : decode cX11_trick 135 = .ok (.goto (-79), 3) := by decide +kernel
theorem dX11_trick_138 : decode cX11_trick 138 = .ok (.aload_n 0, 1) := by decide +kernel
theorem dX11_trick_139 : decode cX11_trick 139 = .ok (.getfield 348, 3) := by decide +kernel
theorem dX11_trick_142 : decode cX11_trick 142 = .ok (.ifCond .eq 8, 3) := by decide +kernel
theorem dX11_trick_145 : decode cX11_trick 145 = .ok (.lload 4, 2) := by decide +kernel
theorem dX11_trick_147 : decode cX11_trick 147 = .ok (.goto 6, 3) := by decide +kernel
theorem dX11_trick_150 : decode cX11_trick 150 = .ok (.ldc2_w 411, 3) := by decide +kernel
theorem dX11_trick_153 : decode cX11_trick 153 = .ok (.lreturn, 1) := by decide +kernel
theorem dX11_isBetter_0 : decode cX11_isBetter 0 = .ok (.iconst 0, 1) := by decide +kernel
theorem dX11_isBetter_1 : decode cX11_isBetter 1 = .ok (.istore 4, 2) := by decide +kernel
theorem dX11_isBetter_3 : decode cX11_isBetter 3 = .ok (.iconst 0, 1) := by decide +kernel
theorem dX11_isBetter_4 : decode cX11_isBetter 4 = .ok (.istore 5, 2) := by decide +kernel
theorem dX11_isBetter_6 : decode cX11_isBetter 6 = .ok (.iload 5, 2) := by decide +kernel
theorem dX11_isBetter_8 : decode cX11_isBetter 8 = .ok (.aload_n 0, 1) := by decide +kernel
theorem dX11_isBetter_9 : decode cX11_isBetter 9 = .ok (.invokevirtual 365, 3) := by decide +kernel
theorem dX11_isBetter_12 : decode cX11_isBetter 12 = .ok (.if_icmp .ge 91, 3) := by decide +kernel
theorem dX11_isBetter_15 : decode cX11_isBetter 15 = .ok (.iload_n 3, 1) := by decide +kernel
theorem dX11_isBetter_16 : decode cX11_isBetter 16 = .ok (.iload 5, 2) := by decide +kernel
theorem dX11_isBetter_18 : decode cX11_isBetter 18 = .ok (.ishr, 1) := by decide +kernel
theorem dX11_isBetter_19 : decode cX11_isBetter 19 = .ok (.iconst 1, 1) := by decide +kernel
theorem dX11_isBetter_20 : decode cX11_isBetter 20 = .ok (.iand, 1) := by decide +kernel
theorem dX11_isBetter_21 : decode cX11_isBetter 21 = .ok (.ifCond .ne 6, 3) := by decide +kernel
theorem dX11_isBetter_24 : decode cX11_isBetter 24 = .ok (.goto 73, 3) := by decide +kernel
theorem dX11_isBetter_27 : decode cX11_isBetter 27 = .ok (.aload_n 0, 1) := by decide +kernel
theorem dX11_isBetter_28 : decode cX11_isBetter 28 = .ok (.getfield 87, 3) := by decide +kernel
theorem dX11_isBetter_31 : decode cX11_isBetter 31 = .ok (.bipush 6, 2) := by decide +kernel
theorem dX11_isBetter_33 : decode cX11_isBetter 33 = .ok (.iload_n 1, 1) := by decide +kernel
theorem dX11_isBetter_34 : decode cX11_isBetter 34 = .ok (.imul, 1) := by decide +kernel
theorem dX11_isBetter_35 : decode cX11_isBetter 35 = .ok (.iload 5, 2) := by decide +kernel
theorem dX11_isBetter_37 : decode cX11_isBetter 37 = .ok (.iadd, 1) := by decide +kernel
theorem dX11_isBetter_38 : decode cX11_isBetter 38 = .ok (.laload, 1) := by decide +kernel
theorem dX11_isBetter_39 : decode cX11_isBetter 39 = .ok (.aload_n 0, 1) := by decide +kernel
theorem dX11_isBetter_40 : decode cX11_isBetter 40 = .ok (.getfield 87, 3) := by decide +kernel
theorem dX11_isBetter_43 : decode cX11_isBetter 43 = .ok (.bipush 6, 2) := by decide +kernel
theorem dX11_isBetter_45 : decode cX11_isBetter 45 = .ok (.iload_n 2, 1) := by decide +kernel
theorem dX11_isBetter_46 : decode cX11_isBetter 46 = .ok (.imul, 1) := by decide +kernel
theorem dX11_isBetter_47 : decode cX11_isBetter 47 = .ok (.iload 5, 2) := by decide +kernel
theorem dX11_isBetter_49 : decode cX11_isBetter 49 = .ok (.iadd, 1) := by decide +kernel
theorem dX11_isBetter_50 : decode cX11_isBetter 50 = .ok (.laload, 1) := by decide +kernel
theorem dX11_isBetter_51 : decode cX11_isBetter 51 = .ok (.lcmp, 1) := by decide +kernel
theorem dX11_isBetter_52 : decode cX11_isBetter 52 = .ok (.ifCond .le 5, 3) := by decide +kernel
theorem dX11_isBetter_55 : decode cX11_isBetter 55 = .ok (.iconst 0, 1) := by decide +kernel
theorem dX11_isBetter_56 : decode cX11_isBetter 56 = .ok (.ireturn, 1) := by decide +kernel
theorem dX11_isBetter_57 : decode cX11_isBetter 57 = .ok (.iload 4, 2) := by decide +kernel
theorem dX11_isBetter_59 : decode cX11_isBetter 59 = .ok (.ifCond .ne 31, 3) := by decide +kernel
theorem dX11_isBetter_62 : decode cX11_isBetter 62 = .ok (.aload_n 0, 1) := by decide +kernel
theorem dX11_isBetter_63 : decode cX11_isBetter 63 = .ok (.getfield 87, 3) := by decide +kernel
theorem dX11_isBetter_66 : decode cX11_isBetter 66 = .ok (.bipush 6, 2) := by decide +kernel
theorem dX11_isBetter_68 : decode cX11_isBetter 68 = .ok (.iload_n 1, 1) := by decide +kernel
theorem dX11_isBetter_69 : decode cX11_isBetter 69 = .ok (.imul, 1) := by decide +kernel
theorem dX11_isBetter_70 : decode cX11_isBetter 70 = .ok (.iload 5, 2) := by decide +kernel
theorem dX11_isBetter_72 : decode cX11_isBetter 72 = .ok (.iadd, 1) := by decide +kernel
theorem dX11_isBetter_73 : decode cX11_isBetter 73 = .ok (.laload, 1) := by decide +kernel
theorem dX11_isBetter_74 : decode cX11_isBetter 74 = .ok (.aload_n 0, 1) := by decide +kernel
theorem dX11_isBetter_75 : decode cX11_isBetter 75 = .ok (.getfield 87, 3) := by decide +kernel
theorem dX11_isBetter_78 : decode cX11_isBetter 78 = .ok (.bipush 6, 2) := by decide +kernel
theorem dX11_isBetter_80 : decode cX11_isBetter 80 = .ok (.iload_n 2, 1) := by decide +kernel
theorem dX11_isBetter_81 : decode cX11_isBetter 81 = .ok (.imul, 1) := by decide +kernel
theorem dX11_isBetter_82 : decode cX11_isBetter 82 = .ok (.iload 5, 2) := by decide +kernel
theorem dX11_isBetter_84 : decode cX11_isBetter 84 = .ok (.iadd, 1) := by decide +kernel
theorem dX11_isBetter_85 : decode cX11_isBetter 85 = .ok (.laload, 1) := by decide +kernel
theorem dX11_isBetter_86 : decode cX11_isBetter 86 = .ok (.lcmp, 1) := by decide +kernel
theorem dX11_isBetter_87 : decode cX11_isBetter 87 = .ok (.ifCond .ge 7, 3) := by decide +kernel
theorem dX11_isBetter_90 : decode cX11_isBetter 90 = .ok (.iconst 1, 1) := by decide +kernel
theorem dX11_isBetter_91 : decode cX11_isBetter 91 = .ok (.goto 4, 3) := by decide +kernel
theorem dX11_isBetter_94 : decode cX11_isBetter 94 = .ok (.iconst 0, 1) := by decide +kernel
theorem dX11_isBetter_95 : decode cX11_isBetter 95 = .ok (.istore 4, 2) := by decide +kernel
theorem dX11_isBetter_97 : decode cX11_isBetter 97 = .ok (.iinc 5 1, 3) := by decide +kernel
theorem dX11_isBetter_100 : decode cX11_isBetter 100 = .ok (.goto (-94), 3) := by decide +kernel
theorem dX11_isBetter_103 : decode cX11_isBetter 103 = .ok (.iload 4, 2) := by decide +kernel
theorem dX11_isBetter_105 : decode cX11_isBetter 105 = .ok (.ireturn, 1) := by decide +kernel
theorem dX11_isBest_0 : decode cX11_isBest 0 = .ok (.iconst 0, 1) := by decide +kernel
theorem dX11_isBest_1 : decode cX11_isBest 1 = .ok (.istore_n 3, 1) := by decide +kernel
theorem dX11_isBest_2 : decode cX11_isBest 2 = .ok (.iload_n 3, 1) := by decide +kernel
theorem dX11_isBest_3 : decode cX11_isBest 3 = .ok (.aload_n 0, 1) := by decide +kernel
theorem dX11_isBest_4 : decode cX11_isBest 4 = .ok (.getfield 480, 3) := by decide +kernel
theorem dX11_isBest_7 : decode cX11_isBest 7 = .ok (.if_icmp .ge 21, 3) := by decide +kernel
theorem dX11_isBest_10 : decode cX11_isBest 10 = .ok (.aload_n 0, 1) := by decide +kernel
theorem dX11_isBest_11 : decode cX11_isBest 11 = .ok (.iload_n 3, 1) := by decide +kernel
theorem dX11_isBest_12 : decode cX11_isBest 12 = .ok (.iload_n 1, 1) := by decide +kernel
theorem dX11_isBest_13 : decode cX11_isBest 13 = .ok (.iload_n 2, 1) := by decide +kernel
theorem dX11_isBest_14 : decode cX11_isBest 14 = .ok (.invokevirtual 483, 3) := by decide +kernel
theorem dX11_isBest_17 : decode cX11_isBest 17 = .ok (.ifCond .eq 5, 3) := by decide +kernel
theorem dX11_isBest_20 : decode cX11_isBest 20 = .ok (.iconst 0, 1) := by decide +kernel
theorem dX11_isBest_21 : decode cX11_isBest 21 = .ok (.ireturn, 1) := by decide +kernel
theorem dX11_isBest_22 : decode cX11_isBest 22 = .ok (.iinc 3 1, 3) := by decide +kernel
theorem dX11_isBest_25 : decode cX11_isBest 25 = .ok (.goto (-23), 3) := by decide +kernel
theorem dX11_isBest_28 : decode cX11_isBest 28 = .ok (.iconst 1, 1) := by decide +kernel
theorem dX11_isBest_29 : decode cX11_isBest 29 = .ok (.ireturn, 1) := by decide +kernel
theorem dX11_layRows_0 : decode cX11_layRows 0 = .ok (.aload_n 0, 1) := by decide +kernel
theorem dX11_layRows_1 : decode cX11_layRows 1 = .ok (.invokevirtual 460, 3) := by decide +kernel
theorem dX11_layRows_4 : decode cX11_layRows 4 = .ok (.aload_n 0, 1) := by decide +kernel
theorem dX11_layRows_5 : decode cX11_layRows 5 = .ok (.iconst 0, 1) := by decide +kernel
theorem dX11_layRows_6 : decode cX11_layRows 6 = .ok (.putfield 480, 3) := by decide +kernel
theorem dX11_layRows_9 : decode cX11_layRows 9 = .ok (.iconst 1, 1) := by decide +kernel
theorem dX11_layRows_10 : decode cX11_layRows 10 = .ok (.istore_n 2, 1) := by decide +kernel
theorem dX11_layRows_11 : decode cX11_layRows 11 = .ok (.iload_n 2, 1) := by decide +kernel
theorem dX11_layRows_12 : decode cX11_layRows 12 = .ok (.ifCond .eq 94, 3) := by decide +kernel
theorem dX11_layRows_15 : decode cX11_layRows 15 = .ok (.iconst 0, 1) := by decide +kernel
theorem dX11_layRows_16 : decode cX11_layRows 16 = .ok (.istore_n 3, 1) := by decide +kernel
theorem dX11_layRows_17 : decode cX11_layRows 17 = .ok (.iload_n 3, 1) := by decide +kernel
theorem dX11_layRows_18 : decode cX11_layRows 18 = .ok (.bipush 8, 2) := by decide +kernel
theorem dX11_layRows_20 : decode cX11_layRows 20 = .ok (.if_icmp .ge 32, 3) := by decide +kernel
theorem dX11_layRows_23 : decode cX11_layRows 23 = .ok (.aload_n 0, 1) := by decide +kernel
theorem dX11_layRows_24 : decode cX11_layRows 24 = .ok (.getfield 91, 3) := by decide +kernel
theorem dX11_layRows_27 : decode cX11_layRows 27 = .ok (.bipush 8, 2) := by decide +kernel
theorem dX11_layRows_29 : decode cX11_layRows 29 = .ok (.aload_n 0, 1) := by decide +kernel
theorem dX11_layRows_30 : decode cX11_layRows 30 = .ok (.getfield 480, 3) := by decide +kernel
theorem dX11_layRows_33 : decode cX11_layRows 33 = .ok (.imul, 1) := by decide +kernel
theorem dX11_layRows_34 : decode cX11_layRows 34 = .ok (.iload_n 3, 1) := by decide +kernel
theorem dX11_layRows_35 : decode cX11_layRows 35 = .ok (.iadd, 1) := by decide +kernel
theorem dX11_layRows_36 : decode cX11_layRows 36 = .ok (.aload_n 0, 1) := by decide +kernel
theorem dX11_layRows_37 : decode cX11_layRows 37 = .ok (.getfield 75, 3) := by decide +kernel
theorem dX11_layRows_40 : decode cX11_layRows 40 = .ok (.bipush 8, 2) := by decide +kernel
theorem dX11_layRows_42 : decode cX11_layRows 42 = .ok (.iload_n 3, 1) := by decide +kernel
theorem dX11_layRows_43 : decode cX11_layRows 43 = .ok (.iadd, 1) := by decide +kernel
theorem dX11_layRows_44 : decode cX11_layRows 44 = .ok (.iaload, 1) := by decide +kernel
theorem dX11_layRows_45 : decode cX11_layRows 45 = .ok (.iastore, 1) := by decide +kernel
theorem dX11_layRows_46 : decode cX11_layRows 46 = .ok (.iinc 3 1, 3) := by decide +kernel
theorem dX11_layRows_49 : decode cX11_layRows 49 = .ok (.goto (-32), 3) := by decide +kernel
theorem dX11_layRows_52 : decode cX11_layRows 52 = .ok (.iconst 0, 1) := by decide +kernel
theorem dX11_layRows_53 : decode cX11_layRows 53 = .ok (.istore_n 3, 1) := by decide +kernel
theorem dX11_layRows_54 : decode cX11_layRows 54 = .ok (.iload_n 3, 1) := by decide +kernel
theorem dX11_layRows_55 : decode cX11_layRows 55 = .ok (.aload_n 0, 1) := by decide +kernel
theorem dX11_layRows_56 : decode cX11_layRows 56 = .ok (.invokevirtual 365, 3) := by decide +kernel
theorem dX11_layRows_59 : decode cX11_layRows 59 = .ok (.if_icmp .ge 29, 3) := by decide +kernel
theorem dX11_layRows_62 : decode cX11_layRows 62 = .ok (.aload_n 0, 1) := by decide +kernel
theorem dX11_layRows_63 : decode cX11_layRows 63 = .ok (.getfield 87, 3) := by decide +kernel
theorem dX11_layRows_66 : decode cX11_layRows 66 = .ok (.bipush 6, 2) := by decide +kernel
theorem dX11_layRows_68 : decode cX11_layRows 68 = .ok (.aload_n 0, 1) := by decide +kernel
theorem dX11_layRows_69 : decode cX11_layRows 69 = .ok (.getfield 480, 3) := by decide +kernel
theorem dX11_layRows_72 : decode cX11_layRows 72 = .ok (.imul, 1) := by decide +kernel
theorem dX11_layRows_73 : decode cX11_layRows 73 = .ok (.iload_n 3, 1) := by decide +kernel
theorem dX11_layRows_74 : decode cX11_layRows 74 = .ok (.iadd, 1) := by decide +kernel
theorem dX11_layRows_75 : decode cX11_layRows 75 = .ok (.aload_n 0, 1) := by decide +kernel
theorem dX11_layRows_76 : decode cX11_layRows 76 = .ok (.iload_n 3, 1) := by decide +kernel
theorem dX11_layRows_77 : decode cX11_layRows 77 = .ok (.iload_n 1, 1) := by decide +kernel
theorem dX11_layRows_78 : decode cX11_layRows 78 = .ok (.invokevirtual 392, 3) := by decide +kernel
theorem dX11_layRows_81 : decode cX11_layRows 81 = .ok (.lastore, 1) := by decide +kernel
theorem dX11_layRows_82 : decode cX11_layRows 82 = .ok (.iinc 3 1, 3) := by decide +kernel
theorem dX11_layRows_85 : decode cX11_layRows 85 = .ok (.goto (-31), 3) := by decide +kernel
theorem dX11_layRows_88 : decode cX11_layRows 88 = .ok (.aload_n 0, 1) := by decide +kernel
theorem dX11_layRows_89 : decode cX11_layRows 89 = .ok (.dup, 1) := by decide +kernel
theorem dX11_layRows_90 : decode cX11_layRows 90 = .ok (.getfield 480, 3) := by decide +kernel
theorem dX11_layRows_93 : decode cX11_layRows 93 = .ok (.iconst 1, 1) := by decide +kernel
theorem dX11_layRows_94 : decode cX11_layRows 94 = .ok (.iadd, 1) := by decide +kernel
theorem dX11_layRows_95 : decode cX11_layRows 95 = .ok (.putfield 480, 3) := by decide +kernel
theorem dX11_layRows_98 : decode cX11_layRows 98 = .ok (.aload_n 0, 1) := by decide +kernel
theorem dX11_layRows_99 : decode cX11_layRows 99 = .ok (.invokevirtual 472, 3) := by decide +kernel
theorem dX11_layRows_102 : decode cX11_layRows 102 = .ok (.istore_n 2, 1) := by decide +kernel
theorem dX11_layRows_103 : decode cX11_layRows 103 = .ok (.goto (-92), 3) := by decide +kernel
theorem dX11_layRows_106 : decode cX11_layRows 106 = .ok (.return_, 1) := by decide +kernel
theorem dX11_best_0 : decode cX11_best 0 = .ok (.aload_n 0, 1) := by decide +kernel
theorem dX11_best_1 : decode cX11_best 1 = .ok (.iconst 0, 1) := by decide +kernel
theorem dX11_best_2 : decode cX11_best 2 = .ok (.putfield 348, 3) := by decide +kernel
theorem dX11_best_5 : decode cX11_best 5 = .ok (.aload_n 0, 1) := by decide +kernel
theorem dX11_best_6 : decode cX11_best 6 = .ok (.iconst 0, 1) := by decide +kernel
theorem dX11_best_7 : decode cX11_best 7 = .ok (.putfield 345, 3) := by decide +kernel
theorem dX11_best_10 : decode cX11_best 10 = .ok (.aload_n 0, 1) := by decide +kernel
theorem dX11_best_11 : decode cX11_best 11 = .ok (.getfield 342, 3) := by decide +kernel
theorem dX11_best_14 : decode cX11_best 14 = .ok (.ifCond .eq 11, 3) := by decide +kernel
theorem dX11_best_17 : decode cX11_best 17 = .ok (.aload_n 0, 1) := by decide +kernel
theorem dX11_best_18 : decode cX11_best 18 = .ok (.iload_n 1, 1) := by decide +kernel
theorem dX11_best_19 : decode cX11_best 19 = .ok (.invokevirtual 453, 3) := by decide +kernel
theorem dX11_best_22 : decode cX11_best 22 = .ok (.ifCond .ne 5, 3) := by decide +kernel
theorem dX11_best_25 : decode cX11_best 25 = .ok (.iconst (-1), 1) := by decide +kernel
theorem dX11_best_26 : decode cX11_best 26 = .ok (.ireturn, 1) := by decide +kernel
theorem dX11_best_27 : decode cX11_best 27 = .ok (.aload_n 0, 1) := by decide +kernel
theorem dX11_best_28 : decode cX11_best 28 = .ok (.invokevirtual 456, 3) := by decide +kernel
theorem dX11_best_31 : decode cX11_best 31 = .ok (.sipush 5000, 3) := by decide +kernel
theorem dX11_best_34 : decode cX11_best 34 = .ok (.if_icmp .le 6, 3) := by decide +kernel
theorem dX11_best_37 : decode cX11_best 37 = .ok (.bipush (-2), 2) := by decide +kernel
theorem dX11_best_39 : decode cX11_best 39 = .ok (.ireturn, 1) := by decide +kernel
theorem dX11_best_40 : decode cX11_best 40 = .ok (.aload_n 0, 1) := by decide +kernel
theorem dX11_best_41 : decode cX11_best 41 = .ok (.iload_n 2, 1) := by decide +kernel
theorem dX11_best_42 : decode cX11_best 42 = .ok (.invokevirtual 486, 3) := by decide +kernel
theorem dX11_best_45 : decode cX11_best 45 = .ok (.iconst 0, 1) := by decide +kernel
theorem dX11_best_46 : decode cX11_best 46 = .ok (.istore_n 3, 1) := by decide +kernel
theorem dX11_best_47 : decode cX11_best 47 = .ok (.iload_n 3, 1) := by decide +kernel
theorem dX11_best_48 : decode cX11_best 48 = .ok (.aload_n 0, 1) := by decide +kernel
theorem dX11_best_49 : decode cX11_best 49 = .ok (.getfield 480, 3) := by decide +kernel
theorem dX11_best_52 : decode cX11_best 52 = .ok (.if_icmp .ge 41, 3) := by decide +kernel
theorem dX11_best_55 : decode cX11_best 55 = .ok (.aload_n 0, 1) := by decide +kernel
theorem dX11_best_56 : decode cX11_best 56 = .ok (.iload_n 3, 1) := by decide +kernel
theorem dX11_best_57 : decode cX11_best 57 = .ok (.iload_n 1, 1) := by decide +kernel
theorem dX11_best_58 : decode cX11_best 58 = .ok (.invokevirtual 490, 3) := by decide +kernel
theorem dX11_best_61 : decode cX11_best 61 = .ok (.ifCond .ne 6, 3) := by decide +kernel
theorem dX11_best_64 : decode cX11_best 64 = .ok (.goto 23, 3) := by decide +kernel
theorem dX11_best_67 : decode cX11_best 67 = .ok (.aload_n 0, 1) := by decide +kernel
theorem dX11_best_68 : decode cX11_best 68 = .ok (.getfield 94, 3) := by decide +kernel
theorem dX11_best_71 : decode cX11_best 71 = .ok (.aload_n 0, 1) := by decide +kernel
theorem dX11_best_72 : decode cX11_best 72 = .ok (.getfield 345, 3) := by decide +kernel
theorem dX11_best_75 : decode cX11_best 75 = .ok (.iload_n 3, 1) := by decide +kernel
theorem dX11_best_76 : decode cX11_best 76 = .ok (.iastore, 1) := by decide +kernel
theorem dX11_best_77 : decode cX11_best 77 = .ok (.aload_n 0, 1) := by decide +kernel
theorem dX11_best_78 : decode cX11_best 78 = .ok (.dup, 1) := by decide +kernel
theorem dX11_best_79 : decode cX11_best 79 = .ok (.getfield 345, 3) := by decide +kernel
theorem dX11_best_82 : decode cX11_best 82 = .ok (.iconst 1, 1) := by decide +kernel
theorem dX11_best_83 : decode cX11_best 83 = .ok (.iadd, 1) := by decide +kernel
theorem dX11_best_84 : decode cX11_best 84 = .ok (.putfield 345, 3) := by decide +kernel
theorem dX11_best_87 : decode cX11_best 87 = .ok (.iinc 3 1, 3) := by decide +kernel
theorem dX11_best_90 : decode cX11_best 90 = .ok (.goto (-43), 3) := by decide +kernel
theorem dX11_best_93 : decode cX11_best 93 = .ok (.aload_n 0, 1) := by decide +kernel
theorem dX11_best_94 : decode cX11_best 94 = .ok (.iconst 0, 1) := by decide +kernel
theorem dX11_best_95 : decode cX11_best 95 = .ok (.invokevirtual 493, 3) := by decide +kernel
theorem dX11_best_98 : decode cX11_best 98 = .ok (.pop, 1) := by decide +kernel
theorem dX11_best_99 : decode cX11_best 99 = .ok (.aload_n 0, 1) := by decide +kernel
theorem dX11_best_100 : decode cX11_best 100 = .ok (.getfield 345, 3) := by decide +kernel
theorem dX11_best_103 : decode cX11_best 103 = .ok (.ireturn, 1) := by decide +kernel
theorem dX11_pick_0 : decode cX11_pick 0 = .ok (.iload_n 1, 1) := by decide +kernel
theorem dX11_pick_1 : decode cX11_pick 1 = .ok (.iconst 0, 1) := by decide +kernel
theorem dX11_pick_2 : decode cX11_pick 2 = .ok (.aload_n 0, 1) := by decide +kernel
theorem dX11_pick_3 : decode cX11_pick 3 = .ok (.getfield 345, 3) := by decide +kernel
theorem dX11_pick_6 : decode cX11_pick 6 = .ok (.iconst 1, 1) := by decide +kernel
theorem dX11_pick_7 : decode cX11_pick 7 = .ok (.isub, 1) := by decide +kernel
theorem dX11_pick_8 : decode cX11_pick 8 = .ok (.invokestatic 361, 3) := by decide +kernel
theorem dX11_pick_11 : decode cX11_pick 11 = .ok (.ifCond .ne 5, 3) := by decide +kernel
theorem dX11_pick_14 : decode cX11_pick 14 = .ok (.iconst (-1), 1) := by decide +kernel
theorem dX11_pick_15 : decode cX11_pick 15 = .ok (.ireturn, 1) := by decide +kernel
theorem dX11_pick_16 : decode cX11_pick 16 = .ok (.iconst 0, 1) := by decide +kernel
theorem dX11_pick_17 : decode cX11_pick 17 = .ok (.istore_n 2, 1) := by decide +kernel
theorem dX11_pick_18 : decode cX11_pick 18 = .ok (.iload_n 2, 1) := by decide +kernel
theorem dX11_pick_19 : decode cX11_pick 19 = .ok (.bipush 8, 2) := by decide +kernel
theorem dX11_pick_21 : decode cX11_pick 21 = .ok (.if_icmp .ge 34, 3) := by decide +kernel
theorem dX11_pick_24 : decode cX11_pick 24 = .ok (.aload_n 0, 1) := by decide +kernel
theorem dX11_pick_25 : decode cX11_pick 25 = .ok (.getfield 75, 3) := by decide +kernel
theorem dX11_pick_28 : decode cX11_pick 28 = .ok (.bipush 8, 2) := by decide +kernel
theorem dX11_pick_30 : decode cX11_pick 30 = .ok (.iload_n 2, 1) := by decide +kernel
theorem dX11_pick_31 : decode cX11_pick 31 = .ok (.iadd, 1) := by decide +kernel
theorem dX11_pick_32 : decode cX11_pick 32 = .ok (.aload_n 0, 1) := by decide +kernel
theorem dX11_pick_33 : decode cX11_pick 33 = .ok (.getfield 91, 3) := by decide +kernel
theorem dX11_pick_36 : decode cX11_pick 36 = .ok (.bipush 8, 2) := by decide +kernel
theorem dX11_pick_38 : decode cX11_pick 38 = .ok (.aload_n 0, 1) := by decide +kernel
theorem dX11_pick_39 : decode cX11_pick 39 = .ok (.getfield 94, 3) := by decide +kernel
theorem dX11_pick_42 : decode cX11_pick 42 = .ok (.iload_n 1, 1) := by decide +kernel
theorem dX11_pick_43 : decode cX11_pick 43 = .ok (.iaload, 1) := by decide +kernel
theorem dX11_pick_44 : decode cX11_pick 44 = .ok (.imul, 1) := by decide +kernel
theorem dX11_pick_45 : decode cX11_pick 45 = .ok (.iload_n 2, 1) := by decide +kernel
theorem dX11_pick_46 : decode cX11_pick 46 = .ok (.iadd, 1) := by decide +kernel
theorem dX11_pick_47 : decode cX11_pick 47 = .ok (.iaload, 1) := by decide +kernel
theorem dX11_pick_48 : decode cX11_pick 48 = .ok (.iastore, 1) := by decide +kernel
theorem dX11_pick_49 : decode cX11_pick 49 = .ok (.iinc 2 1, 3) := by decide +kernel
theorem dX11_pick_52 : decode cX11_pick 52 = .ok (.goto (-34), 3) := by decide +kernel
theorem dX11_pick_55 : decode cX11_pick 55 = .ok (.aload_n 0, 1) := by decide +kernel
theorem dX11_pick_56 : decode cX11_pick 56 = .ok (.invokevirtual 469, 3) := by decide +kernel
theorem dX11_pick_59 : decode cX11_pick 59 = .ok (.aload_n 0, 1) := by decide +kernel
theorem dX11_pick_60 : decode cX11_pick 60 = .ok (.getfield 447, 3) := by decide +kernel
theorem dX11_pick_63 : decode cX11_pick 63 = .ok (.ireturn, 1) := by decide +kernel
theorem dX11_parts_0 : decode cX11_parts 0 = .ok (.aload_n 0, 1) := by decide +kernel
theorem dX11_parts_1 : decode cX11_parts 1 = .ok (.getfield 348, 3) := by decide +kernel
theorem dX11_parts_4 : decode cX11_parts 4 = .ok (.ifCond .eq 20, 3) := by decide +kernel
theorem dX11_parts_7 : decode cX11_parts 7 = .ok (.aload_n 0, 1) := by decide +kernel
theorem dX11_parts_8 : decode cX11_parts 8 = .ok (.iload_n 1, 1) := by decide +kernel
theorem dX11_parts_9 : decode cX11_parts 9 = .ok (.invokevirtual 496, 3) := by decide +kernel
theorem dX11_parts_12 : decode cX11_parts 12 = .ok (.ifCond .eq 12, 3) := by decide +kernel
theorem dX11_parts_15 : decode cX11_parts 15 = .ok (.aload_n 0, 1) := by decide +kernel
theorem dX11_parts_16 : decode cX11_parts 16 = .ok (.getfield 84, 3) := by decide +kernel
theorem dX11_parts_19 : decode cX11_parts 19 = .ok (.iload_n 1, 1) := by decide +kernel
theorem dX11_parts_20 : decode cX11_parts 20 = .ok (.iaload, 1) := by decide +kernel
theorem dX11_parts_21 : decode cX11_parts 21 = .ok (.goto 4, 3) := by decide +kernel
theorem dX11_parts_24 : decode cX11_parts 24 = .ok (.iconst (-1), 1) := by decide +kernel
theorem dX11_parts_25 : decode cX11_parts 25 = .ok (.ireturn, 1) := by decide +kernel
theorem dX11_apartMixed_0 : decode cX11_apartMixed 0 = .ok (.lconst 0, 1) := by decide +kernel
theorem dX11_apartMixed_1 : decode cX11_apartMixed 1 = .ok (.lstore_n 2, 1) := by decide +kernel
theorem dX11_apartMixed_2 : decode cX11_apartMixed 2 = .ok (.iconst 0, 1) := by decide +kernel
theorem dX11_apartMixed_3 : decode cX11_apartMixed 3 = .ok (.istore 4, 2) := by decide +kernel
theorem dX11_apartMixed_5 : decode cX11_apartMixed 5 = .ok (.iload 4, 2) := by decide +kernel
theorem dX11_apartMixed_7 : decode cX11_apartMixed 7 = .ok (.iconst 4, 1) := by decide +kernel
theorem dX11_apartMixed_8 : decode cX11_apartMixed 8 = .ok (.if_icmp .ge 100, 3) := by decide +kernel
theorem dX11_apartMixed_11 : decode cX11_apartMixed 11 = .ok (.aload_n 0, 1) := by decide +kernel
theorem dX11_apartMixed_12 : decode cX11_apartMixed 12 = .ok (.iload 4, 2) := by decide +kernel
theorem dX11_apartMixed_14 : decode cX11_apartMixed 14 = .ok (.iload_n 1, 1) := by decide +kernel
theorem dX11_apartMixed_15 : decode cX11_apartMixed 15 = .ok (.invokevirtual 385, 3) := by decide +kernel
theorem dX11_apartMixed_18 : decode cX11_apartMixed 18 = .ok (.ifCond .ne 6, 3) := by decide +kernel
theorem dX11_apartMixed_21 : decode cX11_apartMixed 21 = .ok (.goto 81, 3) := by decide +kernel
theorem dX11_apartMixed_24 : decode cX11_apartMixed 24 = .ok (.lconst 0, 1) := by decide +kernel
theorem dX11_apartMixed_25 : decode cX11_apartMixed 25 = .ok (.lstore 5, 2) := by decide +kernel
theorem dX11_apartMixed_27 : decode cX11_apartMixed 27 = .ok (.iconst 0, 1) := by decide +kernel
theorem dX11_apartMixed_28 : decode cX11_apartMixed 28 = .ok (.istore 7, 2) := by decide +kernel
theorem dX11_apartMixed_30 : decode cX11_apartMixed 30 = .ok (.iload 7, 2) := by decide +kernel
theorem dX11_apartMixed_32 : decode cX11_apartMixed 32 = .ok (.aload_n 0, 1) := by decide +kernel
theorem dX11_apartMixed_33 : decode cX11_apartMixed 33 = .ok (.invokevirtual 365, 3) := by decide +kernel
theorem dX11_apartMixed_36 : decode cX11_apartMixed 36 = .ok (.if_icmp .ge 35, 3) := by decide +kernel
theorem dX11_apartMixed_39 : decode cX11_apartMixed 39 = .ok (.lload 5, 2) := by decide +kernel
theorem dX11_apartMixed_41 : decode cX11_apartMixed 41 = .ok (.aload_n 0, 1) := by decide +kernel
theorem dX11_apartMixed_42 : decode cX11_apartMixed 42 = .ok (.getfield 103, 3) := by decide +kernel
theorem dX11_apartMixed_45 : decode cX11_apartMixed 45 = .ok (.iload 7, 2) := by decide +kernel
theorem dX11_apartMixed_47 : decode cX11_apartMixed 47 = .ok (.iaload, 1) := by decide +kernel
theorem dX11_apartMixed_48 : decode cX11_apartMixed 48 = .ok (.i2l, 1) := by decide +kernel
theorem dX11_apartMixed_49 : decode cX11_apartMixed 49 = .ok (.aload_n 0, 1) := by decide +kernel
theorem dX11_apartMixed_50 : decode cX11_apartMixed 50 = .ok (.getfield 97, 3) := by decide +kernel
theorem dX11_apartMixed_53 : decode cX11_apartMixed 53 = .ok (.iconst 4, 1) := by decide +kernel
theorem dX11_apartMixed_54 : decode cX11_apartMixed 54 = .ok (.iload 7, 2) := by decide +kernel
theorem dX11_apartMixed_56 : decode cX11_apartMixed 56 = .ok (.imul, 1) := by decide +kernel
theorem dX11_apartMixed_57 : decode cX11_apartMixed 57 = .ok (.iload 4, 2) := by decide +kernel
theorem dX11_apartMixed_59 : decode cX11_apartMixed 59 = .ok (.iadd, 1) := by decide +kernel
theorem dX11_apartMixed_60 : decode cX11_apartMixed 60 = .ok (.laload, 1) := by decide +kernel
theorem dX11_apartMixed_61 : decode cX11_apartMixed 61 = .ok (.lmul, 1) := by decide +kernel
theorem dX11_apartMixed_62 : decode cX11_apartMixed 62 = .ok (.ladd, 1) := by decide +kernel
theorem dX11_apartMixed_63 : decode cX11_apartMixed 63 = .ok (.lstore 5, 2) := by decide +kernel
theorem dX11_apartMixed_65 : decode cX11_apartMixed 65 = .ok (.iinc 7 1, 3) := by decide +kernel
theorem dX11_apartMixed_68 : decode cX11_apartMixed 68 = .ok (.goto (-38), 3) := by decide +kernel
theorem dX11_apartMixed_71 : decode cX11_apartMixed 71 = .ok (.lload 5, 2) := by decide +kernel
theorem dX11_apartMixed_73 : decode cX11_apartMixed 73 = .ok (.lconst 0, 1) := by decide +kernel
theorem dX11_apartMixed_74 : decode cX11_apartMixed 74 = .ok (.lcmp, 1) := by decide +kernel
theorem dX11_apartMixed_75 : decode cX11_apartMixed 75 = .ok (.ifCond .ge 9, 3) := by decide +kernel
theorem dX11_apartMixed_78 : decode cX11_apartMixed 78 = .ok (.lload 5, 2) := by decide +kernel
theorem dX11_apartMixed_80 : decode cX11_apartMixed 80 = .ok (.lneg, 1) := by decide +kernel
theorem dX11_apartMixed_81 : decode cX11_apartMixed 81 = .ok (.goto 5, 3) := by decide +kernel
theorem dX11_apartMixed_84 : decode cX11_apartMixed 84 = .ok (.lload 5, 2) := by decide +kernel
theorem dX11_apartMixed_86 : decode cX11_apartMixed 86 = .ok (.lstore 5, 2) := by decide +kernel
theorem dX11_apartMixed_88 : decode cX11_apartMixed 88 = .ok (.lload 5, 2) := by decide +kernel
theorem dX11_apartMixed_90 : decode cX11_apartMixed 90 = .ok (.lload_n 2, 1) := by decide +kernel
theorem dX11_apartMixed_91 : decode cX11_apartMixed 91 = .ok (.lcmp, 1) := by decide +kernel
theorem dX11_apartMixed_92 : decode cX11_apartMixed 92 = .ok (.ifCond .le 8, 3) := by decide +kernel
theorem dX11_apartMixed_95 : decode cX11_apartMixed 95 = .ok (.lload 5, 2) := by decide +kernel
theorem dX11_apartMixed_97 : decode cX11_apartMixed 97 = .ok (.goto 4, 3) := by decide +kernel
theorem dX11_apartMixed_100 : decode cX11_apartMixed 100 = .ok (.lload_n 2, 1) := by decide +kernel
theorem dX11_apartMixed_101 : decode cX11_apartMixed 101 = .ok (.lstore_n 2, 1) := by decide +kernel
theorem dX11_apartMixed_102 : decode cX11_apartMixed 102 = .ok (.iinc 4 1, 3) := by decide +kernel
theorem dX11_apartMixed_105 : decode cX11_apartMixed 105 = .ok (.goto (-100), 3) := by decide +kernel
theorem dX11_apartMixed_108 : decode cX11_apartMixed 108 = .ok (.lload_n 2, 1) := by decide +kernel
theorem dX11_apartMixed_109 : decode cX11_apartMixed 109 = .ok (.lreturn, 1) := by decide +kernel
theorem dX11_nextWeights_0 : decode cX11_nextWeights 0 = .ok (.aload_n 0, 1) := by decide +kernel
theorem dX11_nextWeights_1 : decode cX11_nextWeights 1 = .ok (.invokevirtual 365, 3) := by decide +kernel
theorem dX11_nextWeights_4 : decode cX11_nextWeights 4 = .ok (.iconst 1, 1) := by decide +kernel
theorem dX11_nextWeights_5 : decode cX11_nextWeights 5 = .ok (.isub, 1) := by decide +kernel
theorem dX11_nextWeights_6 : decode cX11_nextWeights 6 = .ok (.istore_n 1, 1) := by decide +kernel
theorem dX11_nextWeights_7 : decode cX11_nextWeights 7 = .ok (.aload_n 0, 1) := by decide +kernel
theorem dX11_nextWeights_8 : decode cX11_nextWeights 8 = .ok (.getfield 103, 3) := by decide +kernel
theorem dX11_nextWeights_11 : decode cX11_nextWeights 11 = .ok (.iload_n 1, 1) := by decide +kernel
theorem dX11_nextWeights_12 : decode cX11_nextWeights 12 = .ok (.iaload, 1) := by decide +kernel
theorem dX11_nextWeights_13 : decode cX11_nextWeights 13 = .ok (.istore_n 2, 1) := by decide +kernel
theorem dX11_nextWeights_14 : decode cX11_nextWeights 14 = .ok (.iload_n 1, 1) := by decide +kernel
theorem dX11_nextWeights_15 : decode cX11_nextWeights 15 = .ok (.iconst 1, 1) := by decide +kernel
theorem dX11_nextWeights_16 : decode cX11_nextWeights 16 = .ok (.isub, 1) := by decide +kernel
theorem dX11_nextWeights_17 : decode cX11_nextWeights 17 = .ok (.istore_n 3, 1) := by decide +kernel
theorem dX11_nextWeights_18 : decode cX11_nextWeights 18 = .ok (.iload_n 3, 1) := by decide +kernel
theorem dX11_nextWeights_19 : decode cX11_nextWeights 19 = .ok (.ifCond .lt 55, 3) := by decide +kernel
theorem dX11_nextWeights_22 : decode cX11_nextWeights 22 = .ok (.iload_n 2, 1) := by decide +kernel
theorem dX11_nextWeights_23 : decode cX11_nextWeights 23 = .ok (.ifCond .le 24, 3) := by decide +kernel
theorem dX11_nextWeights_26 : decode cX11_nextWeights 26 = .ok (.aload_n 0, 1) := by decide +kernel
theorem dX11_nextWeights_27 : decode cX11_nextWeights 27 = .ok (.getfield 103, 3) := by decide +kernel
theorem dX11_nextWeights_30 : decode cX11_nextWeights 30 = .ok (.iload_n 3, 1) := by decide +kernel
theorem dX11_nextWeights_31 : decode cX11_nextWeights 31 = .ok (.dup2, 1) := by decide +kernel
theorem dX11_nextWeights_32 : decode cX11_nextWeights 32 = .ok (.iaload, 1) := by decide +kernel
theorem dX11_nextWeights_33 : decode cX11_nextWeights 33 = .ok (.iconst 1, 1) := by decide +kernel
theorem dX11_nextWeights_34 : decode cX11_nextWeights 34 = .ok (.iadd, 1) := by decide +kernel
theorem dX11_nextWeights_35 : decode cX11_nextWeights 35 = .ok (.iastore, 1) := by decide +kernel
theorem dX11_nextWeights_36 : decode cX11_nextWeights 36 = .ok (.aload_n 0, 1) := by decide +kernel
theorem dX11_nextWeights_37 : decode cX11_nextWeights 37 = .ok (.getfield 103, 3) := by decide +kernel
theorem dX11_nextWeights_40 : decode cX11_nextWeights 40 = .ok (.iload_n 1, 1) := by decide +kernel
theorem dX11_nextWeights_41 : decode cX11_nextWeights 41 = .ok (.iload_n 2, 1) := by decide +kernel
theorem dX11_nextWeights_42 : decode cX11_nextWeights 42 = .ok (.iconst 1, 1) := by decide +kernel
theorem dX11_nextWeights_43 : decode cX11_nextWeights 43 = .ok (.isub, 1) := by decide +kernel
theorem dX11_nextWeights_44 : decode cX11_nextWeights 44 = .ok (.iastore, 1) := by decide +kernel
theorem dX11_nextWeights_45 : decode cX11_nextWeights 45 = .ok (.iconst 1, 1) := by decide +kernel
theorem dX11_nextWeights_46 : decode cX11_nextWeights 46 = .ok (.ireturn, 1) := by decide +kernel
theorem dX11_nextWeights_47 : decode cX11_nextWeights 47 = .ok (.aload_n 0, 1) := by decide +kernel
theorem dX11_nextWeights_48 : decode cX11_nextWeights 48 = .ok (.getfield 103, 3) := by decide +kernel
theorem dX11_nextWeights_51 : decode cX11_nextWeights 51 = .ok (.iload_n 3, 1) := by decide +kernel
theorem dX11_nextWeights_52 : decode cX11_nextWeights 52 = .ok (.iaload, 1) := by decide +kernel
theorem dX11_nextWeights_53 : decode cX11_nextWeights 53 = .ok (.istore_n 2, 1) := by decide +kernel
theorem dX11_nextWeights_54 : decode cX11_nextWeights 54 = .ok (.aload_n 0, 1) := by decide +kernel
theorem dX11_nextWeights_55 : decode cX11_nextWeights 55 = .ok (.getfield 103, 3) := by decide +kernel
theorem dX11_nextWeights_58 : decode cX11_nextWeights 58 = .ok (.iload_n 3, 1) := by decide +kernel
theorem dX11_nextWeights_59 : decode cX11_nextWeights 59 = .ok (.iconst 0, 1) := by decide +kernel
theorem dX11_nextWeights_60 : decode cX11_nextWeights 60 = .ok (.iastore, 1) := by decide +kernel
theorem dX11_nextWeights_61 : decode cX11_nextWeights 61 = .ok (.aload_n 0, 1) := by decide +kernel
theorem dX11_nextWeights_62 : decode cX11_nextWeights 62 = .ok (.getfield 103, 3) := by decide +kernel
theorem dX11_nextWeights_65 : decode cX11_nextWeights 65 = .ok (.iload_n 1, 1) := by decide +kernel
theorem dX11_nextWeights_66 : decode cX11_nextWeights 66 = .ok (.iload_n 2, 1) := by decide +kernel
theorem dX11_nextWeights_67 : decode cX11_nextWeights 67 = .ok (.iastore, 1) := by decide +kernel
theorem dX11_nextWeights_68 : decode cX11_nextWeights 68 = .ok (.iinc 3 (-1), 3) := by decide +kernel
theorem dX11_nextWeights_71 : decode cX11_nextWeights 71 = .ok (.goto (-53), 3) := by decide +kernel
theorem dX11_nextWeights_74 : decode cX11_nextWeights 74 = .ok (.iconst 0, 1) := by decide +kernel
theorem dX11_nextWeights_75 : decode cX11_nextWeights 75 = .ok (.ireturn, 1) := by decide +kernel
theorem dX11_betray_0 : decode cX11_betray 0 = .ok (.aload_n 0, 1) := by decide +kernel
theorem dX11_betray_1 : decode cX11_betray 1 = .ok (.invokevirtual 365, 3) := by decide +kernel
theorem dX11_betray_4 : decode cX11_betray 4 = .ok (.ifCond .eq 12, 3) := by decide +kernel
theorem dX11_betray_7 : decode cX11_betray 7 = .ok (.aload_n 0, 1) := by decide +kernel
theorem dX11_betray_8 : decode cX11_betray 8 = .ok (.iload_n 1, 1) := by decide +kernel
theorem dX11_betray_9 : decode cX11_betray 9 = .ok (.iload_n 2, 1) := by decide +kernel
theorem dX11_betray_10 : decode cX11_betray 10 = .ok (.invokevirtual 413, 3) := by decide +kernel
theorem dX11_betray_13 : decode cX11_betray 13 = .ok (.ifCond .ne 7, 3) := by decide +kernel
theorem dX11_betray_16 : decode cX11_betray 16 = .ok (.ldc2_w 411, 3) := by decide +kernel
theorem dX11_betray_19 : decode cX11_betray 19 = .ok (.lreturn, 1) := by decide +kernel
theorem dX11_betray_20 : decode cX11_betray 20 = .ok (.iconst 0, 1) := by decide +kernel
theorem dX11_betray_21 : decode cX11_betray 21 = .ok (.istore 4, 2) := by decide +kernel
theorem dX11_betray_23 : decode cX11_betray 23 = .ok (.iload 4, 2) := by decide +kernel
theorem dX11_betray_25 : decode cX11_betray 25 = .ok (.aload_n 0, 1) := by decide +kernel
theorem dX11_betray_26 : decode cX11_betray 26 = .ok (.invokevirtual 365, 3) := by decide +kernel
theorem dX11_betray_29 : decode cX11_betray 29 = .ok (.if_icmp .ge 58, 3) := by decide +kernel
theorem dX11_betray_32 : decode cX11_betray 32 = .ok (.iconst 0, 1) := by decide +kernel
theorem dX11_betray_33 : decode cX11_betray 33 = .ok (.istore 5, 2) := by decide +kernel
theorem dX11_betray_35 : decode cX11_betray 35 = .ok (.iload 5, 2) := by decide +kernel
theorem dX11_betray_37 : decode cX11_betray 37 = .ok (.aload_n 0, 1) := by decide +kernel
theorem dX11_betray_38 : decode cX11_betray 38 = .ok (.invokevirtual 368, 3) := by decide +kernel
theorem dX11_betray_41 : decode cX11_betray 41 = .ok (.if_icmp .ge 40, 3) := by decide +kernel
theorem dX11_betray_44 : decode cX11_betray 44 = .ok (.aload_n 0, 1) := by decide +kernel
theorem dX11_betray_45 : decode cX11_betray 45 = .ok (.getfield 97, 3) := by decide +kernel
theorem dX11_betray_48 : decode cX11_betray 48 = .ok (.iconst 4, 1) := by decide +kernel
theorem dX11_betray_49 : decode cX11_betray 49 = .ok (.iload 4, 2) := by decide +kernel
theorem dX11_betray_51 : decode cX11_betray 51 = .ok (.imul, 1) := by decide +kernel
theorem dX11_betray_52 : decode cX11_betray 52 = .ok (.iload 5, 2) := by decide +kernel
theorem dX11_betray_54 : decode cX11_betray 54 = .ok (.iadd, 1) := by decide +kernel
theorem dX11_betray_55 : decode cX11_betray 55 = .ok (.aload_n 0, 1) := by decide +kernel
theorem dX11_betray_56 : decode cX11_betray 56 = .ok (.iconst 0, 1) := by decide +kernel
theorem dX11_betray_57 : decode cX11_betray 57 = .ok (.iload 4, 2) := by decide +kernel
theorem dX11_betray_59 : decode cX11_betray 59 = .ok (.iload 5, 2) := by decide +kernel
theorem dX11_betray_61 : decode cX11_betray 61 = .ok (.invokevirtual 389, 3) := by decide +kernel
theorem dX11_betray_64 : decode cX11_betray 64 = .ok (.aload_n 0, 1) := by decide +kernel
theorem dX11_betray_65 : decode cX11_betray 65 = .ok (.iconst 1, 1) := by decide +kernel
theorem dX11_betray_66 : decode cX11_betray 66 = .ok (.iload 4, 2) := by decide +kernel
theorem dX11_betray_68 : decode cX11_betray 68 = .ok (.iload 5, 2) := by decide +kernel
theorem dX11_betray_70 : decode cX11_betray 70 = .ok (.invokevirtual 389, 3) := by decide +kernel
theorem dX11_betray_73 : decode cX11_betray 73 = .ok (.lsub, 1) := by decide +kernel
theorem dX11_betray_74 : decode cX11_betray 74 = .ok (.lastore, 1) := by decide +kernel
theorem dX11_betray_75 : decode cX11_betray 75 = .ok (.iinc 5 1, 3) := by decide +kernel
theorem dX11_betray_78 : decode cX11_betray 78 = .ok (.goto (-43), 3) := by decide +kernel
theorem dX11_betray_81 : decode cX11_betray 81 = .ok (.iinc 4 1, 3) := by decide +kernel
theorem dX11_betray_84 : decode cX11_betray 84 = .ok (.goto (-61), 3) := by decide +kernel
theorem dX11_betray_87 : decode cX11_betray 87 = .ok (.iconst 0, 1) := by decide +kernel
theorem dX11_betray_88 : decode cX11_betray 88 = .ok (.istore 4, 2) := by decide +kernel
theorem dX11_betray_90 : decode cX11_betray 90 = .ok (.iload 4, 2) := by decide +kernel
theorem dX11_betray_92 : decode cX11_betray 92 = .ok (.bipush 6, 2) := by decide +kernel
theorem dX11_betray_94 : decode cX11_betray 94 = .ok (.if_icmp .ge 33, 3) := by decide +kernel
theorem dX11_betray_97 : decode cX11_betray 97 = .ok (.aload_n 0, 1) := by decide +kernel
theorem dX11_betray_98 : decode cX11_betray 98 = .ok (.getfield 103, 3) := by decide +kernel
theorem dX11_betray_101 : decode cX11_betray 101 = .ok (.iload 4, 2) := by decide +kernel
theorem dX11_betray_103 : decode cX11_betray 103 = .ok (.iload 4, 2) := by decide +kernel
theorem dX11_betray_105 : decode cX11_betray 105 = .ok (.aload_n 0, 1) := by decide +kernel
theorem dX11_betray_106 : decode cX11_betray 106 = .ok (.invokevirtual 365, 3) := by decide +kernel
theorem dX11_betray_109 : decode cX11_betray 109 = .ok (.iconst 1, 1) := by decide +kernel
theorem dX11_betray_110 : decode cX11_betray 110 = .ok (.isub, 1) := by decide +kernel
theorem dX11_betray_111 : decode cX11_betray 111 = .ok (.if_icmp .ne 8, 3) := by decide +kernel
theorem dX11_betray_114 : decode cX11_betray 114 = .ok (.bipush 10, 2) := by decide +kernel
theorem dX11_betray_116 : decode cX11_betray 116 = .ok (.goto 4, 3) := by decide +kernel
theorem dX11_betray_119 : decode cX11_betray 119 = .ok (.iconst 0, 1) := by decide +kernel
theorem dX11_betray_120 : decode cX11_betray 120 = .ok (.iastore, 1) := by decide +kernel
theorem dX11_betray_121 : decode cX11_betray 121 = .ok (.iinc 4 1, 3) := by decide +kernel
theorem dX11_betray_124 : decode cX11_betray 124 = .ok (.goto (-34), 3) := by decide +kernel
theorem dX11_betray_127 : decode cX11_betray 127 = .ok (.ldc2_w 411, 3) := by decide +kernel
theorem dX11_betray_130 : decode cX11_betray 130 = .ok (.lstore 4, 2) := by decide +kernel
theorem dX11_betray_132 : decode cX11_betray 132 = .ok (.iconst 1, 1) := by decide +kernel
theorem dX11_betray_133 : decode cX11_betray 133 = .ok (.istore 6, 2) := by decide +kernel
theorem dX11_betray_135 : decode cX11_betray 135 = .ok (.iload 6, 2) := by decide +kernel
theorem dX11_betray_137 : decode cX11_betray 137 = .ok (.ifCond .eq 61, 3) := by decide +kernel
theorem dX11_betray_140 : decode cX11_betray 140 = .ok (.aload_n 0, 1) := by decide +kernel
theorem dX11_betray_141 : decode cX11_betray 141 = .ok (.iload_n 3, 1) := by decide +kernel
theorem dX11_betray_142 : decode cX11_betray 142 = .ok (.invokevirtual 499, 3) := by decide +kernel
theorem dX11_betray_145 : decode cX11_betray 145 = .ok (.lstore 7, 2) := by decide +kernel
theorem dX11_betray_147 : decode cX11_betray 147 = .ok (.lload 7, 2) := by decide +kernel
theorem dX11_betray_149 : decode cX11_betray 149 = .ok (.lload 4, 2) := by decide +kernel
theorem dX11_betray_151 : decode cX11_betray 151 = .ok (.lcmp, 1) := by decide +kernel
theorem dX11_betray_152 : decode cX11_betray 152 = .ok (.ifCond .le 37, 3) := by decide +kernel
theorem dX11_betray_155 : decode cX11_betray 155 = .ok (.lload 7, 2) := by decide +kernel
theorem dX11_betray_157 : decode cX11_betray 157 = .ok (.lstore 4, 2) := by decide +kernel
theorem dX11_betray_159 : decode cX11_betray 159 = .ok (.iconst 0, 1) := by decide +kernel
theorem dX11_betray_160 : decode cX11_betray 160 = .ok (.istore 9, 2) := by decide +kernel
theorem dX11_betray_162 : decode cX11_betray 162 = .ok (.iload 9, 2) := by decide +kernel
theorem dX11_betray_164 : decode cX11_betray 164 = .ok (.bipush 6, 2) := by decide +kernel
theorem dX11_betray_166 : decode cX11_betray 166 = .ok (.if_icmp .ge 23, 3) := by decide +kernel
theorem dX11_betray_169 : decode cX11_betray 169 = .ok (.aload_n 0, 1) := by decide +kernel
theorem dX11_betray_170 : decode cX11_betray 170 = .ok (.getfield 100, 3) := by decide +kernel
theorem dX11_betray_173 : decode cX11_betray 173 = .ok (.iload 9, 2) := by decide +kernel
theorem dX11_betray_175 : decode cX11_betray 175 = .ok (.aload_n 0, 1) := by decide +kernel
theorem dX11_betray_176 : decode cX11_betray 176 = .ok (.getfield 103, 3) := by decide +kernel
theorem dX11_betray_179 : decode cX11_betray 179 = .ok (.iload 9, 2) := by decide +kernel
theorem dX11_betray_181 : decode cX11_betray 181 = .ok (.iaload, 1) := by decide +kernel
theorem dX11_betray_182 : decode cX11_betray 182 = .ok (.iastore, 1) := by decide +kernel
theorem dX11_betray_183 : decode cX11_betray 183 = .ok (.iinc 9 1, 3) := by decide +kernel
theorem dX11_betray_186 : decode cX11_betray 186 = .ok (.goto (-24), 3) := by decide +kernel
theorem dX11_betray_189 : decode cX11_betray 189 = .ok (.aload_n 0, 1) := by decide +kernel
theorem dX11_betray_190 : decode cX11_betray 190 = .ok (.invokevirtual 503, 3) := by decide +kernel
theorem dX11_betray_193 : decode cX11_betray 193 = .ok (.istore 6, 2) := by decide +kernel
theorem dX11_betray_195 : decode cX11_betray 195 = .ok (.goto (-60), 3) := by decide +kernel
theorem dX11_betray_198 : decode cX11_betray 198 = .ok (.aload_n 0, 1) := by decide +kernel
theorem dX11_betray_199 : decode cX11_betray 199 = .ok (.iconst 1, 1) := by decide +kernel
theorem dX11_betray_200 : decode cX11_betray 200 = .ok (.putfield 351, 3) := by decide +kernel
theorem dX11_betray_203 : decode cX11_betray 203 = .ok (.lload 4, 2) := by decide +kernel
theorem dX11_betray_205 : decode cX11_betray 205 = .ok (.lreturn, 1) := by decide +kernel
theorem dX11_weight_0 : decode cX11_weight 0 = .ok (.aload_n 0, 1) := by decide +kernel
theorem dX11_weight_1 : decode cX11_weight 1 = .ok (.getfield 351, 3) := by decide +kernel
theorem dX11_weight_4 : decode cX11_weight 4 = .ok (.ifCond .eq 20, 3) := by decide +kernel
theorem dX11_weight_7 : decode cX11_weight 7 = .ok (.aload_n 0, 1) := by decide +kernel
theorem dX11_weight_8 : decode cX11_weight 8 = .ok (.iload_n 1, 1) := by decide +kernel
theorem dX11_weight_9 : decode cX11_weight 9 = .ok (.invokevirtual 405, 3) := by decide +kernel
theorem dX11_weight_12 : decode cX11_weight 12 = .ok (.ifCond .eq 12, 3) := by decide +kernel
theorem dX11_weight_15 : decode cX11_weight 15 = .ok (.aload_n 0, 1) := by decide +kernel
theorem dX11_weight_16 : decode cX11_weight 16 = .ok (.getfield 100, 3) := by decide +kernel
theorem dX11_weight_19 : decode cX11_weight 19 = .ok (.iload_n 1, 1) := by decide +kernel
theorem dX11_weight_20 : decode cX11_weight 20 = .ok (.iaload, 1) := by decide +kernel
theorem dX11_weight_21 : decode cX11_weight 21 = .ok (.goto 4, 3) := by decide +kernel
theorem dX11_weight_24 : decode cX11_weight 24 = .ok (.iconst (-1), 1) := by decide +kernel
theorem dX11_weight_25 : decode cX11_weight 25 = .ok (.ireturn, 1) := by decide +kernel
theorem dX11_lamp_0 : decode cX11_lamp 0 = .ok (.aload_n 0, 1) := by decide +kernel
theorem dX11_lamp_1 : decode cX11_lamp 1 = .ok (.invokevirtual 365, 3) := by decide +kernel
theorem dX11_lamp_4 : decode cX11_lamp 4 = .ok (.ifCond .eq 12, 3) := by decide +kernel
theorem dX11_lamp_7 : decode cX11_lamp 7 = .ok (.aload_n 0, 1) := by decide +kernel
theorem dX11_lamp_8 : decode cX11_lamp 8 = .ok (.iload_n 1, 1) := by decide +kernel
theorem dX11_lamp_9 : decode cX11_lamp 9 = .ok (.iload_n 2, 1) := by decide +kernel
theorem dX11_lamp_10 : decode cX11_lamp 10 = .ok (.invokevirtual 413, 3) := by decide +kernel
theorem dX11_lamp_13 : decode cX11_lamp 13 = .ok (.ifCond .ne 5, 3) := by decide +kernel
theorem dX11_lamp_16 : decode cX11_lamp 16 = .ok (.iconst (-1), 1) := by decide +kernel
theorem dX11_lamp_17 : decode cX11_lamp 17 = .ok (.ireturn, 1) := by decide +kernel
theorem dX11_lamp_18 : decode cX11_lamp 18 = .ok (.iconst 0, 1) := by decide +kernel
theorem dX11_lamp_19 : decode cX11_lamp 19 = .ok (.istore 4, 2) := by decide +kernel
theorem dX11_lamp_21 : decode cX11_lamp 21 = .ok (.iconst 1, 1) := by decide +kernel
theorem dX11_lamp_22 : decode cX11_lamp 22 = .ok (.istore 5, 2) := by decide +kernel
theorem dX11_lamp_24 : decode cX11_lamp 24 = .ok (.iload 5, 2) := by decide +kernel
theorem dX11_lamp_26 : decode cX11_lamp 26 = .ok (.aload_n 0, 1) := by decide +kernel
theorem dX11_lamp_27 : decode cX11_lamp 27 = .ok (.invokevirtual 365, 3) := by decide +kernel
theorem dX11_lamp_30 : decode cX11_lamp 30 = .ok (.if_icmp .ge 31, 3) := by decide +kernel
theorem dX11_lamp_33 : decode cX11_lamp 33 = .ok (.aload_n 0, 1) := by decide +kernel
theorem dX11_lamp_34 : decode cX11_lamp 34 = .ok (.iload 5, 2) := by decide +kernel
theorem dX11_lamp_36 : decode cX11_lamp 36 = .ok (.iload_n 3, 1) := by decide +kernel
theorem dX11_lamp_37 : decode cX11_lamp 37 = .ok (.invokevirtual 392, 3) := by decide +kernel
theorem dX11_lamp_40 : decode cX11_lamp 40 = .ok (.aload_n 0, 1) := by decide +kernel
theorem dX11_lamp_41 : decode cX11_lamp 41 = .ok (.iload 4, 2) := by decide +kernel
theorem dX11_lamp_43 : decode cX11_lamp 43 = .ok (.iload_n 3, 1) := by decide +kernel
theorem dX11_lamp_44 : decode cX11_lamp 44 = .ok (.invokevirtual 392, 3) := by decide +kernel
theorem dX11_lamp_47 : decode cX11_lamp 47 = .ok (.lcmp, 1) := by decide +kernel
theorem dX11_lamp_48 : decode cX11_lamp 48 = .ok (.ifCond .le 7, 3) := by decide +kernel
theorem dX11_lamp_51 : decode cX11_lamp 51 = .ok (.iload 5, 2) := by decide +kernel
theorem dX11_lamp_53 : decode cX11_lamp 53 = .ok (.istore 4, 2) := by decide +kernel
theorem dX11_lamp_55 : decode cX11_lamp 55 = .ok (.iinc 5 1, 3) := by decide +kernel
theorem dX11_lamp_58 : decode cX11_lamp 58 = .ok (.goto (-34), 3) := by decide +kernel
theorem dX11_lamp_61 : decode cX11_lamp 61 = .ok (.iload 4, 2) := by decide +kernel
theorem dX11_lamp_63 : decode cX11_lamp 63 = .ok (.ireturn, 1) := by decide +kernel
theorem dX11_setVat_0 : decode cX11_setVat 0 = .ok (.iconst 0, 1) := by decide +kernel
theorem dX11_setVat_1 : decode cX11_setVat 1 = .ok (.istore_n 2, 1) := by decide +kernel
theorem dX11_setVat_2 : decode cX11_setVat 2 = .ok (.iload_n 2, 1) := by decide +kernel
theorem dX11_setVat_3 : decode cX11_setVat 3 = .ok (.bipush 8, 2) := by decide +kernel
theorem dX11_setVat_5 : decode cX11_setVat 5 = .ok (.if_icmp .ge 16, 3) := by decide +kernel
theorem dX11_setVat_8 : decode cX11_setVat 8 = .ok (.aload_n 0, 1) := by decide +kernel
theorem dX11_setVat_9 : decode cX11_setVat 9 = .ok (.getfield 106, 3) := by decide +kernel
theorem dX11_setVat_12 : decode cX11_setVat 12 = .ok (.iload_n 2, 1) := by decide +kernel
theorem dX11_setVat_13 : decode cX11_setVat 13 = .ok (.iconst 0, 1) := by decide +kernel
theorem dX11_setVat_14 : decode cX11_setVat 14 = .ok (.iastore, 1) := by decide +kernel
theorem dX11_setVat_15 : decode cX11_setVat 15 = .ok (.iinc 2 1, 3) := by decide +kernel
theorem dX11_setVat_18 : decode cX11_setVat 18 = .ok (.goto (-16), 3) := by decide +kernel
theorem dX11_setVat_21 : decode cX11_setVat 21 = .ok (.aload_n 0, 1) := by decide +kernel
theorem dX11_setVat_22 : decode cX11_setVat 22 = .ok (.iload_n 1, 1) := by decide +kernel
theorem dX11_setVat_23 : decode cX11_setVat 23 = .ok (.putfield 379, 3) := by decide +kernel
theorem dX11_setVat_26 : decode cX11_setVat 26 = .ok (.aload_n 0, 1) := by decide +kernel
theorem dX11_setVat_27 : decode cX11_setVat 27 = .ok (.iconst 0, 1) := by decide +kernel
theorem dX11_setVat_28 : decode cX11_setVat 28 = .ok (.putfield 506, 3) := by decide +kernel
theorem dX11_setVat_31 : decode cX11_setVat 31 = .ok (.return_, 1) := by decide +kernel
theorem dX11_set_0 : decode cX11_set 0 = .ok (.aload_n 0, 1) := by decide +kernel
theorem dX11_set_1 : decode cX11_set 1 = .ok (.iload_n 1, 1) := by decide +kernel
theorem dX11_set_2 : decode cX11_set 2 = .ok (.invokevirtual 423, 3) := by decide +kernel
theorem dX11_set_5 : decode cX11_set 5 = .ok (.ifCond .ne 5, 3) := by decide +kernel
theorem dX11_set_8 : decode cX11_set 8 = .ok (.iconst 0, 1) := by decide +kernel
theorem dX11_set_9 : decode cX11_set 9 = .ok (.ireturn, 1) := by decide +kernel
theorem dX11_set_10 : decode cX11_set 10 = .ok (.aload_n 0, 1) := by decide +kernel
theorem dX11_set_11 : decode cX11_set 11 = .ok (.iload_n 1, 1) := by decide +kernel
theorem dX11_set_12 : decode cX11_set 12 = .ok (.invokevirtual 336, 3) := by decide +kernel
theorem dX11_set_15 : decode cX11_set 15 = .ok (.iconst 1, 1) := by decide +kernel
theorem dX11_set_16 : decode cX11_set 16 = .ok (.ireturn, 1) := by decide +kernel
theorem dX11_inVat_0 : decode cX11_inVat 0 = .ok (.iconst 0, 1) := by decide +kernel
theorem dX11_inVat_1 : decode cX11_inVat 1 = .ok (.istore_n 1, 1) := by decide +kernel
theorem dX11_inVat_2 : decode cX11_inVat 2 = .ok (.iconst 0, 1) := by decide +kernel
theorem dX11_inVat_3 : decode cX11_inVat 3 = .ok (.istore_n 2, 1) := by decide +kernel
theorem dX11_inVat_4 : decode cX11_inVat 4 = .ok (.iload_n 2, 1) := by decide +kernel
theorem dX11_inVat_5 : decode cX11_inVat 5 = .ok (.bipush 8, 2) := by decide +kernel
theorem dX11_inVat_7 : decode cX11_inVat 7 = .ok (.if_icmp .ge 18, 3) := by decide +kernel
theorem dX11_inVat_10 : decode cX11_inVat 10 = .ok (.iload_n 1, 1) := by decide +kernel
theorem dX11_inVat_11 : decode cX11_inVat 11 = .ok (.aload_n 0, 1) := by decide +kernel
theorem dX11_inVat_12 : decode cX11_inVat 12 = .ok (.getfield 106, 3) := by decide +kernel
theorem dX11_inVat_15 : decode cX11_inVat 15 = .ok (.iload_n 2, 1) := by decide +kernel
theorem dX11_inVat_16 : decode cX11_inVat 16 = .ok (.iaload, 1) := by decide +kernel
theorem dX11_inVat_17 : decode cX11_inVat 17 = .ok (.iadd, 1) := by decide +kernel
theorem dX11_inVat_18 : decode cX11_inVat 18 = .ok (.istore_n 1, 1) := by decide +kernel
theorem dX11_inVat_19 : decode cX11_inVat 19 = .ok (.iinc 2 1, 3) := by decide +kernel
theorem dX11_inVat_22 : decode cX11_inVat 22 = .ok (.goto (-18), 3) := by decide +kernel
theorem dX11_inVat_25 : decode cX11_inVat 25 = .ok (.iload_n 1, 1) := by decide +kernel
theorem dX11_inVat_26 : decode cX11_inVat 26 = .ok (.ireturn, 1) := by decide +kernel
theorem dX11_draw_0 : decode cX11_draw 0 = .ok (.aload_n 0, 1) := by decide +kernel
theorem dX11_draw_1 : decode cX11_draw 1 = .ok (.aload_n 0, 1) := by decide +kernel
theorem dX11_draw_2 : decode cX11_draw 2 = .ok (.getfield 109, 3) := by decide +kernel
theorem dX11_draw_5 : decode cX11_draw 5 = .ok (.ldc_w 509, 3) := by decide +kernel
theorem dX11_draw_8 : decode cX11_draw 8 = .ok (.imul, 1) := by decide +kernel
theorem dX11_draw_9 : decode cX11_draw 9 = .ok (.sipush 12345, 3) := by decide +kernel
theorem dX11_draw_12 : decode cX11_draw 12 = .ok (.iadd, 1) := by decide +kernel
theorem dX11_draw_13 : decode cX11_draw 13 = .ok (.putfield 109, 3) := by decide +kernel
theorem dX11_draw_16 : decode cX11_draw 16 = .ok (.aload_n 0, 1) := by decide +kernel
theorem dX11_draw_17 : decode cX11_draw 17 = .ok (.getfield 109, 3) := by decide +kernel
theorem dX11_draw_20 : decode cX11_draw 20 = .ok (.bipush 16, 2) := by decide +kernel
theorem dX11_draw_22 : decode cX11_draw 22 = .ok (.iushr, 1) := by decide +kernel
theorem dX11_draw_23 : decode cX11_draw 23 = .ok (.iload_n 1, 1) := by decide +kernel
theorem dX11_draw_24 : decode cX11_draw 24 = .ok (.irem, 1) := by decide +kernel
theorem dX11_draw_25 : decode cX11_draw 25 = .ok (.ireturn, 1) := by decide +kernel
theorem dX11_drop_0 : decode cX11_drop 0 = .ok (.aload_n 0, 1) := by decide +kernel
theorem dX11_drop_1 : decode cX11_drop 1 = .ok (.iload_n 1, 1) := by decide +kernel
theorem dX11_drop_2 : decode cX11_drop 2 = .ok (.invokevirtual 496, 3) := by decide +kernel
theorem dX11_drop_5 : decode cX11_drop 5 = .ok (.ifCond .eq 35, 3) := by decide +kernel
theorem dX11_drop_8 : decode cX11_drop 8 = .ok (.iload_n 2, 1) := by decide +kernel
theorem dX11_drop_9 : decode cX11_drop 9 = .ok (.iconst 1, 1) := by decide +kernel
theorem dX11_drop_10 : decode cX11_drop 10 = .ok (.bipush 24, 2) := by decide +kernel
theorem dX11_drop_12 : decode cX11_drop 12 = .ok (.invokestatic 361, 3) := by decide +kernel
theorem dX11_drop_15 : decode cX11_drop 15 = .ok (.ifCond .eq 25, 3) := by decide +kernel
theorem dX11_drop_18 : decode cX11_drop 18 = .ok (.aload_n 0, 1) := by decide +kernel
theorem dX11_drop_19 : decode cX11_drop 19 = .ok (.invokevirtual 510, 3) := by decide +kernel
theorem dX11_drop_22 : decode cX11_drop 22 = .ok (.iload_n 2, 1) := by decide +kernel
theorem dX11_drop_23 : decode cX11_drop 23 = .ok (.iadd, 1) := by decide +kernel
theorem dX11_drop_24 : decode cX11_drop 24 = .ok (.aload_n 0, 1) := by decide +kernel
theorem dX11_drop_25 : decode cX11_drop 25 = .ok (.getfield 161, 3) := by decide +kernel
theorem dX11_drop_28 : decode cX11_drop 28 = .ok (.if_icmp .gt 12, 3) := by decide +kernel
theorem dX11_drop_31 : decode cX11_drop 31 = .ok (.aload_n 0, 1) := by decide +kernel
theorem dX11_drop_32 : decode cX11_drop 32 = .ok (.getfield 24, 3) := by decide +kernel
theorem dX11_drop_35 : decode cX11_drop 35 = .ok (.iconst 1, 1) := by decide +kernel
theorem dX11_drop_36 : decode cX11_drop 36 = .ok (.iaload, 1) := by decide +kernel
theorem dX11_drop_37 : decode cX11_drop 37 = .ok (.ifCond .ne 5, 3) := by decide +kernel
theorem dX11_drop_40 : decode cX11_drop 40 = .ok (.iconst (-1), 1) := by decide +kernel
theorem dX11_drop_41 : decode cX11_drop 41 = .ok (.ireturn, 1) := by decide +kernel
theorem dX11_drop_42 : decode cX11_drop 42 = .ok (.aload_n 0, 1) := by decide +kernel
theorem dX11_drop_43 : decode cX11_drop 43 = .ok (.getfield 106, 3) := by decide +kernel
theorem dX11_drop_46 : decode cX11_drop 46 = .ok (.iload_n 1, 1) := by decide +kernel
theorem dX11_drop_47 : decode cX11_drop 47 = .ok (.dup2, 1) := by decide +kernel
theorem dX11_drop_48 : decode cX11_drop 48 = .ok (.iaload, 1) := by decide +kernel
theorem dX11_drop_49 : decode cX11_drop 49 = .ok (.iload_n 2, 1) := by decide +kernel
theorem dX11_drop_50 : decode cX11_drop 50 = .ok (.iadd, 1) := by decide +kernel
theorem dX11_drop_51 : decode cX11_drop 51 = .ok (.iastore, 1) := by decide +kernel
theorem dX11_drop_52 : decode cX11_drop 52 = .ok (.aload_n 0, 1) := by decide +kernel
theorem dX11_drop_53 : decode cX11_drop 53 = .ok (.getfield 330, 3) := by decide +kernel
theorem dX11_drop_56 : decode cX11_drop 56 = .ok (.ifCond .eq 27, 3) := by decide +kernel
theorem dX11_drop_59 : decode cX11_drop 59 = .ok (.aload_n 0, 1) := by decide +kernel
theorem dX11_drop_60 : decode cX11_drop 60 = .ok (.bipush 10, 2) := by decide +kernel
theorem dX11_drop_62 : decode cX11_drop 62 = .ok (.invokevirtual 513, 3) := by decide +kernel
theorem dX11_drop_65 : decode cX11_drop 65 = .ok (.aload_n 0, 1) := by decide +kernel
theorem dX11_drop_66 : decode cX11_drop 66 = .ok (.getfield 330, 3) := by decide +kernel
theorem dX11_drop_69 : decode cX11_drop 69 = .ok (.if_icmp .ge 14, 3) := by decide +kernel
theorem dX11_drop_72 : decode cX11_drop 72 = .ok (.aload_n 0, 1) := by decide +kernel
theorem dX11_drop_73 : decode cX11_drop 73 = .ok (.invokevirtual 510, 3) := by decide +kernel
theorem dX11_drop_76 : decode cX11_drop 76 = .ok (.aload_n 0, 1) := by decide +kernel
theorem dX11_drop_77 : decode cX11_drop 77 = .ok (.getfield 161, 3) := by decide +kernel
theorem dX11_drop_80 : decode cX11_drop 80 = .ok (.if_icmp .ne 5, 3) := by decide +kernel
theorem dX11_drop_83 : decode cX11_drop 83 = .ok (.iload_n 2, 1) := by decide +kernel
theorem dX11_drop_84 : decode cX11_drop 84 = .ok (.ireturn, 1) := by decide +kernel
theorem dX11_drop_85 : decode cX11_drop 85 = .ok (.aload_n 0, 1) := by decide +kernel
theorem dX11_drop_86 : decode cX11_drop 86 = .ok (.getfield 106, 3) := by decide +kernel
theorem dX11_drop_89 : decode cX11_drop 89 = .ok (.iload_n 1, 1) := by decide +kernel
theorem dX11_drop_90 : decode cX11_drop 90 = .ok (.dup2, 1) := by decide +kernel
theorem dX11_drop_91 : decode cX11_drop 91 = .ok (.iaload, 1) := by decide +kernel
theorem dX11_drop_92 : decode cX11_drop 92 = .ok (.iconst 1, 1) := by decide +kernel
theorem dX11_drop_93 : decode cX11_drop 93 = .ok (.iadd, 1) := by decide +kernel
theorem dX11_drop_94 : decode cX11_drop 94 = .ok (.iastore, 1) := by decide +kernel
theorem dX11_drop_95 : decode cX11_drop 95 = .ok (.iload_n 2, 1) := by decide +kernel
theorem dX11_drop_96 : decode cX11_drop 96 = .ok (.iconst 1, 1) := by decide +kernel
theorem dX11_drop_97 : decode cX11_drop 97 = .ok (.iadd, 1) := by decide +kernel
theorem dX11_drop_98 : decode cX11_drop 98 = .ok (.ireturn, 1) := by decide +kernel
theorem dX11_days_0 : decode cX11_days 0 = .ok (.iload_n 1, 1) := by decide +kernel
theorem dX11_days_1 : decode cX11_days 1 = .ok (.iconst 0, 1) := by decide +kernel
theorem dX11_days_2 : decode cX11_days 2 = .ok (.sipush 1000, 3) := by decide +kernel
theorem dX11_days_5 : decode cX11_days 5 = .ok (.invokestatic 361, 3) := by decide +kernel
theorem dX11_days_8 : decode cX11_days 8 = .ok (.ifCond .ne 5, 3) := by decide +kernel
theorem dX11_days_11 : decode cX11_days 11 = .ok (.iconst (-1), 1) := by decide +kernel
theorem dX11_days_12 : decode cX11_days 12 = .ok (.ireturn, 1) := by decide +kernel
theorem dX11_days_13 : decode cX11_days 13 = .ok (.iconst 0, 1) := by decide +kernel
theorem dX11_days_14 : decode cX11_days 14 = .ok (.istore_n 2, 1) := by decide +kernel
theorem dX11_days_15 : decode cX11_days 15 = .ok (.iconst 0, 1) := by decide +kernel
theorem dX11_days_16 : decode cX11_days 16 = .ok (.istore_n 3, 1) := by decide +kernel
theorem dX11_days_17 : decode cX11_days 17 = .ok (.iload_n 3, 1) := by decide +kernel
theorem dX11_days_18 : decode cX11_days 18 = .ok (.iload_n 1, 1) := by decide +kernel
theorem dX11_days_19 : decode cX11_days 19 = .ok (.if_icmp .ge 89, 3) := by decide +kernel
theorem dX11_days_22 : decode cX11_days 22 = .ok (.aload_n 0, 1) := by decide +kernel
theorem dX11_days_23 : decode cX11_days 23 = .ok (.dup, 1) := by decide +kernel
theorem dX11_days_24 : decode cX11_days 24 = .ok (.getfield 506, 3) := by decide +kernel
theorem dX11_days_27 : decode cX11_days 27 = .ok (.iconst 1, 1) := by decide +kernel
theorem dX11_days_28 : decode cX11_days 28 = .ok (.iadd, 1) := by decide +kernel
theorem dX11_days_29 : decode cX11_days 29 = .ok (.putfield 506, 3) := by decide +kernel
theorem dX11_days_32 : decode cX11_days 32 = .ok (.iconst 0, 1) := by decide +kernel
theorem dX11_days_33 : decode cX11_days 33 = .ok (.istore 4, 2) := by decide +kernel
theorem dX11_days_35 : decode cX11_days 35 = .ok (.iload 4, 2) := by decide +kernel
theorem dX11_days_37 : decode cX11_days 37 = .ok (.aload_n 0, 1) := by decide +kernel
theorem dX11_days_38 : decode cX11_days 38 = .ok (.invokevirtual 357, 3) := by decide +kernel
theorem dX11_days_41 : decode cX11_days 41 = .ok (.if_icmp .ge 61, 3) := by decide +kernel
theorem dX11_days_44 : decode cX11_days 44 = .ok (.aload_n 0, 1) := by decide +kernel
theorem dX11_days_45 : decode cX11_days 45 = .ok (.getfield 66, 3) := by decide +kernel
theorem dX11_days_48 : decode cX11_days 48 = .ok (.iload 4, 2) := by decide +kernel
theorem dX11_days_50 : decode cX11_days 50 = .ok (.iaload, 1) := by decide +kernel
theorem dX11_days_51 : decode cX11_days 51 = .ok (.ifCond .eq 45, 3) := by decide +kernel
theorem dX11_days_54 : decode cX11_days 54 = .ok (.aload_n 0, 1) := by decide +kernel
theorem dX11_days_55 : decode cX11_days 55 = .ok (.getfield 506, 3) := by decide +kernel
theorem dX11_days_58 : decode cX11_days 58 = .ok (.aload_n 0, 1) := by decide +kernel
theorem dX11_days_59 : decode cX11_days 59 = .ok (.getfield 66, 3) := by decide +kernel
theorem dX11_days_62 : decode cX11_days 62 = .ok (.iload 4, 2) := by decide +kernel
theorem dX11_days_64 : decode cX11_days 64 = .ok (.iaload, 1) := by decide +kernel
theorem dX11_days_65 : decode cX11_days 65 = .ok (.irem, 1) := by decide +kernel
theorem dX11_days_66 : decode cX11_days 66 = .ok (.ifCond .ne 30, 3) := by decide +kernel
theorem dX11_days_69 : decode cX11_days 69 = .ok (.aload_n 0, 1) := by decide +kernel
theorem dX11_days_70 : decode cX11_days 70 = .ok (.getfield 106, 3) := by decide +kernel
theorem dX11_days_73 : decode cX11_days 73 = .ok (.iload 4, 2) := by decide +kernel
theorem dX11_days_75 : decode cX11_days 75 = .ok (.iaload, 1) := by decide +kernel
theorem dX11_days_76 : decode cX11_days 76 = .ok (.ifCond .ne 6, 3) := by decide +kernel
theorem dX11_days_79 : decode cX11_days 79 = .ok (.goto 17, 3) := by decide +kernel
theorem dX11_days_82 : decode cX11_days 82 = .ok (.aload_n 0, 1) := by decide +kernel
theorem dX11_days_83 : decode cX11_days 83 = .ok (.getfield 106, 3) := by decide +kernel
theorem dX11_days_86 : decode cX11_days 86 = .ok (.iload 4, 2) := by decide +kernel
theorem dX11_days_88 : decode cX11_days 88 = .ok (.dup2, 1) := by decide +kernel
theorem dX11_days_89 : decode cX11_days 89 = .ok (.iaload, 1) := by decide +kernel
theorem dX11_days_90 : decode cX11_days 90 = .ok (.iconst 1, 1) := by decide +kernel
theorem dX11_days_91 : decode cX11_days 91 = .ok (.isub, 1) := by decide +kernel
theorem dX11_days_92 : decode cX11_days 92 = .ok (.iastore, 1) := by decide +kernel
theorem dX11_days_93 : decode cX11_days 93 = .ok (.iinc 2 1, 3) := by decide +kernel
theorem dX11_days_96 : decode cX11_days 96 = .ok (.iinc 4 1, 3) := by decide +kernel
theorem dX11_days_99 : decode cX11_days 99 = .ok (.goto (-64), 3) := by decide +kernel
theorem dX11_days_102 : decode cX11_days 102 = .ok (.iinc 3 1, 3) := by decide +kernel
theorem dX11_days_105 : decode cX11_days 105 = .ok (.goto (-88), 3) := by decide +kernel
theorem dX11_days_108 : decode cX11_days 108 = .ok (.iload_n 2, 1) := by decide +kernel
theorem dX11_days_109 : decode cX11_days 109 = .ok (.ireturn, 1) := by decide +kernel
theorem dX11_vat_0 : decode cX11_vat 0 = .ok (.aload_n 0, 1) := by decide +kernel
theorem dX11_vat_1 : decode cX11_vat 1 = .ok (.iload_n 1, 1) := by decide +kernel
theorem dX11_vat_2 : decode cX11_vat 2 = .ok (.invokevirtual 496, 3) := by decide +kernel
theorem dX11_vat_5 : decode cX11_vat 5 = .ok (.ifCond .eq 12, 3) := by decide +kernel
theorem dX11_vat_8 : decode cX11_vat 8 = .ok (.aload_n 0, 1) := by decide +kernel
theorem dX11_vat_9 : decode cX11_vat 9 = .ok (.getfield 106, 3) := by decide +kernel
theorem dX11_vat_12 : decode cX11_vat 12 = .ok (.iload_n 1, 1) := by decide +kernel
theorem dX11_vat_13 : decode cX11_vat 13 = .ok (.iaload, 1) := by decide +kernel
theorem dX11_vat_14 : decode cX11_vat 14 = .ok (.goto 4, 3) := by decide +kernel
theorem dX11_vat_17 : decode cX11_vat 17 = .ok (.iconst (-1), 1) := by decide +kernel
theorem dX11_vat_18 : decode cX11_vat 18 = .ok (.ireturn, 1) := by decide +kernel
theorem dX11_addOld_0 : decode cX11_addOld 0 = .ok (.aload_n 0, 1) := by decide +kernel
theorem dX11_addOld_1 : decode cX11_addOld 1 = .ok (.getfield 112, 3) := by decide +kernel
theorem dX11_addOld_4 : decode cX11_addOld 4 = .ok (.aload_n 0, 1) := by decide +kernel
theorem dX11_addOld_5 : decode cX11_addOld 5 = .ok (.getfield 516, 3) := by decide +kernel
theorem dX11_addOld_8 : decode cX11_addOld 8 = .ok (.iload_n 1, 1) := by decide +kernel
theorem dX11_addOld_9 : decode cX11_addOld 9 = .ok (.iastore, 1) := by decide +kernel
theorem dX11_addOld_10 : decode cX11_addOld 10 = .ok (.aload_n 0, 1) := by decide +kernel
theorem dX11_addOld_11 : decode cX11_addOld 11 = .ok (.getfield 115, 3) := by decide +kernel
theorem dX11_addOld_14 : decode cX11_addOld 14 = .ok (.aload_n 0, 1) := by decide +kernel
theorem dX11_addOld_15 : decode cX11_addOld 15 = .ok (.getfield 516, 3) := by decide +kernel
theorem dX11_addOld_18 : decode cX11_addOld 18 = .ok (.iload_n 2, 1) := by decide +kernel
theorem dX11_addOld_19 : decode cX11_addOld 19 = .ok (.iastore, 1) := by decide +kernel
theorem dX11_addOld_20 : decode cX11_addOld 20 = .ok (.aload_n 0, 1) := by decide +kernel
theorem dX11_addOld_21 : decode cX11_addOld 21 = .ok (.dup, 1) := by decide +kernel
theorem dX11_addOld_22 : decode cX11_addOld 22 = .ok (.getfield 516, 3) := by decide +kernel
theorem dX11_addOld_25 : decode cX11_addOld 25 = .ok (.iconst 1, 1) := by decide +kernel
theorem dX11_addOld_26 : decode cX11_addOld 26 = .ok (.iadd, 1) := by decide +kernel
theorem dX11_addOld_27 : decode cX11_addOld 27 = .ok (.putfield 516, 3) := by decide +kernel
theorem dX11_addOld_30 : decode cX11_addOld 30 = .ok (.return_, 1) := by decide +kernel
theorem dX11_layOld_0 : decode cX11_layOld 0 = .ok (.aload_n 0, 1) := by decide +kernel
theorem dX11_layOld_1 : decode cX11_layOld 1 = .ok (.iconst 0, 1) := by decide +kernel
theorem dX11_layOld_2 : decode cX11_layOld 2 = .ok (.putfield 516, 3) := by decide +kernel
theorem dX11_layOld_5 : decode cX11_layOld 5 = .ok (.iconst 0, 1) := by decide +kernel
theorem dX11_layOld_6 : decode cX11_layOld 6 = .ok (.istore_n 1, 1) := by decide +kernel
theorem dX11_layOld_7 : decode cX11_layOld 7 = .ok (.iload_n 1, 1) := by decide +kernel
theorem dX11_layOld_8 : decode cX11_layOld 8 = .ok (.aload_n 0, 1) := by decide +kernel
theorem dX11_layOld_9 : decode cX11_layOld 9 = .ok (.getfield 24, 3) := by decide +kernel
theorem dX11_layOld_12 : decode cX11_layOld 12 = .ok (.iconst 4, 1) := by decide +kernel
theorem dX11_layOld_13 : decode cX11_layOld 13 = .ok (.iaload, 1) := by decide +kernel
theorem dX11_layOld_14 : decode cX11_layOld 14 = .ok (.if_icmp .ge 15, 3) := by decide +kernel
theorem dX11_layOld_17 : decode cX11_layOld 17 = .ok (.aload_n 0, 1) := by decide +kernel
theorem dX11_layOld_18 : decode cX11_layOld 18 = .ok (.iload_n 1, 1) := by decide +kernel
theorem dX11_layOld_19 : decode cX11_layOld 19 = .ok (.iconst (-1), 1) := by decide +kernel
theorem dX11_layOld_20 : decode cX11_layOld 20 = .ok (.invokevirtual 519, 3) := by decide +kernel
theorem dX11_layOld_23 : decode cX11_layOld 23 = .ok (.iinc 1 1, 3) := by decide +kernel
theorem dX11_layOld_26 : decode cX11_layOld 26 = .ok (.goto (-19), 3) := by decide +kernel
theorem dX11_layOld_29 : decode cX11_layOld 29 = .ok (.iconst 0, 1) := by decide +kernel
theorem dX11_layOld_30 : decode cX11_layOld 30 = .ok (.istore_n 1, 1) := by decide +kernel
theorem dX11_layOld_31 : decode cX11_layOld 31 = .ok (.iload_n 1, 1) := by decide +kernel
theorem dX11_layOld_32 : decode cX11_layOld 32 = .ok (.aload_n 0, 1) := by decide +kernel
theorem dX11_layOld_33 : decode cX11_layOld 33 = .ok (.getfield 24, 3) := by decide +kernel
theorem dX11_layOld_36 : decode cX11_layOld 36 = .ok (.iconst 4, 1) := by decide +kernel
theorem dX11_layOld_37 : decode cX11_layOld 37 = .ok (.iaload, 1) := by decide +kernel
theorem dX11_layOld_38 : decode cX11_layOld 38 = .ok (.if_icmp .ge 45, 3) := by decide +kernel
theorem dX11_layOld_41 : decode cX11_layOld 41 = .ok (.iconst 0, 1) := by decide +kernel
theorem dX11_layOld_42 : decode cX11_layOld 42 = .ok (.istore_n 2, 1) := by decide +kernel
theorem dX11_layOld_43 : decode cX11_layOld 43 = .ok (.iload_n 2, 1) := by decide +kernel
theorem dX11_layOld_44 : decode cX11_layOld 44 = .ok (.aload_n 0, 1) := by decide +kernel
theorem dX11_layOld_45 : decode cX11_layOld 45 = .ok (.invokevirtual 357, 3) := by decide +kernel
theorem dX11_layOld_48 : decode cX11_layOld 48 = .ok (.if_icmp .ge 29, 3) := by decide +kernel
theorem dX11_layOld_51 : decode cX11_layOld 51 = .ok (.aload_n 0, 1) := by decide +kernel
theorem dX11_layOld_52 : decode cX11_layOld 52 = .ok (.getfield 72, 3) := by decide +kernel
theorem dX11_layOld_55 : decode cX11_layOld 55 = .ok (.bipush 8, 2) := by decide +kernel
theorem dX11_layOld_57 : decode cX11_layOld 57 = .ok (.iload_n 1, 1) := by decide +kernel
theorem dX11_layOld_58 : decode cX11_layOld 58 = .ok (.imul, 1) := by decide +kernel
theorem dX11_layOld_59 : decode cX11_layOld 59 = .ok (.iload_n 2, 1) := by decide +kernel
theorem dX11_layOld_60 : decode cX11_layOld 60 = .ok (.iadd, 1) := by decide +kernel
theorem dX11_layOld_61 : decode cX11_layOld 61 = .ok (.iaload, 1) := by decide +kernel
theorem dX11_layOld_62 : decode cX11_layOld 62 = .ok (.ifCond .le 9, 3) := by decide +kernel
theorem dX11_layOld_65 : decode cX11_layOld 65 = .ok (.aload_n 0, 1) := by decide +kernel
theorem dX11_layOld_66 : decode cX11_layOld 66 = .ok (.iload_n 1, 1) := by decide +kernel
theorem dX11_layOld_67 : decode cX11_layOld 67 = .ok (.iload_n 2, 1) := by decide +kernel
theorem dX11_layOld_68 : decode cX11_layOld 68 = .ok (.invokevirtual 519, 3) := by decide +kernel
theorem dX11_layOld_71 : decode cX11_layOld 71 = .ok (.iinc 2 1, 3) := by decide +kernel
theorem dX11_layOld_74 : decode cX11_layOld 74 = .ok (.goto (-31), 3) := by decide +kernel
theorem dX11_layOld_77 : decode cX11_layOld 77 = .ok (.iinc 1 1, 3) := by decide +kernel
theorem dX11_layOld_80 : decode cX11_layOld 80 = .ok (.goto (-49), 3) := by decide +kernel
theorem dX11_layOld_83 : decode cX11_layOld 83 = .ok (.return_, 1) := by decide +kernel
theorem dX11_old_0 : decode cX11_old 0 = .ok (.aload_n 0, 1) := by decide +kernel
theorem dX11_old_1 : decode cX11_old 1 = .ok (.getfield 516, 3) := by decide +kernel
theorem dX11_old_4 : decode cX11_old 4 = .ok (.ireturn, 1) := by decide +kernel
theorem dX11_oldOne_0 : decode cX11_oldOne 0 = .ok (.iload_n 1, 1) := by decide +kernel
theorem dX11_oldOne_1 : decode cX11_oldOne 1 = .ok (.iconst 0, 1) := by decide +kernel
theorem dX11_oldOne_2 : decode cX11_oldOne 2 = .ok (.aload_n 0, 1) := by decide +kernel
theorem dX11_oldOne_3 : decode cX11_oldOne 3 = .ok (.getfield 516, 3) := by decide +kernel
theorem dX11_oldOne_6 : decode cX11_oldOne 6 = .ok (.iconst 1, 1) := by decide +kernel
theorem dX11_oldOne_7 : decode cX11_oldOne 7 = .ok (.isub, 1) := by decide +kernel
theorem dX11_oldOne_8 : decode cX11_oldOne 8 = .ok (.invokestatic 361, 3) := by decide +kernel
theorem dX11_oldOne_11 : decode cX11_oldOne 11 = .ok (.ifCond .ne 8, 3) := by decide +kernel
theorem dX11_oldOne_14 : decode cX11_oldOne 14 = .ok (.bipush (-2), 2) := by decide +kernel
theorem dX11_oldOne_16 : decode cX11_oldOne 16 = .ok (.goto 32, 3) := by decide +kernel
theorem dX11_oldOne_19 : decode cX11_oldOne 19 = .ok (.iload_n 2, 1) := by decide +kernel
theorem dX11_oldOne_20 : decode cX11_oldOne 20 = .ok (.ifCond .ne 12, 3) := by decide +kernel
theorem dX11_oldOne_23 : decode cX11_oldOne 23 = .ok (.aload_n 0, 1) := by decide +kernel
theorem dX11_oldOne_24 : decode cX11_oldOne 24 = .ok (.getfield 112, 3) := by decide +kernel
theorem dX11_oldOne_27 : decode cX11_oldOne 27 = .ok (.iload_n 1, 1) := by decide +kernel
theorem dX11_oldOne_28 : decode cX11_oldOne 28 = .ok (.iaload, 1) := by decide +kernel
theorem dX11_oldOne_29 : decode cX11_oldOne 29 = .ok (.goto 19, 3) := by decide +kernel
theorem dX11_oldOne_32 : decode cX11_oldOne 32 = .ok (.iload_n 2, 1) := by decide +kernel
theorem dX11_oldOne_33 : decode cX11_oldOne 33 = .ok (.iconst 1, 1) := by decide +kernel
theorem dX11_oldOne_34 : decode cX11_oldOne 34 = .ok (.if_icmp .ne 12, 3) := by decide +kernel
theorem dX11_oldOne_37 : decode cX11_oldOne 37 = .ok (.aload_n 0, 1) := by decide +kernel
theorem dX11_oldOne_38 : decode cX11_oldOne 38 = .ok (.getfield 115, 3) := by decide +kernel
theorem dX11_oldOne_41 : decode cX11_oldOne 41 = .ok (.iload_n 1, 1) := by decide +kernel
theorem dX11_oldOne_42 : decode cX11_oldOne 42 = .ok (.iaload, 1) := by decide +kernel
theorem dX11_oldOne_43 : decode cX11_oldOne 43 = .ok (.goto 5, 3) := by decide +kernel
theorem dX11_oldOne_46 : decode cX11_oldOne 46 = .ok (.bipush (-2), 2) := by decide +kernel
theorem dX11_oldOne_48 : decode cX11_oldOne 48 = .ok (.ireturn, 1) := by decide +kernel
theorem dX11_look_0 : decode cX11_look 0 = .ok (.aload_n 0, 1) := by decide +kernel
theorem dX11_look_1 : decode cX11_look 1 = .ok (.iload_n 1, 1) := by decide +kernel
theorem dX11_look_2 : decode cX11_look 2 = .ok (.invokevirtual 405, 3) := by decide +kernel
theorem dX11_look_5 : decode cX11_look 5 = .ok (.ifCond .eq 43, 3) := by decide +kernel
theorem dX11_look_8 : decode cX11_look 8 = .ok (.aload_n 0, 1) := by decide +kernel
theorem dX11_look_9 : decode cX11_look 9 = .ok (.iload_n 2, 1) := by decide +kernel
theorem dX11_look_10 : decode cX11_look 10 = .ok (.invokevirtual 408, 3) := by decide +kernel
theorem dX11_look_13 : decode cX11_look 13 = .ok (.ifCond .eq 35, 3) := by decide +kernel
theorem dX11_look_16 : decode cX11_look 16 = .ok (.iload_n 3, 1) := by decide +kernel
theorem dX11_look_17 : decode cX11_look 17 = .ok (.iconst 0, 1) := by decide +kernel
theorem dX11_look_18 : decode cX11_look 18 = .ok (.ldc_w 523, 3) := by decide +kernel
theorem dX11_look_21 : decode cX11_look 21 = .ok (.invokestatic 361, 3) := by decide +kernel
theorem dX11_look_24 : decode cX11_look 24 = .ok (.ifCond .eq 24, 3) := by decide +kernel
theorem dX11_look_27 : decode cX11_look 27 = .ok (.iload 4, 2) := by decide +kernel
theorem dX11_look_29 : decode cX11_look 29 = .ok (.iconst 0, 1) := by decide +kernel
theorem dX11_look_30 : decode cX11_look 30 = .ok (.sipush 9999, 3) := by decide +kernel
theorem dX11_look_33 : decode cX11_look 33 = .ok (.invokestatic 361, 3) := by decide +kernel
theorem dX11_look_36 : decode cX11_look 36 = .ok (.ifCond .eq 12, 3) := by decide +kernel
theorem dX11_look_39 : decode cX11_look 39 = .ok (.aload_n 0, 1) := by decide +kernel
theorem dX11_look_40 : decode cX11_look 40 = .ok (.getfield 339, 3) := by decide +kernel
theorem dX11_look_43 : decode cX11_look 43 = .ok (.bipush 40, 2) := by decide +kernel
theorem dX11_look_45 : decode cX11_look 45 = .ok (.if_icmp .ne 5, 3) := by decide +kernel
theorem dX11_look_48 : decode cX11_look 48 = .ok (.iconst (-1), 1) := by decide +kernel
theorem dX11_look_49 : decode cX11_look 49 = .ok (.ireturn, 1) := by decide +kernel
theorem dX11_look_50 : decode cX11_look 50 = .ok (.aload_n 0, 1) := by decide +kernel
theorem dX11_look_51 : decode cX11_look 51 = .ok (.getfield 118, 3) := by decide +kernel
theorem dX11_look_54 : decode cX11_look 54 = .ok (.aload_n 0, 1) := by decide +kernel
theorem dX11_look_55 : decode cX11_look 55 = .ok (.getfield 339, 3) := by decide +kernel
theorem dX11_look_58 : decode cX11_look 58 = .ok (.iload_n 1, 1) := by decide +kernel
theorem dX11_look_59 : decode cX11_look 59 = .ok (.iastore, 1) := by decide +kernel
theorem dX11_look_60 : decode cX11_look 60 = .ok (.aload_n 0, 1) := by decide +kernel
theorem dX11_look_61 : decode cX11_look 61 = .ok (.getfield 121, 3) := by decide +kernel
theorem dX11_look_64 : decode cX11_look 64 = .ok (.aload_n 0, 1) := by decide +kernel
theorem dX11_look_65 : decode cX11_look 65 = .ok (.getfield 339, 3) := by decide +kernel
theorem dX11_look_68 : decode cX11_look 68 = .ok (.iload_n 2, 1) := by decide +kernel
theorem dX11_look_69 : decode cX11_look 69 = .ok (.iastore, 1) := by decide +kernel
theorem dX11_look_70 : decode cX11_look 70 = .ok (.aload_n 0, 1) := by decide +kernel
theorem dX11_look_71 : decode cX11_look 71 = .ok (.getfield 124, 3) := by decide +kernel
theorem dX11_look_74 : decode cX11_look 74 = .ok (.aload_n 0, 1) := by decide +kernel
theorem dX11_look_75 : decode cX11_look 75 = .ok (.getfield 339, 3) := by decide +kernel
theorem dX11_look_78 : decode cX11_look 78 = .ok (.iload_n 3, 1) := by decide +kernel
theorem dX11_look_79 : decode cX11_look 79 = .ok (.iastore, 1) := by decide +kernel
theorem dX11_look_80 : decode cX11_look 80 = .ok (.aload_n 0, 1) := by decide +kernel
theorem dX11_look_81 : decode cX11_look 81 = .ok (.getfield 127, 3) := by decide +kernel
theorem dX11_look_84 : decode cX11_look 84 = .ok (.aload_n 0, 1) := by decide +kernel
theorem dX11_look_85 : decode cX11_look 85 = .ok (.getfield 339, 3) := by decide +kernel
theorem dX11_look_88 : decode cX11_look 88 = .ok (.iload 4, 2) := by decide +kernel
theorem dX11_look_90 : decode cX11_look 90 = .ok (.iastore, 1) := by decide +kernel
theorem dX11_look_91 : decode cX11_look 91 = .ok (.aload_n 0, 1) := by decide +kernel
theorem dX11_look_92 : decode cX11_look 92 = .ok (.getfield 130, 3) := by decide +kernel
theorem dX11_look_95 : decode cX11_look 95 = .ok (.aload_n 0, 1) := by decide +kernel
theorem dX11_look_96 : decode cX11_look 96 = .ok (.getfield 339, 3) := by decide +kernel
theorem dX11_look_99 : decode cX11_look 99 = .ok (.aload_n 0, 1) := by decide +kernel
theorem dX11_look_100 : decode cX11_look 100 = .ok (.getfield 524, 3) := by decide +kernel
theorem dX11_look_103 : decode cX11_look 103 = .ok (.iastore, 1) := by decide +kernel
theorem dX11_look_104 : decode cX11_look 104 = .ok (.aload_n 0, 1) := by decide +kernel
theorem dX11_look_105 : decode cX11_look 105 = .ok (.getfield 133, 3) := by decide +kernel
theorem dX11_look_108 : decode cX11_look 108 = .ok (.aload_n 0, 1) := by decide +kernel
theorem dX11_look_109 : decode cX11_look 109 = .ok (.getfield 339, 3) := by decide +kernel
theorem dX11_look_112 : decode cX11_look 112 = .ok (.iconst (-1), 1) := by decide +kernel
theorem dX11_look_113 : decode cX11_look 113 = .ok (.iastore, 1) := by decide +kernel
theorem dX11_look_114 : decode cX11_look 114 = .ok (.aload_n 0, 1) := by decide +kernel
theorem dX11_look_115 : decode cX11_look 115 = .ok (.dup, 1) := by decide +kernel
theorem dX11_look_116 : decode cX11_look 116 = .ok (.getfield 339, 3) := by decide +kernel
theorem dX11_look_119 : decode cX11_look 119 = .ok (.iconst 1, 1) := by decide +kernel
theorem dX11_look_120 : decode cX11_look 120 = .ok (.iadd, 1) := by decide +kernel
theorem dX11_look_121 : decode cX11_look 121 = .ok (.putfield 339, 3) := by decide +kernel
theorem dX11_look_124 : decode cX11_look 124 = .ok (.aload_n 0, 1) := by decide +kernel
theorem dX11_look_125 : decode cX11_look 125 = .ok (.getfield 339, 3) := by decide +kernel
theorem dX11_look_128 : decode cX11_look 128 = .ok (.iconst 1, 1) := by decide +kernel
theorem dX11_look_129 : decode cX11_look 129 = .ok (.isub, 1) := by decide +kernel
theorem dX11_look_130 : decode cX11_look 130 = .ok (.ireturn, 1) := by decide +kernel
theorem dX11_untell_0 : decode cX11_untell 0 = .ok (.iload_n 1, 1) := by decide +kernel
theorem dX11_untell_1 : decode cX11_untell 1 = .ok (.iconst 0, 1) := by decide +kernel
theorem dX11_untell_2 : decode cX11_untell 2 = .ok (.aload_n 0, 1) := by decide +kernel
theorem dX11_untell_3 : decode cX11_untell 3 = .ok (.getfield 339, 3) := by decide +kernel
theorem dX11_untell_6 : decode cX11_untell 6 = .ok (.iconst 1, 1) := by decide +kernel
theorem dX11_untell_7 : decode cX11_untell 7 = .ok (.isub, 1) := by decide +kernel
theorem dX11_untell_8 : decode cX11_untell 8 = .ok (.invokestatic 361, 3) := by decide +kernel
theorem dX11_untell_11 : decode cX11_untell 11 = .ok (.ifCond .eq 12, 3) := by decide +kernel
theorem dX11_untell_14 : decode cX11_untell 14 = .ok (.aload_n 0, 1) := by decide +kernel
theorem dX11_untell_15 : decode cX11_untell 15 = .ok (.getfield 133, 3) := by decide +kernel
theorem dX11_untell_18 : decode cX11_untell 18 = .ok (.iload_n 1, 1) := by decide +kernel
theorem dX11_untell_19 : decode cX11_untell 19 = .ok (.iaload, 1) := by decide +kernel
theorem dX11_untell_20 : decode cX11_untell 20 = .ok (.ifCond .lt 5, 3) := by decide +kernel
theorem dX11_untell_23 : decode cX11_untell 23 = .ok (.iconst 0, 1) := by decide +kernel
theorem dX11_untell_24 : decode cX11_untell 24 = .ok (.ireturn, 1) := by decide +kernel
theorem dX11_untell_25 : decode cX11_untell 25 = .ok (.aload_n 0, 1) := by decide +kernel
theorem dX11_untell_26 : decode cX11_untell 26 = .ok (.getfield 133, 3) := by decide +kernel
theorem dX11_untell_29 : decode cX11_untell 29 = .ok (.iload_n 1, 1) := by decide +kernel
theorem dX11_untell_30 : decode cX11_untell 30 = .ok (.aload_n 0, 1) := by decide +kernel
theorem dX11_untell_31 : decode cX11_untell 31 = .ok (.getfield 524, 3) := by decide +kernel
theorem dX11_untell_34 : decode cX11_untell 34 = .ok (.iastore, 1) := by decide +kernel
theorem dX11_untell_35 : decode cX11_untell 35 = .ok (.iconst 1, 1) := by decide +kernel
theorem dX11_untell_36 : decode cX11_untell 36 = .ok (.ireturn, 1) := by decide +kernel
theorem dX11_later_0 : decode cX11_later 0 = .ok (.iload_n 1, 1) := by decide +kernel
theorem dX11_later_1 : decode cX11_later 1 = .ok (.ifCond .lt 22, 3) := by decide +kernel
theorem dX11_later_4 : decode cX11_later 4 = .ok (.iload_n 1, 1) := by decide +kernel
theorem dX11_later_5 : decode cX11_later 5 = .ok (.sipush 1000, 3) := by decide +kernel
theorem dX11_later_8 : decode cX11_later 8 = .ok (.if_icmp .gt 15, 3) := by decide +kernel
theorem dX11_later_11 : decode cX11_later 11 = .ok (.aload_n 0, 1) := by decide +kernel
theorem dX11_later_12 : decode cX11_later 12 = .ok (.getfield 524, 3) := by decide +kernel
theorem dX11_later_15 : decode cX11_later 15 = .ok (.iload_n 1, 1) := by decide +kernel
theorem dX11_later_16 : decode cX11_later 16 = .ok (.iadd, 1) := by decide +kernel
theorem dX11_later_17 : decode cX11_later 17 = .ok (.ldc_w 459, 3) := by decide +kernel
theorem dX11_later_20 : decode cX11_later 20 = .ok (.if_icmp .le 5, 3) := by decide +kernel
theorem dX11_later_23 : decode cX11_later 23 = .ok (.iconst (-1), 1) := by decide +kernel
theorem dX11_later_24 : decode cX11_later 24 = .ok (.ireturn, 1) := by decide +kernel
theorem dX11_later_25 : decode cX11_later 25 = .ok (.aload_n 0, 1) := by decide +kernel
theorem dX11_later_26 : decode cX11_later 26 = .ok (.dup, 1) := by decide +kernel
theorem dX11_later_27 : decode cX11_later 27 = .ok (.getfield 524, 3) := by decide +kernel
theorem dX11_later_30 : decode cX11_later 30 = .ok (.iload_n 1, 1) := by decide +kernel
theorem dX11_later_31 : decode cX11_later 31 = .ok (.iadd, 1) := by decide +kernel
theorem dX11_later_32 : decode cX11_later 32 = .ok (.putfield 524, 3) := by decide +kernel
theorem dX11_later_35 : decode cX11_later 35 = .ok (.aload_n 0, 1) := by decide +kernel
theorem dX11_later_36 : decode cX11_later 36 = .ok (.getfield 524, 3) := by decide +kernel
theorem dX11_later_39 : decode cX11_later 39 = .ok (.ireturn, 1) := by decide +kernel
theorem dX11_counts_0 : decode cX11_counts 0 = .ok (.aload_n 0, 1) := by decide +kernel
theorem dX11_counts_1 : decode cX11_counts 1 = .ok (.getfield 130, 3) := by decide +kernel
theorem dX11_counts_4 : decode cX11_counts 4 = .ok (.iload_n 1, 1) := by decide +kernel
theorem dX11_counts_5 : decode cX11_counts 5 = .ok (.iaload, 1) := by decide +kernel
theorem dX11_counts_6 : decode cX11_counts 6 = .ok (.iload_n 2, 1) := by decide +kernel
theorem dX11_counts_7 : decode cX11_counts 7 = .ok (.if_icmp .gt 26, 3) := by decide +kernel
theorem dX11_counts_10 : decode cX11_counts 10 = .ok (.aload_n 0, 1) := by decide +kernel
theorem dX11_counts_11 : decode cX11_counts 11 = .ok (.getfield 133, 3) := by decide +kernel
theorem dX11_counts_14 : decode cX11_counts 14 = .ok (.iload_n 1, 1) := by decide +kernel
theorem dX11_counts_15 : decode cX11_counts 15 = .ok (.iaload, 1) := by decide +kernel
theorem dX11_counts_16 : decode cX11_counts 16 = .ok (.ifCond .lt 13, 3) := by decide +kernel
theorem dX11_counts_19 : decode cX11_counts 19 = .ok (.aload_n 0, 1) := by decide +kernel
theorem dX11_counts_20 : decode cX11_counts 20 = .ok (.getfield 133, 3) := by decide +kernel
theorem dX11_counts_23 : decode cX11_counts 23 = .ok (.iload_n 1, 1) := by decide +kernel
theorem dX11_counts_24 : decode cX11_counts 24 = .ok (.iaload, 1) := by decide +kernel
theorem dX11_counts_25 : decode cX11_counts 25 = .ok (.iload_n 2, 1) := by decide +kernel
theorem dX11_counts_26 : decode cX11_counts 26 = .ok (.if_icmp .le 7, 3) := by decide +kernel
theorem dX11_counts_29 : decode cX11_counts 29 = .ok (.iconst 1, 1) := by decide +kernel
theorem dX11_counts_30 : decode cX11_counts 30 = .ok (.goto 4, 3) := by decide +kernel
theorem dX11_counts_33 : decode cX11_counts 33 = .ok (.iconst 0, 1) := by decide +kernel
theorem dX11_counts_34 : decode cX11_counts 34 = .ok (.ireturn, 1) := by decide +kernel
theorem dX11_isSo_0 : decode cX11_isSo 0 = .ok (.aload_n 0, 1) := by decide +kernel
theorem dX11_isSo_1 : decode cX11_isSo 1 = .ok (.iconst 0, 1) := by decide +kernel
theorem dX11_isSo_2 : decode cX11_isSo 2 = .ok (.aload_n 0, 1) := by decide +kernel
theorem dX11_isSo_3 : decode cX11_isSo 3 = .ok (.getfield 118, 3) := by decide +kernel
theorem dX11_isSo_6 : decode cX11_isSo 6 = .ok (.iload_n 1, 1) := by decide +kernel
theorem dX11_isSo_7 : decode cX11_isSo 7 = .ok (.iaload, 1) := by decide +kernel
theorem dX11_isSo_8 : decode cX11_isSo 8 = .ok (.aload_n 0, 1) := by decide +kernel
theorem dX11_isSo_9 : decode cX11_isSo 9 = .ok (.getfield 121, 3) := by decide +kernel
theorem dX11_isSo_12 : decode cX11_isSo 12 = .ok (.iload_n 1, 1) := by decide +kernel
theorem dX11_isSo_13 : decode cX11_isSo 13 = .ok (.iaload, 1) := by decide +kernel
theorem dX11_isSo_14 : decode cX11_isSo 14 = .ok (.invokevirtual 389, 3) := by decide +kernel
theorem dX11_isSo_17 : decode cX11_isSo 17 = .ok (.ldc2_w 396, 3) := by decide +kernel
theorem dX11_isSo_20 : decode cX11_isSo 20 = .ok (.aload_n 0, 1) := by decide +kernel
theorem dX11_isSo_21 : decode cX11_isSo 21 = .ok (.getfield 124, 3) := by decide +kernel
theorem dX11_isSo_24 : decode cX11_isSo 24 = .ok (.iload_n 1, 1) := by decide +kernel
theorem dX11_isSo_25 : decode cX11_isSo 25 = .ok (.iaload, 1) := by decide +kernel
theorem dX11_isSo_26 : decode cX11_isSo 26 = .ok (.i2l, 1) := by decide +kernel
theorem dX11_isSo_27 : decode cX11_isSo 27 = .ok (.lmul, 1) := by decide +kernel
theorem dX11_isSo_28 : decode cX11_isSo 28 = .ok (.lsub, 1) := by decide +kernel
theorem dX11_isSo_29 : decode cX11_isSo 29 = .ok (.lstore_n 2, 1) := by decide +kernel
theorem dX11_isSo_30 : decode cX11_isSo 30 = .ok (.lload_n 2, 1) := by decide +kernel
theorem dX11_isSo_31 : decode cX11_isSo 31 = .ok (.lconst 0, 1) := by decide +kernel
theorem dX11_isSo_32 : decode cX11_isSo 32 = .ok (.lcmp, 1) := by decide +kernel
theorem dX11_isSo_33 : decode cX11_isSo 33 = .ok (.ifCond .ge 8, 3) := by decide +kernel
theorem dX11_isSo_36 : decode cX11_isSo 36 = .ok (.lload_n 2, 1) := by decide +kernel
theorem dX11_isSo_37 : decode cX11_isSo 37 = .ok (.lneg, 1) := by decide +kernel
theorem dX11_isSo_38 : decode cX11_isSo 38 = .ok (.goto 4, 3) := by decide +kernel
theorem dX11_isSo_41 : decode cX11_isSo 41 = .ok (.lload_n 2, 1) := by decide +kernel
theorem dX11_isSo_42 : decode cX11_isSo 42 = .ok (.ldc2_w 396, 3) := by decide +kernel
theorem dX11_isSo_45 : decode cX11_isSo 45 = .ok (.aload_n 0, 1) := by decide +kernel
theorem dX11_isSo_46 : decode cX11_isSo 46 = .ok (.getfield 127, 3) := by decide +kernel
theorem dX11_isSo_49 : decode cX11_isSo 49 = .ok (.iload_n 1, 1) := by decide +kernel
theorem dX11_isSo_50 : decode cX11_isSo 50 = .ok (.iaload, 1) := by decide +kernel
theorem dX11_isSo_51 : decode cX11_isSo 51 = .ok (.i2l, 1) := by decide +kernel
theorem dX11_isSo_52 : decode cX11_isSo 52 = .ok (.lmul, 1) := by decide +kernel
theorem dX11_isSo_53 : decode cX11_isSo 53 = .ok (.lcmp, 1) := by decide +kernel
theorem dX11_isSo_54 : decode cX11_isSo 54 = .ok (.ifCond .gt 7, 3) := by decide +kernel
theorem dX11_isSo_57 : decode cX11_isSo 57 = .ok (.iconst 1, 1) := by decide +kernel
theorem dX11_isSo_58 : decode cX11_isSo 58 = .ok (.goto 4, 3) := by decide +kernel
theorem dX11_isSo_61 : decode cX11_isSo 61 = .ok (.iconst 0, 1) := by decide +kernel
theorem dX11_isSo_62 : decode cX11_isSo 62 = .ok (.ireturn, 1) := by decide +kernel
theorem dX11_doesAgree_0 : decode cX11_doesAgree 0 = .ok (.aload_n 0, 1) := by decide +kernel
theorem dX11_doesAgree_1 : decode cX11_doesAgree 1 = .ok (.iconst 0, 1) := by decide +kernel
theorem dX11_doesAgree_2 : decode cX11_doesAgree 2 = .ok (.aload_n 0, 1) := by decide +kernel
theorem dX11_doesAgree_3 : decode cX11_doesAgree 3 = .ok (.getfield 112, 3) := by decide +kernel
theorem dX11_doesAgree_6 : decode cX11_doesAgree 6 = .ok (.iload_n 1, 1) := by decide +kernel
theorem dX11_doesAgree_7 : decode cX11_doesAgree 7 = .ok (.iaload, 1) := by decide +kernel
theorem dX11_doesAgree_8 : decode cX11_doesAgree 8 = .ok (.aload_n 0, 1) := by decide +kernel
theorem dX11_doesAgree_9 : decode cX11_doesAgree 9 = .ok (.getfield 115, 3) := by decide +kernel
theorem dX11_doesAgree_12 : decode cX11_doesAgree 12 = .ok (.iload_n 1, 1) := by decide +kernel
theorem dX11_doesAgree_13 : decode cX11_doesAgree 13 = .ok (.iaload, 1) := by decide +kernel
theorem dX11_doesAgree_14 : decode cX11_doesAgree 14 = .ok (.invokevirtual 401, 3) := by decide +kernel
theorem dX11_doesAgree_17 : decode cX11_doesAgree 17 = .ok (.iconst 1, 1) := by decide +kernel
theorem dX11_doesAgree_18 : decode cX11_doesAgree 18 = .ok (.istore_n 3, 1) := by decide +kernel
theorem dX11_doesAgree_19 : decode cX11_doesAgree 19 = .ok (.iconst 0, 1) := by decide +kernel
theorem dX11_doesAgree_20 : decode cX11_doesAgree 20 = .ok (.istore 4, 2) := by decide +kernel
theorem dX11_doesAgree_22 : decode cX11_doesAgree 22 = .ok (.iload 4, 2) := by decide +kernel
theorem dX11_doesAgree_24 : decode cX11_doesAgree 24 = .ok (.aload_n 0, 1) := by decide +kernel
theorem dX11_doesAgree_25 : decode cX11_doesAgree 25 = .ok (.getfield 339, 3) := by decide +kernel
theorem dX11_doesAgree_28 : decode cX11_doesAgree 28 = .ok (.if_icmp .ge 38, 3) := by decide +kernel
theorem dX11_doesAgree_31 : decode cX11_doesAgree 31 = .ok (.iload_n 3, 1) := by decide +kernel
theorem dX11_doesAgree_32 : decode cX11_doesAgree 32 = .ok (.ifCond .eq 34, 3) := by decide +kernel
theorem dX11_doesAgree_35 : decode cX11_doesAgree 35 = .ok (.aload_n 0, 1) := by decide +kernel
theorem dX11_doesAgree_36 : decode cX11_doesAgree 36 = .ok (.iload 4, 2) := by decide +kernel
theorem dX11_doesAgree_38 : decode cX11_doesAgree 38 = .ok (.iload_n 2, 1) := by decide +kernel
theorem dX11_doesAgree_39 : decode cX11_doesAgree 39 = .ok (.invokevirtual 527, 3) := by decide +kernel
theorem dX11_doesAgree_42 : decode cX11_doesAgree 42 = .ok (.ifCond .eq 12, 3) := by decide +kernel
theorem dX11_doesAgree_45 : decode cX11_doesAgree 45 = .ok (.aload_n 0, 1) := by decide +kernel
theorem dX11_doesAgree_46 : decode cX11_doesAgree 46 = .ok (.iload 4, 2) := by decide +kernel
theorem dX11_doesAgree_48 : decode cX11_doesAgree 48 = .ok (.invokevirtual 530, 3) := by decide +kernel
theorem dX11_doesAgree_51 : decode cX11_doesAgree 51 = .ok (.ifCond .eq 7, 3) := by decide +kernel
theorem dX11_doesAgree_54 : decode cX11_doesAgree 54 = .ok (.iconst 1, 1) := by decide +kernel
theorem dX11_doesAgree_55 : decode cX11_doesAgree 55 = .ok (.goto 4, 3) := by decide +kernel
theorem dX11_doesAgree_58 : decode cX11_doesAgree 58 = .ok (.iconst 0, 1) := by decide +kernel
theorem dX11_doesAgree_59 : decode cX11_doesAgree 59 = .ok (.istore_n 3, 1) := by decide +kernel
theorem dX11_doesAgree_60 : decode cX11_doesAgree 60 = .ok (.iinc 4 1, 3) := by decide +kernel
theorem dX11_doesAgree_63 : decode cX11_doesAgree 63 = .ok (.goto (-41), 3) := by decide +kernel
theorem dX11_doesAgree_66 : decode cX11_doesAgree 66 = .ok (.iload_n 3, 1) := by decide +kernel
theorem dX11_doesAgree_67 : decode cX11_doesAgree 67 = .ok (.ireturn, 1) := by decide +kernel
theorem dX11_agree_0 : decode cX11_agree 0 = .ok (.iconst 0, 1) := by decide +kernel
theorem dX11_agree_1 : decode cX11_agree 1 = .ok (.istore_n 2, 1) := by decide +kernel
theorem dX11_agree_2 : decode cX11_agree 2 = .ok (.iconst 0, 1) := by decide +kernel
theorem dX11_agree_3 : decode cX11_agree 3 = .ok (.istore_n 3, 1) := by decide +kernel
theorem dX11_agree_4 : decode cX11_agree 4 = .ok (.iload_n 3, 1) := by decide +kernel
theorem dX11_agree_5 : decode cX11_agree 5 = .ok (.aload_n 0, 1) := by decide +kernel
theorem dX11_agree_6 : decode cX11_agree 6 = .ok (.getfield 516, 3) := by decide +kernel
theorem dX11_agree_9 : decode cX11_agree 9 = .ok (.if_icmp .ge 26, 3) := by decide +kernel
theorem dX11_agree_12 : decode cX11_agree 12 = .ok (.iload_n 2, 1) := by decide +kernel
theorem dX11_agree_13 : decode cX11_agree 13 = .ok (.aload_n 0, 1) := by decide +kernel
theorem dX11_agree_14 : decode cX11_agree 14 = .ok (.iload_n 3, 1) := by decide +kernel
theorem dX11_agree_15 : decode cX11_agree 15 = .ok (.iload_n 1, 1) := by decide +kernel
theorem dX11_agree_16 : decode cX11_agree 16 = .ok (.invokevirtual 533, 3) := by decide +kernel
theorem dX11_agree_19 : decode cX11_agree 19 = .ok (.ifCond .eq 7, 3) := by decide +kernel
theorem dX11_agree_22 : decode cX11_agree 22 = .ok (.iconst 1, 1) := by decide +kernel
theorem dX11_agree_23 : decode cX11_agree 23 = .ok (.goto 4, 3) := by decide +kernel
theorem dX11_agree_26 : decode cX11_agree 26 = .ok (.iconst 0, 1) := by decide +kernel
theorem dX11_agree_27 : decode cX11_agree 27 = .ok (.iadd, 1) := by decide +kernel
theorem dX11_agree_28 : decode cX11_agree 28 = .ok (.istore_n 2, 1) := by decide +kernel
theorem dX11_agree_29 : decode cX11_agree 29 = .ok (.iinc 3 1, 3) := by decide +kernel
theorem dX11_agree_32 : decode cX11_agree 32 = .ok (.goto (-28), 3) := by decide +kernel
theorem dX11_agree_35 : decode cX11_agree 35 = .ok (.iload_n 2, 1) := by decide +kernel
theorem dX11_agree_36 : decode cX11_agree 36 = .ok (.ireturn, 1) := by decide +kernel
theorem dX11_agrees_0 : decode cX11_agrees 0 = .ok (.iconst 0, 1) := by decide +kernel
theorem dX11_agrees_1 : decode cX11_agrees 1 = .ok (.istore_n 3, 1) := by decide +kernel
theorem dX11_agrees_2 : decode cX11_agrees 2 = .ok (.iconst 0, 1) := by decide +kernel
theorem dX11_agrees_3 : decode cX11_agrees 3 = .ok (.istore 4, 2) := by decide +kernel
theorem dX11_agrees_5 : decode cX11_agrees 5 = .ok (.iload 4, 2) := by decide +kernel
theorem dX11_agrees_7 : decode cX11_agrees 7 = .ok (.aload_n 0, 1) := by decide +kernel
theorem dX11_agrees_8 : decode cX11_agrees 8 = .ok (.getfield 516, 3) := by decide +kernel
theorem dX11_agrees_11 : decode cX11_agrees 11 = .ok (.if_icmp .ge 33, 3) := by decide +kernel
theorem dX11_agrees_14 : decode cX11_agrees 14 = .ok (.aload_n 0, 1) := by decide +kernel
theorem dX11_agrees_15 : decode cX11_agrees 15 = .ok (.iload 4, 2) := by decide +kernel
theorem dX11_agrees_17 : decode cX11_agrees 17 = .ok (.iload_n 2, 1) := by decide +kernel
theorem dX11_agrees_18 : decode cX11_agrees 18 = .ok (.invokevirtual 533, 3) := by decide +kernel
theorem dX11_agrees_21 : decode cX11_agrees 21 = .ok (.ifCond .ne 6, 3) := by decide +kernel
theorem dX11_agrees_24 : decode cX11_agrees 24 = .ok (.goto 14, 3) := by decide +kernel
theorem dX11_agrees_27 : decode cX11_agrees 27 = .ok (.iload_n 3, 1) := by decide +kernel
theorem dX11_agrees_28 : decode cX11_agrees 28 = .ok (.iload_n 1, 1) := by decide +kernel
theorem dX11_agrees_29 : decode cX11_agrees 29 = .ok (.if_icmp .ne 6, 3) := by decide +kernel
theorem dX11_agrees_32 : decode cX11_agrees 32 = .ok (.iload 4, 2) := by decide +kernel
theorem dX11_agrees_34 : decode cX11_agrees 34 = .ok (.ireturn, 1) := by decide +kernel
theorem dX11_agrees_35 : decode cX11_agrees 35 = .ok (.iinc 3 1, 3) := by decide +kernel
theorem dX11_agrees_38 : decode cX11_agrees 38 = .ok (.iinc 4 1, 3) := by decide +kernel
theorem dX11_agrees_41 : decode cX11_agrees 41 = .ok (.goto (-36), 3) := by decide +kernel
theorem dX11_agrees_44 : decode cX11_agrees 44 = .ok (.iconst (-1), 1) := by decide +kernel
theorem dX11_agrees_45 : decode cX11_agrees 45 = .ok (.ireturn, 1) := by decide +kernel
theorem dX11_greatestPart_0 : decode cX11_greatestPart 0 = .ok (.iconst 0, 1) := by decide +kernel
theorem dX11_greatestPart_1 : decode cX11_greatestPart 1 = .ok (.istore_n 3, 1) := by decide +kernel
theorem dX11_greatestPart_2 : decode cX11_greatestPart 2 = .ok (.iload_n 3, 1) := by decide +kernel
theorem dX11_greatestPart_3 : decode cX11_greatestPart 3 = .ok (.aload_n 0, 1) := by decide +kernel
theorem dX11_greatestPart_4 : decode cX11_greatestPart 4 = .ok (.getfield 536, 3) := by decide +kernel
theorem dX11_greatestPart_7 : decode cX11_greatestPart 7 = .ok (.if_icmp .ge 53, 3) := by decide +kernel
theorem dX11_greatestPart_10 : decode cX11_greatestPart 10 = .ok (.aload_n 0, 1) := by decide +kernel
theorem dX11_greatestPart_11 : decode cX11_greatestPart 11 = .ok (.iconst 0, 1) := by decide +kernel
theorem dX11_greatestPart_12 : decode cX11_greatestPart 12 = .ok (.aload_n 0, 1) := by decide +kernel
theorem dX11_greatestPart_13 : decode cX11_greatestPart 13 = .ok (.getfield 112, 3) := by decide +kernel
theorem dX11_greatestPart_16 : decode cX11_greatestPart 16 = .ok (.aload_n 0, 1) := by decide +kernel
theorem dX11_greatestPart_17 : decode cX11_greatestPart 17 = .ok (.getfield 136, 3) := by decide +kernel
theorem dX11_greatestPart_20 : decode cX11_greatestPart 20 = .ok (.iload_n 3, 1) := by decide +kernel
theorem dX11_greatestPart_21 : decode cX11_greatestPart 21 = .ok (.iaload, 1) := by decide +kernel
theorem dX11_greatestPart_22 : decode cX11_greatestPart 22 = .ok (.iaload, 1) := by decide +kernel
theorem dX11_greatestPart_23 : decode cX11_greatestPart 23 = .ok (.aload_n 0, 1) := by decide +kernel
theorem dX11_greatestPart_24 : decode cX11_greatestPart 24 = .ok (.getfield 115, 3) := by decide +kernel
theorem dX11_greatestPart_27 : decode cX11_greatestPart 27 = .ok (.aload_n 0, 1) := by decide +kernel
theorem dX11_greatestPart_28 : decode cX11_greatestPart 28 = .ok (.getfield 136, 3) := by decide +kernel
theorem dX11_greatestPart_31 : decode cX11_greatestPart 31 = .ok (.iload_n 3, 1) := by decide +kernel
theorem dX11_greatestPart_32 : decode cX11_greatestPart 32 = .ok (.iaload, 1) := by decide +kernel
theorem dX11_greatestPart_33 : decode cX11_greatestPart 33 = .ok (.iaload, 1) := by decide +kernel
theorem dX11_greatestPart_34 : decode cX11_greatestPart 34 = .ok (.invokevirtual 401, 3) := by decide +kernel
theorem dX11_greatestPart_37 : decode cX11_greatestPart 37 = .ok (.aload_n 0, 1) := by decide +kernel
theorem dX11_greatestPart_38 : decode cX11_greatestPart 38 = .ok (.getfield 139, 3) := by decide +kernel
theorem dX11_greatestPart_41 : decode cX11_greatestPart 41 = .ok (.iload_n 3, 1) := by decide +kernel
theorem dX11_greatestPart_42 : decode cX11_greatestPart 42 = .ok (.aload_n 0, 1) := by decide +kernel
theorem dX11_greatestPart_43 : decode cX11_greatestPart 43 = .ok (.iconst 0, 1) := by decide +kernel
theorem dX11_greatestPart_44 : decode cX11_greatestPart 44 = .ok (.iload_n 1, 1) := by decide +kernel
theorem dX11_greatestPart_45 : decode cX11_greatestPart 45 = .ok (.iload_n 2, 1) := by decide +kernel
theorem dX11_greatestPart_46 : decode cX11_greatestPart 46 = .ok (.invokevirtual 389, 3) := by decide +kernel
theorem dX11_greatestPart_49 : decode cX11_greatestPart 49 = .ok (.ldc2_w 396, 3) := by decide +kernel
theorem dX11_greatestPart_52 : decode cX11_greatestPart 52 = .ok (.ldiv, 1) := by decide +kernel
theorem dX11_greatestPart_53 : decode cX11_greatestPart 53 = .ok (.lastore, 1) := by decide +kernel
theorem dX11_greatestPart_54 : decode cX11_greatestPart 54 = .ok (.iinc 3 1, 3) := by decide +kernel
theorem dX11_greatestPart_57 : decode cX11_greatestPart 57 = .ok (.goto (-55), 3) := by decide +kernel
theorem dX11_greatestPart_60 : decode cX11_greatestPart 60 = .ok (.iconst 0, 1) := by decide +kernel
theorem dX11_greatestPart_61 : decode cX11_greatestPart 61 = .ok (.istore_n 3, 1) := by decide +kernel
theorem dX11_greatestPart_62 : decode cX11_greatestPart 62 = .ok (.iconst 0, 1) := by decide +kernel
theorem dX11_greatestPart_63 : decode cX11_greatestPart 63 = .ok (.istore 4, 2) := by decide +kernel
theorem dX11_greatestPart_65 : decode cX11_greatestPart 65 = .ok (.iload 4, 2) := by decide +kernel
theorem dX11_greatestPart_67 : decode cX11_greatestPart 67 = .ok (.aload_n 0, 1) := by decide +kernel
theorem dX11_greatestPart_68 : decode cX11_greatestPart 68 = .ok (.getfield 536, 3) := by decide +kernel
theorem dX11_greatestPart_71 : decode cX11_greatestPart 71 = .ok (.if_icmp .ge 71, 3) := by decide +kernel
theorem dX11_greatestPart_74 : decode cX11_greatestPart 74 = .ok (.iconst 0, 1) := by decide +kernel
theorem dX11_greatestPart_75 : decode cX11_greatestPart 75 = .ok (.istore 5, 2) := by decide +kernel
theorem dX11_greatestPart_77 : decode cX11_greatestPart 77 = .ok (.iconst 0, 1) := by decide +kernel
theorem dX11_greatestPart_78 : decode cX11_greatestPart 78 = .ok (.istore 6, 2) := by decide +kernel
theorem dX11_greatestPart_80 : decode cX11_greatestPart 80 = .ok (.iload 6, 2) := by decide +kernel
theorem dX11_greatestPart_82 : decode cX11_greatestPart 82 = .ok (.aload_n 0, 1) := by decide +kernel
theorem dX11_greatestPart_83 : decode cX11_greatestPart 83 = .ok (.getfield 536, 3) := by decide +kernel
theorem dX11_greatestPart_86 : decode cX11_greatestPart 86 = .ok (.if_icmp .ge 37, 3) := by decide +kernel
theorem dX11_greatestPart_89 : decode cX11_greatestPart 89 = .ok (.iload 5, 2) := by decide +kernel
theorem dX11_greatestPart_91 : decode cX11_greatestPart 91 = .ok (.aload_n 0, 1) := by decide +kernel
theorem dX11_greatestPart_92 : decode cX11_greatestPart 92 = .ok (.getfield 139, 3) := by decide +kernel
theorem dX11_greatestPart_95 : decode cX11_greatestPart 95 = .ok (.iload 6, 2) := by decide +kernel
theorem dX11_greatestPart_97 : decode cX11_greatestPart 97 = .ok (.laload, 1) := by decide +kernel
theorem dX11_greatestPart_98 : decode cX11_greatestPart 98 = .ok (.aload_n 0, 1) := by decide +kernel
theorem dX11_greatestPart_99 : decode cX11_greatestPart 99 = .ok (.getfield 139, 3) := by decide +kernel
theorem dX11_greatestPart_102 : decode cX11_greatestPart 102 = .ok (.iload 4, 2) := by decide +kernel
theorem dX11_greatestPart_104 : decode cX11_greatestPart 104 = .ok (.laload, 1) := by decide +kernel
theorem dX11_greatestPart_105 : decode cX11_greatestPart 105 = .ok (.lcmp, 1) := by decide +kernel
theorem dX11_greatestPart_106 : decode cX11_greatestPart 106 = .ok (.ifCond .ne 7, 3) := by decide +kernel
theorem dX11_greatestPart_109 : decode cX11_greatestPart 109 = .ok (.iconst 1, 1) := by decide +kernel
theorem dX11_greatestPart_110 : decode cX11_greatestPart 110 = .ok (.goto 4, 3) := by decide +kernel
theorem dX11_greatestPart_113 : decode cX11_greatestPart 113 = .ok (.iconst 0, 1) := by decide +kernel
theorem dX11_greatestPart_114 : decode cX11_greatestPart 114 = .ok (.iadd, 1) := by decide +kernel
theorem dX11_greatestPart_115 : decode cX11_greatestPart 115 = .ok (.istore 5, 2) := by decide +kernel
theorem dX11_greatestPart_117 : decode cX11_greatestPart 117 = .ok (.iinc 6 1, 3) := by decide +kernel
theorem dX11_greatestPart_120 : decode cX11_greatestPart 120 = .ok (.goto (-40), 3) := by decide +kernel
theorem dX11_greatestPart_123 : decode cX11_greatestPart 123 = .ok (.iload 5, 2) := by decide +kernel
theorem dX11_greatestPart_125 : decode cX11_greatestPart 125 = .ok (.iload_n 3, 1) := by decide +kernel
theorem dX11_greatestPart_126 : decode cX11_greatestPart 126 = .ok (.if_icmp .le 8, 3) := by decide +kernel
theorem dX11_greatestPart_129 : decode cX11_greatestPart 129 = .ok (.iload 5, 2) := by decide +kernel
theorem dX11_greatestPart_131 : decode cX11_greatestPart 131 = .ok (.goto 4, 3) := by decide +kernel
theorem dX11_greatestPart_134 : decode cX11_greatestPart 134 = .ok (.iload_n 3, 1) := by decide +kernel
theorem dX11_greatestPart_135 : decode cX11_greatestPart 135 = .ok (.istore_n 3, 1) := by decide +kernel
theorem dX11_greatestPart_136 : decode cX11_greatestPart 136 = .ok (.iinc 4 1, 3) := by decide +kernel
theorem dX11_greatestPart_139 : decode cX11_greatestPart 139 = .ok (.goto (-74), 3) := by decide +kernel
theorem dX11_greatestPart_142 : decode cX11_greatestPart 142 = .ok (.iload_n 3, 1) := by decide +kernel
theorem dX11_greatestPart_143 : decode cX11_greatestPart 143 = .ok (.ireturn, 1) := by decide +kernel
theorem dX11_next_0 : decode cX11_next 0 = .ok (.iload_n 1, 1) := by decide +kernel
theorem dX11_next_1 : decode cX11_next 1 = .ok (.ifCond .lt 8, 3) := by decide +kernel
theorem dX11_next_4 : decode cX11_next 4 = .ok (.iload_n 1, 1) := by decide +kernel
theorem dX11_next_5 : decode cX11_next 5 = .ok (.iconst 2, 1) := by decide +kernel
theorem dX11_next_6 : decode cX11_next 6 = .ok (.if_icmp .le 5, 3) := by decide +kernel
theorem dX11_next_9 : decode cX11_next 9 = .ok (.iconst (-1), 1) := by decide +kernel
theorem dX11_next_10 : decode cX11_next 10 = .ok (.ireturn, 1) := by decide +kernel
theorem dX11_next_11 : decode cX11_next 11 = .ok (.aload_n 0, 1) := by decide +kernel
theorem dX11_next_12 : decode cX11_next 12 = .ok (.iconst 0, 1) := by decide +kernel
theorem dX11_next_13 : decode cX11_next 13 = .ok (.putfield 536, 3) := by decide +kernel
theorem dX11_next_16 : decode cX11_next 16 = .ok (.iconst 0, 1) := by decide +kernel
theorem dX11_next_17 : decode cX11_next 17 = .ok (.istore_n 3, 1) := by decide +kernel
theorem dX11_next_18 : decode cX11_next 18 = .ok (.iload_n 3, 1) := by decide +kernel
theorem dX11_next_19 : decode cX11_next 19 = .ok (.aload_n 0, 1) := by decide +kernel
theorem dX11_next_20 : decode cX11_next 20 = .ok (.getfield 516, 3) := by decide +kernel
theorem dX11_next_23 : decode cX11_next 23 = .ok (.if_icmp .ge 41, 3) := by decide +kernel
theorem dX11_next_26 : decode cX11_next 26 = .ok (.aload_n 0, 1) := by decide +kernel
theorem dX11_next_27 : decode cX11_next 27 = .ok (.iload_n 3, 1) := by decide +kernel
theorem dX11_next_28 : decode cX11_next 28 = .ok (.iload_n 2, 1) := by decide +kernel
theorem dX11_next_29 : decode cX11_next 29 = .ok (.invokevirtual 533, 3) := by decide +kernel
theorem dX11_next_32 : decode cX11_next 32 = .ok (.ifCond .ne 6, 3) := by decide +kernel
theorem dX11_next_35 : decode cX11_next 35 = .ok (.goto 23, 3) := by decide +kernel
theorem dX11_next_38 : decode cX11_next 38 = .ok (.aload_n 0, 1) := by decide +kernel
theorem dX11_next_39 : decode cX11_next 39 = .ok (.getfield 136, 3) := by decide +kernel
theorem dX11_next_42 : decode cX11_next 42 = .ok (.aload_n 0, 1) := by decide +kernel
theorem dX11_next_43 : decode cX11_next 43 = .ok (.getfield 536, 3) := by decide +kernel
theorem dX11_next_46 : decode cX11_next 46 = .ok (.iload_n 3, 1) := by decide +kernel
theorem dX11_next_47 : decode cX11_next 47 = .ok (.iastore, 1) := by decide +kernel
theorem dX11_next_48 : decode cX11_next 48 = .ok (.aload_n 0, 1) := by decide +kernel
theorem dX11_next_49 : decode cX11_next 49 = .ok (.dup, 1) := by decide +kernel
theorem dX11_next_50 : decode cX11_next 50 = .ok (.getfield 536, 3) := by decide +kernel
theorem dX11_next_53 : decode cX11_next 53 = .ok (.iconst 1, 1) := by decide +kernel
theorem dX11_next_54 : decode cX11_next 54 = .ok (.iadd, 1) := by decide +kernel
theorem dX11_next_55 : decode cX11_next 55 = .ok (.putfield 536, 3) := by decide +kernel
theorem dX11_next_58 : decode cX11_next 58 = .ok (.iinc 3 1, 3) := by decide +kernel
theorem dX11_next_61 : decode cX11_next 61 = .ok (.goto (-43), 3) := by decide +kernel
theorem dX11_next_64 : decode cX11_next 64 = .ok (.aload_n 0, 1) := by decide +kernel
theorem dX11_next_65 : decode cX11_next 65 = .ok (.getfield 536, 3) := by decide +kernel
theorem dX11_next_68 : decode cX11_next 68 = .ok (.ifCond .ne 5, 3) := by decide +kernel
theorem dX11_next_71 : decode cX11_next 71 = .ok (.iconst (-1), 1) := by decide +kernel
theorem dX11_next_72 : decode cX11_next 72 = .ok (.ireturn, 1) := by decide +kernel
theorem dX11_next_73 : decode cX11_next 73 = .ok (.iconst (-1), 1) := by decide +kernel
theorem dX11_next_74 : decode cX11_next 74 = .ok (.istore_n 3, 1) := by decide +kernel
theorem dX11_next_75 : decode cX11_next 75 = .ok (.iconst 0, 1) := by decide +kernel
theorem dX11_next_76 : decode cX11_next 76 = .ok (.istore 4, 2) := by decide +kernel
theorem dX11_next_78 : decode cX11_next 78 = .ok (.iconst 0, 1) := by decide +kernel
theorem dX11_next_79 : decode cX11_next 79 = .ok (.istore 5, 2) := by decide +kernel
theorem dX11_next_81 : decode cX11_next 81 = .ok (.iload 5, 2) := by decide +kernel
theorem dX11_next_83 : decode cX11_next 83 = .ok (.iconst 4, 1) := by decide +kernel
theorem dX11_next_84 : decode cX11_next 84 = .ok (.aload_n 0, 1) := by decide +kernel
theorem dX11_next_85 : decode cX11_next 85 = .ok (.invokevirtual 365, 3) := by decide +kernel
theorem dX11_next_88 : decode cX11_next 88 = .ok (.imul, 1) := by decide +kernel
theorem dX11_next_89 : decode cX11_next 89 = .ok (.if_icmp .ge 58, 3) := by decide +kernel
theorem dX11_next_92 : decode cX11_next 92 = .ok (.iload 5, 2) := by decide +kernel
theorem dX11_next_94 : decode cX11_next 94 = .ok (.iconst 4, 1) := by decide +kernel
theorem dX11_next_95 : decode cX11_next 95 = .ok (.irem, 1) := by decide +kernel
theorem dX11_next_96 : decode cX11_next 96 = .ok (.aload_n 0, 1) := by decide +kernel
theorem dX11_next_97 : decode cX11_next 97 = .ok (.invokevirtual 368, 3) := by decide +kernel
theorem dX11_next_100 : decode cX11_next 100 = .ok (.if_icmp .lt 6, 3) := by decide +kernel
theorem dX11_next_103 : decode cX11_next 103 = .ok (.goto 38, 3) := by decide +kernel
theorem dX11_next_106 : decode cX11_next 106 = .ok (.aload_n 0, 1) := by decide +kernel
theorem dX11_next_107 : decode cX11_next 107 = .ok (.iload 5, 2) := by decide +kernel
theorem dX11_next_109 : decode cX11_next 109 = .ok (.iconst 4, 1) := by decide +kernel
theorem dX11_next_110 : decode cX11_next 110 = .ok (.idiv, 1) := by decide +kernel
theorem dX11_next_111 : decode cX11_next 111 = .ok (.iload 5, 2) := by decide +kernel
theorem dX11_next_113 : decode cX11_next 113 = .ok (.iconst 4, 1) := by decide +kernel
theorem dX11_next_114 : decode cX11_next 114 = .ok (.irem, 1) := by decide +kernel
theorem dX11_next_115 : decode cX11_next 115 = .ok (.invokevirtual 539, 3) := by decide +kernel
theorem dX11_next_118 : decode cX11_next 118 = .ok (.istore 6, 2) := by decide +kernel
theorem dX11_next_120 : decode cX11_next 120 = .ok (.iload_n 3, 1) := by decide +kernel
theorem dX11_next_121 : decode cX11_next 121 = .ok (.ifCond .lt 13, 3) := by decide +kernel
theorem dX11_next_124 : decode cX11_next 124 = .ok (.iload 6, 2) := by decide +kernel
theorem dX11_next_126 : decode cX11_next 126 = .ok (.iload 4, 2) := by decide +kernel
theorem dX11_next_128 : decode cX11_next 128 = .ok (.if_icmp .lt 6, 3) := by decide +kernel
theorem dX11_next_131 : decode cX11_next 131 = .ok (.goto 10, 3) := by decide +kernel
theorem dX11_next_134 : decode cX11_next 134 = .ok (.iload 5, 2) := by decide +kernel
theorem dX11_next_136 : decode cX11_next 136 = .ok (.istore_n 3, 1) := by decide +kernel
theorem dX11_next_137 : decode cX11_next 137 = .ok (.iload 6, 2) := by decide +kernel
theorem dX11_next_139 : decode cX11_next 139 = .ok (.istore 4, 2) := by decide +kernel
theorem dX11_next_141 : decode cX11_next 141 = .ok (.iinc 5 1, 3) := by decide +kernel
theorem dX11_next_144 : decode cX11_next 144 = .ok (.goto (-63), 3) := by decide +kernel
theorem dX11_next_147 : decode cX11_next 147 = .ok (.iload_n 3, 1) := by decide +kernel
theorem dX11_next_148 : decode cX11_next 148 = .ok (.ifCond .ge 7, 3) := by decide +kernel
theorem dX11_next_151 : decode cX11_next 151 = .ok (.iconst (-1), 1) := by decide +kernel
theorem dX11_next_152 : decode cX11_next 152 = .ok (.goto 26, 3) := by decide +kernel
theorem dX11_next_155 : decode cX11_next 155 = .ok (.iload_n 1, 1) := by decide +kernel
theorem dX11_next_156 : decode cX11_next 156 = .ok (.ifCond .ne 9, 3) := by decide +kernel
theorem dX11_next_159 : decode cX11_next 159 = .ok (.iload_n 3, 1) := by decide +kernel
theorem dX11_next_160 : decode cX11_next 160 = .ok (.iconst 4, 1) := by decide +kernel
theorem dX11_next_161 : decode cX11_next 161 = .ok (.idiv, 1) := by decide +kernel
theorem dX11_next_162 : decode cX11_next 162 = .ok (.goto 16, 3) := by decide +kernel
theorem dX11_next_165 : decode cX11_next 165 = .ok (.iload_n 1, 1) := by decide +kernel
theorem dX11_next_166 : decode cX11_next 166 = .ok (.iconst 1, 1) := by decide +kernel
theorem dX11_next_167 : decode cX11_next 167 = .ok (.if_icmp .ne 9, 3) := by decide +kernel
theorem dX11_next_170 : decode cX11_next 170 = .ok (.iload_n 3, 1) := by decide +kernel
theorem dX11_next_171 : decode cX11_next 171 = .ok (.iconst 4, 1) := by decide +kernel
theorem dX11_next_172 : decode cX11_next 172 = .ok (.irem, 1) := by decide +kernel
theorem dX11_next_173 : decode cX11_next 173 = .ok (.goto 5, 3) := by decide +kernel
theorem dX11_next_176 : decode cX11_next 176 = .ok (.iload 4, 2) := by decide +kernel
theorem dX11_next_178 : decode cX11_next 178 = .ok (.ireturn, 1) := by decide +kernel
theorem dX11_seed_0 : decode cX11_seed 0 = .ok (.aload_n 0, 1) := by decide +kernel
theorem dX11_seed_1 : decode cX11_seed 1 = .ok (.getfield 109, 3) := by decide +kernel
theorem dX11_seed_4 : decode cX11_seed 4 = .ok (.istore_n 2, 1) := by decide +kernel
theorem dX11_seed_5 : decode cX11_seed 5 = .ok (.aload_n 0, 1) := by decide +kernel
theorem dX11_seed_6 : decode cX11_seed 6 = .ok (.iload_n 1, 1) := by decide +kernel
theorem dX11_seed_7 : decode cX11_seed 7 = .ok (.putfield 109, 3) := by decide +kernel
theorem dX11_seed_10 : decode cX11_seed 10 = .ok (.iload_n 2, 1) := by decide +kernel
theorem dX11_seed_11 : decode cX11_seed 11 = .ok (.ireturn, 1) := by decide +kernel
theorem dX11_isBox_0 : decode cX11_isBox 0 = .ok (.iload_n 0, 1) := by decide +kernel
theorem dX11_isBox_1 : decode cX11_isBox 1 = .ok (.ifCond .lt 12, 3) := by decide +kernel
theorem dX11_isBox_4 : decode cX11_isBox 4 = .ok (.iload_n 0, 1) := by decide +kernel
theorem dX11_isBox_5 : decode cX11_isBox 5 = .ok (.iconst 3, 1) := by decide +kernel
theorem dX11_isBox_6 : decode cX11_isBox 6 = .ok (.if_icmp .ge 7, 3) := by decide +kernel
theorem dX11_isBox_9 : decode cX11_isBox 9 = .ok (.iconst 1, 1) := by decide +kernel
theorem dX11_isBox_10 : decode cX11_isBox 10 = .ok (.goto 4, 3) := by decide +kernel
theorem dX11_isBox_13 : decode cX11_isBox 13 = .ok (.iconst 0, 1) := by decide +kernel
theorem dX11_isBox_14 : decode cX11_isBox 14 = .ok (.ireturn, 1) := by decide +kernel
theorem dX11_image_0 : decode cX11_image 0 = .ok (.iload_n 1, 1) := by decide +kernel
theorem dX11_image_1 : decode cX11_image 1 = .ok (.invokestatic 542, 3) := by decide +kernel
theorem dX11_image_4 : decode cX11_image 4 = .ok (.ifCond .ne 5, 3) := by decide +kernel
theorem dX11_image_7 : decode cX11_image 7 = .ok (.iconst (-1), 1) := by decide +kernel
theorem dX11_image_8 : decode cX11_image 8 = .ok (.ireturn, 1) := by decide +kernel
theorem dX11_image_9 : decode cX11_image 9 = .ok (.aload_n 0, 1) := by decide +kernel
theorem dX11_image_10 : decode cX11_image 10 = .ok (.getfield 142, 3) := by decide +kernel
theorem dX11_image_13 : decode cX11_image 13 = .ok (.iload_n 1, 1) := by decide +kernel
theorem dX11_image_14 : decode cX11_image 14 = .ok (.iconst 1, 1) := by decide +kernel
theorem dX11_image_15 : decode cX11_image 15 = .ok (.bastore, 1) := by decide +kernel
theorem dX11_image_16 : decode cX11_image 16 = .ok (.iconst 0, 1) := by decide +kernel
theorem dX11_image_17 : decode cX11_image 17 = .ok (.istore_n 2, 1) := by decide +kernel
theorem dX11_image_18 : decode cX11_image 18 = .ok (.iload_n 2, 1) := by decide +kernel
theorem dX11_image_19 : decode cX11_image 19 = .ok (.bipush 8, 2) := by decide +kernel
theorem dX11_image_21 : decode cX11_image 21 = .ok (.if_icmp .ge 26, 3) := by decide +kernel
theorem dX11_image_24 : decode cX11_image 24 = .ok (.aload_n 0, 1) := by decide +kernel
theorem dX11_image_25 : decode cX11_image 25 = .ok (.getfield 146, 3) := by decide +kernel
theorem dX11_image_28 : decode cX11_image 28 = .ok (.bipush 8, 2) := by decide +kernel
theorem dX11_image_30 : decode cX11_image 30 = .ok (.iload_n 1, 1) := by decide +kernel
theorem dX11_image_31 : decode cX11_image 31 = .ok (.imul, 1) := by decide +kernel
theorem dX11_image_32 : decode cX11_image 32 = .ok (.iload_n 2, 1) := by decide +kernel
theorem dX11_image_33 : decode cX11_image 33 = .ok (.iadd, 1) := by decide +kernel
theorem dX11_image_34 : decode cX11_image 34 = .ok (.aload_n 0, 1) := by decide +kernel
theorem dX11_image_35 : decode cX11_image 35 = .ok (.getfield 106, 3) := by decide +kernel
theorem dX11_image_38 : decode cX11_image 38 = .ok (.iload_n 2, 1) := by decide +kernel
theorem dX11_image_39 : decode cX11_image 39 = .ok (.iaload, 1) := by decide +kernel
theorem dX11_image_40 : decode cX11_image 40 = .ok (.iastore, 1) := by decide +kernel
theorem dX11_image_41 : decode cX11_image 41 = .ok (.iinc 2 1, 3) := by decide +kernel
theorem dX11_image_44 : decode cX11_image 44 = .ok (.goto (-26), 3) := by decide +kernel
theorem dX11_image_47 : decode cX11_image 47 = .ok (.aload_n 0, 1) := by decide +kernel
theorem dX11_image_48 : decode cX11_image 48 = .ok (.getfield 149, 3) := by decide +kernel
theorem dX11_image_51 : decode cX11_image 51 = .ok (.iload_n 1, 1) := by decide +kernel
theorem dX11_image_52 : decode cX11_image 52 = .ok (.aload_n 0, 1) := by decide +kernel
theorem dX11_image_53 : decode cX11_image 53 = .ok (.getfield 379, 3) := by decide +kernel
theorem dX11_image_56 : decode cX11_image 56 = .ok (.iastore, 1) := by decide +kernel
theorem dX11_image_57 : decode cX11_image 57 = .ok (.aload_n 0, 1) := by decide +kernel
theorem dX11_image_58 : decode cX11_image 58 = .ok (.getfield 152, 3) := by decide +kernel
theorem dX11_image_61 : decode cX11_image 61 = .ok (.iload_n 1, 1) := by decide +kernel
theorem dX11_image_62 : decode cX11_image 62 = .ok (.aload_n 0, 1) := by decide +kernel
theorem dX11_image_63 : decode cX11_image 63 = .ok (.getfield 506, 3) := by decide +kernel
theorem dX11_image_66 : decode cX11_image 66 = .ok (.iastore, 1) := by decide +kernel
theorem dX11_image_67 : decode cX11_image 67 = .ok (.aload_n 0, 1) := by decide +kernel
theorem dX11_image_68 : decode cX11_image 68 = .ok (.getfield 155, 3) := by decide +kernel
theorem dX11_image_71 : decode cX11_image 71 = .ok (.iload_n 1, 1) := by decide +kernel
theorem dX11_image_72 : decode cX11_image 72 = .ok (.aload_n 0, 1) := by decide +kernel
theorem dX11_image_73 : decode cX11_image 73 = .ok (.getfield 109, 3) := by decide +kernel
theorem dX11_image_76 : decode cX11_image 76 = .ok (.iastore, 1) := by decide +kernel
theorem dX11_image_77 : decode cX11_image 77 = .ok (.aload_n 0, 1) := by decide +kernel
theorem dX11_image_78 : decode cX11_image 78 = .ok (.invokevirtual 510, 3) := by decide +kernel
theorem dX11_image_81 : decode cX11_image 81 = .ok (.ireturn, 1) := by decide +kernel
theorem dX11_back_0 : decode cX11_back 0 = .ok (.iload_n 1, 1) := by decide +kernel
theorem dX11_back_1 : decode cX11_back 1 = .ok (.invokestatic 542, 3) := by decide +kernel
theorem dX11_back_4 : decode cX11_back 4 = .ok (.ifCond .eq 12, 3) := by decide +kernel
theorem dX11_back_7 : decode cX11_back 7 = .ok (.aload_n 0, 1) := by decide +kernel
theorem dX11_back_8 : decode cX11_back 8 = .ok (.getfield 142, 3) := by decide +kernel
theorem dX11_back_11 : decode cX11_back 11 = .ok (.iload_n 1, 1) := by decide +kernel
theorem dX11_back_12 : decode cX11_back 12 = .ok (.baload, 1) := by decide +kernel
theorem dX11_back_13 : decode cX11_back 13 = .ok (.ifCond .ne 5, 3) := by decide +kernel
theorem dX11_back_16 : decode cX11_back 16 = .ok (.iconst (-1), 1) := by decide +kernel
theorem dX11_back_17 : decode cX11_back 17 = .ok (.ireturn, 1) := by decide +kernel
theorem dX11_back_18 : decode cX11_back 18 = .ok (.iconst 0, 1) := by decide +kernel
theorem dX11_back_19 : decode cX11_back 19 = .ok (.istore_n 2, 1) := by decide +kernel
theorem dX11_back_20 : decode cX11_back 20 = .ok (.iload_n 2, 1) := by decide +kernel
theorem dX11_back_21 : decode cX11_back 21 = .ok (.bipush 8, 2) := by decide +kernel
theorem dX11_back_23 : decode cX11_back 23 = .ok (.if_icmp .ge 26, 3) := by decide +kernel
theorem dX11_back_26 : decode cX11_back 26 = .ok (.aload_n 0, 1) := by decide +kernel
theorem dX11_back_27 : decode cX11_back 27 = .ok (.getfield 106, 3) := by decide +kernel
theorem dX11_back_30 : decode cX11_back 30 = .ok (.iload_n 2, 1) := by decide +kernel
theorem dX11_back_31 : decode cX11_back 31 = .ok (.aload_n 0, 1) := by decide +kernel
theorem dX11_back_32 : decode cX11_back 32 = .ok (.getfield 146, 3) := by decide +kernel
theorem dX11_back_35 : decode cX11_back 35 = .ok (.bipush 8, 2) := by decide +kernel
theorem dX11_back_37 : decode cX11_back 37 = .ok (.iload_n 1, 1) := by decide +kernel
theorem dX11_back_38 : decode cX11_back 38 = .ok (.imul, 1) := by decide +kernel
theorem dX11_back_39 : decode cX11_back 39 = .ok (.iload_n 2, 1) := by decide +kernel
theorem dX11_back_40 : decode cX11_back 40 = .ok (.iadd, 1) := by decide +kernel
theorem dX11_back_41 : decode cX11_back 41 = .ok (.iaload, 1) := by decide +kernel
theorem dX11_back_42 : decode cX11_back 42 = .ok (.iastore, 1) := by decide +kernel
theorem dX11_back_43 : decode cX11_back 43 = .ok (.iinc 2 1, 3) := by decide +kernel
theorem dX11_back_46 : decode cX11_back 46 = .ok (.goto (-26), 3) := by decide +kernel
theorem dX11_back_49 : decode cX11_back 49 = .ok (.aload_n 0, 1) := by decide +kernel
theorem dX11_back_50 : decode cX11_back 50 = .ok (.aload_n 0, 1) := by decide +kernel
theorem dX11_back_51 : decode cX11_back 51 = .ok (.getfield 149, 3) := by decide +kernel
theorem dX11_back_54 : decode cX11_back 54 = .ok (.iload_n 1, 1) := by decide +kernel
theorem dX11_back_55 : decode cX11_back 55 = .ok (.iaload, 1) := by decide +kernel
theorem dX11_back_56 : decode cX11_back 56 = .ok (.putfield 379, 3) := by decide +kernel
theorem dX11_back_59 : decode cX11_back 59 = .ok (.aload_n 0, 1) := by decide +kernel
theorem dX11_back_60 : decode cX11_back 60 = .ok (.aload_n 0, 1) := by decide +kernel
theorem dX11_back_61 : decode cX11_back 61 = .ok (.getfield 152, 3) := by decide +kernel
theorem dX11_back_64 : decode cX11_back 64 = .ok (.iload_n 1, 1) := by decide +kernel
theorem dX11_back_65 : decode cX11_back 65 = .ok (.iaload, 1) := by decide +kernel
theorem dX11_back_66 : decode cX11_back 66 = .ok (.putfield 506, 3) := by decide +kernel
theorem dX11_back_69 : decode cX11_back 69 = .ok (.aload_n 0, 1) := by decide +kernel
theorem dX11_back_70 : decode cX11_back 70 = .ok (.aload_n 0, 1) := by decide +kernel
theorem dX11_back_71 : decode cX11_back 71 = .ok (.getfield 155, 3) := by decide +kernel
theorem dX11_back_74 : decode cX11_back 74 = .ok (.iload_n 1, 1) := by decide +kernel
theorem dX11_back_75 : decode cX11_back 75 = .ok (.iaload, 1) := by decide +kernel
theorem dX11_back_76 : decode cX11_back 76 = .ok (.putfield 109, 3) := by decide +kernel
theorem dX11_back_79 : decode cX11_back 79 = .ok (.aload_n 0, 1) := by decide +kernel
theorem dX11_back_80 : decode cX11_back 80 = .ok (.invokevirtual 510, 3) := by decide +kernel
theorem dX11_back_83 : decode cX11_back 83 = .ok (.ireturn, 1) := by decide +kernel
theorem dX11_about_0 : decode cX11_about 0 = .ok (.iload_n 1, 1) := by decide +kernel
theorem dX11_about_1 : decode cX11_about 1 = .ok (.tableswitch 127 0 11 #[63, 68, 73, 80, 85, 90, 97, 102, 107, 112, 117, 122], 63) := by decide +kernel
theorem dX11_about_64 : decode cX11_about 64 = .ok (.aload_n 0, 1) := by decide +kernel
theorem dX11_about_65 : decode cX11_about 65 = .ok (.getfield 158, 3) := by decide +kernel
theorem dX11_about_68 : decode cX11_about 68 = .ok (.ireturn, 1) := by decide +kernel
theorem dX11_about_69 : decode cX11_about 69 = .ok (.aload_n 0, 1) := by decide +kernel
theorem dX11_about_70 : decode cX11_about 70 = .ok (.invokevirtual 357, 3) := by decide +kernel
theorem dX11_about_73 : decode cX11_about 73 = .ok (.ireturn, 1) := by decide +kernel
theorem dX11_about_74 : decode cX11_about 74 = .ok (.aload_n 0, 1) := by decide +kernel
theorem dX11_about_75 : decode cX11_about 75 = .ok (.getfield 24, 3) := by decide +kernel
theorem dX11_about_78 : decode cX11_about 78 = .ok (.iconst 1, 1) := by decide +kernel
theorem dX11_about_79 : decode cX11_about 79 = .ok (.iaload, 1) := by decide +kernel
theorem dX11_about_80 : decode cX11_about 80 = .ok (.ireturn, 1) := by decide +kernel
theorem dX11_about_81 : decode cX11_about 81 = .ok (.aload_n 0, 1) := by decide +kernel
theorem dX11_about_82 : decode cX11_about 82 = .ok (.invokevirtual 365, 3) := by decide +kernel
theorem dX11_about_85 : decode cX11_about 85 = .ok (.ireturn, 1) := by decide +kernel
theorem dX11_about_86 : decode cX11_about 86 = .ok (.aload_n 0, 1) := by decide +kernel
theorem dX11_about_87 : decode cX11_about 87 = .ok (.invokevirtual 368, 3) := by decide +kernel
theorem dX11_about_90 : decode cX11_about 90 = .ok (.ireturn, 1) := by decide +kernel
theorem dX11_about_91 : decode cX11_about 91 = .ok (.aload_n 0, 1) := by decide +kernel
theorem dX11_about_92 : decode cX11_about 92 = .ok (.getfield 24, 3) := by decide +kernel
theorem dX11_about_95 : decode cX11_about 95 = .ok (.iconst 4, 1) := by decide +kernel
theorem dX11_about_96 : decode cX11_about 96 = .ok (.iaload, 1) := by decide +kernel
theorem dX11_about_97 : decode cX11_about 97 = .ok (.ireturn, 1) := by decide +kernel
theorem dX11_about_98 : decode cX11_about 98 = .ok (.aload_n 0, 1) := by decide +kernel
theorem dX11_about_99 : decode cX11_about 99 = .ok (.getfield 339, 3) := by decide +kernel
theorem dX11_about_102 : decode cX11_about 102 = .ok (.ireturn, 1) := by decide +kernel
theorem dX11_about_103 : decode cX11_about 103 = .ok (.aload_n 0, 1) := by decide +kernel
theorem dX11_about_104 : decode cX11_about 104 = .ok (.getfield 524, 3) := by decide +kernel
theorem dX11_about_107 : decode cX11_about 107 = .ok (.ireturn, 1) := by decide +kernel
theorem dX11_about_108 : decode cX11_about 108 = .ok (.aload_n 0, 1) := by decide +kernel
theorem dX11_about_109 : decode cX11_about 109 = .ok (.getfield 167, 3) := by decide +kernel
theorem dX11_about_112 : decode cX11_about 112 = .ok (.ireturn, 1) := by decide +kernel
theorem dX11_about_113 : decode cX11_about 113 = .ok (.aload_n 0, 1) := by decide +kernel
theorem dX11_about_114 : decode cX11_about 114 = .ok (.getfield 109, 3) := by decide +kernel
theorem dX11_about_117 : decode cX11_about 117 = .ok (.ireturn, 1) := by decide +kernel
theorem dX11_about_118 : decode cX11_about 118 = .ok (.aload_n 0, 1) := by decide +kernel
theorem dX11_about_119 : decode cX11_about 119 = .ok (.getfield 506, 3) := by decide +kernel
theorem dX11_about_122 : decode cX11_about 122 = .ok (.ireturn, 1) := by decide +kernel
theorem dX11_about_123 : decode cX11_about 123 = .ok (.aload_n 0, 1) := by decide +kernel
theorem dX11_about_124 : decode cX11_about 124 = .ok (.getfield 379, 3) := by decide +kernel
theorem dX11_about_127 : decode cX11_about 127 = .ok (.ireturn, 1) := by decide +kernel
theorem dX11_about_128 : decode cX11_about 128 = .ok (.iconst (-1), 1) := by decide +kernel
theorem dX11_about_129 : decode cX11_about 129 = .ok (.ireturn, 1) := by decide +kernel
theorem dJ6_bitCount_0f7a4_0 : decode cJ6_bitCount_0f7a4 0 = .ok (.iload_n 0, 1) := by decide +kernel
theorem dJ6_bitCount_0f7a4_1 : decode cJ6_bitCount_0f7a4 1 = .ok (.iload_n 0, 1) := by decide +kernel
theorem dJ6_bitCount_0f7a4_2 : decode cJ6_bitCount_0f7a4 2 = .ok (.iconst 1, 1) := by decide +kernel
theorem dJ6_bitCount_0f7a4_3 : decode cJ6_bitCount_0f7a4 3 = .ok (.iushr, 1) := by decide +kernel
theorem dJ6_bitCount_0f7a4_4 : decode cJ6_bitCount_0f7a4 4 = .ok (.ldc_w 265, 3) := by decide +kernel
theorem dJ6_bitCount_0f7a4_7 : decode cJ6_bitCount_0f7a4 7 = .ok (.iand, 1) := by decide +kernel
theorem dJ6_bitCount_0f7a4_8 : decode cJ6_bitCount_0f7a4 8 = .ok (.isub, 1) := by decide +kernel
theorem dJ6_bitCount_0f7a4_9 : decode cJ6_bitCount_0f7a4 9 = .ok (.istore_n 0, 1) := by decide +kernel
theorem dJ6_bitCount_0f7a4_10 : decode cJ6_bitCount_0f7a4 10 = .ok (.iload_n 0, 1) := by decide +kernel
theorem dJ6_bitCount_0f7a4_11 : decode cJ6_bitCount_0f7a4 11 = .ok (.ldc_w 266, 3) := by decide +kernel
theorem dJ6_bitCount_0f7a4_14 : decode cJ6_bitCount_0f7a4 14 = .ok (.iand, 1) := by decide +kernel
theorem dJ6_bitCount_0f7a4_15 : decode cJ6_bitCount_0f7a4 15 = .ok (.iload_n 0, 1) := by decide +kernel
theorem dJ6_bitCount_0f7a4_16 : decode cJ6_bitCount_0f7a4 16 = .ok (.iconst 2, 1) := by decide +kernel
theorem dJ6_bitCount_0f7a4_17 : decode cJ6_bitCount_0f7a4 17 = .ok (.iushr, 1) := by decide +kernel
theorem dJ6_bitCount_0f7a4_18 : decode cJ6_bitCount_0f7a4 18 = .ok (.ldc_w 266, 3) := by decide +kernel
theorem dJ6_bitCount_0f7a4_21 : decode cJ6_bitCount_0f7a4 21 = .ok (.iand, 1) := by decide +kernel
theorem dJ6_bitCount_0f7a4_22 : decode cJ6_bitCount_0f7a4 22 = .ok (.iadd, 1) := by decide +kernel
theorem dJ6_bitCount_0f7a4_23 : decode cJ6_bitCount_0f7a4 23 = .ok (.istore_n 0, 1) := by decide +kernel
theorem dJ6_bitCount_0f7a4_24 : decode cJ6_bitCount_0f7a4 24 = .ok (.iload_n 0, 1) := by decide +kernel
theorem dJ6_bitCount_0f7a4_25 : decode cJ6_bitCount_0f7a4 25 = .ok (.iload_n 0, 1) := by decide +kernel
theorem dJ6_bitCount_0f7a4_26 : decode cJ6_bitCount_0f7a4 26 = .ok (.iconst 4, 1) := by decide +kernel
theorem dJ6_bitCount_0f7a4_27 : decode cJ6_bitCount_0f7a4 27 = .ok (.iushr, 1) := by decide +kernel
theorem dJ6_bitCount_0f7a4_28 : decode cJ6_bitCount_0f7a4 28 = .ok (.iadd, 1) := by decide +kernel
theorem dJ6_bitCount_0f7a4_29 : decode cJ6_bitCount_0f7a4 29 = .ok (.ldc_w 267, 3) := by decide +kernel
theorem dJ6_bitCount_0f7a4_32 : decode cJ6_bitCount_0f7a4 32 = .ok (.iand, 1) := by decide +kernel
theorem dJ6_bitCount_0f7a4_33 : decode cJ6_bitCount_0f7a4 33 = .ok (.istore_n 0, 1) := by decide +kernel
theorem dJ6_bitCount_0f7a4_34 : decode cJ6_bitCount_0f7a4 34 = .ok (.iload_n 0, 1) := by decide +kernel
theorem dJ6_bitCount_0f7a4_35 : decode cJ6_bitCount_0f7a4 35 = .ok (.iload_n 0, 1) := by decide +kernel
theorem dJ6_bitCount_0f7a4_36 : decode cJ6_bitCount_0f7a4 36 = .ok (.bipush 8, 2) := by decide +kernel
theorem dJ6_bitCount_0f7a4_38 : decode cJ6_bitCount_0f7a4 38 = .ok (.iushr, 1) := by decide +kernel
theorem dJ6_bitCount_0f7a4_39 : decode cJ6_bitCount_0f7a4 39 = .ok (.iadd, 1) := by decide +kernel
theorem dJ6_bitCount_0f7a4_40 : decode cJ6_bitCount_0f7a4 40 = .ok (.istore_n 0, 1) := by decide +kernel
theorem dJ6_bitCount_0f7a4_41 : decode cJ6_bitCount_0f7a4 41 = .ok (.iload_n 0, 1) := by decide +kernel
theorem dJ6_bitCount_0f7a4_42 : decode cJ6_bitCount_0f7a4 42 = .ok (.iload_n 0, 1) := by decide +kernel
theorem dJ6_bitCount_0f7a4_43 : decode cJ6_bitCount_0f7a4 43 = .ok (.bipush 16, 2) := by decide +kernel
theorem dJ6_bitCount_0f7a4_45 : decode cJ6_bitCount_0f7a4 45 = .ok (.iushr, 1) := by decide +kernel
theorem dJ6_bitCount_0f7a4_46 : decode cJ6_bitCount_0f7a4 46 = .ok (.iadd, 1) := by decide +kernel
theorem dJ6_bitCount_0f7a4_47 : decode cJ6_bitCount_0f7a4 47 = .ok (.istore_n 0, 1) := by decide +kernel
theorem dJ6_bitCount_0f7a4_48 : decode cJ6_bitCount_0f7a4 48 = .ok (.iload_n 0, 1) := by decide +kernel
theorem dJ6_bitCount_0f7a4_49 : decode cJ6_bitCount_0f7a4 49 = .ok (.bipush 63, 2) := by decide +kernel
theorem dJ6_bitCount_0f7a4_51 : decode cJ6_bitCount_0f7a4 51 = .ok (.iand, 1) := by decide +kernel
theorem dJ6_bitCount_0f7a4_52 : decode cJ6_bitCount_0f7a4 52 = .ok (.ireturn, 1) := by decide +kernel
theorem dJ9_abs_067f4_0 : decode cJ9_abs_067f4 0 = .ok (.lload_n 0, 1) := by decide +kernel
theorem dJ9_abs_067f4_1 : decode cJ9_abs_067f4 1 = .ok (.lconst 0, 1) := by decide +kernel
theorem dJ9_abs_067f4_2 : decode cJ9_abs_067f4 2 = .ok (.lcmp, 1) := by decide +kernel
theorem dJ9_abs_067f4_3 : decode cJ9_abs_067f4 3 = .ok (.ifCond .ge 8, 3) := by decide +kernel
theorem dJ9_abs_067f4_6 : decode cJ9_abs_067f4 6 = .ok (.lload_n 0, 1) := by decide +kernel
theorem dJ9_abs_067f4_7 : decode cJ9_abs_067f4 7 = .ok (.lneg, 1) := by decide +kernel
theorem dJ9_abs_067f4_8 : decode cJ9_abs_067f4 8 = .ok (.goto 4, 3) := by decide +kernel
theorem dJ9_abs_067f4_11 : decode cJ9_abs_067f4 11 = .ok (.lload_n 0, 1) := by decide +kernel
theorem dJ9_abs_067f4_12 : decode cJ9_abs_067f4 12 = .ok (.lreturn, 1) := by decide +kernel
theorem dJ9_max_7cf53_0 : decode cJ9_max_7cf53 0 = .ok (.iload_n 0, 1) := by decide +kernel
theorem dJ9_max_7cf53_1 : decode cJ9_max_7cf53 1 = .ok (.iload_n 1, 1) := by decide +kernel
theorem dJ9_max_7cf53_2 : decode cJ9_max_7cf53 2 = .ok (.if_icmp .lt 7, 3) := by decide +kernel
theorem dJ9_max_7cf53_5 : decode cJ9_max_7cf53 5 = .ok (.iload_n 0, 1) := by decide +kernel
theorem dJ9_max_7cf53_6 : decode cJ9_max_7cf53 6 = .ok (.goto 4, 3) := by decide +kernel
theorem dJ9_max_7cf53_9 : decode cJ9_max_7cf53 9 = .ok (.iload_n 1, 1) := by decide +kernel
theorem dJ9_max_7cf53_10 : decode cJ9_max_7cf53 10 = .ok (.ireturn, 1) := by decide +kernel
theorem dJ9_max_f86c9_0 : decode cJ9_max_f86c9 0 = .ok (.lload_n 0, 1) := by decide +kernel
theorem dJ9_max_f86c9_1 : decode cJ9_max_f86c9 1 = .ok (.lload_n 2, 1) := by decide +kernel
theorem dJ9_max_f86c9_2 : decode cJ9_max_f86c9 2 = .ok (.lcmp, 1) := by decide +kernel
theorem dJ9_max_f86c9_3 : decode cJ9_max_f86c9 3 = .ok (.ifCond .lt 7, 3) := by decide +kernel
theorem dJ9_max_f86c9_6 : decode cJ9_max_f86c9 6 = .ok (.lload_n 0, 1) := by decide +kernel
theorem dJ9_max_f86c9_7 : decode cJ9_max_f86c9 7 = .ok (.goto 4, 3) := by decide +kernel
theorem dJ9_max_f86c9_10 : decode cJ9_max_f86c9 10 = .ok (.lload_n 2, 1) := by decide +kernel
theorem dJ9_max_f86c9_11 : decode cJ9_max_f86c9 11 = .ok (.lreturn, 1) := by decide +kernel
theorem dJ9_min_7cf53_0 : decode cJ9_min_7cf53 0 = .ok (.iload_n 0, 1) := by decide +kernel
theorem dJ9_min_7cf53_1 : decode cJ9_min_7cf53 1 = .ok (.iload_n 1, 1) := by decide +kernel
theorem dJ9_min_7cf53_2 : decode cJ9_min_7cf53 2 = .ok (.if_icmp .gt 7, 3) := by decide +kernel
theorem dJ9_min_7cf53_5 : decode cJ9_min_7cf53 5 = .ok (.iload_n 0, 1) := by decide +kernel
theorem dJ9_min_7cf53_6 : decode cJ9_min_7cf53 6 = .ok (.goto 4, 3) := by decide +kernel
theorem dJ9_min_7cf53_9 : decode cJ9_min_7cf53 9 = .ok (.iload_n 1, 1) := by decide +kernel
theorem dJ9_min_7cf53_10 : decode cJ9_min_7cf53 10 = .ok (.ireturn, 1) := by decide +kernel
theorem dJ0_length_8abf5_0 : decode cJ0_length_8abf5 0 = .ok (.aload_n 0, 1) := by decide +kernel
theorem dJ0_length_8abf5_1 : decode cJ0_length_8abf5 1 = .ok (.getfield 9, 3) := by decide +kernel
theorem dJ0_length_8abf5_4 : decode cJ0_length_8abf5 4 = .ok (.arraylength, 1) := by decide +kernel
theorem dJ0_length_8abf5_5 : decode cJ0_length_8abf5 5 = .ok (.aload_n 0, 1) := by decide +kernel
theorem dJ0_length_8abf5_6 : decode cJ0_length_8abf5 6 = .ok (.invokevirtual 335, 3) := by decide +kernel
theorem dJ0_length_8abf5_9 : decode cJ0_length_8abf5 9 = .ok (.ishr, 1) := by decide +kernel
theorem dJ0_length_8abf5_10 : decode cJ0_length_8abf5 10 = .ok (.ireturn, 1) := by decide +kernel
theorem dJ0_charAt_5068e_0 : decode cJ0_charAt_5068e 0 = .ok (.aload_n 0, 1) := by decide +kernel
theorem dJ0_charAt_5068e_1 : decode cJ0_charAt_5068e 1 = .ok (.invokevirtual 492, 3) := by decide +kernel
theorem dJ0_charAt_5068e_4 : decode cJ0_charAt_5068e 4 = .ok (.ifCond .eq 12, 3) := by decide +kernel
theorem dJ0_charAt_5068e_7 : decode cJ0_charAt_5068e 7 = .ok (.aload_n 0, 1) := by decide +kernel
theorem dJ0_charAt_5068e_8 : decode cJ0_charAt_5068e 8 = .ok (.getfield 9, 3) := by decide +kernel
theorem dJ0_charAt_5068e_11 : decode cJ0_charAt_5068e 11 = .ok (.iload_n 1, 1) := by decide +kernel
theorem dJ0_charAt_5068e_12 : decode cJ0_charAt_5068e 12 = .ok (.invokestatic 495, 3) := by decide +kernel
theorem dJ0_charAt_5068e_15 : decode cJ0_charAt_5068e 15 = .ok (.ireturn, 1) := by decide +kernel
theorem dJ0_charAt_5068e_16 : decode cJ0_charAt_5068e 16 = .ok (.aload_n 0, 1) := by decide +kernel
theorem dJ0_charAt_5068e_17 : decode cJ0_charAt_5068e 17 = .ok (.getfield 9, 3) := by decide +kernel
theorem dJ0_charAt_5068e_20 : decode cJ0_charAt_5068e 20 = .ok (.iload_n 1, 1) := by decide +kernel
theorem dJ0_charAt_5068e_21 : decode cJ0_charAt_5068e 21 = .ok (.invokestatic 498, 3) := by decide +kernel
theorem dJ0_charAt_5068e_24 : decode cJ0_charAt_5068e 24 = .ok (.ireturn, 1) := by decide +kernel
theorem dJ0_coder_7d493_0 : decode cJ0_coder_7d493 0 = .ok (.getstatic 38, 3) := by decide +kernel
theorem dJ0_coder_7d493_3 : decode cJ0_coder_7d493 3 = .ok (.ifCond .eq 10, 3) := by decide +kernel
theorem dJ0_coder_7d493_6 : decode cJ0_coder_7d493 6 = .ok (.aload_n 0, 1) := by decide +kernel
theorem dJ0_coder_7d493_7 : decode cJ0_coder_7d493 7 = .ok (.getfield 15, 3) := by decide +kernel
theorem dJ0_coder_7d493_10 : decode cJ0_coder_7d493 10 = .ok (.goto 4, 3) := by decide +kernel
theorem dJ0_coder_7d493_13 : decode cJ0_coder_7d493 13 = .ok (.iconst 1, 1) := by decide +kernel
theorem dJ0_coder_7d493_14 : decode cJ0_coder_7d493 14 = .ok (.ireturn, 1) := by decide +kernel
theorem dJ0_isLatin1_aae02_0 : decode cJ0_isLatin1_aae02 0 = .ok (.getstatic 38, 3) := by decide +kernel
theorem dJ0_isLatin1_aae02_3 : decode cJ0_isLatin1_aae02 3 = .ok (.ifCond .eq 14, 3) := by decide +kernel
theorem dJ0_isLatin1_aae02_6 : decode cJ0_isLatin1_aae02 6 = .ok (.aload_n 0, 1) := by decide +kernel
theorem dJ0_isLatin1_aae02_7 : decode cJ0_isLatin1_aae02 7 = .ok (.getfield 15, 3) := by decide +kernel
theorem dJ0_isLatin1_aae02_10 : decode cJ0_isLatin1_aae02 10 = .ok (.ifCond .ne 7, 3) := by decide +kernel
theorem dJ0_isLatin1_aae02_13 : decode cJ0_isLatin1_aae02 13 = .ok (.iconst 1, 1) := by decide +kernel
theorem dJ0_isLatin1_aae02_14 : decode cJ0_isLatin1_aae02 14 = .ok (.goto 4, 3) := by decide +kernel
theorem dJ0_isLatin1_aae02_17 : decode cJ0_isLatin1_aae02 17 = .ok (.iconst 0, 1) := by decide +kernel
theorem dJ0_isLatin1_aae02_18 : decode cJ0_isLatin1_aae02 18 = .ok (.ireturn, 1) := by decide +kernel
theorem dJ0_checkIndex_df160_0 : decode cJ0_checkIndex_df160 0 = .ok (.iload_n 0, 1) := by decide +kernel
theorem dJ0_checkIndex_df160_1 : decode cJ0_checkIndex_df160 1 = .ok (.iload_n 1, 1) := by decide +kernel
theorem dJ0_checkIndex_df160_2 : decode cJ0_checkIndex_df160 2 = .ok (.getstatic 1053, 3) := by decide +kernel
theorem dJ0_checkIndex_df160_5 : decode cJ0_checkIndex_df160 5 = .ok (.invokestatic 1059, 3) := by decide +kernel
theorem dJ0_checkIndex_df160_8 : decode cJ0_checkIndex_df160 8 = .ok (.pop, 1) := by decide +kernel
theorem dJ0_checkIndex_df160_9 : decode cJ0_checkIndex_df160 9 = .ok (.return_, 1) := by decide +kernel
theorem dJ1_charAt_3b067_0 : decode cJ1_charAt_3b067 0 = .ok (.iload_n 1, 1) := by decide +kernel
theorem dJ1_charAt_3b067_1 : decode cJ1_charAt_3b067 1 = .ok (.aload_n 0, 1) := by decide +kernel
theorem dJ1_charAt_3b067_2 : decode cJ1_charAt_3b067 2 = .ok (.arraylength, 1) := by decide +kernel
theorem dJ1_charAt_3b067_3 : decode cJ1_charAt_3b067 3 = .ok (.invokestatic 9, 3) := by decide +kernel
theorem dJ1_charAt_3b067_6 : decode cJ1_charAt_3b067 6 = .ok (.aload_n 0, 1) := by decide +kernel
theorem dJ1_charAt_3b067_7 : decode cJ1_charAt_3b067 7 = .ok (.iload_n 1, 1) := by decide +kernel
theorem dJ1_charAt_3b067_8 : decode cJ1_charAt_3b067 8 = .ok (.baload, 1) := by decide +kernel
theorem dJ1_charAt_3b067_9 : decode cJ1_charAt_3b067 9 = .ok (.sipush 255, 3) := by decide +kernel
theorem dJ1_charAt_3b067_12 : decode cJ1_charAt_3b067 12 = .ok (.iand, 1) := by decide +kernel
theorem dJ1_charAt_3b067_13 : decode cJ1_charAt_3b067 13 = .ok (.i2c, 1) := by decide +kernel
theorem dJ1_charAt_3b067_14 : decode cJ1_charAt_3b067 14 = .ok (.ireturn, 1) := by decide +kernel
theorem dJ2_getChar_3b067_0 : decode cJ2_getChar_3b067 0 = .ok (.getstatic 44, 3) := by decide +kernel
theorem dJ2_getChar_3b067_3 : decode cJ2_getChar_3b067 3 = .ok (.ifCond .ne 25, 3) := by decide +kernel
theorem dJ2_getChar_3b067_6 : decode cJ2_getChar_3b067 6 = .ok (.iload_n 1, 1) := by decide +kernel
theorem dJ2_getChar_3b067_7 : decode cJ2_getChar_3b067 7 = .ok (.ifCond .lt 11, 3) := by decide +kernel
theorem dJ2_getChar_3b067_10 : decode cJ2_getChar_3b067 10 = .ok (.iload_n 1, 1) := by decide +kernel
theorem dJ2_getChar_3b067_11 : decode cJ2_getChar_3b067 11 = .ok (.aload_n 0, 1) := by decide +kernel
theorem dJ2_getChar_3b067_12 : decode cJ2_getChar_3b067 12 = .ok (.invokestatic 48, 3) := by decide +kernel
theorem dJ2_getChar_3b067_15 : decode cJ2_getChar_3b067 15 = .ok (.if_icmp .lt 13, 3) := by decide +kernel
theorem dJ2_getChar_3b067_18 : decode cJ2_getChar_3b067 18 = .ok (.new 52, 3) := by decide +kernel
theorem dJ2_getChar_3b067_21 : decode cJ2_getChar_3b067 21 = .ok (.dup, 1) := by decide +kernel
theorem dJ2_getChar_3b067_22 : decode cJ2_getChar_3b067 22 = .ok (.ldc 54, 2) := by decide +kernel
theorem dJ2_getChar_3b067_24 : decode cJ2_getChar_3b067 24 = .ok (.invokespecial 56, 3) := by decide +kernel
theorem dJ2_getChar_3b067_27 : decode cJ2_getChar_3b067 27 = .ok (.athrow, 1) := by decide +kernel
theorem dJ2_getChar_3b067_28 : decode cJ2_getChar_3b067 28 = .ok (.iload_n 1, 1) := by decide +kernel
theorem dJ2_getChar_3b067_29 : decode cJ2_getChar_3b067 29 = .ok (.iconst 1, 1) := by decide +kernel
theorem dJ2_getChar_3b067_30 : decode cJ2_getChar_3b067 30 = .ok (.ishl, 1) := by decide +kernel
theorem dJ2_getChar_3b067_31 : decode cJ2_getChar_3b067 31 = .ok (.istore_n 1, 1) := by decide +kernel
theorem dJ2_getChar_3b067_32 : decode cJ2_getChar_3b067 32 = .ok (.aload_n 0, 1) := by decide +kernel
theorem dJ2_getChar_3b067_33 : decode cJ2_getChar_3b067 33 = .ok (.iload_n 1, 1) := by decide +kernel
theorem dJ2_getChar_3b067_34 : decode cJ2_getChar_3b067 34 = .ok (.iinc 1 1, 3) := by decide +kernel
theorem dJ2_getChar_3b067_37 : decode cJ2_getChar_3b067 37 = .ok (.baload, 1) := by decide +kernel
theorem dJ2_getChar_3b067_38 : decode cJ2_getChar_3b067 38 = .ok (.sipush 255, 3) := by decide +kernel
theorem dJ2_getChar_3b067_41 : decode cJ2_getChar_3b067 41 = .ok (.iand, 1) := by decide +kernel
theorem dJ2_getChar_3b067_42 : decode cJ2_getChar_3b067 42 = .ok (.getstatic 59, 3) := by decide +kernel
theorem dJ2_getChar_3b067_45 : decode cJ2_getChar_3b067 45 = .ok (.ishl, 1) := by decide +kernel
theorem dJ2_getChar_3b067_46 : decode cJ2_getChar_3b067 46 = .ok (.aload_n 0, 1) := by decide +kernel
theorem dJ2_getChar_3b067_47 : decode cJ2_getChar_3b067 47 = .ok (.iload_n 1, 1) := by decide +kernel
theorem dJ2_getChar_3b067_48 : decode cJ2_getChar_3b067 48 = .ok (.baload, 1) := by decide +kernel
theorem dJ2_getChar_3b067_49 : decode cJ2_getChar_3b067 49 = .ok (.sipush 255, 3) := by decide +kernel
theorem dJ2_getChar_3b067_52 : decode cJ2_getChar_3b067 52 = .ok (.iand, 1) := by decide +kernel
theorem dJ2_getChar_3b067_53 : decode cJ2_getChar_3b067 53 = .ok (.getstatic 63, 3) := by decide +kernel
theorem dJ2_getChar_3b067_56 : decode cJ2_getChar_3b067 56 = .ok (.ishl, 1) := by decide +kernel
theorem dJ2_getChar_3b067_57 : decode cJ2_getChar_3b067 57 = .ok (.ior, 1) := by decide +kernel
theorem dJ2_getChar_3b067_58 : decode cJ2_getChar_3b067 58 = .ok (.i2c, 1) := by decide +kernel
theorem dJ2_getChar_3b067_59 : decode cJ2_getChar_3b067 59 = .ok (.ireturn, 1) := by decide +kernel
theorem dJ2_length_9d52b_0 : decode cJ2_length_9d52b 0 = .ok (.aload_n 0, 1) := by decide +kernel
theorem dJ2_length_9d52b_1 : decode cJ2_length_9d52b 1 = .ok (.arraylength, 1) := by decide +kernel
theorem dJ2_length_9d52b_2 : decode cJ2_length_9d52b 2 = .ok (.iconst 1, 1) := by decide +kernel
theorem dJ2_length_9d52b_3 : decode cJ2_length_9d52b 3 = .ok (.ishr, 1) := by decide +kernel
theorem dJ2_length_9d52b_4 : decode cJ2_length_9d52b 4 = .ok (.ireturn, 1) := by decide +kernel
theorem dJ2_charAt_3b067_0 : decode cJ2_charAt_3b067 0 = .ok (.iload_n 1, 1) := by decide +kernel
theorem dJ2_charAt_3b067_1 : decode cJ2_charAt_3b067 1 = .ok (.aload_n 0, 1) := by decide +kernel
theorem dJ2_charAt_3b067_2 : decode cJ2_charAt_3b067 2 = .ok (.invokestatic 67, 3) := by decide +kernel
theorem dJ2_charAt_3b067_5 : decode cJ2_charAt_3b067 5 = .ok (.aload_n 0, 1) := by decide +kernel
theorem dJ2_charAt_3b067_6 : decode cJ2_charAt_3b067 6 = .ok (.iload_n 1, 1) := by decide +kernel
theorem dJ2_charAt_3b067_7 : decode cJ2_charAt_3b067 7 = .ok (.invokestatic 71, 3) := by decide +kernel
theorem dJ2_charAt_3b067_10 : decode cJ2_charAt_3b067 10 = .ok (.ireturn, 1) := by decide +kernel
theorem dJ2_checkIndex_2214a_0 : decode cJ2_checkIndex_2214a 0 = .ok (.iload_n 0, 1) := by decide +kernel
theorem dJ2_checkIndex_2214a_1 : decode cJ2_checkIndex_2214a 1 = .ok (.aload_n 1, 1) := by decide +kernel
theorem dJ2_checkIndex_2214a_2 : decode cJ2_checkIndex_2214a 2 = .ok (.invokestatic 48, 3) := by decide +kernel
theorem dJ2_checkIndex_2214a_5 : decode cJ2_checkIndex_2214a 5 = .ok (.invokestatic 414, 3) := by decide +kernel
theorem dJ2_checkIndex_2214a_8 : decode cJ2_checkIndex_2214a 8 = .ok (.return_, 1) := by decide +kernel
theorem dJ7_fill_53178_0 : decode cJ7_fill_53178 0 = .ok (.iconst 0, 1) := by decide +kernel
theorem dJ7_fill_53178_1 : decode cJ7_fill_53178 1 = .ok (.istore_n 2, 1) := by decide +kernel
theorem dJ7_fill_53178_2 : decode cJ7_fill_53178 2 = .ok (.aload_n 0, 1) := by decide +kernel
theorem dJ7_fill_53178_3 : decode cJ7_fill_53178 3 = .ok (.arraylength, 1) := by decide +kernel
theorem dJ7_fill_53178_4 : decode cJ7_fill_53178 4 = .ok (.istore_n 3, 1) := by decide +kernel
theorem dJ7_fill_53178_5 : decode cJ7_fill_53178 5 = .ok (.iload_n 2, 1) := by decide +kernel
theorem dJ7_fill_53178_6 : decode cJ7_fill_53178 6 = .ok (.iload_n 3, 1) := by decide +kernel
theorem dJ7_fill_53178_7 : decode cJ7_fill_53178 7 = .ok (.if_icmp .ge 13, 3) := by decide +kernel
theorem dJ7_fill_53178_10 : decode cJ7_fill_53178 10 = .ok (.aload_n 0, 1) := by decide +kernel
theorem dJ7_fill_53178_11 : decode cJ7_fill_53178 11 = .ok (.iload_n 2, 1) := by decide +kernel
theorem dJ7_fill_53178_12 : decode cJ7_fill_53178 12 = .ok (.iload_n 1, 1) := by decide +kernel
theorem dJ7_fill_53178_13 : decode cJ7_fill_53178 13 = .ok (.iastore, 1) := by decide +kernel
theorem dJ7_fill_53178_14 : decode cJ7_fill_53178 14 = .ok (.iinc 2 1, 3) := by decide +kernel
theorem dJ7_fill_53178_17 : decode cJ7_fill_53178 17 = .ok (.goto (-12), 3) := by decide +kernel
theorem dJ7_fill_53178_20 : decode cJ7_fill_53178 20 = .ok (.return_, 1) := by decide +kernel
theorem dJ3_checkIndex_8e157_0 : decode cJ3_checkIndex_8e157 0 = .ok (.iload_n 0, 1) := by decide +kernel
theorem dJ3_checkIndex_8e157_1 : decode cJ3_checkIndex_8e157 1 = .ok (.ifCond .lt 8, 3) := by decide +kernel
theorem dJ3_checkIndex_8e157_4 : decode cJ3_checkIndex_8e157 4 = .ok (.iload_n 0, 1) := by decide +kernel
theorem dJ3_checkIndex_8e157_5 : decode cJ3_checkIndex_8e157 5 = .ok (.iload_n 1, 1) := by decide +kernel
theorem dJ3_checkIndex_8e157_6 : decode cJ3_checkIndex_8e157 6 = .ok (.if_icmp .lt 10, 3) := by decide +kernel
theorem dJ3_checkIndex_8e157_9 : decode cJ3_checkIndex_8e157 9 = .ok (.aload_n 2, 1) := by decide +kernel
theorem dJ3_checkIndex_8e157_10 : decode cJ3_checkIndex_8e157 10 = .ok (.iload_n 0, 1) := by decide +kernel
theorem dJ3_checkIndex_8e157_11 : decode cJ3_checkIndex_8e157 11 = .ok (.iload_n 1, 1) := by decide +kernel
theorem dJ3_checkIndex_8e157_12 : decode cJ3_checkIndex_8e157 12 = .ok (.invokestatic 95, 3) := by decide +kernel
theorem dJ3_checkIndex_8e157_15 : decode cJ3_checkIndex_8e157 15 = .ok (.athrow, 1) := by decide +kernel
theorem dJ3_checkIndex_8e157_16 : decode cJ3_checkIndex_8e157 16 = .ok (.iload_n 0, 1) := by decide +kernel
theorem dJ3_checkIndex_8e157_17 : decode cJ3_checkIndex_8e157 17 = .ok (.ireturn, 1) := by decide +kernel
