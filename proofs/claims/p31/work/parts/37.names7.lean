theorem dL_hall_54 : decode cL_hall 54 = .ok (.invokestatic 109, 3) := by decide +kernel
theorem dL_hall_57 : decode cL_hall 57 = .ok (.iadd, 1) := by decide +kernel
theorem dL_hall_58 : decode cL_hall 58 = .ok (.iastore, 1) := by decide +kernel
theorem dL_hall_59 : decode cL_hall 59 = .ok (.iconst 1, 1) := by decide +kernel
theorem dL_hall_60 : decode cL_hall 60 = .ok (.istore 6, 2) := by decide +kernel
theorem dL_hall_62 : decode cL_hall 62 = .ok (.aload_n 2, 1) := by decide +kernel
theorem dL_hall_63 : decode cL_hall 63 = .ok (.aload_n 3, 1) := by decide +kernel
theorem dL_hall_64 : decode cL_hall 64 = .ok (.iconst 0, 1) := by decide +kernel
theorem dL_hall_65 : decode cL_hall 65 = .ok (.iaload, 1) := by decide +kernel
theorem dL_hall_66 : decode cL_hall 66 = .ok (.aload_n 3, 1) := by decide +kernel
theorem dL_hall_67 : decode cL_hall 67 = .ok (.iconst 1, 1) := by decide +kernel
theorem dL_hall_68 : decode cL_hall 68 = .ok (.iaload, 1) := by decide +kernel
theorem dL_hall_69 : decode cL_hall 69 = .ok (.invokevirtual 114, 3) := by decide +kernel
theorem dL_hall_72 : decode cL_hall 72 = .ok (.iconst 0, 1) := by decide +kernel
theorem dL_hall_73 : decode cL_hall 73 = .ok (.istore 7, 2) := by decide +kernel
theorem dL_hall_75 : decode cL_hall 75 = .ok (.iload 7, 2) := by decide +kernel
theorem dL_hall_77 : decode cL_hall 77 = .ok (.aload_n 3, 1) := by decide +kernel
theorem dL_hall_78 : decode cL_hall 78 = .ok (.iconst 0, 1) := by decide +kernel
theorem dL_hall_79 : decode cL_hall 79 = .ok (.iaload, 1) := by decide +kernel
theorem dL_hall_80 : decode cL_hall 80 = .ok (.if_icmp .ge 107, 3) := by decide +kernel
theorem dL_hall_83 : decode cL_hall 83 = .ok (.aload_n 0, 1) := by decide +kernel
theorem dL_hall_84 : decode cL_hall 84 = .ok (.iload_n 1, 1) := by decide +kernel
theorem dL_hall_85 : decode cL_hall 85 = .ok (.iconst 3, 1) := by decide +kernel
theorem dL_hall_86 : decode cL_hall 86 = .ok (.iadd, 1) := by decide +kernel
theorem dL_hall_87 : decode cL_hall 87 = .ok (.iload 7, 2) := by decide +kernel
theorem dL_hall_89 : decode cL_hall 89 = .ok (.iadd, 1) := by decide +kernel
theorem dL_hall_90 : decode cL_hall 90 = .ok (.ldc 118, 2) := by decide +kernel
theorem dL_hall_92 : decode cL_hall 92 = .ok (.invokestatic 109, 3) := by decide +kernel
theorem dL_hall_95 : decode cL_hall 95 = .ok (.istore 8, 2) := by decide +kernel
theorem dL_hall_97 : decode cL_hall 97 = .ok (.iconst 0, 1) := by decide +kernel
theorem dL_hall_98 : decode cL_hall 98 = .ok (.istore 9, 2) := by decide +kernel
theorem dL_hall_100 : decode cL_hall 100 = .ok (.iload 9, 2) := by decide +kernel
theorem dL_hall_102 : decode cL_hall 102 = .ok (.aload_n 3, 1) := by decide +kernel
theorem dL_hall_103 : decode cL_hall 103 = .ok (.iconst 1, 1) := by decide +kernel
theorem dL_hall_104 : decode cL_hall 104 = .ok (.iaload, 1) := by decide +kernel
theorem dL_hall_105 : decode cL_hall 105 = .ok (.if_icmp .ge 76, 3) := by decide +kernel
theorem dL_hall_108 : decode cL_hall 108 = .ok (.aload 4, 2) := by decide +kernel
theorem dL_hall_110 : decode cL_hall 110 = .ok (.bipush 10, 2) := by decide +kernel
theorem dL_hall_112 : decode cL_hall 112 = .ok (.iload 7, 2) := by decide +kernel
theorem dL_hall_114 : decode cL_hall 114 = .ok (.imul, 1) := by decide +kernel
theorem dL_hall_115 : decode cL_hall 115 = .ok (.iload 9, 2) := by decide +kernel
theorem dL_hall_117 : decode cL_hall 117 = .ok (.iadd, 1) := by decide +kernel
theorem dL_hall_118 : decode cL_hall 118 = .ok (.iload 8, 2) := by decide +kernel
theorem dL_hall_120 : decode cL_hall 120 = .ok (.aload_n 3, 1) := by decide +kernel
theorem dL_hall_121 : decode cL_hall 121 = .ok (.iconst 0, 1) := by decide +kernel
theorem dL_hall_122 : decode cL_hall 122 = .ok (.iaload, 1) := by decide +kernel
theorem dL_hall_123 : decode cL_hall 123 = .ok (.irem, 1) := by decide +kernel
theorem dL_hall_124 : decode cL_hall 124 = .ok (.iastore, 1) := by decide +kernel
theorem dL_hall_125 : decode cL_hall 125 = .ok (.iload 6, 2) := by decide +kernel
theorem dL_hall_127 : decode cL_hall 127 = .ok (.ifCond .eq 26, 3) := by decide +kernel
theorem dL_hall_130 : decode cL_hall 130 = .ok (.aload_n 2, 1) := by decide +kernel
theorem dL_hall_131 : decode cL_hall 131 = .ok (.iload 7, 2) := by decide +kernel
theorem dL_hall_133 : decode cL_hall 133 = .ok (.iload 9, 2) := by decide +kernel
theorem dL_hall_135 : decode cL_hall 135 = .ok (.iload 8, 2) := by decide +kernel
theorem dL_hall_137 : decode cL_hall 137 = .ok (.aload_n 3, 1) := by decide +kernel
theorem dL_hall_138 : decode cL_hall 138 = .ok (.iconst 0, 1) := by decide +kernel
theorem dL_hall_139 : decode cL_hall 139 = .ok (.iaload, 1) := by decide +kernel
theorem dL_hall_140 : decode cL_hall 140 = .ok (.irem, 1) := by decide +kernel
theorem dL_hall_141 : decode cL_hall 141 = .ok (.invokevirtual 92, 3) := by decide +kernel
theorem dL_hall_144 : decode cL_hall 144 = .ok (.iload 7, 2) := by decide +kernel
theorem dL_hall_146 : decode cL_hall 146 = .ok (.if_icmp .ne 7, 3) := by decide +kernel
theorem dL_hall_149 : decode cL_hall 149 = .ok (.iconst 1, 1) := by decide +kernel
theorem dL_hall_150 : decode cL_hall 150 = .ok (.goto 4, 3) := by decide +kernel
theorem dL_hall_153 : decode cL_hall 153 = .ok (.iconst 0, 1) := by decide +kernel
theorem dL_hall_154 : decode cL_hall 154 = .ok (.istore 6, 2) := by decide +kernel
theorem dL_hall_156 : decode cL_hall 156 = .ok (.iload 8, 2) := by decide +kernel
theorem dL_hall_158 : decode cL_hall 158 = .ok (.aload_n 3, 1) := by decide +kernel
theorem dL_hall_159 : decode cL_hall 159 = .ok (.iconst 0, 1) := by decide +kernel
theorem dL_hall_160 : decode cL_hall 160 = .ok (.iaload, 1) := by decide +kernel
theorem dL_hall_161 : decode cL_hall 161 = .ok (.idiv, 1) := by decide +kernel
theorem dL_hall_162 : decode cL_hall 162 = .ok (.sipush 7919, 3) := by decide +kernel
theorem dL_hall_165 : decode cL_hall 165 = .ok (.iload 8, 2) := by decide +kernel
theorem dL_hall_167 : decode cL_hall 167 = .ok (.sipush 1000, 3) := by decide +kernel
theorem dL_hall_170 : decode cL_hall 170 = .ok (.irem, 1) := by decide +kernel
theorem dL_hall_171 : decode cL_hall 171 = .ok (.imul, 1) := by decide +kernel
theorem dL_hall_172 : decode cL_hall 172 = .ok (.iadd, 1) := by decide +kernel
theorem dL_hall_173 : decode cL_hall 173 = .ok (.istore 8, 2) := by decide +kernel
theorem dL_hall_175 : decode cL_hall 175 = .ok (.iinc 9 1, 3) := by decide +kernel
theorem dL_hall_178 : decode cL_hall 178 = .ok (.goto (-78), 3) := by decide +kernel
theorem dL_hall_181 : decode cL_hall 181 = .ok (.iinc 7 1, 3) := by decide +kernel
theorem dL_hall_184 : decode cL_hall 184 = .ok (.goto (-109), 3) := by decide +kernel
theorem dL_hall_187 : decode cL_hall 187 = .ok (.iconst 0, 1) := by decide +kernel
theorem dL_hall_188 : decode cL_hall 188 = .ok (.istore 7, 2) := by decide +kernel
theorem dL_hall_190 : decode cL_hall 190 = .ok (.iload 7, 2) := by decide +kernel
theorem dL_hall_192 : decode cL_hall 192 = .ok (.bipush 24, 2) := by decide +kernel
theorem dL_hall_194 : decode cL_hall 194 = .ok (.if_icmp .ge 287, 3) := by decide +kernel
theorem dL_hall_197 : decode cL_hall 197 = .ok (.iload 6, 2) := by decide +kernel
theorem dL_hall_199 : decode cL_hall 199 = .ok (.ifCond .eq 282, 3) := by decide +kernel
theorem dL_hall_202 : decode cL_hall 202 = .ok (.aload_n 0, 1) := by decide +kernel
theorem dL_hall_203 : decode cL_hall 203 = .ok (.iload_n 1, 1) := by decide +kernel
theorem dL_hall_204 : decode cL_hall 204 = .ok (.bipush 9, 2) := by decide +kernel
theorem dL_hall_206 : decode cL_hall 206 = .ok (.iadd, 1) := by decide +kernel
theorem dL_hall_207 : decode cL_hall 207 = .ok (.iconst 2, 1) := by decide +kernel
theorem dL_hall_208 : decode cL_hall 208 = .ok (.iload 7, 2) := by decide +kernel
theorem dL_hall_210 : decode cL_hall 210 = .ok (.imul, 1) := by decide +kernel
theorem dL_hall_211 : decode cL_hall 211 = .ok (.iadd, 1) := by decide +kernel
theorem dL_hall_212 : decode cL_hall 212 = .ok (.ldc 118, 2) := by decide +kernel
theorem dL_hall_214 : decode cL_hall 214 = .ok (.invokestatic 109, 3) := by decide +kernel
theorem dL_hall_217 : decode cL_hall 217 = .ok (.istore 8, 2) := by decide +kernel
theorem dL_hall_219 : decode cL_hall 219 = .ok (.aload_n 0, 1) := by decide +kernel
theorem dL_hall_220 : decode cL_hall 220 = .ok (.iload_n 1, 1) := by decide +kernel
theorem dL_hall_221 : decode cL_hall 221 = .ok (.bipush 10, 2) := by decide +kernel
theorem dL_hall_223 : decode cL_hall 223 = .ok (.iadd, 1) := by decide +kernel
theorem dL_hall_224 : decode cL_hall 224 = .ok (.iconst 2, 1) := by decide +kernel
theorem dL_hall_225 : decode cL_hall 225 = .ok (.iload 7, 2) := by decide +kernel
theorem dL_hall_227 : decode cL_hall 227 = .ok (.imul, 1) := by decide +kernel
theorem dL_hall_228 : decode cL_hall 228 = .ok (.iadd, 1) := by decide +kernel
theorem dL_hall_229 : decode cL_hall 229 = .ok (.ldc 118, 2) := by decide +kernel
theorem dL_hall_231 : decode cL_hall 231 = .ok (.invokestatic 109, 3) := by decide +kernel
theorem dL_hall_234 : decode cL_hall 234 = .ok (.istore 9, 2) := by decide +kernel
theorem dL_hall_236 : decode cL_hall 236 = .ok (.iload 7, 2) := by decide +kernel
theorem dL_hall_238 : decode cL_hall 238 = .ok (.iconst 4, 1) := by decide +kernel
theorem dL_hall_239 : decode cL_hall 239 = .ok (.irem, 1) := by decide +kernel
theorem dL_hall_240 : decode cL_hall 240 = .ok (.istore 10, 2) := by decide +kernel
theorem dL_hall_242 : decode cL_hall 242 = .ok (.iload 10, 2) := by decide +kernel
theorem dL_hall_244 : decode cL_hall 244 = .ok (.ifCond .ne 59, 3) := by decide +kernel
theorem dL_hall_247 : decode cL_hall 247 = .ok (.aload_n 2, 1) := by decide +kernel
theorem dL_hall_248 : decode cL_hall 248 = .ok (.iload 8, 2) := by decide +kernel
theorem dL_hall_250 : decode cL_hall 250 = .ok (.aload_n 3, 1) := by decide +kernel
theorem dL_hall_251 : decode cL_hall 251 = .ok (.invokestatic 119, 3) := by decide +kernel
theorem dL_hall_254 : decode cL_hall 254 = .ok (.ifCond .eq 43, 3) := by decide +kernel
theorem dL_hall_257 : decode cL_hall 257 = .ok (.aload_n 2, 1) := by decide +kernel
theorem dL_hall_258 : decode cL_hall 258 = .ok (.iload 8, 2) := by decide +kernel
theorem dL_hall_260 : decode cL_hall 260 = .ok (.iconst 5, 1) := by decide +kernel
theorem dL_hall_261 : decode cL_hall 261 = .ok (.idiv, 1) := by decide +kernel
theorem dL_hall_262 : decode cL_hall 262 = .ok (.iload 9, 2) := by decide +kernel
theorem dL_hall_264 : decode cL_hall 264 = .ok (.aload_n 3, 1) := by decide +kernel
theorem dL_hall_265 : decode cL_hall 265 = .ok (.aload 4, 2) := by decide +kernel
theorem dL_hall_267 : decode cL_hall 267 = .ok (.aload 5, 2) := by decide +kernel
theorem dL_hall_269 : decode cL_hall 269 = .ok (.invokestatic 123, 3) := by decide +kernel
theorem dL_hall_272 : decode cL_hall 272 = .ok (.ifCond .eq 25, 3) := by decide +kernel
theorem dL_hall_275 : decode cL_hall 275 = .ok (.aload_n 2, 1) := by decide +kernel
theorem dL_hall_276 : decode cL_hall 276 = .ok (.iload 9, 2) := by decide +kernel
theorem dL_hall_278 : decode cL_hall 278 = .ok (.iconst 5, 1) := by decide +kernel
theorem dL_hall_279 : decode cL_hall 279 = .ok (.idiv, 1) := by decide +kernel
theorem dL_hall_280 : decode cL_hall 280 = .ok (.iload 8, 2) := by decide +kernel
theorem dL_hall_282 : decode cL_hall 282 = .ok (.aload_n 3, 1) := by decide +kernel
theorem dL_hall_283 : decode cL_hall 283 = .ok (.aload 4, 2) := by decide +kernel
theorem dL_hall_285 : decode cL_hall 285 = .ok (.aload 5, 2) := by decide +kernel
theorem dL_hall_287 : decode cL_hall 287 = .ok (.invokestatic 123, 3) := by decide +kernel
theorem dL_hall_290 : decode cL_hall 290 = .ok (.ifCond .eq 7, 3) := by decide +kernel
theorem dL_hall_293 : decode cL_hall 293 = .ok (.iconst 1, 1) := by decide +kernel
theorem dL_hall_294 : decode cL_hall 294 = .ok (.goto 4, 3) := by decide +kernel
theorem dL_hall_297 : decode cL_hall 297 = .ok (.iconst 0, 1) := by decide +kernel
theorem dL_hall_298 : decode cL_hall 298 = .ok (.istore 6, 2) := by decide +kernel
theorem dL_hall_300 : decode cL_hall 300 = .ok (.goto 175, 3) := by decide +kernel
theorem dL_hall_303 : decode cL_hall 303 = .ok (.iload 10, 2) := by decide +kernel
theorem dL_hall_305 : decode cL_hall 305 = .ok (.iconst 1, 1) := by decide +kernel
theorem dL_hall_306 : decode cL_hall 306 = .ok (.if_icmp .ne 46, 3) := by decide +kernel
theorem dL_hall_309 : decode cL_hall 309 = .ok (.aload_n 2, 1) := by decide +kernel
theorem dL_hall_310 : decode cL_hall 310 = .ok (.iload 8, 2) := by decide +kernel
theorem dL_hall_312 : decode cL_hall 312 = .ok (.aload_n 3, 1) := by decide +kernel
theorem dL_hall_313 : decode cL_hall 313 = .ok (.invokestatic 127, 3) := by decide +kernel
theorem dL_hall_316 : decode cL_hall 316 = .ok (.ifCond .eq 30, 3) := by decide +kernel
theorem dL_hall_319 : decode cL_hall 319 = .ok (.iload 7, 2) := by decide +kernel
theorem dL_hall_321 : decode cL_hall 321 = .ok (.bipush 8, 2) := by decide +kernel
theorem dL_hall_323 : decode cL_hall 323 = .ok (.irem, 1) := by decide +kernel
theorem dL_hall_324 : decode cL_hall 324 = .ok (.iconst 1, 1) := by decide +kernel
theorem dL_hall_325 : decode cL_hall 325 = .ok (.if_icmp .gt 17, 3) := by decide +kernel
theorem dL_hall_328 : decode cL_hall 328 = .ok (.aload_n 2, 1) := by decide +kernel
theorem dL_hall_329 : decode cL_hall 329 = .ok (.iload 9, 2) := by decide +kernel
theorem dL_hall_331 : decode cL_hall 331 = .ok (.sipush 1001, 3) := by decide +kernel
theorem dL_hall_334 : decode cL_hall 334 = .ok (.irem, 1) := by decide +kernel
theorem dL_hall_335 : decode cL_hall 335 = .ok (.aload_n 3, 1) := by decide +kernel
theorem dL_hall_336 : decode cL_hall 336 = .ok (.invokestatic 130, 3) := by decide +kernel
theorem dL_hall_339 : decode cL_hall 339 = .ok (.ifCond .eq 7, 3) := by decide +kernel
theorem dL_hall_342 : decode cL_hall 342 = .ok (.iconst 1, 1) := by decide +kernel
theorem dL_hall_343 : decode cL_hall 343 = .ok (.goto 4, 3) := by decide +kernel
theorem dL_hall_346 : decode cL_hall 346 = .ok (.iconst 0, 1) := by decide +kernel
theorem dL_hall_347 : decode cL_hall 347 = .ok (.istore 6, 2) := by decide +kernel
theorem dL_hall_349 : decode cL_hall 349 = .ok (.goto 126, 3) := by decide +kernel
theorem dL_hall_352 : decode cL_hall 352 = .ok (.iload 10, 2) := by decide +kernel
theorem dL_hall_354 : decode cL_hall 354 = .ok (.iconst 2, 1) := by decide +kernel
theorem dL_hall_355 : decode cL_hall 355 = .ok (.if_icmp .ne 95, 3) := by decide +kernel
theorem dL_hall_358 : decode cL_hall 358 = .ok (.aload_n 2, 1) := by decide +kernel
theorem dL_hall_359 : decode cL_hall 359 = .ok (.iload 9, 2) := by decide +kernel
theorem dL_hall_361 : decode cL_hall 361 = .ok (.ldc 66, 2) := by decide +kernel
theorem dL_hall_363 : decode cL_hall 363 = .ok (.irem, 1) := by decide +kernel
theorem dL_hall_364 : decode cL_hall 364 = .ok (.aload_n 3, 1) := by decide +kernel
theorem dL_hall_365 : decode cL_hall 365 = .ok (.aload 4, 2) := by decide +kernel
theorem dL_hall_367 : decode cL_hall 367 = .ok (.invokestatic 133, 3) := by decide +kernel
theorem dL_hall_370 : decode cL_hall 370 = .ok (.ifCond .eq 74, 3) := by decide +kernel
theorem dL_hall_373 : decode cL_hall 373 = .ok (.aload_n 2, 1) := by decide +kernel
theorem dL_hall_374 : decode cL_hall 374 = .ok (.iload 8, 2) := by decide +kernel
theorem dL_hall_376 : decode cL_hall 376 = .ok (.aload_n 3, 1) := by decide +kernel
theorem dL_hall_377 : decode cL_hall 377 = .ok (.iconst 0, 1) := by decide +kernel
theorem dL_hall_378 : decode cL_hall 378 = .ok (.iaload, 1) := by decide +kernel
theorem dL_hall_379 : decode cL_hall 379 = .ok (.irem, 1) := by decide +kernel
theorem dL_hall_380 : decode cL_hall 380 = .ok (.iload 9, 2) := by decide +kernel
theorem dL_hall_382 : decode cL_hall 382 = .ok (.ldc 66, 2) := by decide +kernel
theorem dL_hall_384 : decode cL_hall 384 = .ok (.irem, 1) := by decide +kernel
theorem dL_hall_385 : decode cL_hall 385 = .ok (.iload 8, 2) := by decide +kernel
theorem dL_hall_387 : decode cL_hall 387 = .ok (.bipush 6, 2) := by decide +kernel
theorem dL_hall_389 : decode cL_hall 389 = .ok (.idiv, 1) := by decide +kernel
theorem dL_hall_390 : decode cL_hall 390 = .ok (.bipush 40, 2) := by decide +kernel
theorem dL_hall_392 : decode cL_hall 392 = .ok (.irem, 1) := by decide +kernel
theorem dL_hall_393 : decode cL_hall 393 = .ok (.invokevirtual 137, 3) := by decide +kernel
theorem dL_hall_396 : decode cL_hall 396 = .ok (.aload 4, 2) := by decide +kernel
theorem dL_hall_398 : decode cL_hall 398 = .ok (.aload_n 3, 1) := by decide +kernel
theorem dL_hall_399 : decode cL_hall 399 = .ok (.iload 8, 2) := by decide +kernel
theorem dL_hall_401 : decode cL_hall 401 = .ok (.aload_n 3, 1) := by decide +kernel
theorem dL_hall_402 : decode cL_hall 402 = .ok (.iconst 0, 1) := by decide +kernel
theorem dL_hall_403 : decode cL_hall 403 = .ok (.iaload, 1) := by decide +kernel
theorem dL_hall_404 : decode cL_hall 404 = .ok (.irem, 1) := by decide +kernel
theorem dL_hall_405 : decode cL_hall 405 = .ok (.iload 9, 2) := by decide +kernel
theorem dL_hall_407 : decode cL_hall 407 = .ok (.ldc 66, 2) := by decide +kernel
theorem dL_hall_409 : decode cL_hall 409 = .ok (.irem, 1) := by decide +kernel
theorem dL_hall_410 : decode cL_hall 410 = .ok (.iload 8, 2) := by decide +kernel
theorem dL_hall_412 : decode cL_hall 412 = .ok (.bipush 6, 2) := by decide +kernel
theorem dL_hall_414 : decode cL_hall 414 = .ok (.idiv, 1) := by decide +kernel
theorem dL_hall_415 : decode cL_hall 415 = .ok (.bipush 40, 2) := by decide +kernel
theorem dL_hall_417 : decode cL_hall 417 = .ok (.irem, 1) := by decide +kernel
theorem dL_hall_418 : decode cL_hall 418 = .ok (.invokestatic 140, 3) := by decide +kernel
theorem dL_hall_421 : decode cL_hall 421 = .ok (.if_icmp .ne 23, 3) := by decide +kernel
theorem dL_hall_424 : decode cL_hall 424 = .ok (.aload_n 2, 1) := by decide +kernel
theorem dL_hall_425 : decode cL_hall 425 = .ok (.iload 8, 2) := by decide +kernel
theorem dL_hall_427 : decode cL_hall 427 = .ok (.iconst 3, 1) := by decide +kernel
theorem dL_hall_428 : decode cL_hall 428 = .ok (.idiv, 1) := by decide +kernel
theorem dL_hall_429 : decode cL_hall 429 = .ok (.aload_n 3, 1) := by decide +kernel
theorem dL_hall_430 : decode cL_hall 430 = .ok (.aload 4, 2) := by decide +kernel
theorem dL_hall_432 : decode cL_hall 432 = .ok (.aload 5, 2) := by decide +kernel
theorem dL_hall_434 : decode cL_hall 434 = .ok (.invokestatic 144, 3) := by decide +kernel
theorem dL_hall_437 : decode cL_hall 437 = .ok (.ifCond .eq 7, 3) := by decide +kernel
theorem dL_hall_440 : decode cL_hall 440 = .ok (.iconst 1, 1) := by decide +kernel
theorem dL_hall_441 : decode cL_hall 441 = .ok (.goto 4, 3) := by decide +kernel
theorem dL_hall_444 : decode cL_hall 444 = .ok (.iconst 0, 1) := by decide +kernel
theorem dL_hall_445 : decode cL_hall 445 = .ok (.istore 6, 2) := by decide +kernel
theorem dL_hall_447 : decode cL_hall 447 = .ok (.goto 28, 3) := by decide +kernel
theorem dL_hall_450 : decode cL_hall 450 = .ok (.aload_n 2, 1) := by decide +kernel
theorem dL_hall_451 : decode cL_hall 451 = .ok (.aload_n 3, 1) := by decide +kernel
theorem dL_hall_452 : decode cL_hall 452 = .ok (.invokestatic 148, 3) := by decide +kernel
theorem dL_hall_455 : decode cL_hall 455 = .ok (.ifCond .eq 17, 3) := by decide +kernel
theorem dL_hall_458 : decode cL_hall 458 = .ok (.aload_n 2, 1) := by decide +kernel
theorem dL_hall_459 : decode cL_hall 459 = .ok (.aload_n 3, 1) := by decide +kernel
theorem dL_hall_460 : decode cL_hall 460 = .ok (.aload 5, 2) := by decide +kernel
theorem dL_hall_462 : decode cL_hall 462 = .ok (.invokestatic 152, 3) := by decide +kernel
theorem dL_hall_465 : decode cL_hall 465 = .ok (.ifCond .eq 7, 3) := by decide +kernel
theorem dL_hall_468 : decode cL_hall 468 = .ok (.iconst 1, 1) := by decide +kernel
theorem dL_hall_469 : decode cL_hall 469 = .ok (.goto 4, 3) := by decide +kernel
theorem dL_hall_472 : decode cL_hall 472 = .ok (.iconst 0, 1) := by decide +kernel
theorem dL_hall_473 : decode cL_hall 473 = .ok (.istore 6, 2) := by decide +kernel
theorem dL_hall_475 : decode cL_hall 475 = .ok (.iinc 7 1, 3) := by decide +kernel
theorem dL_hall_478 : decode cL_hall 478 = .ok (.goto (-288), 3) := by decide +kernel
theorem dL_hall_481 : decode cL_hall 481 = .ok (.iload 6, 2) := by decide +kernel
theorem dL_hall_483 : decode cL_hall 483 = .ok (.ireturn, 1) := by decide +kernel
theorem dL_law_0 : decode cL_law 0 = .ok (.aload_n 0, 1) := by decide +kernel
theorem dL_law_1 : decode cL_law 1 = .ok (.iconst 0, 1) := by decide +kernel
theorem dL_law_2 : decode cL_law 2 = .ok (.invokestatic 156, 3) := by decide +kernel
theorem dL_law_5 : decode cL_law 5 = .ok (.ifCond .eq 35, 3) := by decide +kernel
theorem dL_law_8 : decode cL_law 8 = .ok (.aload_n 0, 1) := by decide +kernel
theorem dL_law_9 : decode cL_law 9 = .ok (.bipush 57, 2) := by decide +kernel
theorem dL_law_11 : decode cL_law 11 = .ok (.invokestatic 156, 3) := by decide +kernel
theorem dL_law_14 : decode cL_law 14 = .ok (.ifCond .eq 26, 3) := by decide +kernel
theorem dL_law_17 : decode cL_law 17 = .ok (.aload_n 0, 1) := by decide +kernel
theorem dL_law_18 : decode cL_law 18 = .ok (.bipush 114, 2) := by decide +kernel
theorem dL_law_20 : decode cL_law 20 = .ok (.invokestatic 156, 3) := by decide +kernel
theorem dL_law_23 : decode cL_law 23 = .ok (.ifCond .eq 17, 3) := by decide +kernel
theorem dL_law_26 : decode cL_law 26 = .ok (.aload_n 0, 1) := by decide +kernel
theorem dL_law_27 : decode cL_law 27 = .ok (.sipush 171, 3) := by decide +kernel
theorem dL_law_30 : decode cL_law 30 = .ok (.invokestatic 156, 3) := by decide +kernel
theorem dL_law_33 : decode cL_law 33 = .ok (.ifCond .eq 7, 3) := by decide +kernel
theorem dL_law_36 : decode cL_law 36 = .ok (.iconst 1, 1) := by decide +kernel
theorem dL_law_37 : decode cL_law 37 = .ok (.goto 4, 3) := by decide +kernel
theorem dL_law_40 : decode cL_law 40 = .ok (.iconst 0, 1) := by decide +kernel
theorem dL_law_41 : decode cL_law 41 = .ok (.ireturn, 1) := by decide +kernel
