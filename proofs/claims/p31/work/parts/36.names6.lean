theorem dL_areRests_420 : decode cL_areRests 420 = .ok (.ifCond .gt 42, 3) := by decide +kernel
theorem dL_areRests_423 : decode cL_areRests 423 = .ok (.aload_n 0, 1) := by decide +kernel
theorem dL_areRests_424 : decode cL_areRests 424 = .ok (.iload 8, 2) := by decide +kernel
theorem dL_areRests_426 : decode cL_areRests 426 = .ok (.invokevirtual 62, 3) := by decide +kernel
theorem dL_areRests_429 : decode cL_areRests 429 = .ok (.fconst 0, 1) := by decide +kernel
theorem dL_areRests_430 : decode cL_areRests 430 = .ok (.fcmp .l, 1) := by decide +kernel
theorem dL_areRests_431 : decode cL_areRests 431 = .ok (.ifCond .le 7, 3) := by decide +kernel
theorem dL_areRests_434 : decode cL_areRests 434 = .ok (.iconst 1, 1) := by decide +kernel
theorem dL_areRests_435 : decode cL_areRests 435 = .ok (.goto 4, 3) := by decide +kernel
theorem dL_areRests_438 : decode cL_areRests 438 = .ok (.iconst 0, 1) := by decide +kernel
theorem dL_areRests_439 : decode cL_areRests 439 = .ok (.aload_n 0, 1) := by decide +kernel
theorem dL_areRests_440 : decode cL_areRests 440 = .ok (.iload 8, 2) := by decide +kernel
theorem dL_areRests_442 : decode cL_areRests 442 = .ok (.invokevirtual 52, 3) := by decide +kernel
theorem dL_areRests_445 : decode cL_areRests 445 = .ok (.lconst 0, 1) := by decide +kernel
theorem dL_areRests_446 : decode cL_areRests 446 = .ok (.lcmp, 1) := by decide +kernel
theorem dL_areRests_447 : decode cL_areRests 447 = .ok (.ifCond .le 7, 3) := by decide +kernel
theorem dL_areRests_450 : decode cL_areRests 450 = .ok (.iconst 1, 1) := by decide +kernel
theorem dL_areRests_451 : decode cL_areRests 451 = .ok (.goto 4, 3) := by decide +kernel
theorem dL_areRests_454 : decode cL_areRests 454 = .ok (.iconst 0, 1) := by decide +kernel
theorem dL_areRests_455 : decode cL_areRests 455 = .ok (.if_icmp .ne 7, 3) := by decide +kernel
theorem dL_areRests_458 : decode cL_areRests 458 = .ok (.iconst 1, 1) := by decide +kernel
theorem dL_areRests_459 : decode cL_areRests 459 = .ok (.goto 4, 3) := by decide +kernel
theorem dL_areRests_462 : decode cL_areRests 462 = .ok (.iconst 0, 1) := by decide +kernel
theorem dL_areRests_463 : decode cL_areRests 463 = .ok (.istore 5, 2) := by decide +kernel
theorem dL_areRests_465 : decode cL_areRests 465 = .ok (.iinc 7 1, 3) := by decide +kernel
theorem dL_areRests_468 : decode cL_areRests 468 = .ok (.goto (-170), 3) := by decide +kernel
theorem dL_areRests_471 : decode cL_areRests 471 = .ok (.iload 5, 2) := by decide +kernel
theorem dL_areRests_473 : decode cL_areRests 473 = .ok (.ifCond .eq 30, 3) := by decide +kernel
theorem dL_areRests_476 : decode cL_areRests 476 = .ok (.iload 6, 2) := by decide +kernel
theorem dL_areRests_478 : decode cL_areRests 478 = .ok (.iconst 1, 1) := by decide +kernel
theorem dL_areRests_479 : decode cL_areRests 479 = .ok (.aload_n 1, 1) := by decide +kernel
theorem dL_areRests_480 : decode cL_areRests 480 = .ok (.iconst 0, 1) := by decide +kernel
theorem dL_areRests_481 : decode cL_areRests 481 = .ok (.iaload, 1) := by decide +kernel
theorem dL_areRests_482 : decode cL_areRests 482 = .ok (.ishl, 1) := by decide +kernel
theorem dL_areRests_483 : decode cL_areRests 483 = .ok (.iconst 1, 1) := by decide +kernel
theorem dL_areRests_484 : decode cL_areRests 484 = .ok (.isub, 1) := by decide +kernel
theorem dL_areRests_485 : decode cL_areRests 485 = .ok (.if_icmp .ne 18, 3) := by decide +kernel
theorem dL_areRests_488 : decode cL_areRests 488 = .ok (.aload_n 0, 1) := by decide +kernel
theorem dL_areRests_489 : decode cL_areRests 489 = .ok (.aload_n 1, 1) := by decide +kernel
theorem dL_areRests_490 : decode cL_areRests 490 = .ok (.iconst 0, 1) := by decide +kernel
theorem dL_areRests_491 : decode cL_areRests 491 = .ok (.iaload, 1) := by decide +kernel
theorem dL_areRests_492 : decode cL_areRests 492 = .ok (.invokevirtual 59, 3) := by decide +kernel
theorem dL_areRests_495 : decode cL_areRests 495 = .ok (.iconst (-1), 1) := by decide +kernel
theorem dL_areRests_496 : decode cL_areRests 496 = .ok (.if_icmp .ne 7, 3) := by decide +kernel
theorem dL_areRests_499 : decode cL_areRests 499 = .ok (.iconst 1, 1) := by decide +kernel
theorem dL_areRests_500 : decode cL_areRests 500 = .ok (.goto 4, 3) := by decide +kernel
theorem dL_areRests_503 : decode cL_areRests 503 = .ok (.iconst 0, 1) := by decide +kernel
theorem dL_areRests_504 : decode cL_areRests 504 = .ok (.ireturn, 1) := by decide +kernel
theorem dL_walked_0 : decode cL_walked 0 = .ok (.iload_n 2, 1) := by decide +kernel
theorem dL_walked_1 : decode cL_walked 1 = .ok (.istore 5, 2) := by decide +kernel
theorem dL_walked_3 : decode cL_walked 3 = .ok (.iload_n 3, 1) := by decide +kernel
theorem dL_walked_4 : decode cL_walked 4 = .ok (.istore 6, 2) := by decide +kernel
theorem dL_walked_6 : decode cL_walked 6 = .ok (.iconst 0, 1) := by decide +kernel
theorem dL_walked_7 : decode cL_walked 7 = .ok (.istore 7, 2) := by decide +kernel
theorem dL_walked_9 : decode cL_walked 9 = .ok (.iload 7, 2) := by decide +kernel
theorem dL_walked_11 : decode cL_walked 11 = .ok (.iload 4, 2) := by decide +kernel
theorem dL_walked_13 : decode cL_walked 13 = .ok (.if_icmp .ge 40, 3) := by decide +kernel
theorem dL_walked_16 : decode cL_walked 16 = .ok (.sipush 7919, 3) := by decide +kernel
theorem dL_walked_19 : decode cL_walked 19 = .ok (.iload 6, 2) := by decide +kernel
theorem dL_walked_21 : decode cL_walked 21 = .ok (.imul, 1) := by decide +kernel
theorem dL_walked_22 : decode cL_walked 22 = .ok (.sipush 12345, 3) := by decide +kernel
theorem dL_walked_25 : decode cL_walked 25 = .ok (.iadd, 1) := by decide +kernel
theorem dL_walked_26 : decode cL_walked 26 = .ok (.ldc 66, 2) := by decide +kernel
theorem dL_walked_28 : decode cL_walked 28 = .ok (.irem, 1) := by decide +kernel
theorem dL_walked_29 : decode cL_walked 29 = .ok (.istore 6, 2) := by decide +kernel
theorem dL_walked_31 : decode cL_walked 31 = .ok (.aload_n 0, 1) := by decide +kernel
theorem dL_walked_32 : decode cL_walked 32 = .ok (.bipush 10, 2) := by decide +kernel
theorem dL_walked_34 : decode cL_walked 34 = .ok (.iload 5, 2) := by decide +kernel
theorem dL_walked_36 : decode cL_walked 36 = .ok (.imul, 1) := by decide +kernel
theorem dL_walked_37 : decode cL_walked 37 = .ok (.iload 6, 2) := by decide +kernel
theorem dL_walked_39 : decode cL_walked 39 = .ok (.aload_n 1, 1) := by decide +kernel
theorem dL_walked_40 : decode cL_walked 40 = .ok (.iconst 1, 1) := by decide +kernel
theorem dL_walked_41 : decode cL_walked 41 = .ok (.iaload, 1) := by decide +kernel
theorem dL_walked_42 : decode cL_walked 42 = .ok (.irem, 1) := by decide +kernel
theorem dL_walked_43 : decode cL_walked 43 = .ok (.iadd, 1) := by decide +kernel
theorem dL_walked_44 : decode cL_walked 44 = .ok (.iaload, 1) := by decide +kernel
theorem dL_walked_45 : decode cL_walked 45 = .ok (.istore 5, 2) := by decide +kernel
theorem dL_walked_47 : decode cL_walked 47 = .ok (.iinc 7 1, 3) := by decide +kernel
theorem dL_walked_50 : decode cL_walked 50 = .ok (.goto (-41), 3) := by decide +kernel
theorem dL_walked_53 : decode cL_walked 53 = .ok (.iload 5, 2) := by decide +kernel
theorem dL_walked_55 : decode cL_walked 55 = .ok (.ireturn, 1) := by decide +kernel
set_option maxRecDepth 20000 in
theorem ggL_isDraw_X8_draw : GoodIn wsL_isDraw wsX8_draw := goodIn_ca (goodIn_r _ [7, 8, 9, 10, 11, 6, 12, 13, 14, 15, 16, 17, 18, 19, 20, 21, 22, 23, 24, 25, 26, 27, 28, 29, 30, 31, 32, 33, 34, 35, 36, 37, 38, 39, 40, 41, 42, 43, 44, 45, 46, 47, 48, 49, 50, 51, 52, 53, 54, 55, 56, 57, 58, 59, 60] (by decide +kernel) (by decide +kernel)) (goodIn_sub (fun _ h => List.mem_cons_of_mem _ (List.mem_append_right _ h)) (by decide +kernel))
set_option maxRecDepth 20000 in
theorem gL_isDraw_X8_draw : GoodIn wsL_isDraw (wsV RL 67 RX8 yX8_draw wsX8_draw) := goodIn_app (goodIn_of _ (by decide +kernel)) ggL_isDraw_X8_draw
theorem dL_isDraw_0 : decode cL_isDraw 0 = .ok (.aload_n 0, 1) := by decide +kernel
theorem dL_isDraw_1 : decode cL_isDraw 1 = .ok (.iload_n 1, 1) := by decide +kernel
theorem dL_isDraw_2 : decode cL_isDraw 2 = .ok (.invokevirtual 67, 3) := by decide +kernel
theorem dL_isDraw_5 : decode cL_isDraw 5 = .ok (.istore 4, 2) := by decide +kernel
theorem dL_isDraw_7 : decode cL_isDraw 7 = .ok (.bipush 64, 2) := by decide +kernel
theorem dL_isDraw_9 : decode cL_isDraw 9 = .ok (.newarray .int, 2) := by decide +kernel
theorem dL_isDraw_11 : decode cL_isDraw 11 = .ok (.astore 5, 2) := by decide +kernel
theorem dL_isDraw_13 : decode cL_isDraw 13 = .ok (.iload 4, 2) := by decide +kernel
theorem dL_isDraw_15 : decode cL_isDraw 15 = .ok (.ifCond .ge 8, 3) := by decide +kernel
theorem dL_isDraw_18 : decode cL_isDraw 18 = .ok (.bipush 60, 2) := by decide +kernel
theorem dL_isDraw_20 : decode cL_isDraw 20 = .ok (.goto 8, 3) := by decide +kernel
theorem dL_isDraw_23 : decode cL_isDraw 23 = .ok (.iload 4, 2) := by decide +kernel
theorem dL_isDraw_25 : decode cL_isDraw 25 = .ok (.bipush 6, 2) := by decide +kernel
theorem dL_isDraw_27 : decode cL_isDraw 27 = .ok (.idiv, 1) := by decide +kernel
theorem dL_isDraw_28 : decode cL_isDraw 28 = .ok (.istore 6, 2) := by decide +kernel
theorem dL_isDraw_30 : decode cL_isDraw 30 = .ok (.iload_n 1, 1) := by decide +kernel
theorem dL_isDraw_31 : decode cL_isDraw 31 = .ok (.istore 7, 2) := by decide +kernel
theorem dL_isDraw_33 : decode cL_isDraw 33 = .ok (.iload 6, 2) := by decide +kernel
theorem dL_isDraw_35 : decode cL_isDraw 35 = .ok (.bipush 60, 2) := by decide +kernel
theorem dL_isDraw_37 : decode cL_isDraw 37 = .ok (.if_icmp .le 17, 3) := by decide +kernel
theorem dL_isDraw_40 : decode cL_isDraw 40 = .ok (.iload 6, 2) := by decide +kernel
theorem dL_isDraw_42 : decode cL_isDraw 42 = .ok (.sipush 200, 3) := by decide +kernel
theorem dL_isDraw_45 : decode cL_isDraw 45 = .ok (.if_icmp .gt 7, 3) := by decide +kernel
theorem dL_isDraw_48 : decode cL_isDraw 48 = .ok (.iconst 1, 1) := by decide +kernel
theorem dL_isDraw_49 : decode cL_isDraw 49 = .ok (.goto 4, 3) := by decide +kernel
theorem dL_isDraw_52 : decode cL_isDraw 52 = .ok (.iconst 0, 1) := by decide +kernel
theorem dL_isDraw_53 : decode cL_isDraw 53 = .ok (.ireturn, 1) := by decide +kernel
theorem dL_isDraw_54 : decode cL_isDraw 54 = .ok (.iconst 0, 1) := by decide +kernel
theorem dL_isDraw_55 : decode cL_isDraw 55 = .ok (.istore 8, 2) := by decide +kernel
theorem dL_isDraw_57 : decode cL_isDraw 57 = .ok (.iload 8, 2) := by decide +kernel
theorem dL_isDraw_59 : decode cL_isDraw 59 = .ok (.iload 6, 2) := by decide +kernel
theorem dL_isDraw_61 : decode cL_isDraw 61 = .ok (.if_icmp .ge 35, 3) := by decide +kernel
theorem dL_isDraw_64 : decode cL_isDraw 64 = .ok (.sipush 7919, 3) := by decide +kernel
theorem dL_isDraw_67 : decode cL_isDraw 67 = .ok (.iload 7, 2) := by decide +kernel
theorem dL_isDraw_69 : decode cL_isDraw 69 = .ok (.imul, 1) := by decide +kernel
theorem dL_isDraw_70 : decode cL_isDraw 70 = .ok (.sipush 12345, 3) := by decide +kernel
theorem dL_isDraw_73 : decode cL_isDraw 73 = .ok (.iadd, 1) := by decide +kernel
theorem dL_isDraw_74 : decode cL_isDraw 74 = .ok (.ldc 66, 2) := by decide +kernel
theorem dL_isDraw_76 : decode cL_isDraw 76 = .ok (.irem, 1) := by decide +kernel
theorem dL_isDraw_77 : decode cL_isDraw 77 = .ok (.istore 7, 2) := by decide +kernel
theorem dL_isDraw_79 : decode cL_isDraw 79 = .ok (.aload 5, 2) := by decide +kernel
theorem dL_isDraw_81 : decode cL_isDraw 81 = .ok (.iload 8, 2) := by decide +kernel
theorem dL_isDraw_83 : decode cL_isDraw 83 = .ok (.iload 7, 2) := by decide +kernel
theorem dL_isDraw_85 : decode cL_isDraw 85 = .ok (.aload_n 2, 1) := by decide +kernel
theorem dL_isDraw_86 : decode cL_isDraw 86 = .ok (.iconst 1, 1) := by decide +kernel
theorem dL_isDraw_87 : decode cL_isDraw 87 = .ok (.iaload, 1) := by decide +kernel
theorem dL_isDraw_88 : decode cL_isDraw 88 = .ok (.irem, 1) := by decide +kernel
theorem dL_isDraw_89 : decode cL_isDraw 89 = .ok (.iastore, 1) := by decide +kernel
theorem dL_isDraw_90 : decode cL_isDraw 90 = .ok (.iinc 8 1, 3) := by decide +kernel
theorem dL_isDraw_93 : decode cL_isDraw 93 = .ok (.goto (-36), 3) := by decide +kernel
theorem dL_isDraw_96 : decode cL_isDraw 96 = .ok (.iconst 0, 1) := by decide +kernel
theorem dL_isDraw_97 : decode cL_isDraw 97 = .ok (.istore 8, 2) := by decide +kernel
theorem dL_isDraw_99 : decode cL_isDraw 99 = .ok (.iconst 0, 1) := by decide +kernel
theorem dL_isDraw_100 : decode cL_isDraw 100 = .ok (.istore 9, 2) := by decide +kernel
theorem dL_isDraw_102 : decode cL_isDraw 102 = .ok (.iconst 0, 1) := by decide +kernel
theorem dL_isDraw_103 : decode cL_isDraw 103 = .ok (.istore 10, 2) := by decide +kernel
theorem dL_isDraw_105 : decode cL_isDraw 105 = .ok (.iload 10, 2) := by decide +kernel
theorem dL_isDraw_107 : decode cL_isDraw 107 = .ok (.aload_n 2, 1) := by decide +kernel
theorem dL_isDraw_108 : decode cL_isDraw 108 = .ok (.iconst 0, 1) := by decide +kernel
theorem dL_isDraw_109 : decode cL_isDraw 109 = .ok (.iaload, 1) := by decide +kernel
theorem dL_isDraw_110 : decode cL_isDraw 110 = .ok (.if_icmp .ge 96, 3) := by decide +kernel
theorem dL_isDraw_113 : decode cL_isDraw 113 = .ok (.iload 10, 2) := by decide +kernel
theorem dL_isDraw_115 : decode cL_isDraw 115 = .ok (.istore 11, 2) := by decide +kernel
theorem dL_isDraw_117 : decode cL_isDraw 117 = .ok (.iload 10, 2) := by decide +kernel
theorem dL_isDraw_119 : decode cL_isDraw 119 = .ok (.istore 12, 2) := by decide +kernel
theorem dL_isDraw_121 : decode cL_isDraw 121 = .ok (.iload 6, 2) := by decide +kernel
theorem dL_isDraw_123 : decode cL_isDraw 123 = .ok (.iconst 1, 1) := by decide +kernel
theorem dL_isDraw_124 : decode cL_isDraw 124 = .ok (.isub, 1) := by decide +kernel
theorem dL_isDraw_125 : decode cL_isDraw 125 = .ok (.istore 13, 2) := by decide +kernel
theorem dL_isDraw_127 : decode cL_isDraw 127 = .ok (.iload 13, 2) := by decide +kernel
theorem dL_isDraw_129 : decode cL_isDraw 129 = .ok (.ifCond .lt 53, 3) := by decide +kernel
theorem dL_isDraw_132 : decode cL_isDraw 132 = .ok (.aload_n 3, 1) := by decide +kernel
theorem dL_isDraw_133 : decode cL_isDraw 133 = .ok (.bipush 10, 2) := by decide +kernel
theorem dL_isDraw_135 : decode cL_isDraw 135 = .ok (.iload 11, 2) := by decide +kernel
theorem dL_isDraw_137 : decode cL_isDraw 137 = .ok (.imul, 1) := by decide +kernel
theorem dL_isDraw_138 : decode cL_isDraw 138 = .ok (.aload 5, 2) := by decide +kernel
theorem dL_isDraw_140 : decode cL_isDraw 140 = .ok (.iload 13, 2) := by decide +kernel
theorem dL_isDraw_142 : decode cL_isDraw 142 = .ok (.iaload, 1) := by decide +kernel
theorem dL_isDraw_143 : decode cL_isDraw 143 = .ok (.iadd, 1) := by decide +kernel
theorem dL_isDraw_144 : decode cL_isDraw 144 = .ok (.iaload, 1) := by decide +kernel
theorem dL_isDraw_145 : decode cL_isDraw 145 = .ok (.istore 11, 2) := by decide +kernel
theorem dL_isDraw_147 : decode cL_isDraw 147 = .ok (.iload 13, 2) := by decide +kernel
theorem dL_isDraw_149 : decode cL_isDraw 149 = .ok (.iload 6, 2) := by decide +kernel
theorem dL_isDraw_151 : decode cL_isDraw 151 = .ok (.iconst 1, 1) := by decide +kernel
theorem dL_isDraw_152 : decode cL_isDraw 152 = .ok (.isub, 1) := by decide +kernel
theorem dL_isDraw_153 : decode cL_isDraw 153 = .ok (.if_icmp .ge 19, 3) := by decide +kernel
theorem dL_isDraw_156 : decode cL_isDraw 156 = .ok (.aload_n 3, 1) := by decide +kernel
theorem dL_isDraw_157 : decode cL_isDraw 157 = .ok (.bipush 10, 2) := by decide +kernel
theorem dL_isDraw_159 : decode cL_isDraw 159 = .ok (.iload 12, 2) := by decide +kernel
theorem dL_isDraw_161 : decode cL_isDraw 161 = .ok (.imul, 1) := by decide +kernel
theorem dL_isDraw_162 : decode cL_isDraw 162 = .ok (.aload 5, 2) := by decide +kernel
theorem dL_isDraw_164 : decode cL_isDraw 164 = .ok (.iload 13, 2) := by decide +kernel
theorem dL_isDraw_166 : decode cL_isDraw 166 = .ok (.iaload, 1) := by decide +kernel
theorem dL_isDraw_167 : decode cL_isDraw 167 = .ok (.iadd, 1) := by decide +kernel
theorem dL_isDraw_168 : decode cL_isDraw 168 = .ok (.iaload, 1) := by decide +kernel
theorem dL_isDraw_169 : decode cL_isDraw 169 = .ok (.goto 5, 3) := by decide +kernel
theorem dL_isDraw_172 : decode cL_isDraw 172 = .ok (.iload 12, 2) := by decide +kernel
theorem dL_isDraw_174 : decode cL_isDraw 174 = .ok (.istore 12, 2) := by decide +kernel
theorem dL_isDraw_176 : decode cL_isDraw 176 = .ok (.iinc 13 (-1), 3) := by decide +kernel
theorem dL_isDraw_179 : decode cL_isDraw 179 = .ok (.goto (-52), 3) := by decide +kernel
theorem dL_isDraw_182 : decode cL_isDraw 182 = .ok (.iload 8, 2) := by decide +kernel
theorem dL_isDraw_184 : decode cL_isDraw 184 = .ok (.iconst 1, 1) := by decide +kernel
theorem dL_isDraw_185 : decode cL_isDraw 185 = .ok (.iload 11, 2) := by decide +kernel
theorem dL_isDraw_187 : decode cL_isDraw 187 = .ok (.ishl, 1) := by decide +kernel
theorem dL_isDraw_188 : decode cL_isDraw 188 = .ok (.ior, 1) := by decide +kernel
theorem dL_isDraw_189 : decode cL_isDraw 189 = .ok (.istore 8, 2) := by decide +kernel
theorem dL_isDraw_191 : decode cL_isDraw 191 = .ok (.iload 9, 2) := by decide +kernel
theorem dL_isDraw_193 : decode cL_isDraw 193 = .ok (.iconst 1, 1) := by decide +kernel
theorem dL_isDraw_194 : decode cL_isDraw 194 = .ok (.iload 12, 2) := by decide +kernel
theorem dL_isDraw_196 : decode cL_isDraw 196 = .ok (.ishl, 1) := by decide +kernel
theorem dL_isDraw_197 : decode cL_isDraw 197 = .ok (.ior, 1) := by decide +kernel
theorem dL_isDraw_198 : decode cL_isDraw 198 = .ok (.istore 9, 2) := by decide +kernel
theorem dL_isDraw_200 : decode cL_isDraw 200 = .ok (.iinc 10 1, 3) := by decide +kernel
theorem dL_isDraw_203 : decode cL_isDraw 203 = .ok (.goto (-98), 3) := by decide +kernel
theorem dL_isDraw_206 : decode cL_isDraw 206 = .ok (.iload 8, 2) := by decide +kernel
theorem dL_isDraw_208 : decode cL_isDraw 208 = .ok (.iload 8, 2) := by decide +kernel
theorem dL_isDraw_210 : decode cL_isDraw 210 = .ok (.iconst 1, 1) := by decide +kernel
theorem dL_isDraw_211 : decode cL_isDraw 211 = .ok (.isub, 1) := by decide +kernel
theorem dL_isDraw_212 : decode cL_isDraw 212 = .ok (.iand, 1) := by decide +kernel
theorem dL_isDraw_213 : decode cL_isDraw 213 = .ok (.ifCond .ne 7, 3) := by decide +kernel
theorem dL_isDraw_216 : decode cL_isDraw 216 = .ok (.iconst 1, 1) := by decide +kernel
theorem dL_isDraw_217 : decode cL_isDraw 217 = .ok (.goto 4, 3) := by decide +kernel
theorem dL_isDraw_220 : decode cL_isDraw 220 = .ok (.iconst 0, 1) := by decide +kernel
theorem dL_isDraw_221 : decode cL_isDraw 221 = .ok (.istore 10, 2) := by decide +kernel
theorem dL_isDraw_223 : decode cL_isDraw 223 = .ok (.iload 9, 2) := by decide +kernel
theorem dL_isDraw_225 : decode cL_isDraw 225 = .ok (.iload 9, 2) := by decide +kernel
theorem dL_isDraw_227 : decode cL_isDraw 227 = .ok (.iconst 1, 1) := by decide +kernel
theorem dL_isDraw_228 : decode cL_isDraw 228 = .ok (.isub, 1) := by decide +kernel
theorem dL_isDraw_229 : decode cL_isDraw 229 = .ok (.iand, 1) := by decide +kernel
theorem dL_isDraw_230 : decode cL_isDraw 230 = .ok (.ifCond .ne 7, 3) := by decide +kernel
theorem dL_isDraw_233 : decode cL_isDraw 233 = .ok (.iconst 1, 1) := by decide +kernel
theorem dL_isDraw_234 : decode cL_isDraw 234 = .ok (.goto 4, 3) := by decide +kernel
theorem dL_isDraw_237 : decode cL_isDraw 237 = .ok (.iconst 0, 1) := by decide +kernel
theorem dL_isDraw_238 : decode cL_isDraw 238 = .ok (.istore 11, 2) := by decide +kernel
theorem dL_isDraw_240 : decode cL_isDraw 240 = .ok (.iload 4, 2) := by decide +kernel
theorem dL_isDraw_242 : decode cL_isDraw 242 = .ok (.ifCond .ge 16, 3) := by decide +kernel
theorem dL_isDraw_245 : decode cL_isDraw 245 = .ok (.iload 10, 2) := by decide +kernel
theorem dL_isDraw_247 : decode cL_isDraw 247 = .ok (.ifCond .ne 7, 3) := by decide +kernel
theorem dL_isDraw_250 : decode cL_isDraw 250 = .ok (.iconst 1, 1) := by decide +kernel
theorem dL_isDraw_251 : decode cL_isDraw 251 = .ok (.goto 39, 3) := by decide +kernel
theorem dL_isDraw_254 : decode cL_isDraw 254 = .ok (.iconst 0, 1) := by decide +kernel
theorem dL_isDraw_255 : decode cL_isDraw 255 = .ok (.goto 35, 3) := by decide +kernel
theorem dL_isDraw_258 : decode cL_isDraw 258 = .ok (.iload 10, 2) := by decide +kernel
theorem dL_isDraw_260 : decode cL_isDraw 260 = .ok (.ifCond .eq 29, 3) := by decide +kernel
theorem dL_isDraw_263 : decode cL_isDraw 263 = .ok (.iload 8, 2) := by decide +kernel
theorem dL_isDraw_265 : decode cL_isDraw 265 = .ok (.iconst 1, 1) := by decide +kernel
theorem dL_isDraw_266 : decode cL_isDraw 266 = .ok (.iload 4, 2) := by decide +kernel
theorem dL_isDraw_268 : decode cL_isDraw 268 = .ok (.bipush 6, 2) := by decide +kernel
theorem dL_isDraw_270 : decode cL_isDraw 270 = .ok (.irem, 1) := by decide +kernel
theorem dL_isDraw_271 : decode cL_isDraw 271 = .ok (.ishl, 1) := by decide +kernel
theorem dL_isDraw_272 : decode cL_isDraw 272 = .ok (.if_icmp .ne 17, 3) := by decide +kernel
theorem dL_isDraw_275 : decode cL_isDraw 275 = .ok (.iload 6, 2) := by decide +kernel
theorem dL_isDraw_277 : decode cL_isDraw 277 = .ok (.ifCond .eq 8, 3) := by decide +kernel
theorem dL_isDraw_280 : decode cL_isDraw 280 = .ok (.iload 11, 2) := by decide +kernel
theorem dL_isDraw_282 : decode cL_isDraw 282 = .ok (.ifCond .ne 7, 3) := by decide +kernel
theorem dL_isDraw_285 : decode cL_isDraw 285 = .ok (.iconst 1, 1) := by decide +kernel
theorem dL_isDraw_286 : decode cL_isDraw 286 = .ok (.goto 4, 3) := by decide +kernel
theorem dL_isDraw_289 : decode cL_isDraw 289 = .ok (.iconst 0, 1) := by decide +kernel
theorem dL_isDraw_290 : decode cL_isDraw 290 = .ok (.ireturn, 1) := by decide +kernel
set_option maxRecDepth 20000 in
theorem ggL_areGames_X8_best : GoodIn wsL_areGames wsX8_best := goodIn_ca (goodIn_ca (goodIn_r _ [6, 7, 8, 9, 10, 5, 11, 12, 13, 14, 15, 16, 17, 18, 19, 20, 21, 22, 23, 24, 25, 26, 27, 28, 29, 30, 31, 32, 33, 34, 35, 36, 37, 38, 39, 40, 41, 42, 43, 44, 45, 46, 47, 48, 49, 50, 51, 52, 53, 54, 55, 56, 57, 85, 86, 87, 88, 89, 90, 91, 92, 93, 94, 95, 96, 97, 98, 99] (by decide +kernel) (by decide +kernel)) (goodIn_sub (fun _ h => List.mem_cons_of_mem _ (List.mem_append_left _ (List.mem_append_right _ h))) (by decide +kernel))) (goodIn_sub (fun _ h => List.mem_cons_of_mem _ (List.mem_append_right _ h)) (by decide +kernel))
set_option maxRecDepth 20000 in
theorem gL_areGames_X8_best : GoodIn wsL_areGames (wsV RL 72 RX8 yX8_best wsX8_best) := goodIn_app (goodIn_of _ (by decide +kernel)) ggL_areGames_X8_best
set_option maxRecDepth 20000 in
theorem ggL_areGames_X8_drift : GoodIn wsL_areGames wsX8_drift := goodIn_ca (goodIn_r _ [61, 7, 8, 9, 10, 5, 11, 12, 13, 14, 15, 62, 63, 64, 24, 65, 31, 32, 66, 41, 67, 85, 86, 87, 88, 89, 90, 91, 92, 93, 94, 95, 96, 97, 98, 99] (by decide +kernel) (by decide +kernel)) (goodIn_sub (fun _ h => List.mem_cons_of_mem _ (List.mem_append_left _ (List.mem_append_right _ h))) (by decide +kernel))
set_option maxRecDepth 20000 in
theorem gL_areGames_X8_drift : GoodIn wsL_areGames (wsV RL 75 RX8 yX8_drift wsX8_drift) := goodIn_app (goodIn_of _ (by decide +kernel)) ggL_areGames_X8_drift
set_option maxRecDepth 20000 in
theorem ggL_areGames_X8_words : GoodIn wsL_areGames wsX8_words := goodIn_ca (goodIn_r _ [71, 14, 16, 17, 5, 18, 19, 20, 72, 43, 44, 45, 46, 47, 85, 86, 87, 88, 89, 90, 91, 92, 93, 94, 95, 96] (by decide +kernel) (by decide +kernel)) (goodIn_sub (fun _ h => List.mem_cons_of_mem _ (List.mem_append_right _ h)) (by decide +kernel))
set_option maxRecDepth 20000 in
theorem gL_areGames_X8_words : GoodIn wsL_areGames (wsV RL 23 RX8 yX8_words wsX8_words) := goodIn_app (goodIn_of _ (by decide +kernel)) ggL_areGames_X8_words
set_option maxRecDepth 20000 in
theorem ggL_areGames_X8_stops : GoodIn wsL_areGames wsX8_stops := goodIn_ca (goodIn_ca (goodIn_r _ [76, 7, 8, 9, 10, 5, 11, 12, 13, 14, 15, 16, 17, 18, 19, 20, 77, 78, 79, 24, 80, 27, 28, 29, 30, 31, 32, 26, 33, 34, 35, 36, 37, 38, 39, 40, 41, 42, 43, 44, 45, 46, 47, 48, 49, 50, 51, 52, 53, 54, 55, 56, 57, 85, 86, 87, 88, 89, 90, 91, 92, 93, 94, 95, 96, 97, 98, 99] (by decide +kernel) (by decide +kernel)) (goodIn_sub (fun _ h => List.mem_cons_of_mem _ (List.mem_append_left _ (List.mem_append_right _ h))) (by decide +kernel))) (goodIn_sub (fun _ h => List.mem_cons_of_mem _ (List.mem_append_right _ h)) (by decide +kernel))
set_option maxRecDepth 20000 in
theorem gL_areGames_X8_stops : GoodIn wsL_areGames (wsV RL 78 RX8 yX8_stops wsX8_stops) := goodIn_app (goodIn_of _ (by decide +kernel)) ggL_areGames_X8_stops
set_option maxRecDepth 20000 in
theorem ggL_areGames_X8_isFair : GoodIn wsL_areGames wsX8_isFair := goodIn_r _ [84, 14, 15, 7, 62, 63, 64, 24, 65, 31, 32, 66, 41, 67, 85, 86, 87, 88, 89, 90, 91, 92, 93, 94, 95, 96, 97, 98, 99] (by decide +kernel) (by decide +kernel)
set_option maxRecDepth 20000 in
theorem gL_areGames_X8_isFair : GoodIn wsL_areGames (wsV RL 82 RX8 yX8_isFair wsX8_isFair) := goodIn_app (goodIn_of _ (by decide +kernel)) ggL_areGames_X8_isFair
theorem dL_areGames_0 : decode cL_areGames 0 = .ok (.iload_n 1, 1) := by decide +kernel
theorem dL_areGames_1 : decode cL_areGames 1 = .ok (.aload_n 2, 1) := by decide +kernel
theorem dL_areGames_2 : decode cL_areGames 2 = .ok (.iconst 0, 1) := by decide +kernel
theorem dL_areGames_3 : decode cL_areGames 3 = .ok (.iaload, 1) := by decide +kernel
theorem dL_areGames_4 : decode cL_areGames 4 = .ok (.irem, 1) := by decide +kernel
theorem dL_areGames_5 : decode cL_areGames 5 = .ok (.istore 5, 2) := by decide +kernel
theorem dL_areGames_7 : decode cL_areGames 7 = .ok (.iload_n 1, 1) := by decide +kernel
theorem dL_areGames_8 : decode cL_areGames 8 = .ok (.bipush 6, 2) := by decide +kernel
theorem dL_areGames_10 : decode cL_areGames 10 = .ok (.idiv, 1) := by decide +kernel
theorem dL_areGames_11 : decode cL_areGames 11 = .ok (.bipush 12, 2) := by decide +kernel
theorem dL_areGames_13 : decode cL_areGames 13 = .ok (.irem, 1) := by decide +kernel
theorem dL_areGames_14 : decode cL_areGames 14 = .ok (.istore 6, 2) := by decide +kernel
theorem dL_areGames_16 : decode cL_areGames 16 = .ok (.lconst 0, 1) := by decide +kernel
theorem dL_areGames_17 : decode cL_areGames 17 = .ok (.lstore 7, 2) := by decide +kernel
theorem dL_areGames_19 : decode cL_areGames 19 = .ok (.ldc2_w 70, 3) := by decide +kernel
theorem dL_areGames_22 : decode cL_areGames 22 = .ok (.lstore 9, 2) := by decide +kernel
theorem dL_areGames_24 : decode cL_areGames 24 = .ok (.iconst 1, 1) := by decide +kernel
theorem dL_areGames_25 : decode cL_areGames 25 = .ok (.istore 11, 2) := by decide +kernel
theorem dL_areGames_27 : decode cL_areGames 27 = .ok (.iconst 0, 1) := by decide +kernel
theorem dL_areGames_28 : decode cL_areGames 28 = .ok (.istore 12, 2) := by decide +kernel
theorem dL_areGames_30 : decode cL_areGames 30 = .ok (.iload 12, 2) := by decide +kernel
theorem dL_areGames_32 : decode cL_areGames 32 = .ok (.aload_n 2, 1) := by decide +kernel
theorem dL_areGames_33 : decode cL_areGames 33 = .ok (.iconst 1, 1) := by decide +kernel
theorem dL_areGames_34 : decode cL_areGames 34 = .ok (.iaload, 1) := by decide +kernel
theorem dL_areGames_35 : decode cL_areGames 35 = .ok (.if_icmp .ge 30, 3) := by decide +kernel
theorem dL_areGames_38 : decode cL_areGames 38 = .ok (.lload 7, 2) := by decide +kernel
theorem dL_areGames_40 : decode cL_areGames 40 = .ok (.aload_n 0, 1) := by decide +kernel
theorem dL_areGames_41 : decode cL_areGames 41 = .ok (.aload_n 3, 1) := by decide +kernel
theorem dL_areGames_42 : decode cL_areGames 42 = .ok (.bipush 10, 2) := by decide +kernel
theorem dL_areGames_44 : decode cL_areGames 44 = .ok (.iload 5, 2) := by decide +kernel
theorem dL_areGames_46 : decode cL_areGames 46 = .ok (.imul, 1) := by decide +kernel
theorem dL_areGames_47 : decode cL_areGames 47 = .ok (.iload 12, 2) := by decide +kernel
theorem dL_areGames_49 : decode cL_areGames 49 = .ok (.iadd, 1) := by decide +kernel
theorem dL_areGames_50 : decode cL_areGames 50 = .ok (.iaload, 1) := by decide +kernel
theorem dL_areGames_51 : decode cL_areGames 51 = .ok (.iload 6, 2) := by decide +kernel
theorem dL_areGames_53 : decode cL_areGames 53 = .ok (.invokevirtual 72, 3) := by decide +kernel
theorem dL_areGames_56 : decode cL_areGames 56 = .ok (.ladd, 1) := by decide +kernel
theorem dL_areGames_57 : decode cL_areGames 57 = .ok (.lstore 7, 2) := by decide +kernel
theorem dL_areGames_59 : decode cL_areGames 59 = .ok (.iinc 12 1, 3) := by decide +kernel
theorem dL_areGames_62 : decode cL_areGames 62 = .ok (.goto (-32), 3) := by decide +kernel
theorem dL_areGames_65 : decode cL_areGames 65 = .ok (.iconst 0, 1) := by decide +kernel
theorem dL_areGames_66 : decode cL_areGames 66 = .ok (.istore 12, 2) := by decide +kernel
theorem dL_areGames_68 : decode cL_areGames 68 = .ok (.iload 12, 2) := by decide +kernel
theorem dL_areGames_70 : decode cL_areGames 70 = .ok (.aload_n 2, 1) := by decide +kernel
theorem dL_areGames_71 : decode cL_areGames 71 = .ok (.iconst 0, 1) := by decide +kernel
theorem dL_areGames_72 : decode cL_areGames 72 = .ok (.iaload, 1) := by decide +kernel
theorem dL_areGames_73 : decode cL_areGames 73 = .ok (.if_icmp .ge 112, 3) := by decide +kernel
theorem dL_areGames_76 : decode cL_areGames 76 = .ok (.lconst 0, 1) := by decide +kernel
theorem dL_areGames_77 : decode cL_areGames 77 = .ok (.lstore 13, 2) := by decide +kernel
theorem dL_areGames_79 : decode cL_areGames 79 = .ok (.iconst 0, 1) := by decide +kernel
theorem dL_areGames_80 : decode cL_areGames 80 = .ok (.istore 15, 2) := by decide +kernel
theorem dL_areGames_82 : decode cL_areGames 82 = .ok (.iload 15, 2) := by decide +kernel
theorem dL_areGames_84 : decode cL_areGames 84 = .ok (.aload_n 2, 1) := by decide +kernel
theorem dL_areGames_85 : decode cL_areGames 85 = .ok (.iconst 1, 1) := by decide +kernel
theorem dL_areGames_86 : decode cL_areGames 86 = .ok (.iaload, 1) := by decide +kernel
theorem dL_areGames_87 : decode cL_areGames 87 = .ok (.if_icmp .ge 34, 3) := by decide +kernel
theorem dL_areGames_90 : decode cL_areGames 90 = .ok (.lload 13, 2) := by decide +kernel
theorem dL_areGames_92 : decode cL_areGames 92 = .ok (.aload 4, 2) := by decide +kernel
theorem dL_areGames_94 : decode cL_areGames 94 = .ok (.aload_n 3, 1) := by decide +kernel
theorem dL_areGames_95 : decode cL_areGames 95 = .ok (.bipush 10, 2) := by decide +kernel
theorem dL_areGames_97 : decode cL_areGames 97 = .ok (.iload 12, 2) := by decide +kernel
theorem dL_areGames_99 : decode cL_areGames 99 = .ok (.imul, 1) := by decide +kernel
theorem dL_areGames_100 : decode cL_areGames 100 = .ok (.iload 15, 2) := by decide +kernel
theorem dL_areGames_102 : decode cL_areGames 102 = .ok (.iadd, 1) := by decide +kernel
theorem dL_areGames_103 : decode cL_areGames 103 = .ok (.iaload, 1) := by decide +kernel
theorem dL_areGames_104 : decode cL_areGames 104 = .ok (.iaload, 1) := by decide +kernel
theorem dL_areGames_105 : decode cL_areGames 105 = .ok (.aload 4, 2) := by decide +kernel
theorem dL_areGames_107 : decode cL_areGames 107 = .ok (.iload 12, 2) := by decide +kernel
theorem dL_areGames_109 : decode cL_areGames 109 = .ok (.iaload, 1) := by decide +kernel
theorem dL_areGames_110 : decode cL_areGames 110 = .ok (.isub, 1) := by decide +kernel
theorem dL_areGames_111 : decode cL_areGames 111 = .ok (.i2l, 1) := by decide +kernel
theorem dL_areGames_112 : decode cL_areGames 112 = .ok (.ladd, 1) := by decide +kernel
theorem dL_areGames_113 : decode cL_areGames 113 = .ok (.lstore 13, 2) := by decide +kernel
theorem dL_areGames_115 : decode cL_areGames 115 = .ok (.iinc 15 1, 3) := by decide +kernel
theorem dL_areGames_118 : decode cL_areGames 118 = .ok (.goto (-36), 3) := by decide +kernel
theorem dL_areGames_121 : decode cL_areGames 121 = .ok (.iload 11, 2) := by decide +kernel
theorem dL_areGames_123 : decode cL_areGames 123 = .ok (.ifCond .eq 14, 3) := by decide +kernel
theorem dL_areGames_126 : decode cL_areGames 126 = .ok (.lload 13, 2) := by decide +kernel
theorem dL_areGames_128 : decode cL_areGames 128 = .ok (.lconst 0, 1) := by decide +kernel
theorem dL_areGames_129 : decode cL_areGames 129 = .ok (.lcmp, 1) := by decide +kernel
theorem dL_areGames_130 : decode cL_areGames 130 = .ok (.ifCond .ne 7, 3) := by decide +kernel
theorem dL_areGames_133 : decode cL_areGames 133 = .ok (.iconst 1, 1) := by decide +kernel
theorem dL_areGames_134 : decode cL_areGames 134 = .ok (.goto 4, 3) := by decide +kernel
theorem dL_areGames_137 : decode cL_areGames 137 = .ok (.iconst 0, 1) := by decide +kernel
theorem dL_areGames_138 : decode cL_areGames 138 = .ok (.istore 11, 2) := by decide +kernel
theorem dL_areGames_140 : decode cL_areGames 140 = .ok (.aload 4, 2) := by decide +kernel
theorem dL_areGames_142 : decode cL_areGames 142 = .ok (.iload 12, 2) := by decide +kernel
theorem dL_areGames_144 : decode cL_areGames 144 = .ok (.iaload, 1) := by decide +kernel
theorem dL_areGames_145 : decode cL_areGames 145 = .ok (.i2l, 1) := by decide +kernel
theorem dL_areGames_146 : decode cL_areGames 146 = .ok (.lload 9, 2) := by decide +kernel
theorem dL_areGames_148 : decode cL_areGames 148 = .ok (.lcmp, 1) := by decide +kernel
theorem dL_areGames_149 : decode cL_areGames 149 = .ok (.ifCond .le 12, 3) := by decide +kernel
theorem dL_areGames_152 : decode cL_areGames 152 = .ok (.aload 4, 2) := by decide +kernel
theorem dL_areGames_154 : decode cL_areGames 154 = .ok (.iload 12, 2) := by decide +kernel
theorem dL_areGames_156 : decode cL_areGames 156 = .ok (.iaload, 1) := by decide +kernel
theorem dL_areGames_157 : decode cL_areGames 157 = .ok (.i2l, 1) := by decide +kernel
theorem dL_areGames_158 : decode cL_areGames 158 = .ok (.goto 5, 3) := by decide +kernel
theorem dL_areGames_161 : decode cL_areGames 161 = .ok (.lload 9, 2) := by decide +kernel
theorem dL_areGames_163 : decode cL_areGames 163 = .ok (.lstore 9, 2) := by decide +kernel
theorem dL_areGames_165 : decode cL_areGames 165 = .ok (.aload_n 0, 1) := by decide +kernel
theorem dL_areGames_166 : decode cL_areGames 166 = .ok (.iload 12, 2) := by decide +kernel
theorem dL_areGames_168 : decode cL_areGames 168 = .ok (.invokevirtual 75, 3) := by decide +kernel
theorem dL_areGames_171 : decode cL_areGames 171 = .ok (.lload 13, 2) := by decide +kernel
theorem dL_areGames_173 : decode cL_areGames 173 = .ok (.lcmp, 1) := by decide +kernel
theorem dL_areGames_174 : decode cL_areGames 174 = .ok (.ifCond .eq 5, 3) := by decide +kernel
theorem dL_areGames_177 : decode cL_areGames 177 = .ok (.iconst 0, 1) := by decide +kernel
theorem dL_areGames_178 : decode cL_areGames 178 = .ok (.ireturn, 1) := by decide +kernel
theorem dL_areGames_179 : decode cL_areGames 179 = .ok (.iinc 12 1, 3) := by decide +kernel
theorem dL_areGames_182 : decode cL_areGames 182 = .ok (.goto (-114), 3) := by decide +kernel
theorem dL_areGames_185 : decode cL_areGames 185 = .ok (.aload 4, 2) := by decide +kernel
theorem dL_areGames_187 : decode cL_areGames 187 = .ok (.iload 5, 2) := by decide +kernel
theorem dL_areGames_189 : decode cL_areGames 189 = .ok (.iaload, 1) := by decide +kernel
theorem dL_areGames_190 : decode cL_areGames 190 = .ok (.i2l, 1) := by decide +kernel
theorem dL_areGames_191 : decode cL_areGames 191 = .ok (.aload_n 0, 1) := by decide +kernel
theorem dL_areGames_192 : decode cL_areGames 192 = .ok (.iload 6, 2) := by decide +kernel
theorem dL_areGames_194 : decode cL_areGames 194 = .ok (.iconst 1, 1) := by decide +kernel
theorem dL_areGames_195 : decode cL_areGames 195 = .ok (.iadd, 1) := by decide +kernel
theorem dL_areGames_196 : decode cL_areGames 196 = .ok (.invokevirtual 23, 3) := by decide +kernel
theorem dL_areGames_199 : decode cL_areGames 199 = .ok (.lmul, 1) := by decide +kernel
theorem dL_areGames_200 : decode cL_areGames 200 = .ok (.lstore 12, 2) := by decide +kernel
theorem dL_areGames_202 : decode cL_areGames 202 = .ok (.aload_n 0, 1) := by decide +kernel
theorem dL_areGames_203 : decode cL_areGames 203 = .ok (.iload 5, 2) := by decide +kernel
theorem dL_areGames_205 : decode cL_areGames 205 = .ok (.iconst 0, 1) := by decide +kernel
theorem dL_areGames_206 : decode cL_areGames 206 = .ok (.invokevirtual 72, 3) := by decide +kernel
theorem dL_areGames_209 : decode cL_areGames 209 = .ok (.aload 4, 2) := by decide +kernel
theorem dL_areGames_211 : decode cL_areGames 211 = .ok (.iload 5, 2) := by decide +kernel
theorem dL_areGames_213 : decode cL_areGames 213 = .ok (.iaload, 1) := by decide +kernel
theorem dL_areGames_214 : decode cL_areGames 214 = .ok (.i2l, 1) := by decide +kernel
theorem dL_areGames_215 : decode cL_areGames 215 = .ok (.lcmp, 1) := by decide +kernel
theorem dL_areGames_216 : decode cL_areGames 216 = .ok (.ifCond .ne 97, 3) := by decide +kernel
theorem dL_areGames_219 : decode cL_areGames 219 = .ok (.aload_n 0, 1) := by decide +kernel
theorem dL_areGames_220 : decode cL_areGames 220 = .ok (.iload 5, 2) := by decide +kernel
theorem dL_areGames_222 : decode cL_areGames 222 = .ok (.iconst 0, 1) := by decide +kernel
theorem dL_areGames_223 : decode cL_areGames 223 = .ok (.invokevirtual 78, 3) := by decide +kernel
theorem dL_areGames_226 : decode cL_areGames 226 = .ok (.ifCond .eq 87, 3) := by decide +kernel
theorem dL_areGames_229 : decode cL_areGames 229 = .ok (.aload_n 0, 1) := by decide +kernel
theorem dL_areGames_230 : decode cL_areGames 230 = .ok (.iload 5, 2) := by decide +kernel
theorem dL_areGames_232 : decode cL_areGames 232 = .ok (.iload 6, 2) := by decide +kernel
theorem dL_areGames_234 : decode cL_areGames 234 = .ok (.iconst 1, 1) := by decide +kernel
theorem dL_areGames_235 : decode cL_areGames 235 = .ok (.iadd, 1) := by decide +kernel
theorem dL_areGames_236 : decode cL_areGames 236 = .ok (.invokevirtual 72, 3) := by decide +kernel
theorem dL_areGames_239 : decode cL_areGames 239 = .ok (.lload 12, 2) := by decide +kernel
theorem dL_areGames_241 : decode cL_areGames 241 = .ok (.lload 7, 2) := by decide +kernel
theorem dL_areGames_243 : decode cL_areGames 243 = .ok (.lcmp, 1) := by decide +kernel
theorem dL_areGames_244 : decode cL_areGames 244 = .ok (.ifCond .lt 8, 3) := by decide +kernel
theorem dL_areGames_247 : decode cL_areGames 247 = .ok (.lload 12, 2) := by decide +kernel
theorem dL_areGames_249 : decode cL_areGames 249 = .ok (.goto 5, 3) := by decide +kernel
theorem dL_areGames_252 : decode cL_areGames 252 = .ok (.lload 7, 2) := by decide +kernel
theorem dL_areGames_254 : decode cL_areGames 254 = .ok (.lcmp, 1) := by decide +kernel
theorem dL_areGames_255 : decode cL_areGames 255 = .ok (.ifCond .ne 58, 3) := by decide +kernel
theorem dL_areGames_258 : decode cL_areGames 258 = .ok (.aload_n 0, 1) := by decide +kernel
theorem dL_areGames_259 : decode cL_areGames 259 = .ok (.iload 5, 2) := by decide +kernel
theorem dL_areGames_261 : decode cL_areGames 261 = .ok (.iload 6, 2) := by decide +kernel
theorem dL_areGames_263 : decode cL_areGames 263 = .ok (.iconst 1, 1) := by decide +kernel
theorem dL_areGames_264 : decode cL_areGames 264 = .ok (.iadd, 1) := by decide +kernel
theorem dL_areGames_265 : decode cL_areGames 265 = .ok (.invokevirtual 78, 3) := by decide +kernel
theorem dL_areGames_268 : decode cL_areGames 268 = .ok (.lload 12, 2) := by decide +kernel
theorem dL_areGames_270 : decode cL_areGames 270 = .ok (.lload 7, 2) := by decide +kernel
theorem dL_areGames_272 : decode cL_areGames 272 = .ok (.lcmp, 1) := by decide +kernel
theorem dL_areGames_273 : decode cL_areGames 273 = .ok (.ifCond .lt 7, 3) := by decide +kernel
theorem dL_areGames_276 : decode cL_areGames 276 = .ok (.iconst 1, 1) := by decide +kernel
theorem dL_areGames_277 : decode cL_areGames 277 = .ok (.goto 4, 3) := by decide +kernel
theorem dL_areGames_280 : decode cL_areGames 280 = .ok (.iconst 0, 1) := by decide +kernel
theorem dL_areGames_281 : decode cL_areGames 281 = .ok (.if_icmp .ne 32, 3) := by decide +kernel
theorem dL_areGames_284 : decode cL_areGames 284 = .ok (.aload_n 0, 1) := by decide +kernel
theorem dL_areGames_285 : decode cL_areGames 285 = .ok (.iload 5, 2) := by decide +kernel
theorem dL_areGames_287 : decode cL_areGames 287 = .ok (.iload 6, 2) := by decide +kernel
theorem dL_areGames_289 : decode cL_areGames 289 = .ok (.iconst 1, 1) := by decide +kernel
theorem dL_areGames_290 : decode cL_areGames 290 = .ok (.iadd, 1) := by decide +kernel
theorem dL_areGames_291 : decode cL_areGames 291 = .ok (.invokevirtual 72, 3) := by decide +kernel
theorem dL_areGames_294 : decode cL_areGames 294 = .ok (.lload 9, 2) := by decide +kernel
theorem dL_areGames_296 : decode cL_areGames 296 = .ok (.aload_n 0, 1) := by decide +kernel
theorem dL_areGames_297 : decode cL_areGames 297 = .ok (.iload 6, 2) := by decide +kernel
theorem dL_areGames_299 : decode cL_areGames 299 = .ok (.iconst 1, 1) := by decide +kernel
theorem dL_areGames_300 : decode cL_areGames 300 = .ok (.iadd, 1) := by decide +kernel
theorem dL_areGames_301 : decode cL_areGames 301 = .ok (.invokevirtual 23, 3) := by decide +kernel
theorem dL_areGames_304 : decode cL_areGames 304 = .ok (.lmul, 1) := by decide +kernel
theorem dL_areGames_305 : decode cL_areGames 305 = .ok (.lcmp, 1) := by decide +kernel
theorem dL_areGames_306 : decode cL_areGames 306 = .ok (.ifCond .gt 7, 3) := by decide +kernel
theorem dL_areGames_309 : decode cL_areGames 309 = .ok (.iconst 1, 1) := by decide +kernel
theorem dL_areGames_310 : decode cL_areGames 310 = .ok (.goto 4, 3) := by decide +kernel
theorem dL_areGames_313 : decode cL_areGames 313 = .ok (.iconst 0, 1) := by decide +kernel
theorem dL_areGames_314 : decode cL_areGames 314 = .ok (.istore 14, 2) := by decide +kernel
theorem dL_areGames_316 : decode cL_areGames 316 = .ok (.iload 14, 2) := by decide +kernel
theorem dL_areGames_318 : decode cL_areGames 318 = .ok (.ifCond .eq 46, 3) := by decide +kernel
theorem dL_areGames_321 : decode cL_areGames 321 = .ok (.aload_n 0, 1) := by decide +kernel
theorem dL_areGames_322 : decode cL_areGames 322 = .ok (.invokevirtual 82, 3) := by decide +kernel
theorem dL_areGames_325 : decode cL_areGames 325 = .ok (.iload 11, 2) := by decide +kernel
theorem dL_areGames_327 : decode cL_areGames 327 = .ok (.if_icmp .ne 37, 3) := by decide +kernel
theorem dL_areGames_330 : decode cL_areGames 330 = .ok (.iload 11, 2) := by decide +kernel
theorem dL_areGames_332 : decode cL_areGames 332 = .ok (.ifCond .eq 28, 3) := by decide +kernel
theorem dL_areGames_335 : decode cL_areGames 335 = .ok (.aload_n 0, 1) := by decide +kernel
theorem dL_areGames_336 : decode cL_areGames 336 = .ok (.iload 5, 2) := by decide +kernel
theorem dL_areGames_338 : decode cL_areGames 338 = .ok (.iload 6, 2) := by decide +kernel
theorem dL_areGames_340 : decode cL_areGames 340 = .ok (.invokevirtual 72, 3) := by decide +kernel
theorem dL_areGames_343 : decode cL_areGames 343 = .ok (.aload 4, 2) := by decide +kernel
theorem dL_areGames_345 : decode cL_areGames 345 = .ok (.iload 5, 2) := by decide +kernel
theorem dL_areGames_347 : decode cL_areGames 347 = .ok (.iaload, 1) := by decide +kernel
theorem dL_areGames_348 : decode cL_areGames 348 = .ok (.i2l, 1) := by decide +kernel
theorem dL_areGames_349 : decode cL_areGames 349 = .ok (.aload_n 0, 1) := by decide +kernel
theorem dL_areGames_350 : decode cL_areGames 350 = .ok (.iload 6, 2) := by decide +kernel
theorem dL_areGames_352 : decode cL_areGames 352 = .ok (.invokevirtual 23, 3) := by decide +kernel
theorem dL_areGames_355 : decode cL_areGames 355 = .ok (.lmul, 1) := by decide +kernel
theorem dL_areGames_356 : decode cL_areGames 356 = .ok (.lcmp, 1) := by decide +kernel
theorem dL_areGames_357 : decode cL_areGames 357 = .ok (.ifCond .ne 7, 3) := by decide +kernel
theorem dL_areGames_360 : decode cL_areGames 360 = .ok (.iconst 1, 1) := by decide +kernel
theorem dL_areGames_361 : decode cL_areGames 361 = .ok (.goto 4, 3) := by decide +kernel
theorem dL_areGames_364 : decode cL_areGames 364 = .ok (.iconst 0, 1) := by decide +kernel
theorem dL_areGames_365 : decode cL_areGames 365 = .ok (.ireturn, 1) := by decide +kernel
set_option maxRecDepth 20000 in
theorem ggL_areLumps_X8_rest : GoodIn wsL_areLumps wsX8_rest := goodIn_ca (goodIn_r _ [5, 6, 7, 8, 9, 10, 11, 12, 13, 14, 15, 16, 17, 18, 19, 20, 21, 22, 23, 24, 25, 26, 27, 28, 29, 30, 31, 32, 33, 34, 35, 36, 37, 38, 39, 40, 41, 42, 43, 44, 45, 46, 47, 48, 4, 49, 50, 51, 52, 53, 54, 91, 92, 93, 94, 95, 96, 97, 98, 99, 100, 101, 102, 103, 104, 105, 106] (by decide +kernel) (by decide +kernel)) (goodIn_sub (fun _ h => List.mem_cons_of_mem _ (List.mem_append_right _ h)) (by decide +kernel))
set_option maxRecDepth 20000 in
theorem gL_areLumps_X8_rest : GoodIn wsL_areLumps (wsV RL 52 RX8 yX8_rest wsX8_rest) := goodIn_app (goodIn_of _ (by decide +kernel)) ggL_areLumps_X8_rest
set_option maxRecDepth 20000 in
theorem ggL_areLumps_X8_weight : GoodIn wsL_areLumps wsX8_weight := goodIn_ca (goodIn_r _ [58, 52, 59, 46, 47, 48, 4, 49, 50, 51, 53, 91, 92, 93, 94, 95, 96, 97, 98, 103, 104, 105, 106] (by decide +kernel) (by decide +kernel)) (goodIn_sub (fun _ h => List.mem_cons_of_mem _ (List.mem_append_right _ h)) (by decide +kernel))
set_option maxRecDepth 20000 in
theorem gL_areLumps_X8_weight : GoodIn wsL_areLumps (wsV RL 10 RX8 yX8_weight wsX8_weight) := goodIn_app (goodIn_of _ (by decide +kernel)) ggL_areLumps_X8_weight
set_option maxRecDepth 20000 in
theorem ggL_areLumps_X8_isLumped : GoodIn wsL_areLumps wsX8_isLumped := goodIn_r _ [63, 64, 65, 66, 67, 68, 69, 70, 71, 72, 73, 74, 75, 76, 77, 78, 79, 80, 81, 91, 92, 93, 94, 95, 96, 97, 98, 107, 108, 103, 104, 105, 106] (by decide +kernel) (by decide +kernel)
set_option maxRecDepth 20000 in
theorem gL_areLumps_X8_isLumped : GoodIn wsL_areLumps (wsV RL 86 RX8 yX8_isLumped wsX8_isLumped) := goodIn_app (goodIn_of _ (by decide +kernel)) ggL_areLumps_X8_isLumped
set_option maxRecDepth 20000 in
theorem ggL_areLumps_X8_reverses : GoodIn wsL_areLumps wsX8_reverses := goodIn_r _ [85, 6, 86, 87, 88, 10, 89, 12, 13, 14, 45, 90, 8, 9, 11, 15, 16, 17, 18, 19, 20, 21, 22, 23, 24, 25, 26, 27, 28, 29, 30, 31, 32, 33, 34, 35, 36, 37, 38, 39, 40, 41, 42, 43, 44, 91, 92, 93, 94, 95, 96, 97, 98, 99, 100, 101, 102, 103, 104, 105, 106] (by decide +kernel) (by decide +kernel)
set_option maxRecDepth 20000 in
theorem gL_areLumps_X8_reverses : GoodIn wsL_areLumps (wsV RL 89 RX8 yX8_reverses wsX8_reverses) := goodIn_app (goodIn_of _ (by decide +kernel)) ggL_areLumps_X8_reverses
theorem dL_areLumps_0 : decode cL_areLumps 0 = .ok (.iconst 1, 1) := by decide +kernel
theorem dL_areLumps_1 : decode cL_areLumps 1 = .ok (.istore_n 3, 1) := by decide +kernel
theorem dL_areLumps_2 : decode cL_areLumps 2 = .ok (.aload_n 0, 1) := by decide +kernel
theorem dL_areLumps_3 : decode cL_areLumps 3 = .ok (.iconst (-1), 1) := by decide +kernel
theorem dL_areLumps_4 : decode cL_areLumps 4 = .ok (.invokevirtual 52, 3) := by decide +kernel
theorem dL_areLumps_7 : decode cL_areLumps 7 = .ok (.lconst 0, 1) := by decide +kernel
theorem dL_areLumps_8 : decode cL_areLumps 8 = .ok (.lcmp, 1) := by decide +kernel
theorem dL_areLumps_9 : decode cL_areLumps 9 = .ok (.ifCond .eq 7, 3) := by decide +kernel
theorem dL_areLumps_12 : decode cL_areLumps 12 = .ok (.iconst 1, 1) := by decide +kernel
theorem dL_areLumps_13 : decode cL_areLumps 13 = .ok (.goto 4, 3) := by decide +kernel
theorem dL_areLumps_16 : decode cL_areLumps 16 = .ok (.iconst 0, 1) := by decide +kernel
theorem dL_areLumps_17 : decode cL_areLumps 17 = .ok (.istore 4, 2) := by decide +kernel
theorem dL_areLumps_19 : decode cL_areLumps 19 = .ok (.iconst 0, 1) := by decide +kernel
theorem dL_areLumps_20 : decode cL_areLumps 20 = .ok (.istore 5, 2) := by decide +kernel
theorem dL_areLumps_22 : decode cL_areLumps 22 = .ok (.iload 5, 2) := by decide +kernel
theorem dL_areLumps_24 : decode cL_areLumps 24 = .ok (.aload_n 1, 1) := by decide +kernel
theorem dL_areLumps_25 : decode cL_areLumps 25 = .ok (.iconst 0, 1) := by decide +kernel
theorem dL_areLumps_26 : decode cL_areLumps 26 = .ok (.iaload, 1) := by decide +kernel
theorem dL_areLumps_27 : decode cL_areLumps 27 = .ok (.if_icmp .ge 180, 3) := by decide +kernel
theorem dL_areLumps_30 : decode cL_areLumps 30 = .ok (.iconst 0, 1) := by decide +kernel
theorem dL_areLumps_31 : decode cL_areLumps 31 = .ok (.istore 6, 2) := by decide +kernel
theorem dL_areLumps_33 : decode cL_areLumps 33 = .ok (.iload 6, 2) := by decide +kernel
theorem dL_areLumps_35 : decode cL_areLumps 35 = .ok (.aload_n 1, 1) := by decide +kernel
theorem dL_areLumps_36 : decode cL_areLumps 36 = .ok (.iconst 0, 1) := by decide +kernel
theorem dL_areLumps_37 : decode cL_areLumps 37 = .ok (.iaload, 1) := by decide +kernel
theorem dL_areLumps_38 : decode cL_areLumps 38 = .ok (.if_icmp .ge 163, 3) := by decide +kernel
theorem dL_areLumps_41 : decode cL_areLumps 41 = .ok (.iconst 0, 1) := by decide +kernel
theorem dL_areLumps_42 : decode cL_areLumps 42 = .ok (.istore 7, 2) := by decide +kernel
theorem dL_areLumps_44 : decode cL_areLumps 44 = .ok (.iload 7, 2) := by decide +kernel
theorem dL_areLumps_46 : decode cL_areLumps 46 = .ok (.bipush 6, 2) := by decide +kernel
theorem dL_areLumps_48 : decode cL_areLumps 48 = .ok (.if_icmp .ge 99, 3) := by decide +kernel
theorem dL_areLumps_51 : decode cL_areLumps 51 = .ok (.iconst 0, 1) := by decide +kernel
theorem dL_areLumps_52 : decode cL_areLumps 52 = .ok (.istore 8, 2) := by decide +kernel
theorem dL_areLumps_54 : decode cL_areLumps 54 = .ok (.iconst 0, 1) := by decide +kernel
theorem dL_areLumps_55 : decode cL_areLumps 55 = .ok (.istore 9, 2) := by decide +kernel
theorem dL_areLumps_57 : decode cL_areLumps 57 = .ok (.iload 9, 2) := by decide +kernel
theorem dL_areLumps_59 : decode cL_areLumps 59 = .ok (.aload_n 1, 1) := by decide +kernel
theorem dL_areLumps_60 : decode cL_areLumps 60 = .ok (.iconst 0, 1) := by decide +kernel
theorem dL_areLumps_61 : decode cL_areLumps 61 = .ok (.iaload, 1) := by decide +kernel
theorem dL_areLumps_62 : decode cL_areLumps 62 = .ok (.if_icmp .ge 47, 3) := by decide +kernel
theorem dL_areLumps_65 : decode cL_areLumps 65 = .ok (.iload 8, 2) := by decide +kernel
theorem dL_areLumps_67 : decode cL_areLumps 67 = .ok (.aload_n 2, 1) := by decide +kernel
theorem dL_areLumps_68 : decode cL_areLumps 68 = .ok (.bipush 6, 2) := by decide +kernel
theorem dL_areLumps_70 : decode cL_areLumps 70 = .ok (.iload 9, 2) := by decide +kernel
theorem dL_areLumps_72 : decode cL_areLumps 72 = .ok (.iadd, 1) := by decide +kernel
theorem dL_areLumps_73 : decode cL_areLumps 73 = .ok (.iaload, 1) := by decide +kernel
theorem dL_areLumps_74 : decode cL_areLumps 74 = .ok (.iload 7, 2) := by decide +kernel
theorem dL_areLumps_76 : decode cL_areLumps 76 = .ok (.if_icmp .ne 23, 3) := by decide +kernel
theorem dL_areLumps_79 : decode cL_areLumps 79 = .ok (.aload_n 0, 1) := by decide +kernel
theorem dL_areLumps_80 : decode cL_areLumps 80 = .ok (.iload 5, 2) := by decide +kernel
theorem dL_areLumps_82 : decode cL_areLumps 82 = .ok (.iload 9, 2) := by decide +kernel
theorem dL_areLumps_84 : decode cL_areLumps 84 = .ok (.invokevirtual 10, 3) := by decide +kernel
theorem dL_areLumps_87 : decode cL_areLumps 87 = .ok (.aload_n 0, 1) := by decide +kernel
theorem dL_areLumps_88 : decode cL_areLumps 88 = .ok (.iload 6, 2) := by decide +kernel
theorem dL_areLumps_90 : decode cL_areLumps 90 = .ok (.iload 9, 2) := by decide +kernel
theorem dL_areLumps_92 : decode cL_areLumps 92 = .ok (.invokevirtual 10, 3) := by decide +kernel
theorem dL_areLumps_95 : decode cL_areLumps 95 = .ok (.isub, 1) := by decide +kernel
theorem dL_areLumps_96 : decode cL_areLumps 96 = .ok (.goto 4, 3) := by decide +kernel
theorem dL_areLumps_99 : decode cL_areLumps 99 = .ok (.iconst 0, 1) := by decide +kernel
theorem dL_areLumps_100 : decode cL_areLumps 100 = .ok (.iadd, 1) := by decide +kernel
theorem dL_areLumps_101 : decode cL_areLumps 101 = .ok (.istore 8, 2) := by decide +kernel
theorem dL_areLumps_103 : decode cL_areLumps 103 = .ok (.iinc 9 1, 3) := by decide +kernel
theorem dL_areLumps_106 : decode cL_areLumps 106 = .ok (.goto (-49), 3) := by decide +kernel
theorem dL_areLumps_109 : decode cL_areLumps 109 = .ok (.iload_n 3, 1) := by decide +kernel
theorem dL_areLumps_110 : decode cL_areLumps 110 = .ok (.ifCond .eq 29, 3) := by decide +kernel
theorem dL_areLumps_113 : decode cL_areLumps 113 = .ok (.aload_n 2, 1) := by decide +kernel
theorem dL_areLumps_114 : decode cL_areLumps 114 = .ok (.bipush 6, 2) := by decide +kernel
theorem dL_areLumps_116 : decode cL_areLumps 116 = .ok (.iload 5, 2) := by decide +kernel
theorem dL_areLumps_118 : decode cL_areLumps 118 = .ok (.iadd, 1) := by decide +kernel
theorem dL_areLumps_119 : decode cL_areLumps 119 = .ok (.iaload, 1) := by decide +kernel
theorem dL_areLumps_120 : decode cL_areLumps 120 = .ok (.aload_n 2, 1) := by decide +kernel
theorem dL_areLumps_121 : decode cL_areLumps 121 = .ok (.bipush 6, 2) := by decide +kernel
theorem dL_areLumps_123 : decode cL_areLumps 123 = .ok (.iload 6, 2) := by decide +kernel
theorem dL_areLumps_125 : decode cL_areLumps 125 = .ok (.iadd, 1) := by decide +kernel
theorem dL_areLumps_126 : decode cL_areLumps 126 = .ok (.iaload, 1) := by decide +kernel
theorem dL_areLumps_127 : decode cL_areLumps 127 = .ok (.if_icmp .ne 8, 3) := by decide +kernel
theorem dL_areLumps_130 : decode cL_areLumps 130 = .ok (.iload 8, 2) := by decide +kernel
theorem dL_areLumps_132 : decode cL_areLumps 132 = .ok (.ifCond .ne 7, 3) := by decide +kernel
theorem dL_areLumps_135 : decode cL_areLumps 135 = .ok (.iconst 1, 1) := by decide +kernel
theorem dL_areLumps_136 : decode cL_areLumps 136 = .ok (.goto 4, 3) := by decide +kernel
theorem dL_areLumps_139 : decode cL_areLumps 139 = .ok (.iconst 0, 1) := by decide +kernel
theorem dL_areLumps_140 : decode cL_areLumps 140 = .ok (.istore_n 3, 1) := by decide +kernel
theorem dL_areLumps_141 : decode cL_areLumps 141 = .ok (.iinc 7 1, 3) := by decide +kernel
theorem dL_areLumps_144 : decode cL_areLumps 144 = .ok (.goto (-100), 3) := by decide +kernel
theorem dL_areLumps_147 : decode cL_areLumps 147 = .ok (.iload 4, 2) := by decide +kernel
theorem dL_areLumps_149 : decode cL_areLumps 149 = .ok (.ifCond .eq 43, 3) := by decide +kernel
theorem dL_areLumps_152 : decode cL_areLumps 152 = .ok (.aload_n 0, 1) := by decide +kernel
theorem dL_areLumps_153 : decode cL_areLumps 153 = .ok (.iload 5, 2) := by decide +kernel
theorem dL_areLumps_155 : decode cL_areLumps 155 = .ok (.invokevirtual 52, 3) := by decide +kernel
theorem dL_areLumps_158 : decode cL_areLumps 158 = .ok (.aload_n 0, 1) := by decide +kernel
theorem dL_areLumps_159 : decode cL_areLumps 159 = .ok (.iload 5, 2) := by decide +kernel
theorem dL_areLumps_161 : decode cL_areLumps 161 = .ok (.iload 6, 2) := by decide +kernel
theorem dL_areLumps_163 : decode cL_areLumps 163 = .ok (.invokevirtual 10, 3) := by decide +kernel
theorem dL_areLumps_166 : decode cL_areLumps 166 = .ok (.i2l, 1) := by decide +kernel
theorem dL_areLumps_167 : decode cL_areLumps 167 = .ok (.lmul, 1) := by decide +kernel
theorem dL_areLumps_168 : decode cL_areLumps 168 = .ok (.aload_n 0, 1) := by decide +kernel
theorem dL_areLumps_169 : decode cL_areLumps 169 = .ok (.iload 6, 2) := by decide +kernel
theorem dL_areLumps_171 : decode cL_areLumps 171 = .ok (.invokevirtual 52, 3) := by decide +kernel
theorem dL_areLumps_174 : decode cL_areLumps 174 = .ok (.aload_n 0, 1) := by decide +kernel
theorem dL_areLumps_175 : decode cL_areLumps 175 = .ok (.iload 6, 2) := by decide +kernel
theorem dL_areLumps_177 : decode cL_areLumps 177 = .ok (.iload 5, 2) := by decide +kernel
theorem dL_areLumps_179 : decode cL_areLumps 179 = .ok (.invokevirtual 10, 3) := by decide +kernel
theorem dL_areLumps_182 : decode cL_areLumps 182 = .ok (.i2l, 1) := by decide +kernel
theorem dL_areLumps_183 : decode cL_areLumps 183 = .ok (.lmul, 1) := by decide +kernel
theorem dL_areLumps_184 : decode cL_areLumps 184 = .ok (.lcmp, 1) := by decide +kernel
theorem dL_areLumps_185 : decode cL_areLumps 185 = .ok (.ifCond .ne 7, 3) := by decide +kernel
theorem dL_areLumps_188 : decode cL_areLumps 188 = .ok (.iconst 1, 1) := by decide +kernel
theorem dL_areLumps_189 : decode cL_areLumps 189 = .ok (.goto 4, 3) := by decide +kernel
theorem dL_areLumps_192 : decode cL_areLumps 192 = .ok (.iconst 0, 1) := by decide +kernel
theorem dL_areLumps_193 : decode cL_areLumps 193 = .ok (.istore 4, 2) := by decide +kernel
theorem dL_areLumps_195 : decode cL_areLumps 195 = .ok (.iinc 6 1, 3) := by decide +kernel
theorem dL_areLumps_198 : decode cL_areLumps 198 = .ok (.goto (-165), 3) := by decide +kernel
theorem dL_areLumps_201 : decode cL_areLumps 201 = .ok (.iinc 5 1, 3) := by decide +kernel
theorem dL_areLumps_204 : decode cL_areLumps 204 = .ok (.goto (-182), 3) := by decide +kernel
theorem dL_areLumps_207 : decode cL_areLumps 207 = .ok (.aload_n 0, 1) := by decide +kernel
theorem dL_areLumps_208 : decode cL_areLumps 208 = .ok (.invokevirtual 86, 3) := by decide +kernel
theorem dL_areLumps_211 : decode cL_areLumps 211 = .ok (.iload_n 3, 1) := by decide +kernel
theorem dL_areLumps_212 : decode cL_areLumps 212 = .ok (.if_icmp .ne 16, 3) := by decide +kernel
theorem dL_areLumps_215 : decode cL_areLumps 215 = .ok (.aload_n 0, 1) := by decide +kernel
theorem dL_areLumps_216 : decode cL_areLumps 216 = .ok (.invokevirtual 89, 3) := by decide +kernel
theorem dL_areLumps_219 : decode cL_areLumps 219 = .ok (.iload 4, 2) := by decide +kernel
theorem dL_areLumps_221 : decode cL_areLumps 221 = .ok (.if_icmp .ne 7, 3) := by decide +kernel
theorem dL_areLumps_224 : decode cL_areLumps 224 = .ok (.iconst 1, 1) := by decide +kernel
theorem dL_areLumps_225 : decode cL_areLumps 225 = .ok (.goto 4, 3) := by decide +kernel
theorem dL_areLumps_228 : decode cL_areLumps 228 = .ok (.iconst 0, 1) := by decide +kernel
theorem dL_areLumps_229 : decode cL_areLumps 229 = .ok (.ireturn, 1) := by decide +kernel
set_option maxRecDepth 20000 in
theorem ggL_tells_X8_lead : GoodIn wsL_tells wsX8_lead := goodIn_ca (goodIn_r _ [7, 8, 9, 10, 11, 6, 12, 13, 14, 15, 16, 17, 18, 19, 20, 21, 22, 23, 24, 25, 26, 27, 70, 71, 72, 73, 74, 75, 76, 77, 78, 79, 80, 81] (by decide +kernel) (by decide +kernel)) (goodIn_sub (fun _ h => List.mem_cons_of_mem _ (List.mem_append_left _ (List.mem_append_right _ h))) (by decide +kernel))
set_option maxRecDepth 20000 in
theorem gL_tells_X8_lead : GoodIn wsL_tells (wsV RL 92 RX8 yX8_lead wsX8_lead) := goodIn_app (goodIn_of _ (by decide +kernel)) ggL_tells_X8_lead
set_option maxRecDepth 20000 in
theorem ggL_tells_X8_weight : GoodIn wsL_tells wsX8_weight := goodIn_ca (goodIn_r _ [31, 8, 32, 9, 10, 11, 6, 12, 13, 14, 15, 70, 71, 72, 73, 74, 75, 76, 77, 78, 79, 80, 81] (by decide +kernel) (by decide +kernel)) (goodIn_sub (fun _ h => List.mem_cons_of_mem _ (List.mem_append_left _ (List.mem_append_right _ h))) (by decide +kernel))
set_option maxRecDepth 20000 in
theorem gL_tells_X8_weight : GoodIn wsL_tells (wsV RL 10 RX8 yX8_weight wsX8_weight) := goodIn_app (goodIn_of _ (by decide +kernel)) ggL_tells_X8_weight
set_option maxRecDepth 20000 in
theorem ggL_tells_X8_swap : GoodIn wsL_tells wsX8_swap := goodIn_ca (goodIn_r _ [36, 8, 9, 10, 11, 6, 12, 13, 14, 15, 16, 17, 18, 19, 20, 37, 38, 39, 24, 40, 26, 70, 71, 72, 73, 74, 75, 76, 77, 78, 79, 80, 81] (by decide +kernel) (by decide +kernel)) (goodIn_sub (fun _ h => List.mem_cons_of_mem _ (List.mem_append_left _ (List.mem_append_right _ h))) (by decide +kernel))
set_option maxRecDepth 20000 in
theorem gL_tells_X8_swap : GoodIn wsL_tells (wsV RL 96 RX8 yX8_swap wsX8_swap) := goodIn_app (goodIn_of _ (by decide +kernel)) ggL_tells_X8_swap
set_option maxRecDepth 20000 in
theorem ggL_tells_X8_pay : GoodIn wsL_tells wsX8_pay := goodIn_ca (goodIn_ca (goodIn_r _ [44, 45, 46, 47, 9, 10, 11, 6, 12, 13, 14, 8, 15, 48, 49, 50, 51, 52, 53, 54, 55, 56, 57, 58, 70, 71, 72, 73, 74, 75, 76, 77, 78, 79, 80, 81, 82, 83, 84] (by decide +kernel) (by decide +kernel)) (goodIn_sub (fun _ h => List.mem_cons_of_mem _ (List.mem_append_left _ (List.mem_append_right _ h))) (by decide +kernel))) (goodIn_sub (fun _ h => List.mem_cons_of_mem _ (List.mem_append_right _ h)) (by decide +kernel))
set_option maxRecDepth 20000 in
theorem gL_tells_X8_pay : GoodIn wsL_tells (wsV RL 102 RX8 yX8_pay wsX8_pay) := goodIn_app (goodIn_of _ (by decide +kernel)) ggL_tells_X8_pay
set_option maxRecDepth 20000 in
theorem ggL_tells_X8_colour : GoodIn wsL_tells wsX8_colour := goodIn_ca (goodIn_ca (goodIn_r _ [62, 63, 9, 10, 11, 6, 12, 13, 14, 8, 15, 48, 49, 50, 51, 52, 64, 65, 66, 67, 68, 69, 70, 71, 72, 73, 74, 75, 76, 77, 78, 79, 80, 81, 85, 86] (by decide +kernel) (by decide +kernel)) (goodIn_sub (fun _ h => List.mem_cons_of_mem _ (List.mem_append_left _ (List.mem_append_right _ h))) (by decide +kernel))) (goodIn_sub (fun _ h => List.mem_cons_of_mem _ (List.mem_append_right _ h)) (by decide +kernel))
set_option maxRecDepth 20000 in
theorem gL_tells_X8_colour : GoodIn wsL_tells (wsV RL 105 RX8 yX8_colour wsX8_colour) := goodIn_app (goodIn_of _ (by decide +kernel)) ggL_tells_X8_colour
theorem dL_tells_0 : decode cL_tells 0 = .ok (.iload_n 1, 1) := by decide +kernel
theorem dL_tells_1 : decode cL_tells 1 = .ok (.aload_n 3, 1) := by decide +kernel
theorem dL_tells_2 : decode cL_tells 2 = .ok (.iconst 0, 1) := by decide +kernel
theorem dL_tells_3 : decode cL_tells 3 = .ok (.iaload, 1) := by decide +kernel
theorem dL_tells_4 : decode cL_tells 4 = .ok (.irem, 1) := by decide +kernel
theorem dL_tells_5 : decode cL_tells 5 = .ok (.istore 6, 2) := by decide +kernel
theorem dL_tells_7 : decode cL_tells 7 = .ok (.iload_n 1, 1) := by decide +kernel
theorem dL_tells_8 : decode cL_tells 8 = .ok (.bipush 6, 2) := by decide +kernel
theorem dL_tells_10 : decode cL_tells 10 = .ok (.idiv, 1) := by decide +kernel
theorem dL_tells_11 : decode cL_tells 11 = .ok (.aload_n 3, 1) := by decide +kernel
theorem dL_tells_12 : decode cL_tells 12 = .ok (.iconst 1, 1) := by decide +kernel
theorem dL_tells_13 : decode cL_tells 13 = .ok (.iaload, 1) := by decide +kernel
theorem dL_tells_14 : decode cL_tells 14 = .ok (.irem, 1) := by decide +kernel
theorem dL_tells_15 : decode cL_tells 15 = .ok (.istore 7, 2) := by decide +kernel
theorem dL_tells_17 : decode cL_tells 17 = .ok (.iload_n 1, 1) := by decide +kernel
theorem dL_tells_18 : decode cL_tells 18 = .ok (.bipush 72, 2) := by decide +kernel
theorem dL_tells_20 : decode cL_tells 20 = .ok (.idiv, 1) := by decide +kernel
theorem dL_tells_21 : decode cL_tells 21 = .ok (.bipush 6, 2) := by decide +kernel
theorem dL_tells_23 : decode cL_tells 23 = .ok (.irem, 1) := by decide +kernel
theorem dL_tells_24 : decode cL_tells 24 = .ok (.istore 8, 2) := by decide +kernel
theorem dL_tells_26 : decode cL_tells 26 = .ok (.iload 8, 2) := by decide +kernel
theorem dL_tells_28 : decode cL_tells 28 = .ok (.iconst 3, 1) := by decide +kernel
theorem dL_tells_29 : decode cL_tells 29 = .ok (.if_icmp .ge 56, 3) := by decide +kernel
theorem dL_tells_32 : decode cL_tells 32 = .ok (.aload 4, 2) := by decide +kernel
theorem dL_tells_34 : decode cL_tells 34 = .ok (.bipush 10, 2) := by decide +kernel
theorem dL_tells_36 : decode cL_tells 36 = .ok (.iload 6, 2) := by decide +kernel
theorem dL_tells_38 : decode cL_tells 38 = .ok (.imul, 1) := by decide +kernel
theorem dL_tells_39 : decode cL_tells 39 = .ok (.iload 7, 2) := by decide +kernel
theorem dL_tells_41 : decode cL_tells 41 = .ok (.iadd, 1) := by decide +kernel
theorem dL_tells_42 : decode cL_tells 42 = .ok (.iaload, 1) := by decide +kernel
theorem dL_tells_43 : decode cL_tells 43 = .ok (.istore 9, 2) := by decide +kernel
theorem dL_tells_45 : decode cL_tells 45 = .ok (.aload 4, 2) := by decide +kernel
theorem dL_tells_47 : decode cL_tells 47 = .ok (.bipush 10, 2) := by decide +kernel
theorem dL_tells_49 : decode cL_tells 49 = .ok (.iload 6, 2) := by decide +kernel
theorem dL_tells_51 : decode cL_tells 51 = .ok (.imul, 1) := by decide +kernel
theorem dL_tells_52 : decode cL_tells 52 = .ok (.iload 7, 2) := by decide +kernel
theorem dL_tells_54 : decode cL_tells 54 = .ok (.iadd, 1) := by decide +kernel
theorem dL_tells_55 : decode cL_tells 55 = .ok (.iload_n 2, 1) := by decide +kernel
theorem dL_tells_56 : decode cL_tells 56 = .ok (.aload_n 3, 1) := by decide +kernel
theorem dL_tells_57 : decode cL_tells 57 = .ok (.iconst 0, 1) := by decide +kernel
theorem dL_tells_58 : decode cL_tells 58 = .ok (.iaload, 1) := by decide +kernel
theorem dL_tells_59 : decode cL_tells 59 = .ok (.irem, 1) := by decide +kernel
theorem dL_tells_60 : decode cL_tells 60 = .ok (.iastore, 1) := by decide +kernel
theorem dL_tells_61 : decode cL_tells 61 = .ok (.aload_n 0, 1) := by decide +kernel
theorem dL_tells_62 : decode cL_tells 62 = .ok (.iload 6, 2) := by decide +kernel
theorem dL_tells_64 : decode cL_tells 64 = .ok (.iload 7, 2) := by decide +kernel
theorem dL_tells_66 : decode cL_tells 66 = .ok (.iload_n 2, 1) := by decide +kernel
theorem dL_tells_67 : decode cL_tells 67 = .ok (.aload_n 3, 1) := by decide +kernel
theorem dL_tells_68 : decode cL_tells 68 = .ok (.iconst 0, 1) := by decide +kernel
theorem dL_tells_69 : decode cL_tells 69 = .ok (.iaload, 1) := by decide +kernel
theorem dL_tells_70 : decode cL_tells 70 = .ok (.irem, 1) := by decide +kernel
theorem dL_tells_71 : decode cL_tells 71 = .ok (.invokevirtual 92, 3) := by decide +kernel
theorem dL_tells_74 : decode cL_tells 74 = .ok (.iload 9, 2) := by decide +kernel
theorem dL_tells_76 : decode cL_tells 76 = .ok (.if_icmp .ne 7, 3) := by decide +kernel
theorem dL_tells_79 : decode cL_tells 79 = .ok (.iconst 1, 1) := by decide +kernel
theorem dL_tells_80 : decode cL_tells 80 = .ok (.goto 4, 3) := by decide +kernel
theorem dL_tells_83 : decode cL_tells 83 = .ok (.iconst 0, 1) := by decide +kernel
theorem dL_tells_84 : decode cL_tells 84 = .ok (.ireturn, 1) := by decide +kernel
theorem dL_tells_85 : decode cL_tells 85 = .ok (.iload 8, 2) := by decide +kernel
theorem dL_tells_87 : decode cL_tells 87 = .ok (.iconst 3, 1) := by decide +kernel
theorem dL_tells_88 : decode cL_tells 88 = .ok (.if_icmp .ne 97, 3) := by decide +kernel
theorem dL_tells_91 : decode cL_tells 91 = .ok (.iload_n 2, 1) := by decide +kernel
theorem dL_tells_92 : decode cL_tells 92 = .ok (.aload_n 3, 1) := by decide +kernel
theorem dL_tells_93 : decode cL_tells 93 = .ok (.iconst 1, 1) := by decide +kernel
theorem dL_tells_94 : decode cL_tells 94 = .ok (.iaload, 1) := by decide +kernel
theorem dL_tells_95 : decode cL_tells 95 = .ok (.irem, 1) := by decide +kernel
theorem dL_tells_96 : decode cL_tells 96 = .ok (.istore 9, 2) := by decide +kernel
theorem dL_tells_98 : decode cL_tells 98 = .ok (.aload 4, 2) := by decide +kernel
theorem dL_tells_100 : decode cL_tells 100 = .ok (.bipush 10, 2) := by decide +kernel
theorem dL_tells_102 : decode cL_tells 102 = .ok (.iload 6, 2) := by decide +kernel
theorem dL_tells_104 : decode cL_tells 104 = .ok (.imul, 1) := by decide +kernel
theorem dL_tells_105 : decode cL_tells 105 = .ok (.iload 7, 2) := by decide +kernel
theorem dL_tells_107 : decode cL_tells 107 = .ok (.iadd, 1) := by decide +kernel
theorem dL_tells_108 : decode cL_tells 108 = .ok (.iaload, 1) := by decide +kernel
theorem dL_tells_109 : decode cL_tells 109 = .ok (.istore 10, 2) := by decide +kernel
theorem dL_tells_111 : decode cL_tells 111 = .ok (.aload_n 0, 1) := by decide +kernel
theorem dL_tells_112 : decode cL_tells 112 = .ok (.iload 6, 2) := by decide +kernel
theorem dL_tells_114 : decode cL_tells 114 = .ok (.iload 10, 2) := by decide +kernel
theorem dL_tells_116 : decode cL_tells 116 = .ok (.invokevirtual 10, 3) := by decide +kernel
theorem dL_tells_119 : decode cL_tells 119 = .ok (.istore 11, 2) := by decide +kernel
theorem dL_tells_121 : decode cL_tells 121 = .ok (.aload 4, 2) := by decide +kernel
theorem dL_tells_123 : decode cL_tells 123 = .ok (.bipush 10, 2) := by decide +kernel
theorem dL_tells_125 : decode cL_tells 125 = .ok (.iload 6, 2) := by decide +kernel
theorem dL_tells_127 : decode cL_tells 127 = .ok (.imul, 1) := by decide +kernel
theorem dL_tells_128 : decode cL_tells 128 = .ok (.iload 7, 2) := by decide +kernel
theorem dL_tells_130 : decode cL_tells 130 = .ok (.iadd, 1) := by decide +kernel
theorem dL_tells_131 : decode cL_tells 131 = .ok (.aload 4, 2) := by decide +kernel
theorem dL_tells_133 : decode cL_tells 133 = .ok (.bipush 10, 2) := by decide +kernel
theorem dL_tells_135 : decode cL_tells 135 = .ok (.iload 6, 2) := by decide +kernel
theorem dL_tells_137 : decode cL_tells 137 = .ok (.imul, 1) := by decide +kernel
theorem dL_tells_138 : decode cL_tells 138 = .ok (.iload 9, 2) := by decide +kernel
theorem dL_tells_140 : decode cL_tells 140 = .ok (.iadd, 1) := by decide +kernel
theorem dL_tells_141 : decode cL_tells 141 = .ok (.iaload, 1) := by decide +kernel
theorem dL_tells_142 : decode cL_tells 142 = .ok (.iastore, 1) := by decide +kernel
theorem dL_tells_143 : decode cL_tells 143 = .ok (.aload 4, 2) := by decide +kernel
theorem dL_tells_145 : decode cL_tells 145 = .ok (.bipush 10, 2) := by decide +kernel
theorem dL_tells_147 : decode cL_tells 147 = .ok (.iload 6, 2) := by decide +kernel
theorem dL_tells_149 : decode cL_tells 149 = .ok (.imul, 1) := by decide +kernel
theorem dL_tells_150 : decode cL_tells 150 = .ok (.iload 9, 2) := by decide +kernel
theorem dL_tells_152 : decode cL_tells 152 = .ok (.iadd, 1) := by decide +kernel
theorem dL_tells_153 : decode cL_tells 153 = .ok (.iload 10, 2) := by decide +kernel
theorem dL_tells_155 : decode cL_tells 155 = .ok (.iastore, 1) := by decide +kernel
theorem dL_tells_156 : decode cL_tells 156 = .ok (.aload_n 0, 1) := by decide +kernel
theorem dL_tells_157 : decode cL_tells 157 = .ok (.iload 6, 2) := by decide +kernel
theorem dL_tells_159 : decode cL_tells 159 = .ok (.iload 7, 2) := by decide +kernel
theorem dL_tells_161 : decode cL_tells 161 = .ok (.iload 9, 2) := by decide +kernel
theorem dL_tells_163 : decode cL_tells 163 = .ok (.invokevirtual 96, 3) := by decide +kernel
theorem dL_tells_166 : decode cL_tells 166 = .ok (.aload_n 0, 1) := by decide +kernel
theorem dL_tells_167 : decode cL_tells 167 = .ok (.iload 6, 2) := by decide +kernel
theorem dL_tells_169 : decode cL_tells 169 = .ok (.iload 10, 2) := by decide +kernel
theorem dL_tells_171 : decode cL_tells 171 = .ok (.invokevirtual 10, 3) := by decide +kernel
theorem dL_tells_174 : decode cL_tells 174 = .ok (.iload 11, 2) := by decide +kernel
theorem dL_tells_176 : decode cL_tells 176 = .ok (.if_icmp .ne 7, 3) := by decide +kernel
theorem dL_tells_179 : decode cL_tells 179 = .ok (.iconst 1, 1) := by decide +kernel
theorem dL_tells_180 : decode cL_tells 180 = .ok (.goto 4, 3) := by decide +kernel
theorem dL_tells_183 : decode cL_tells 183 = .ok (.iconst 0, 1) := by decide +kernel
theorem dL_tells_184 : decode cL_tells 184 = .ok (.ireturn, 1) := by decide +kernel
theorem dL_tells_185 : decode cL_tells 185 = .ok (.iload 8, 2) := by decide +kernel
theorem dL_tells_187 : decode cL_tells 187 = .ok (.iconst 4, 1) := by decide +kernel
theorem dL_tells_188 : decode cL_tells 188 = .ok (.if_icmp .ne 44, 3) := by decide +kernel
theorem dL_tells_191 : decode cL_tells 191 = .ok (.aload 5, 2) := by decide +kernel
theorem dL_tells_193 : decode cL_tells 193 = .ok (.iload 6, 2) := by decide +kernel
theorem dL_tells_195 : decode cL_tells 195 = .ok (.iaload, 1) := by decide +kernel
theorem dL_tells_196 : decode cL_tells 196 = .ok (.istore 9, 2) := by decide +kernel
theorem dL_tells_198 : decode cL_tells 198 = .ok (.aload 5, 2) := by decide +kernel
theorem dL_tells_200 : decode cL_tells 200 = .ok (.iload 6, 2) := by decide +kernel
theorem dL_tells_202 : decode cL_tells 202 = .ok (.iload_n 2, 1) := by decide +kernel
theorem dL_tells_203 : decode cL_tells 203 = .ok (.ldc 100, 2) := by decide +kernel
theorem dL_tells_205 : decode cL_tells 205 = .ok (.irem, 1) := by decide +kernel
theorem dL_tells_206 : decode cL_tells 206 = .ok (.ldc 101, 2) := by decide +kernel
theorem dL_tells_208 : decode cL_tells 208 = .ok (.isub, 1) := by decide +kernel
theorem dL_tells_209 : decode cL_tells 209 = .ok (.iastore, 1) := by decide +kernel
theorem dL_tells_210 : decode cL_tells 210 = .ok (.aload_n 0, 1) := by decide +kernel
theorem dL_tells_211 : decode cL_tells 211 = .ok (.iload 6, 2) := by decide +kernel
theorem dL_tells_213 : decode cL_tells 213 = .ok (.aload 5, 2) := by decide +kernel
theorem dL_tells_215 : decode cL_tells 215 = .ok (.iload 6, 2) := by decide +kernel
theorem dL_tells_217 : decode cL_tells 217 = .ok (.iaload, 1) := by decide +kernel
theorem dL_tells_218 : decode cL_tells 218 = .ok (.invokevirtual 102, 3) := by decide +kernel
theorem dL_tells_221 : decode cL_tells 221 = .ok (.iload 9, 2) := by decide +kernel
theorem dL_tells_223 : decode cL_tells 223 = .ok (.if_icmp .ne 7, 3) := by decide +kernel
theorem dL_tells_226 : decode cL_tells 226 = .ok (.iconst 1, 1) := by decide +kernel
theorem dL_tells_227 : decode cL_tells 227 = .ok (.goto 4, 3) := by decide +kernel
theorem dL_tells_230 : decode cL_tells 230 = .ok (.iconst 0, 1) := by decide +kernel
theorem dL_tells_231 : decode cL_tells 231 = .ok (.ireturn, 1) := by decide +kernel
theorem dL_tells_232 : decode cL_tells 232 = .ok (.aload 5, 2) := by decide +kernel
theorem dL_tells_234 : decode cL_tells 234 = .ok (.bipush 6, 2) := by decide +kernel
theorem dL_tells_236 : decode cL_tells 236 = .ok (.iload 6, 2) := by decide +kernel
theorem dL_tells_238 : decode cL_tells 238 = .ok (.iadd, 1) := by decide +kernel
theorem dL_tells_239 : decode cL_tells 239 = .ok (.iaload, 1) := by decide +kernel
theorem dL_tells_240 : decode cL_tells 240 = .ok (.istore 9, 2) := by decide +kernel
theorem dL_tells_242 : decode cL_tells 242 = .ok (.aload 5, 2) := by decide +kernel
theorem dL_tells_244 : decode cL_tells 244 = .ok (.bipush 6, 2) := by decide +kernel
theorem dL_tells_246 : decode cL_tells 246 = .ok (.iload 6, 2) := by decide +kernel
theorem dL_tells_248 : decode cL_tells 248 = .ok (.iadd, 1) := by decide +kernel
theorem dL_tells_249 : decode cL_tells 249 = .ok (.iload_n 2, 1) := by decide +kernel
theorem dL_tells_250 : decode cL_tells 250 = .ok (.iconst 3, 1) := by decide +kernel
theorem dL_tells_251 : decode cL_tells 251 = .ok (.irem, 1) := by decide +kernel
theorem dL_tells_252 : decode cL_tells 252 = .ok (.iastore, 1) := by decide +kernel
theorem dL_tells_253 : decode cL_tells 253 = .ok (.aload_n 0, 1) := by decide +kernel
theorem dL_tells_254 : decode cL_tells 254 = .ok (.iload 6, 2) := by decide +kernel
theorem dL_tells_256 : decode cL_tells 256 = .ok (.aload 5, 2) := by decide +kernel
theorem dL_tells_258 : decode cL_tells 258 = .ok (.bipush 6, 2) := by decide +kernel
theorem dL_tells_260 : decode cL_tells 260 = .ok (.iload 6, 2) := by decide +kernel
theorem dL_tells_262 : decode cL_tells 262 = .ok (.iadd, 1) := by decide +kernel
theorem dL_tells_263 : decode cL_tells 263 = .ok (.iaload, 1) := by decide +kernel
theorem dL_tells_264 : decode cL_tells 264 = .ok (.invokevirtual 105, 3) := by decide +kernel
theorem dL_tells_267 : decode cL_tells 267 = .ok (.iload 9, 2) := by decide +kernel
theorem dL_tells_269 : decode cL_tells 269 = .ok (.if_icmp .ne 7, 3) := by decide +kernel
theorem dL_tells_272 : decode cL_tells 272 = .ok (.iconst 1, 1) := by decide +kernel
theorem dL_tells_273 : decode cL_tells 273 = .ok (.goto 4, 3) := by decide +kernel
theorem dL_tells_276 : decode cL_tells 276 = .ok (.iconst 0, 1) := by decide +kernel
theorem dL_tells_277 : decode cL_tells 277 = .ok (.ireturn, 1) := by decide +kernel
set_option maxRecDepth 20000 in
theorem ggL_hall_X8_init : GoodIn wsL_hall wsX8_init := goodIn_r _ [9, 10, 11, 12, 13, 14, 15, 16, 17, 18, 19, 20, 21, 22, 23, 24, 25, 26, 27, 28, 29, 30, 31, 32, 33, 34, 35, 36, 37, 38, 39, 40, 41, 42, 43, 44, 45, 46, 47, 48, 49, 4, 50, 51, 52, 53, 54, 55, 56, 57, 58, 59, 60, 61, 62, 63, 64, 65, 66, 67, 68, 69, 70, 71, 72, 73, 74, 75, 76, 77, 78, 79, 80, 81, 82, 83, 84, 85, 86, 87, 88, 89, 90, 91, 92, 93, 94, 95, 96, 97, 98, 99, 100, 101, 102, 103, 104, 105, 106, 107, 108, 109, 110, 111, 112, 547, 548, 549, 550, 539, 540, 541, 542, 543, 544, 545, 546, 551, 552, 553, 554, 555, 556, 557, 558, 559, 560, 561, 562, 563, 564, 565, 566, 567, 568, 569] (by decide +kernel) (by decide +kernel)
set_option maxRecDepth 20000 in
theorem gL_hall_X8_init : GoodIn wsL_hall (wsX8_init) := ggL_hall_X8_init
set_option maxRecDepth 20000 in
theorem ggL_hall_L_draw : GoodIn wsL_hall wsL_draw := goodIn_r _ [116, 117, 118, 119] (by decide +kernel) (by decide +kernel)
set_option maxRecDepth 20000 in
theorem gL_hall_L_draw : GoodIn wsL_hall (va_wsS RL 109 yL_draw wsL_draw) := goodIn_app (goodIn_of _ (by decide +kernel)) ggL_hall_L_draw
set_option maxRecDepth 20000 in
theorem ggL_hall_X8_begin : GoodIn wsL_hall wsX8_begin := goodIn_ca (goodIn_r _ [123, 16, 40, 44, 124, 125, 3, 126, 127, 128, 103, 104, 105, 15, 106, 107, 108, 50, 51, 109, 110, 111, 112, 129, 130, 131, 39, 132, 94, 133, 134, 135, 136, 43, 137, 102, 138, 539, 540, 541, 542, 543, 544, 545, 546, 547, 548, 549, 550, 565, 566, 567, 568, 569] (by decide +kernel) (by decide +kernel)) (goodIn_sub (fun _ h => List.mem_cons_of_mem _ (List.mem_append_left _ (List.mem_append_left _ (List.mem_append_right _ h)))) (by decide +kernel))
set_option maxRecDepth 20000 in
theorem gL_hall_X8_begin : GoodIn wsL_hall (wsV RL 114 RX8 yX8_begin wsX8_begin) := goodIn_app (goodIn_of _ (by decide +kernel)) ggL_hall_X8_begin
set_option maxRecDepth 20000 in
theorem ggL_hall_X8_lead : GoodIn wsL_hall wsX8_lead := goodIn_ca (goodIn_r _ [142, 16, 143, 144, 145, 3, 146, 147, 148, 149, 150, 151, 152, 153, 154, 155, 156, 157, 15, 158, 50, 51, 539, 540, 541, 542, 543, 544, 545, 546, 547, 548, 549, 550] (by decide +kernel) (by decide +kernel)) (goodIn_sub (fun _ h => List.mem_cons_of_mem _ (List.mem_append_left _ (List.mem_append_right _ h))) (by decide +kernel))
set_option maxRecDepth 20000 in
theorem gL_hall_X8_lead : GoodIn wsL_hall (wsV RL 92 RX8 yX8_lead wsX8_lead) := goodIn_app (goodIn_of _ (by decide +kernel)) ggL_hall_X8_lead
set_option maxRecDepth 20000 in
theorem ggL_hall_L_areLaws : GoodIn wsL_hall wsL_areLaws := goodIn_ca (goodIn_ca (goodIn_r _ [161, 162, 163, 164, 3, 165, 16, 166, 143, 144, 145, 146, 147, 148, 149, 167, 168, 169, 170, 20, 124, 125, 126, 127, 128, 171, 172, 173, 19, 174, 59, 175, 176, 177, 178, 56, 179, 180, 181, 182, 183, 184, 185, 186, 187, 188, 189, 190, 191, 192, 193, 154, 194, 195, 196, 197, 198, 199, 200, 201, 15, 202, 108, 203, 204, 205, 206, 28, 207, 208, 209, 27, 210, 73, 211, 212, 213, 214, 215, 216, 217, 218, 219, 220, 221, 222, 223, 224, 225, 226, 227, 228, 229, 230, 539, 540, 541, 542, 543, 544, 545, 546, 547, 548, 549, 550, 551, 552, 553, 557] (by decide +kernel) (by decide +kernel)) (goodIn_sub (fun _ h => List.mem_cons_of_mem _ (List.mem_append_left _ (List.mem_append_right _ h))) (by decide +kernel))) (goodIn_sub (fun _ h => List.mem_cons_of_mem _ (List.mem_append_left _ (List.mem_append_left _ (List.mem_append_right _ h)))) (by decide +kernel))
set_option maxRecDepth 20000 in
theorem gL_hall_L_areLaws : GoodIn wsL_hall (va_wsS RL 119 yL_areLaws wsL_areLaws) := goodIn_app (goodIn_of _ (by decide +kernel)) ggL_hall_L_areLaws
set_option maxRecDepth 20000 in
theorem ggL_hall_L_tells : GoodIn wsL_hall wsL_tells := goodIn_ca (goodIn_ca (goodIn_r _ [233, 234, 235, 139, 140, 141, 3, 142, 16, 143, 144, 145, 146, 147, 148, 149, 150, 151, 152, 153, 154, 155, 156, 157, 15, 158, 50, 51, 162, 163, 164, 165, 166, 236, 237, 238, 239, 240, 241, 242, 243, 244, 245, 246, 247, 248, 249, 40, 124, 125, 126, 127, 128, 250, 251, 252, 39, 253, 94, 254, 255, 256, 257, 44, 258, 259, 260, 43, 261, 102, 539, 540, 541, 542, 543, 544, 545, 546, 547, 548, 549, 550, 565, 566, 567, 568, 569] (by decide +kernel) (by decide +kernel)) (goodIn_sub (fun _ h => List.mem_cons_of_mem _ (List.mem_append_left _ (List.mem_append_right _ h))) (by decide +kernel))) (goodIn_sub (fun _ h => List.mem_cons_of_mem _ (List.mem_append_left _ (List.mem_append_left _ (List.mem_append_right _ h)))) (by decide +kernel))
set_option maxRecDepth 20000 in
theorem gL_hall_L_tells : GoodIn wsL_hall (va_wsS RL 123 yL_tells wsL_tells) := goodIn_app (goodIn_of _ (by decide +kernel)) ggL_hall_L_tells
set_option maxRecDepth 20000 in
theorem ggL_hall_L_areFar : GoodIn wsL_hall wsL_areFar := goodIn_ca (goodIn_ca (goodIn_r _ [264, 265, 266, 267, 3, 268, 20, 143, 144, 145, 146, 147, 148, 16, 149, 124, 125, 126, 127, 128, 269, 176, 177, 19, 178, 56, 179, 59, 180, 181, 182, 183, 184, 185, 186, 270, 271, 272, 273, 274, 275, 276, 277, 278, 279, 280, 281, 24, 282, 283, 284, 23, 285, 65, 286, 67, 287, 288, 289, 290, 291, 292, 195, 196, 197, 198, 199, 200, 201, 15, 202, 108, 293, 294, 295, 296, 297, 298, 299, 300, 68, 301, 302, 111, 303, 304, 305, 306, 307, 308, 309, 310, 311, 312, 313, 314, 315, 316, 317, 318, 319, 60, 320, 321, 322, 323, 324, 325, 326, 327, 328, 107, 51, 167, 168, 169, 170, 171, 172, 173, 174, 175, 203, 204, 205, 206, 28, 207, 208, 209, 27, 210, 73, 211, 212, 213, 214, 215, 216, 539, 540, 541, 542, 543, 544, 545, 546, 547, 548, 549, 550, 551, 552, 553, 554, 555, 556, 557] (by decide +kernel) (by decide +kernel)) (goodIn_sub (fun _ h => List.mem_cons_of_mem _ (List.mem_append_left _ (List.mem_append_right _ h))) (by decide +kernel))) (goodIn_sub (fun _ h => List.mem_cons_of_mem _ (List.mem_append_left _ (List.mem_append_left _ (List.mem_append_right _ h)))) (by decide +kernel))
set_option maxRecDepth 20000 in
theorem gL_hall_L_areFar : GoodIn wsL_hall (va_wsS RL 127 yL_areFar wsL_areFar) := goodIn_app (goodIn_of _ (by decide +kernel)) ggL_hall_L_areFar
set_option maxRecDepth 20000 in
theorem ggL_hall_L_isMixed : GoodIn wsL_hall wsL_isMixed := goodIn_ca (goodIn_ca (goodIn_r _ [331, 332, 333, 334, 335, 3, 336, 20, 124, 125, 126, 127, 128, 269, 176, 177, 19, 178, 56, 179, 59, 180, 181, 182, 183, 184, 185, 186, 337, 338, 339, 340, 341, 324, 200, 201, 15, 202, 108, 342, 271, 272, 273, 274, 275, 276, 277, 265, 266, 267, 268, 143, 144, 145, 146, 147, 148, 16, 149, 270, 195, 196, 197, 198, 199, 539, 540, 541, 542, 543, 544, 545, 546, 551, 552, 553, 547, 548, 549, 550] (by decide +kernel) (by decide +kernel)) (goodIn_sub (fun _ h => List.mem_cons_of_mem _ (List.mem_append_left _ (List.mem_append_left _ (List.mem_append_right _ h)))) (by decide +kernel))) (goodIn_sub (fun _ h => List.mem_cons_of_mem _ (List.mem_append_left _ (List.mem_append_right _ h))) (by decide +kernel))
set_option maxRecDepth 20000 in
theorem gL_hall_L_isMixed : GoodIn wsL_hall (va_wsS RL 130 yL_isMixed wsL_isMixed) := goodIn_app (goodIn_of _ (by decide +kernel)) ggL_hall_L_isMixed
set_option maxRecDepth 20000 in
theorem ggL_hall_L_isDraw : GoodIn wsL_hall wsL_isDraw := goodIn_ca (goodIn_r _ [345, 4, 6, 346, 347, 348, 3, 349, 350, 36, 124, 125, 126, 127, 128, 351, 352, 353, 35, 354, 86, 355, 87, 356, 357, 358, 359, 360, 361, 362, 363, 364, 365, 366, 367, 368, 369, 370, 371, 372, 88, 373, 374, 375, 376, 377, 539, 540, 541, 542, 543, 544, 545, 546, 562, 563, 564, 547, 548, 549, 550] (by decide +kernel) (by decide +kernel)) (goodIn_sub (fun _ h => List.mem_cons_of_mem _ (List.mem_append_left _ (List.mem_append_left _ (List.mem_append_right _ h)))) (by decide +kernel))
set_option maxRecDepth 20000 in
theorem gL_hall_L_isDraw : GoodIn wsL_hall (va_wsS RL 133 yL_isDraw wsL_isDraw) := goodIn_app (goodIn_of _ (by decide +kernel)) ggL_hall_L_isDraw
set_option maxRecDepth 20000 in
theorem ggL_hall_X8_walk : GoodIn wsL_hall wsX8_walk := goodIn_ca (goodIn_ca (goodIn_r _ [381, 350, 36, 143, 144, 145, 3, 146, 147, 148, 16, 149, 124, 125, 126, 127, 128, 382, 383, 384, 35, 385, 86, 377, 360, 361, 362, 363, 364, 365, 366, 367, 368, 539, 540, 541, 542, 543, 544, 545, 546, 547, 548, 549, 550, 562, 563, 564] (by decide +kernel) (by decide +kernel)) (goodIn_sub (fun _ h => List.mem_cons_of_mem _ (List.mem_append_left _ (List.mem_append_right _ h))) (by decide +kernel))) (goodIn_sub (fun _ h => List.mem_cons_of_mem _ (List.mem_append_left _ (List.mem_append_left _ (List.mem_append_right _ h)))) (by decide +kernel))
set_option maxRecDepth 20000 in
theorem gL_hall_X8_walk : GoodIn wsL_hall (wsV RL 137 RX8 yX8_walk wsX8_walk) := goodIn_app (goodIn_of _ (by decide +kernel)) ggL_hall_X8_walk
set_option maxRecDepth 20000 in
theorem ggL_hall_L_walked : GoodIn wsL_hall wsL_walked := goodIn_r _ [388, 6] (by decide +kernel) (by decide +kernel)
set_option maxRecDepth 20000 in
theorem gL_hall_L_walked : GoodIn wsL_hall (va_wsS RL 140 yL_walked wsL_walked) := goodIn_app (goodIn_of _ (by decide +kernel)) ggL_hall_L_walked
set_option maxRecDepth 20000 in
theorem ggL_hall_L_areGames : GoodIn wsL_hall wsL_areGames := goodIn_ca (goodIn_ca (goodIn_r _ [391, 392, 393, 394, 395, 3, 396, 40, 143, 144, 145, 146, 147, 148, 16, 149, 124, 125, 126, 127, 128, 397, 398, 399, 39, 400, 96, 401, 402, 403, 404, 93, 405, 406, 275, 276, 277, 407, 408, 409, 410, 94, 411, 200, 201, 15, 202, 108, 412, 413, 414, 415, 416, 326, 327, 328, 107, 51, 417, 418, 419, 420, 421, 422, 423, 424, 425, 426, 195, 196, 197, 198, 199, 427, 428, 429, 430, 431, 432, 433, 434, 435, 436, 437, 438, 539, 540, 541, 542, 543, 544, 545, 546, 547, 548, 549, 550, 565, 566, 567] (by decide +kernel) (by decide +kernel)) (goodIn_sub (fun _ h => List.mem_cons_of_mem _ (List.mem_append_left _ (List.mem_append_right _ h))) (by decide +kernel))) (goodIn_sub (fun _ h => List.mem_cons_of_mem _ (List.mem_append_left _ (List.mem_append_left _ (List.mem_append_right _ h)))) (by decide +kernel))
set_option maxRecDepth 20000 in
theorem gL_hall_L_areGames : GoodIn wsL_hall (va_wsS RL 144 yL_areGames wsL_areGames) := goodIn_app (goodIn_of _ (by decide +kernel)) ggL_hall_L_areGames
set_option maxRecDepth 20000 in
theorem ggL_hall_L_areRests : GoodIn wsL_hall wsL_areRests := goodIn_ca (goodIn_ca (goodIn_r _ [441, 203, 204, 205, 3, 206, 28, 143, 144, 145, 146, 147, 148, 16, 149, 207, 208, 209, 27, 210, 73, 211, 212, 213, 214, 215, 216, 442, 443, 444, 445, 32, 446, 447, 448, 31, 449, 78, 450, 79, 451, 452, 453, 454, 455, 456, 457, 458, 81, 459, 460, 461, 462, 80, 463, 464, 465, 466, 467, 468, 469, 470, 471, 472, 473, 474, 475, 476, 477, 478, 479, 480, 162, 163, 164, 165, 166, 481, 482, 483, 484, 485, 486, 487, 488, 489, 490, 491, 492, 493, 494, 495, 496, 497, 498, 499, 500, 501, 502, 503, 504, 505, 506, 507, 508, 539, 540, 541, 542, 543, 544, 545, 546, 547, 548, 549, 550, 557, 558, 559, 560, 561] (by decide +kernel) (by decide +kernel)) (goodIn_sub (fun _ h => List.mem_cons_of_mem _ (List.mem_append_left _ (List.mem_append_right _ h))) (by decide +kernel))) (goodIn_sub (fun _ h => List.mem_cons_of_mem _ (List.mem_append_right _ h)) (by decide +kernel))
set_option maxRecDepth 20000 in
theorem gL_hall_L_areRests : GoodIn wsL_hall (va_wsS RL 148 yL_areRests wsL_areRests) := goodIn_app (goodIn_of _ (by decide +kernel)) ggL_hall_L_areRests
set_option maxRecDepth 20000 in
theorem ggL_hall_L_areLumps : GoodIn wsL_hall wsL_areLumps := goodIn_ca (goodIn_r _ [511, 442, 443, 444, 3, 445, 32, 446, 447, 448, 31, 449, 78, 450, 79, 451, 452, 453, 454, 455, 456, 457, 458, 81, 459, 460, 461, 462, 80, 463, 464, 465, 466, 467, 468, 469, 470, 471, 472, 473, 474, 475, 476, 477, 478, 479, 143, 144, 145, 146, 147, 148, 16, 149, 480, 162, 163, 164, 165, 166, 512, 513, 514, 515, 44, 516, 517, 518, 43, 519, 101, 520, 102, 521, 522, 523, 524, 525, 526, 527, 528, 529, 530, 531, 532, 533, 534, 535, 536, 537, 538, 539, 540, 541, 542, 543, 544, 545, 546, 558, 559, 560, 561, 547, 548, 549, 550, 568, 569] (by decide +kernel) (by decide +kernel)) (goodIn_sub (fun _ h => List.mem_cons_of_mem _ (List.mem_append_left _ (List.mem_append_right _ h))) (by decide +kernel))
set_option maxRecDepth 20000 in
theorem gL_hall_L_areLumps : GoodIn wsL_hall (va_wsS RL 152 yL_areLumps wsL_areLumps) := goodIn_app (goodIn_of _ (by decide +kernel)) ggL_hall_L_areLumps
theorem dL_hall_0 : decode cL_hall 0 = .ok (.new 11, 3) := by decide +kernel
theorem dL_hall_3 : decode cL_hall 3 = .ok (.dup, 1) := by decide +kernel
theorem dL_hall_4 : decode cL_hall 4 = .ok (.invokespecial 108, 3) := by decide +kernel
theorem dL_hall_7 : decode cL_hall 7 = .ok (.astore_n 2, 1) := by decide +kernel
theorem dL_hall_8 : decode cL_hall 8 = .ok (.iconst 2, 1) := by decide +kernel
theorem dL_hall_9 : decode cL_hall 9 = .ok (.newarray .int, 2) := by decide +kernel
theorem dL_hall_11 : decode cL_hall 11 = .ok (.astore_n 3, 1) := by decide +kernel
theorem dL_hall_12 : decode cL_hall 12 = .ok (.bipush 60, 2) := by decide +kernel
theorem dL_hall_14 : decode cL_hall 14 = .ok (.newarray .int, 2) := by decide +kernel
theorem dL_hall_16 : decode cL_hall 16 = .ok (.astore 4, 2) := by decide +kernel
theorem dL_hall_18 : decode cL_hall 18 = .ok (.bipush 12, 2) := by decide +kernel
theorem dL_hall_20 : decode cL_hall 20 = .ok (.newarray .int, 2) := by decide +kernel
theorem dL_hall_22 : decode cL_hall 22 = .ok (.astore 5, 2) := by decide +kernel
theorem dL_hall_24 : decode cL_hall 24 = .ok (.aload_n 3, 1) := by decide +kernel
theorem dL_hall_25 : decode cL_hall 25 = .ok (.iconst 0, 1) := by decide +kernel
theorem dL_hall_26 : decode cL_hall 26 = .ok (.iconst 1, 1) := by decide +kernel
theorem dL_hall_27 : decode cL_hall 27 = .ok (.aload_n 0, 1) := by decide +kernel
theorem dL_hall_28 : decode cL_hall 28 = .ok (.iload_n 1, 1) := by decide +kernel
theorem dL_hall_29 : decode cL_hall 29 = .ok (.bipush 6, 2) := by decide +kernel
theorem dL_hall_31 : decode cL_hall 31 = .ok (.invokestatic 109, 3) := by decide +kernel
theorem dL_hall_34 : decode cL_hall 34 = .ok (.iadd, 1) := by decide +kernel
theorem dL_hall_35 : decode cL_hall 35 = .ok (.iastore, 1) := by decide +kernel
theorem dL_hall_36 : decode cL_hall 36 = .ok (.aload_n 3, 1) := by decide +kernel
theorem dL_hall_37 : decode cL_hall 37 = .ok (.iconst 1, 1) := by decide +kernel
theorem dL_hall_38 : decode cL_hall 38 = .ok (.iconst 1, 1) := by decide +kernel
theorem dL_hall_39 : decode cL_hall 39 = .ok (.aload_n 0, 1) := by decide +kernel
theorem dL_hall_40 : decode cL_hall 40 = .ok (.iload_n 1, 1) := by decide +kernel
theorem dL_hall_41 : decode cL_hall 41 = .ok (.iconst 1, 1) := by decide +kernel
theorem dL_hall_42 : decode cL_hall 42 = .ok (.iadd, 1) := by decide +kernel
theorem dL_hall_43 : decode cL_hall 43 = .ok (.iconst 5, 1) := by decide +kernel
theorem dL_hall_44 : decode cL_hall 44 = .ok (.invokestatic 109, 3) := by decide +kernel
theorem dL_hall_47 : decode cL_hall 47 = .ok (.iadd, 1) := by decide +kernel
theorem dL_hall_48 : decode cL_hall 48 = .ok (.aload_n 0, 1) := by decide +kernel
theorem dL_hall_49 : decode cL_hall 49 = .ok (.iload_n 1, 1) := by decide +kernel
theorem dL_hall_50 : decode cL_hall 50 = .ok (.iconst 2, 1) := by decide +kernel
theorem dL_hall_51 : decode cL_hall 51 = .ok (.iadd, 1) := by decide +kernel
theorem dL_hall_52 : decode cL_hall 52 = .ok (.bipush 6, 2) := by decide +kernel
