theorem dL_build_311 : decode cL_build 311 = .ok (.istore 13, 2) := by decide +kernel
theorem dL_build_313 : decode cL_build 313 = .ok (.iconst 0, 1) := by decide +kernel
theorem dL_build_314 : decode cL_build 314 = .ok (.istore 14, 2) := by decide +kernel
theorem dL_build_316 : decode cL_build 316 = .ok (.iload 14, 2) := by decide +kernel
theorem dL_build_318 : decode cL_build 318 = .ok (.iload 12, 2) := by decide +kernel
theorem dL_build_320 : decode cL_build 320 = .ok (.if_icmp .ge 39, 3) := by decide +kernel
theorem dL_build_323 : decode cL_build 323 = .ok (.iload 13, 2) := by decide +kernel
theorem dL_build_325 : decode cL_build 325 = .ok (.ifCond .eq 34, 3) := by decide +kernel
theorem dL_build_328 : decode cL_build 328 = .ok (.aload_n 0, 1) := by decide +kernel
theorem dL_build_329 : decode cL_build 329 = .ok (.iconst 0, 1) := by decide +kernel
theorem dL_build_330 : decode cL_build 330 = .ok (.iload 14, 2) := by decide +kernel
theorem dL_build_332 : decode cL_build 332 = .ok (.aload 11, 2) := by decide +kernel
theorem dL_build_334 : decode cL_build 334 = .ok (.iload 14, 2) := by decide +kernel
theorem dL_build_336 : decode cL_build 336 = .ok (.iaload, 1) := by decide +kernel
theorem dL_build_337 : decode cL_build 337 = .ok (.invokevirtual 46, 3) := by decide +kernel
theorem dL_build_340 : decode cL_build 340 = .ok (.sipush 1032, 3) := by decide +kernel
theorem dL_build_343 : decode cL_build 343 = .ok (.if_icmp .ne 7, 3) := by decide +kernel
theorem dL_build_346 : decode cL_build 346 = .ok (.iconst 1, 1) := by decide +kernel
theorem dL_build_347 : decode cL_build 347 = .ok (.goto 4, 3) := by decide +kernel
theorem dL_build_350 : decode cL_build 350 = .ok (.iconst 0, 1) := by decide +kernel
theorem dL_build_351 : decode cL_build 351 = .ok (.istore 13, 2) := by decide +kernel
theorem dL_build_353 : decode cL_build 353 = .ok (.iinc 14 1, 3) := by decide +kernel
theorem dL_build_356 : decode cL_build 356 = .ok (.goto (-40), 3) := by decide +kernel
theorem dL_build_359 : decode cL_build 359 = .ok (.iload 13, 2) := by decide +kernel
theorem dL_build_361 : decode cL_build 361 = .ok (.ifCond .eq 53, 3) := by decide +kernel
theorem dL_build_364 : decode cL_build 364 = .ok (.aload_n 0, 1) := by decide +kernel
theorem dL_build_365 : decode cL_build 365 = .ok (.iconst 0, 1) := by decide +kernel
theorem dL_build_366 : decode cL_build 366 = .ok (.invokevirtual 50, 3) := by decide +kernel
theorem dL_build_369 : decode cL_build 369 = .ok (.bipush (-9), 2) := by decide +kernel
theorem dL_build_371 : decode cL_build 371 = .ok (.if_icmp .ne 43, 3) := by decide +kernel
theorem dL_build_374 : decode cL_build 374 = .ok (.aload_n 0, 1) := by decide +kernel
theorem dL_build_375 : decode cL_build 375 = .ok (.iconst 0, 1) := by decide +kernel
theorem dL_build_376 : decode cL_build 376 = .ok (.invokevirtual 53, 3) := by decide +kernel
theorem dL_build_379 : decode cL_build 379 = .ok (.aload 6, 2) := by decide +kernel
theorem dL_build_381 : decode cL_build 381 = .ok (.iconst 0, 1) := by decide +kernel
theorem dL_build_382 : decode cL_build 382 = .ok (.iaload, 1) := by decide +kernel
theorem dL_build_383 : decode cL_build 383 = .ok (.if_icmp .ne 31, 3) := by decide +kernel
theorem dL_build_386 : decode cL_build 386 = .ok (.aload_n 0, 1) := by decide +kernel
theorem dL_build_387 : decode cL_build 387 = .ok (.iconst 0, 1) := by decide +kernel
theorem dL_build_388 : decode cL_build 388 = .ok (.invokevirtual 56, 3) := by decide +kernel
theorem dL_build_391 : decode cL_build 391 = .ok (.aload 6, 2) := by decide +kernel
theorem dL_build_393 : decode cL_build 393 = .ok (.iconst 0, 1) := by decide +kernel
theorem dL_build_394 : decode cL_build 394 = .ok (.iaload, 1) := by decide +kernel
theorem dL_build_395 : decode cL_build 395 = .ok (.if_icmp .ne 19, 3) := by decide +kernel
theorem dL_build_398 : decode cL_build 398 = .ok (.aload_n 0, 1) := by decide +kernel
theorem dL_build_399 : decode cL_build 399 = .ok (.iconst 1, 1) := by decide +kernel
theorem dL_build_400 : decode cL_build 400 = .ok (.invokevirtual 56, 3) := by decide +kernel
theorem dL_build_403 : decode cL_build 403 = .ok (.aload 6, 2) := by decide +kernel
theorem dL_build_405 : decode cL_build 405 = .ok (.iconst 1, 1) := by decide +kernel
theorem dL_build_406 : decode cL_build 406 = .ok (.iaload, 1) := by decide +kernel
theorem dL_build_407 : decode cL_build 407 = .ok (.if_icmp .ne 7, 3) := by decide +kernel
theorem dL_build_410 : decode cL_build 410 = .ok (.iconst 1, 1) := by decide +kernel
theorem dL_build_411 : decode cL_build 411 = .ok (.goto 4, 3) := by decide +kernel
theorem dL_build_414 : decode cL_build 414 = .ok (.iconst 0, 1) := by decide +kernel
theorem dL_build_415 : decode cL_build 415 = .ok (.ireturn, 1) := by decide +kernel
set_option maxRecDepth 20000 in
theorem ggL_talks_L_cell : GoodIn wsL_talks wsL_cell := goodIn_r _ [4, 5] (by decide +kernel) (by decide +kernel)
set_option maxRecDepth 20000 in
theorem gL_talks_L_cell : GoodIn wsL_talks (va_wsS RL 30 yL_cell wsL_cell) := goodIn_app (goodIn_of _ (by decide +kernel)) ggL_talks_L_cell
set_option maxRecDepth 20000 in
theorem ggL_talks_L_some : GoodIn wsL_talks wsL_some := goodIn_r _ [8, 9] (by decide +kernel) (by decide +kernel)
set_option maxRecDepth 20000 in
theorem gL_talks_L_some : GoodIn wsL_talks (va_wsS RL 34 yL_some wsL_some) := goodIn_app (goodIn_of _ (by decide +kernel)) ggL_talks_L_some
set_option maxRecDepth 20000 in
theorem ggL_talks_X8_talk : GoodIn wsL_talks wsX8_talk := goodIn_r _ [14, 15, 16, 17, 18, 19, 13, 20, 21, 22, 23, 24, 25, 26, 27, 28, 29, 30, 31, 32, 33, 34, 35, 36, 37, 38, 39, 40, 41, 42, 43, 44, 45, 46, 47, 48, 49, 50, 51, 52, 53, 54, 55, 56, 57, 58, 59, 60, 61, 62, 63, 64, 65, 66] (by decide +kernel) (by decide +kernel)
set_option maxRecDepth 20000 in
theorem gL_talks_X8_talk : GoodIn wsL_talks (wsV RL 59 RX8 yX8_talk wsX8_talk) := goodIn_app (goodIn_of _ (by decide +kernel)) ggL_talks_X8_talk
theorem dL_talks_0 : decode cL_talks 0 = .ok (.aload_n 3, 1) := by decide +kernel
theorem dL_talks_1 : decode cL_talks 1 = .ok (.iconst 0, 1) := by decide +kernel
theorem dL_talks_2 : decode cL_talks 2 = .ok (.iaload, 1) := by decide +kernel
theorem dL_talks_3 : decode cL_talks 3 = .ok (.iconst 2, 1) := by decide +kernel
theorem dL_talks_4 : decode cL_talks 4 = .ok (.if_icmp .ge 7, 3) := by decide +kernel
theorem dL_talks_7 : decode cL_talks 7 = .ok (.iconst 0, 1) := by decide +kernel
theorem dL_talks_8 : decode cL_talks 8 = .ok (.goto 15, 3) := by decide +kernel
theorem dL_talks_11 : decode cL_talks 11 = .ok (.aload_n 1, 1) := by decide +kernel
theorem dL_talks_12 : decode cL_talks 12 = .ok (.iload_n 2, 1) := by decide +kernel
theorem dL_talks_13 : decode cL_talks 13 = .ok (.invokestatic 30, 3) := by decide +kernel
theorem dL_talks_16 : decode cL_talks 16 = .ok (.iload 5, 2) := by decide +kernel
theorem dL_talks_18 : decode cL_talks 18 = .ok (.iconst 1, 1) := by decide +kernel
theorem dL_talks_19 : decode cL_talks 19 = .ok (.iadd, 1) := by decide +kernel
theorem dL_talks_20 : decode cL_talks 20 = .ok (.invokestatic 34, 3) := by decide +kernel
theorem dL_talks_23 : decode cL_talks 23 = .ok (.istore 6, 2) := by decide +kernel
theorem dL_talks_25 : decode cL_talks 25 = .ok (.iconst 1, 1) := by decide +kernel
theorem dL_talks_26 : decode cL_talks 26 = .ok (.istore 7, 2) := by decide +kernel
theorem dL_talks_28 : decode cL_talks 28 = .ok (.iconst 0, 1) := by decide +kernel
theorem dL_talks_29 : decode cL_talks 29 = .ok (.istore 8, 2) := by decide +kernel
theorem dL_talks_31 : decode cL_talks 31 = .ok (.iload 8, 2) := by decide +kernel
theorem dL_talks_33 : decode cL_talks 33 = .ok (.iload 6, 2) := by decide +kernel
theorem dL_talks_35 : decode cL_talks 35 = .ok (.if_icmp .ge 155, 3) := by decide +kernel
theorem dL_talks_38 : decode cL_talks 38 = .ok (.iload 7, 2) := by decide +kernel
theorem dL_talks_40 : decode cL_talks 40 = .ok (.ifCond .eq 150, 3) := by decide +kernel
theorem dL_talks_43 : decode cL_talks 43 = .ok (.aload_n 1, 1) := by decide +kernel
theorem dL_talks_44 : decode cL_talks 44 = .ok (.iload_n 2, 1) := by decide +kernel
theorem dL_talks_45 : decode cL_talks 45 = .ok (.iconst 1, 1) := by decide +kernel
theorem dL_talks_46 : decode cL_talks 46 = .ok (.iadd, 1) := by decide +kernel
theorem dL_talks_47 : decode cL_talks 47 = .ok (.iload 8, 2) := by decide +kernel
theorem dL_talks_49 : decode cL_talks 49 = .ok (.iadd, 1) := by decide +kernel
theorem dL_talks_50 : decode cL_talks 50 = .ok (.invokestatic 30, 3) := by decide +kernel
theorem dL_talks_53 : decode cL_talks 53 = .ok (.istore 9, 2) := by decide +kernel
theorem dL_talks_55 : decode cL_talks 55 = .ok (.iload 9, 2) := by decide +kernel
theorem dL_talks_57 : decode cL_talks 57 = .ok (.aload_n 3, 1) := by decide +kernel
theorem dL_talks_58 : decode cL_talks 58 = .ok (.iconst 0, 1) := by decide +kernel
theorem dL_talks_59 : decode cL_talks 59 = .ok (.iaload, 1) := by decide +kernel
theorem dL_talks_60 : decode cL_talks 60 = .ok (.invokestatic 34, 3) := by decide +kernel
theorem dL_talks_63 : decode cL_talks 63 = .ok (.istore 10, 2) := by decide +kernel
theorem dL_talks_65 : decode cL_talks 65 = .ok (.iload 10, 2) := by decide +kernel
theorem dL_talks_67 : decode cL_talks 67 = .ok (.iconst 1, 1) := by decide +kernel
theorem dL_talks_68 : decode cL_talks 68 = .ok (.iadd, 1) := by decide +kernel
theorem dL_talks_69 : decode cL_talks 69 = .ok (.iload 9, 2) := by decide +kernel
theorem dL_talks_71 : decode cL_talks 71 = .ok (.iconst 3, 1) := by decide +kernel
theorem dL_talks_72 : decode cL_talks 72 = .ok (.ishr, 1) := by decide +kernel
theorem dL_talks_73 : decode cL_talks 73 = .ok (.aload_n 3, 1) := by decide +kernel
theorem dL_talks_74 : decode cL_talks 74 = .ok (.iconst 0, 1) := by decide +kernel
theorem dL_talks_75 : decode cL_talks 75 = .ok (.iaload, 1) := by decide +kernel
theorem dL_talks_76 : decode cL_talks 76 = .ok (.iconst 1, 1) := by decide +kernel
theorem dL_talks_77 : decode cL_talks 77 = .ok (.isub, 1) := by decide +kernel
theorem dL_talks_78 : decode cL_talks 78 = .ok (.invokestatic 34, 3) := by decide +kernel
theorem dL_talks_81 : decode cL_talks 81 = .ok (.iadd, 1) := by decide +kernel
theorem dL_talks_82 : decode cL_talks 82 = .ok (.aload_n 3, 1) := by decide +kernel
theorem dL_talks_83 : decode cL_talks 83 = .ok (.iconst 0, 1) := by decide +kernel
theorem dL_talks_84 : decode cL_talks 84 = .ok (.iaload, 1) := by decide +kernel
theorem dL_talks_85 : decode cL_talks 85 = .ok (.irem, 1) := by decide +kernel
theorem dL_talks_86 : decode cL_talks 86 = .ok (.istore 11, 2) := by decide +kernel
theorem dL_talks_88 : decode cL_talks 88 = .ok (.iload 9, 2) := by decide +kernel
theorem dL_talks_90 : decode cL_talks 90 = .ok (.bipush 6, 2) := by decide +kernel
theorem dL_talks_92 : decode cL_talks 92 = .ok (.ishr, 1) := by decide +kernel
theorem dL_talks_93 : decode cL_talks 93 = .ok (.iconst 1, 1) := by decide +kernel
theorem dL_talks_94 : decode cL_talks 94 = .ok (.aload_n 3, 1) := by decide +kernel
theorem dL_talks_95 : decode cL_talks 95 = .ok (.iconst 0, 1) := by decide +kernel
theorem dL_talks_96 : decode cL_talks 96 = .ok (.iaload, 1) := by decide +kernel
theorem dL_talks_97 : decode cL_talks 97 = .ok (.ishl, 1) := by decide +kernel
theorem dL_talks_98 : decode cL_talks 98 = .ok (.invokestatic 34, 3) := by decide +kernel
theorem dL_talks_101 : decode cL_talks 101 = .ok (.iload 9, 2) := by decide +kernel
theorem dL_talks_103 : decode cL_talks 103 = .ok (.bipush 13, 2) := by decide +kernel
theorem dL_talks_105 : decode cL_talks 105 = .ok (.ishr, 1) := by decide +kernel
theorem dL_talks_106 : decode cL_talks 106 = .ok (.iconst 1, 1) := by decide +kernel
theorem dL_talks_107 : decode cL_talks 107 = .ok (.aload_n 3, 1) := by decide +kernel
theorem dL_talks_108 : decode cL_talks 108 = .ok (.iconst 0, 1) := by decide +kernel
theorem dL_talks_109 : decode cL_talks 109 = .ok (.iaload, 1) := by decide +kernel
theorem dL_talks_110 : decode cL_talks 110 = .ok (.ishl, 1) := by decide +kernel
theorem dL_talks_111 : decode cL_talks 111 = .ok (.invokestatic 34, 3) := by decide +kernel
theorem dL_talks_114 : decode cL_talks 114 = .ok (.iand, 1) := by decide +kernel
theorem dL_talks_115 : decode cL_talks 115 = .ok (.iconst 1, 1) := by decide +kernel
theorem dL_talks_116 : decode cL_talks 116 = .ok (.iload 10, 2) := by decide +kernel
theorem dL_talks_118 : decode cL_talks 118 = .ok (.ishl, 1) := by decide +kernel
theorem dL_talks_119 : decode cL_talks 119 = .ok (.iconst (-1), 1) := by decide +kernel
theorem dL_talks_120 : decode cL_talks 120 = .ok (.ixor, 1) := by decide +kernel
theorem dL_talks_121 : decode cL_talks 121 = .ok (.iand, 1) := by decide +kernel
theorem dL_talks_122 : decode cL_talks 122 = .ok (.iconst 1, 1) := by decide +kernel
theorem dL_talks_123 : decode cL_talks 123 = .ok (.iload 11, 2) := by decide +kernel
theorem dL_talks_125 : decode cL_talks 125 = .ok (.ishl, 1) := by decide +kernel
theorem dL_talks_126 : decode cL_talks 126 = .ok (.iconst (-1), 1) := by decide +kernel
theorem dL_talks_127 : decode cL_talks 127 = .ok (.ixor, 1) := by decide +kernel
theorem dL_talks_128 : decode cL_talks 128 = .ok (.iand, 1) := by decide +kernel
theorem dL_talks_129 : decode cL_talks 129 = .ok (.istore 12, 2) := by decide +kernel
theorem dL_talks_131 : decode cL_talks 131 = .ok (.aload 4, 2) := by decide +kernel
theorem dL_talks_133 : decode cL_talks 133 = .ok (.iconst 3, 1) := by decide +kernel
theorem dL_talks_134 : decode cL_talks 134 = .ok (.iload 8, 2) := by decide +kernel
theorem dL_talks_136 : decode cL_talks 136 = .ok (.imul, 1) := by decide +kernel
theorem dL_talks_137 : decode cL_talks 137 = .ok (.iload 10, 2) := by decide +kernel
theorem dL_talks_139 : decode cL_talks 139 = .ok (.iastore, 1) := by decide +kernel
theorem dL_talks_140 : decode cL_talks 140 = .ok (.aload 4, 2) := by decide +kernel
theorem dL_talks_142 : decode cL_talks 142 = .ok (.iconst 3, 1) := by decide +kernel
theorem dL_talks_143 : decode cL_talks 143 = .ok (.iload 8, 2) := by decide +kernel
theorem dL_talks_145 : decode cL_talks 145 = .ok (.imul, 1) := by decide +kernel
theorem dL_talks_146 : decode cL_talks 146 = .ok (.iconst 1, 1) := by decide +kernel
theorem dL_talks_147 : decode cL_talks 147 = .ok (.iadd, 1) := by decide +kernel
theorem dL_talks_148 : decode cL_talks 148 = .ok (.iload 11, 2) := by decide +kernel
theorem dL_talks_150 : decode cL_talks 150 = .ok (.iastore, 1) := by decide +kernel
theorem dL_talks_151 : decode cL_talks 151 = .ok (.aload 4, 2) := by decide +kernel
theorem dL_talks_153 : decode cL_talks 153 = .ok (.iconst 3, 1) := by decide +kernel
theorem dL_talks_154 : decode cL_talks 154 = .ok (.iload 8, 2) := by decide +kernel
theorem dL_talks_156 : decode cL_talks 156 = .ok (.imul, 1) := by decide +kernel
theorem dL_talks_157 : decode cL_talks 157 = .ok (.iconst 2, 1) := by decide +kernel
theorem dL_talks_158 : decode cL_talks 158 = .ok (.iadd, 1) := by decide +kernel
theorem dL_talks_159 : decode cL_talks 159 = .ok (.iload 12, 2) := by decide +kernel
theorem dL_talks_161 : decode cL_talks 161 = .ok (.iastore, 1) := by decide +kernel
theorem dL_talks_162 : decode cL_talks 162 = .ok (.aload_n 0, 1) := by decide +kernel
theorem dL_talks_163 : decode cL_talks 163 = .ok (.iload 10, 2) := by decide +kernel
theorem dL_talks_165 : decode cL_talks 165 = .ok (.iload 11, 2) := by decide +kernel
theorem dL_talks_167 : decode cL_talks 167 = .ok (.iload 12, 2) := by decide +kernel
theorem dL_talks_169 : decode cL_talks 169 = .ok (.invokevirtual 59, 3) := by decide +kernel
theorem dL_talks_172 : decode cL_talks 172 = .ok (.iload 8, 2) := by decide +kernel
theorem dL_talks_174 : decode cL_talks 174 = .ok (.if_icmp .ne 7, 3) := by decide +kernel
theorem dL_talks_177 : decode cL_talks 177 = .ok (.iconst 1, 1) := by decide +kernel
theorem dL_talks_178 : decode cL_talks 178 = .ok (.goto 4, 3) := by decide +kernel
theorem dL_talks_181 : decode cL_talks 181 = .ok (.iconst 0, 1) := by decide +kernel
theorem dL_talks_182 : decode cL_talks 182 = .ok (.istore 7, 2) := by decide +kernel
theorem dL_talks_184 : decode cL_talks 184 = .ok (.iinc 8 1, 3) := by decide +kernel
theorem dL_talks_187 : decode cL_talks 187 = .ok (.goto (-156), 3) := by decide +kernel
theorem dL_talks_190 : decode cL_talks 190 = .ok (.aload_n 3, 1) := by decide +kernel
theorem dL_talks_191 : decode cL_talks 191 = .ok (.iconst 2, 1) := by decide +kernel
theorem dL_talks_192 : decode cL_talks 192 = .ok (.iload 6, 2) := by decide +kernel
theorem dL_talks_194 : decode cL_talks 194 = .ok (.iastore, 1) := by decide +kernel
theorem dL_talks_195 : decode cL_talks 195 = .ok (.iload 7, 2) := by decide +kernel
theorem dL_talks_197 : decode cL_talks 197 = .ok (.ireturn, 1) := by decide +kernel
theorem dL_law_0 : decode cL_law 0 = .ok (.new 42, 3) := by decide +kernel
theorem dL_law_3 : decode cL_law 3 = .ok (.dup, 1) := by decide +kernel
theorem dL_law_4 : decode cL_law 4 = .ok (.invokespecial 69, 3) := by decide +kernel
theorem dL_law_7 : decode cL_law 7 = .ok (.astore_n 1, 1) := by decide +kernel
theorem dL_law_8 : decode cL_law 8 = .ok (.bipush 7, 2) := by decide +kernel
theorem dL_law_10 : decode cL_law 10 = .ok (.newarray .int, 2) := by decide +kernel
theorem dL_law_12 : decode cL_law 12 = .ok (.astore_n 2, 1) := by decide +kernel
theorem dL_law_13 : decode cL_law 13 = .ok (.bipush 7, 2) := by decide +kernel
theorem dL_law_15 : decode cL_law 15 = .ok (.newarray .int, 2) := by decide +kernel
theorem dL_law_17 : decode cL_law 17 = .ok (.astore_n 3, 1) := by decide +kernel
theorem dL_law_18 : decode cL_law 18 = .ok (.bipush 6, 2) := by decide +kernel
theorem dL_law_20 : decode cL_law 20 = .ok (.newarray .int, 2) := by decide +kernel
theorem dL_law_22 : decode cL_law 22 = .ok (.astore 4, 2) := by decide +kernel
theorem dL_law_24 : decode cL_law 24 = .ok (.iconst 4, 1) := by decide +kernel
theorem dL_law_25 : decode cL_law 25 = .ok (.newarray .int, 2) := by decide +kernel
theorem dL_law_27 : decode cL_law 27 = .ok (.astore 5, 2) := by decide +kernel
theorem dL_law_29 : decode cL_law 29 = .ok (.bipush 24, 2) := by decide +kernel
theorem dL_law_31 : decode cL_law 31 = .ok (.newarray .int, 2) := by decide +kernel
theorem dL_law_33 : decode cL_law 33 = .ok (.astore 6, 2) := by decide +kernel
theorem dL_law_35 : decode cL_law 35 = .ok (.aload_n 1, 1) := by decide +kernel
theorem dL_law_36 : decode cL_law 36 = .ok (.aload_n 0, 1) := by decide +kernel
theorem dL_law_37 : decode cL_law 37 = .ok (.iconst 0, 1) := by decide +kernel
theorem dL_law_38 : decode cL_law 38 = .ok (.aload_n 2, 1) := by decide +kernel
theorem dL_law_39 : decode cL_law 39 = .ok (.aload_n 3, 1) := by decide +kernel
theorem dL_law_40 : decode cL_law 40 = .ok (.aload 4, 2) := by decide +kernel
theorem dL_law_42 : decode cL_law 42 = .ok (.aload 5, 2) := by decide +kernel
theorem dL_law_44 : decode cL_law 44 = .ok (.iconst 2, 1) := by decide +kernel
theorem dL_law_45 : decode cL_law 45 = .ok (.bipush 7, 2) := by decide +kernel
theorem dL_law_47 : decode cL_law 47 = .ok (.invokestatic 70, 3) := by decide +kernel
theorem dL_law_50 : decode cL_law 50 = .ok (.ifCond .eq 27, 3) := by decide +kernel
theorem dL_law_53 : decode cL_law 53 = .ok (.aload_n 1, 1) := by decide +kernel
theorem dL_law_54 : decode cL_law 54 = .ok (.aload_n 0, 1) := by decide +kernel
theorem dL_law_55 : decode cL_law 55 = .ok (.bipush 10, 2) := by decide +kernel
theorem dL_law_57 : decode cL_law 57 = .ok (.aload 5, 2) := by decide +kernel
theorem dL_law_59 : decode cL_law 59 = .ok (.aload 6, 2) := by decide +kernel
theorem dL_law_61 : decode cL_law 61 = .ok (.bipush 6, 2) := by decide +kernel
theorem dL_law_63 : decode cL_law 63 = .ok (.invokestatic 74, 3) := by decide +kernel
theorem dL_law_66 : decode cL_law 66 = .ok (.ifCond .eq 11, 3) := by decide +kernel
theorem dL_law_69 : decode cL_law 69 = .ok (.aload_n 1, 1) := by decide +kernel
theorem dL_law_70 : decode cL_law 70 = .ok (.iconst 0, 1) := by decide +kernel
theorem dL_law_71 : decode cL_law 71 = .ok (.invokevirtual 78, 3) := by decide +kernel
theorem dL_law_74 : decode cL_law 74 = .ok (.ifCond .eq 5, 3) := by decide +kernel
theorem dL_law_77 : decode cL_law 77 = .ok (.iconst 0, 1) := by decide +kernel
theorem dL_law_78 : decode cL_law 78 = .ok (.ireturn, 1) := by decide +kernel
theorem dL_law_79 : decode cL_law 79 = .ok (.aload 5, 2) := by decide +kernel
theorem dL_law_81 : decode cL_law 81 = .ok (.iconst 0, 1) := by decide +kernel
theorem dL_law_82 : decode cL_law 82 = .ok (.iaload, 1) := by decide +kernel
theorem dL_law_83 : decode cL_law 83 = .ok (.istore 7, 2) := by decide +kernel
theorem dL_law_85 : decode cL_law 85 = .ok (.iconst 0, 1) := by decide +kernel
theorem dL_law_86 : decode cL_law 86 = .ok (.istore 8, 2) := by decide +kernel
theorem dL_law_88 : decode cL_law 88 = .ok (.iload 8, 2) := by decide +kernel
theorem dL_law_90 : decode cL_law 90 = .ok (.iload 7, 2) := by decide +kernel
theorem dL_law_92 : decode cL_law 92 = .ok (.if_icmp .ge 298, 3) := by decide +kernel
theorem dL_law_95 : decode cL_law 95 = .ok (.aload_n 0, 1) := by decide +kernel
theorem dL_law_96 : decode cL_law 96 = .ok (.bipush 20, 2) := by decide +kernel
theorem dL_law_98 : decode cL_law 98 = .ok (.iload 8, 2) := by decide +kernel
theorem dL_law_100 : decode cL_law 100 = .ok (.iadd, 1) := by decide +kernel
theorem dL_law_101 : decode cL_law 101 = .ok (.invokestatic 30, 3) := by decide +kernel
theorem dL_law_104 : decode cL_law 104 = .ok (.iconst 1, 1) := by decide +kernel
theorem dL_law_105 : decode cL_law 105 = .ok (.iload 7, 2) := by decide +kernel
theorem dL_law_107 : decode cL_law 107 = .ok (.ishl, 1) := by decide +kernel
theorem dL_law_108 : decode cL_law 108 = .ok (.invokestatic 34, 3) := by decide +kernel
theorem dL_law_111 : decode cL_law 111 = .ok (.iconst 1, 1) := by decide +kernel
theorem dL_law_112 : decode cL_law 112 = .ok (.iload 8, 2) := by decide +kernel
theorem dL_law_114 : decode cL_law 114 = .ok (.ishl, 1) := by decide +kernel
theorem dL_law_115 : decode cL_law 115 = .ok (.iconst (-1), 1) := by decide +kernel
theorem dL_law_116 : decode cL_law 116 = .ok (.ixor, 1) := by decide +kernel
theorem dL_law_117 : decode cL_law 117 = .ok (.iand, 1) := by decide +kernel
theorem dL_law_118 : decode cL_law 118 = .ok (.istore 9, 2) := by decide +kernel
theorem dL_law_120 : decode cL_law 120 = .ok (.iload 9, 2) := by decide +kernel
theorem dL_law_122 : decode cL_law 122 = .ok (.aload_n 0, 1) := by decide +kernel
theorem dL_law_123 : decode cL_law 123 = .ok (.bipush 28, 2) := by decide +kernel
theorem dL_law_125 : decode cL_law 125 = .ok (.iload 8, 2) := by decide +kernel
theorem dL_law_127 : decode cL_law 127 = .ok (.iadd, 1) := by decide +kernel
theorem dL_law_128 : decode cL_law 128 = .ok (.invokestatic 30, 3) := by decide +kernel
theorem dL_law_131 : decode cL_law 131 = .ok (.iconst 1, 1) := by decide +kernel
theorem dL_law_132 : decode cL_law 132 = .ok (.iload 7, 2) := by decide +kernel
theorem dL_law_134 : decode cL_law 134 = .ok (.ishl, 1) := by decide +kernel
theorem dL_law_135 : decode cL_law 135 = .ok (.invokestatic 34, 3) := by decide +kernel
theorem dL_law_138 : decode cL_law 138 = .ok (.iand, 1) := by decide +kernel
theorem dL_law_139 : decode cL_law 139 = .ok (.istore 10, 2) := by decide +kernel
theorem dL_law_141 : decode cL_law 141 = .ok (.aload_n 1, 1) := by decide +kernel
theorem dL_law_142 : decode cL_law 142 = .ok (.iload 8, 2) := by decide +kernel
theorem dL_law_144 : decode cL_law 144 = .ok (.iload 9, 2) := by decide +kernel
theorem dL_law_146 : decode cL_law 146 = .ok (.invokevirtual 81, 3) := by decide +kernel
theorem dL_law_149 : decode cL_law 149 = .ok (.istore 11, 2) := by decide +kernel
theorem dL_law_151 : decode cL_law 151 = .ok (.iload 11, 2) := by decide +kernel
theorem dL_law_153 : decode cL_law 153 = .ok (.iload 9, 2) := by decide +kernel
theorem dL_law_155 : decode cL_law 155 = .ok (.iand, 1) := by decide +kernel
theorem dL_law_156 : decode cL_law 156 = .ok (.ifCond .ne 30, 3) := by decide +kernel
theorem dL_law_159 : decode cL_law 159 = .ok (.iload 11, 2) := by decide +kernel
theorem dL_law_161 : decode cL_law 161 = .ok (.aload_n 1, 1) := by decide +kernel
theorem dL_law_162 : decode cL_law 162 = .ok (.iload 8, 2) := by decide +kernel
theorem dL_law_164 : decode cL_law 164 = .ok (.iload 10, 2) := by decide +kernel
theorem dL_law_166 : decode cL_law 166 = .ok (.invokevirtual 81, 3) := by decide +kernel
theorem dL_law_169 : decode cL_law 169 = .ok (.iconst (-1), 1) := by decide +kernel
theorem dL_law_170 : decode cL_law 170 = .ok (.ixor, 1) := by decide +kernel
theorem dL_law_171 : decode cL_law 171 = .ok (.iand, 1) := by decide +kernel
theorem dL_law_172 : decode cL_law 172 = .ok (.ifCond .ne 14, 3) := by decide +kernel
theorem dL_law_175 : decode cL_law 175 = .ok (.iload 11, 2) := by decide +kernel
theorem dL_law_177 : decode cL_law 177 = .ok (.iload 8, 2) := by decide +kernel
theorem dL_law_179 : decode cL_law 179 = .ok (.ishr, 1) := by decide +kernel
theorem dL_law_180 : decode cL_law 180 = .ok (.iconst 1, 1) := by decide +kernel
theorem dL_law_181 : decode cL_law 181 = .ok (.iand, 1) := by decide +kernel
theorem dL_law_182 : decode cL_law 182 = .ok (.iconst 1, 1) := by decide +kernel
theorem dL_law_183 : decode cL_law 183 = .ok (.if_icmp .ne 5, 3) := by decide +kernel
theorem dL_law_186 : decode cL_law 186 = .ok (.iconst 0, 1) := by decide +kernel
theorem dL_law_187 : decode cL_law 187 = .ok (.ireturn, 1) := by decide +kernel
theorem dL_law_188 : decode cL_law 188 = .ok (.aload_n 1, 1) := by decide +kernel
theorem dL_law_189 : decode cL_law 189 = .ok (.iload 8, 2) := by decide +kernel
theorem dL_law_191 : decode cL_law 191 = .ok (.invokevirtual 83, 3) := by decide +kernel
theorem dL_law_194 : decode cL_law 194 = .ok (.istore 12, 2) := by decide +kernel
theorem dL_law_196 : decode cL_law 196 = .ok (.aload_n 1, 1) := by decide +kernel
theorem dL_law_197 : decode cL_law 197 = .ok (.invokevirtual 86, 3) := by decide +kernel
theorem dL_law_200 : decode cL_law 200 = .ok (.istore 13, 2) := by decide +kernel
theorem dL_law_202 : decode cL_law 202 = .ok (.iload 12, 2) := by decide +kernel
theorem dL_law_204 : decode cL_law 204 = .ok (.ifCond .lt 46, 3) := by decide +kernel
theorem dL_law_207 : decode cL_law 207 = .ok (.iload 12, 2) := by decide +kernel
theorem dL_law_209 : decode cL_law 209 = .ok (.iload 13, 2) := by decide +kernel
theorem dL_law_211 : decode cL_law 211 = .ok (.invokestatic 90, 3) := by decide +kernel
theorem dL_law_214 : decode cL_law 214 = .ok (.if_icmp .ne 36, 3) := by decide +kernel
theorem dL_law_217 : decode cL_law 217 = .ok (.aload_n 1, 1) := by decide +kernel
theorem dL_law_218 : decode cL_law 218 = .ok (.iload 8, 2) := by decide +kernel
theorem dL_law_220 : decode cL_law 220 = .ok (.iload 13, 2) := by decide +kernel
theorem dL_law_222 : decode cL_law 222 = .ok (.invokevirtual 81, 3) := by decide +kernel
theorem dL_law_225 : decode cL_law 225 = .ok (.ifCond .ne 25, 3) := by decide +kernel
theorem dL_law_228 : decode cL_law 228 = .ok (.aload_n 1, 1) := by decide +kernel
theorem dL_law_229 : decode cL_law 229 = .ok (.aload_n 1, 1) := by decide +kernel
theorem dL_law_230 : decode cL_law 230 = .ok (.iload 8, 2) := by decide +kernel
theorem dL_law_232 : decode cL_law 232 = .ok (.iconst 0, 1) := by decide +kernel
theorem dL_law_233 : decode cL_law 233 = .ok (.invokevirtual 81, 3) := by decide +kernel
theorem dL_law_236 : decode cL_law 236 = .ok (.iconst 1, 1) := by decide +kernel
theorem dL_law_237 : decode cL_law 237 = .ok (.iload 8, 2) := by decide +kernel
theorem dL_law_239 : decode cL_law 239 = .ok (.ishl, 1) := by decide +kernel
theorem dL_law_240 : decode cL_law 240 = .ok (.ior, 1) := by decide +kernel
theorem dL_law_241 : decode cL_law 241 = .ok (.invokevirtual 93, 3) := by decide +kernel
theorem dL_law_244 : decode cL_law 244 = .ok (.iload 8, 2) := by decide +kernel
theorem dL_law_246 : decode cL_law 246 = .ok (.ishr, 1) := by decide +kernel
theorem dL_law_247 : decode cL_law 247 = .ok (.ifCond .ne 5, 3) := by decide +kernel
theorem dL_law_250 : decode cL_law 250 = .ok (.iconst 0, 1) := by decide +kernel
theorem dL_law_251 : decode cL_law 251 = .ok (.ireturn, 1) := by decide +kernel
theorem dL_law_252 : decode cL_law 252 = .ok (.iconst 0, 1) := by decide +kernel
theorem dL_law_253 : decode cL_law 253 = .ok (.istore 14, 2) := by decide +kernel
theorem dL_law_255 : decode cL_law 255 = .ok (.iload 14, 2) := by decide +kernel
theorem dL_law_257 : decode cL_law 257 = .ok (.iload 7, 2) := by decide +kernel
theorem dL_law_259 : decode cL_law 259 = .ok (.if_icmp .ge 125, 3) := by decide +kernel
theorem dL_law_262 : decode cL_law 262 = .ok (.iload 14, 2) := by decide +kernel
theorem dL_law_264 : decode cL_law 264 = .ok (.iload 8, 2) := by decide +kernel
theorem dL_law_266 : decode cL_law 266 = .ok (.if_icmp .eq 112, 3) := by decide +kernel
theorem dL_law_269 : decode cL_law 269 = .ok (.aload_n 1, 1) := by decide +kernel
theorem dL_law_270 : decode cL_law 270 = .ok (.iload 8, 2) := by decide +kernel
theorem dL_law_272 : decode cL_law 272 = .ok (.iload 14, 2) := by decide +kernel
theorem dL_law_274 : decode cL_law 274 = .ok (.invokevirtual 96, 3) := by decide +kernel
theorem dL_law_277 : decode cL_law 277 = .ok (.istore 15, 2) := by decide +kernel
theorem dL_law_279 : decode cL_law 279 = .ok (.aload_n 1, 1) := by decide +kernel
theorem dL_law_280 : decode cL_law 280 = .ok (.invokevirtual 86, 3) := by decide +kernel
theorem dL_law_283 : decode cL_law 283 = .ok (.istore 16, 2) := by decide +kernel
theorem dL_law_285 : decode cL_law 285 = .ok (.iload 15, 2) := by decide +kernel
theorem dL_law_287 : decode cL_law 287 = .ok (.ifCond .ne 17, 3) := by decide +kernel
theorem dL_law_290 : decode cL_law 290 = .ok (.aload_n 1, 1) := by decide +kernel
theorem dL_law_291 : decode cL_law 291 = .ok (.iload 8, 2) := by decide +kernel
theorem dL_law_293 : decode cL_law 293 = .ok (.iload 14, 2) := by decide +kernel
theorem dL_law_295 : decode cL_law 295 = .ok (.invokevirtual 99, 3) := by decide +kernel
theorem dL_law_298 : decode cL_law 298 = .ok (.iconst 1, 1) := by decide +kernel
theorem dL_law_299 : decode cL_law 299 = .ok (.if_icmp .eq 5, 3) := by decide +kernel
theorem dL_law_302 : decode cL_law 302 = .ok (.iconst 0, 1) := by decide +kernel
theorem dL_law_303 : decode cL_law 303 = .ok (.ireturn, 1) := by decide +kernel
theorem dL_law_304 : decode cL_law 304 = .ok (.iload 15, 2) := by decide +kernel
theorem dL_law_306 : decode cL_law 306 = .ok (.ifCond .le 72, 3) := by decide +kernel
theorem dL_law_309 : decode cL_law 309 = .ok (.aload_n 1, 1) := by decide +kernel
theorem dL_law_310 : decode cL_law 310 = .ok (.iload 8, 2) := by decide +kernel
theorem dL_law_312 : decode cL_law 312 = .ok (.iload 14, 2) := by decide +kernel
theorem dL_law_314 : decode cL_law 314 = .ok (.invokevirtual 99, 3) := by decide +kernel
theorem dL_law_317 : decode cL_law 317 = .ok (.ifCond .ne 59, 3) := by decide +kernel
theorem dL_law_320 : decode cL_law 320 = .ok (.aload_n 1, 1) := by decide +kernel
theorem dL_law_321 : decode cL_law 321 = .ok (.iload 16, 2) := by decide +kernel
theorem dL_law_323 : decode cL_law 323 = .ok (.aload 4, 2) := by decide +kernel
theorem dL_law_325 : decode cL_law 325 = .ok (.iload 16, 2) := by decide +kernel
theorem dL_law_327 : decode cL_law 327 = .ok (.iaload, 1) := by decide +kernel
theorem dL_law_328 : decode cL_law 328 = .ok (.iload 15, 2) := by decide +kernel
theorem dL_law_330 : decode cL_law 330 = .ok (.isub, 1) := by decide +kernel
theorem dL_law_331 : decode cL_law 331 = .ok (.invokevirtual 102, 3) := by decide +kernel
theorem dL_law_334 : decode cL_law 334 = .ok (.aload 4, 2) := by decide +kernel
theorem dL_law_336 : decode cL_law 336 = .ok (.iload 16, 2) := by decide +kernel
theorem dL_law_338 : decode cL_law 338 = .ok (.iaload, 1) := by decide +kernel
theorem dL_law_339 : decode cL_law 339 = .ok (.if_icmp .ne 37, 3) := by decide +kernel
theorem dL_law_342 : decode cL_law 342 = .ok (.aload_n 1, 1) := by decide +kernel
theorem dL_law_343 : decode cL_law 343 = .ok (.iload 8, 2) := by decide +kernel
theorem dL_law_345 : decode cL_law 345 = .ok (.iload 14, 2) := by decide +kernel
theorem dL_law_347 : decode cL_law 347 = .ok (.invokevirtual 99, 3) := by decide +kernel
theorem dL_law_350 : decode cL_law 350 = .ok (.iconst 1, 1) := by decide +kernel
theorem dL_law_351 : decode cL_law 351 = .ok (.if_icmp .ne 25, 3) := by decide +kernel
theorem dL_law_354 : decode cL_law 354 = .ok (.aload_n 1, 1) := by decide +kernel
theorem dL_law_355 : decode cL_law 355 = .ok (.iload 16, 2) := by decide +kernel
theorem dL_law_357 : decode cL_law 357 = .ok (.aload 4, 2) := by decide +kernel
theorem dL_law_359 : decode cL_law 359 = .ok (.iload 16, 2) := by decide +kernel
theorem dL_law_361 : decode cL_law 361 = .ok (.iaload, 1) := by decide +kernel
theorem dL_law_362 : decode cL_law 362 = .ok (.invokevirtual 102, 3) := by decide +kernel
theorem dL_law_365 : decode cL_law 365 = .ok (.aload 4, 2) := by decide +kernel
theorem dL_law_367 : decode cL_law 367 = .ok (.iload 16, 2) := by decide +kernel
theorem dL_law_369 : decode cL_law 369 = .ok (.iaload, 1) := by decide +kernel
theorem dL_law_370 : decode cL_law 370 = .ok (.iload 15, 2) := by decide +kernel
theorem dL_law_372 : decode cL_law 372 = .ok (.isub, 1) := by decide +kernel
theorem dL_law_373 : decode cL_law 373 = .ok (.if_icmp .eq 5, 3) := by decide +kernel
theorem dL_law_376 : decode cL_law 376 = .ok (.iconst 0, 1) := by decide +kernel
theorem dL_law_377 : decode cL_law 377 = .ok (.ireturn, 1) := by decide +kernel
theorem dL_law_378 : decode cL_law 378 = .ok (.iinc 14 1, 3) := by decide +kernel
theorem dL_law_381 : decode cL_law 381 = .ok (.goto (-126), 3) := by decide +kernel
theorem dL_law_384 : decode cL_law 384 = .ok (.iinc 8 1, 3) := by decide +kernel
theorem dL_law_387 : decode cL_law 387 = .ok (.goto (-299), 3) := by decide +kernel
theorem dL_law_390 : decode cL_law 390 = .ok (.iconst 0, 1) := by decide +kernel
theorem dL_law_391 : decode cL_law 391 = .ok (.istore 8, 2) := by decide +kernel
theorem dL_law_393 : decode cL_law 393 = .ok (.iload 8, 2) := by decide +kernel
theorem dL_law_395 : decode cL_law 395 = .ok (.aload 5, 2) := by decide +kernel
theorem dL_law_397 : decode cL_law 397 = .ok (.iconst 2, 1) := by decide +kernel
theorem dL_law_398 : decode cL_law 398 = .ok (.iaload, 1) := by decide +kernel
theorem dL_law_399 : decode cL_law 399 = .ok (.if_icmp .ge 201, 3) := by decide +kernel
theorem dL_law_402 : decode cL_law 402 = .ok (.aload_n 1, 1) := by decide +kernel
theorem dL_law_403 : decode cL_law 403 = .ok (.iload 8, 2) := by decide +kernel
theorem dL_law_405 : decode cL_law 405 = .ok (.invokevirtual 105, 3) := by decide +kernel
theorem dL_law_408 : decode cL_law 408 = .ok (.istore 9, 2) := by decide +kernel
theorem dL_law_410 : decode cL_law 410 = .ok (.aload_n 1, 1) := by decide +kernel
theorem dL_law_411 : decode cL_law 411 = .ok (.invokevirtual 86, 3) := by decide +kernel
theorem dL_law_414 : decode cL_law 414 = .ok (.istore 10, 2) := by decide +kernel
theorem dL_law_416 : decode cL_law 416 = .ok (.iload 9, 2) := by decide +kernel
theorem dL_law_418 : decode cL_law 418 = .ok (.ifCond .lt 25, 3) := by decide +kernel
theorem dL_law_421 : decode cL_law 421 = .ok (.iload 9, 2) := by decide +kernel
theorem dL_law_423 : decode cL_law 423 = .ok (.iload 10, 2) := by decide +kernel
theorem dL_law_425 : decode cL_law 425 = .ok (.invokestatic 90, 3) := by decide +kernel
theorem dL_law_428 : decode cL_law 428 = .ok (.if_icmp .ne 33, 3) := by decide +kernel
theorem dL_law_431 : decode cL_law 431 = .ok (.aload_n 1, 1) := by decide +kernel
theorem dL_law_432 : decode cL_law 432 = .ok (.iload 8, 2) := by decide +kernel
theorem dL_law_434 : decode cL_law 434 = .ok (.iload 10, 2) := by decide +kernel
theorem dL_law_436 : decode cL_law 436 = .ok (.invokevirtual 108, 3) := by decide +kernel
theorem dL_law_439 : decode cL_law 439 = .ok (.iconst 1, 1) := by decide +kernel
theorem dL_law_440 : decode cL_law 440 = .ok (.if_icmp .ne 21, 3) := by decide +kernel
theorem dL_law_443 : decode cL_law 443 = .ok (.iload 9, 2) := by decide +kernel
theorem dL_law_445 : decode cL_law 445 = .ok (.bipush (-9), 2) := by decide +kernel
theorem dL_law_447 : decode cL_law 447 = .ok (.if_icmp .ne 16, 3) := by decide +kernel
theorem dL_law_450 : decode cL_law 450 = .ok (.aload_n 1, 1) := by decide +kernel
theorem dL_law_451 : decode cL_law 451 = .ok (.iload 8, 2) := by decide +kernel
theorem dL_law_453 : decode cL_law 453 = .ok (.iconst 0, 1) := by decide +kernel
theorem dL_law_454 : decode cL_law 454 = .ok (.invokevirtual 108, 3) := by decide +kernel
theorem dL_law_457 : decode cL_law 457 = .ok (.iconst 1, 1) := by decide +kernel
theorem dL_law_458 : decode cL_law 458 = .ok (.if_icmp .ne 5, 3) := by decide +kernel
theorem dL_law_461 : decode cL_law 461 = .ok (.iconst 0, 1) := by decide +kernel
theorem dL_law_462 : decode cL_law 462 = .ok (.ireturn, 1) := by decide +kernel
theorem dL_law_463 : decode cL_law 463 = .ok (.aload_n 1, 1) := by decide +kernel
theorem dL_law_464 : decode cL_law 464 = .ok (.iload 8, 2) := by decide +kernel
theorem dL_law_466 : decode cL_law 466 = .ok (.iconst 1, 1) := by decide +kernel
theorem dL_law_467 : decode cL_law 467 = .ok (.invokevirtual 110, 3) := by decide +kernel
theorem dL_law_470 : decode cL_law 470 = .ok (.istore 11, 2) := by decide +kernel
theorem dL_law_472 : decode cL_law 472 = .ok (.iconst 0, 1) := by decide +kernel
theorem dL_law_473 : decode cL_law 473 = .ok (.istore 12, 2) := by decide +kernel
theorem dL_law_475 : decode cL_law 475 = .ok (.iconst 0, 1) := by decide +kernel
theorem dL_law_476 : decode cL_law 476 = .ok (.istore 13, 2) := by decide +kernel
theorem dL_law_478 : decode cL_law 478 = .ok (.iload 13, 2) := by decide +kernel
theorem dL_law_480 : decode cL_law 480 = .ok (.aload 5, 2) := by decide +kernel
theorem dL_law_482 : decode cL_law 482 = .ok (.iconst 1, 1) := by decide +kernel
theorem dL_law_483 : decode cL_law 483 = .ok (.iaload, 1) := by decide +kernel
theorem dL_law_484 : decode cL_law 484 = .ok (.if_icmp .ge 77, 3) := by decide +kernel
theorem dL_law_487 : decode cL_law 487 = .ok (.iload 11, 2) := by decide +kernel
theorem dL_law_489 : decode cL_law 489 = .ok (.ifCond .lt 72, 3) := by decide +kernel
theorem dL_law_492 : decode cL_law 492 = .ok (.aload_n 1, 1) := by decide +kernel
theorem dL_law_493 : decode cL_law 493 = .ok (.iconst 1, 1) := by decide +kernel
theorem dL_law_494 : decode cL_law 494 = .ok (.iload 13, 2) := by decide +kernel
theorem dL_law_496 : decode cL_law 496 = .ok (.invokevirtual 113, 3) := by decide +kernel
theorem dL_law_499 : decode cL_law 499 = .ok (.iconst 1, 1) := by decide +kernel
theorem dL_law_500 : decode cL_law 500 = .ok (.if_icmp .eq 5, 3) := by decide +kernel
theorem dL_law_503 : decode cL_law 503 = .ok (.iconst 0, 1) := by decide +kernel
theorem dL_law_504 : decode cL_law 504 = .ok (.ireturn, 1) := by decide +kernel
theorem dL_law_505 : decode cL_law 505 = .ok (.aload_n 1, 1) := by decide +kernel
theorem dL_law_506 : decode cL_law 506 = .ok (.invokevirtual 86, 3) := by decide +kernel
theorem dL_law_509 : decode cL_law 509 = .ok (.istore 14, 2) := by decide +kernel
theorem dL_law_511 : decode cL_law 511 = .ok (.iload 12, 2) := by decide +kernel
theorem dL_law_513 : decode cL_law 513 = .ok (.iload 14, 2) := by decide +kernel
theorem dL_law_515 : decode cL_law 515 = .ok (.iadd, 1) := by decide +kernel
theorem dL_law_516 : decode cL_law 516 = .ok (.istore 12, 2) := by decide +kernel
theorem dL_law_518 : decode cL_law 518 = .ok (.aload 4, 2) := by decide +kernel
theorem dL_law_520 : decode cL_law 520 = .ok (.iload 13, 2) := by decide +kernel
theorem dL_law_522 : decode cL_law 522 = .ok (.iaload, 1) := by decide +kernel
theorem dL_law_523 : decode cL_law 523 = .ok (.iload 14, 2) := by decide +kernel
theorem dL_law_525 : decode cL_law 525 = .ok (.iadd, 1) := by decide +kernel
theorem dL_law_526 : decode cL_law 526 = .ok (.bipush 21, 2) := by decide +kernel
theorem dL_law_528 : decode cL_law 528 = .ok (.if_icmp .ge 27, 3) := by decide +kernel
theorem dL_law_531 : decode cL_law 531 = .ok (.aload_n 1, 1) := by decide +kernel
theorem dL_law_532 : decode cL_law 532 = .ok (.iload 13, 2) := by decide +kernel
theorem dL_law_534 : decode cL_law 534 = .ok (.aload 4, 2) := by decide +kernel
theorem dL_law_536 : decode cL_law 536 = .ok (.iload 13, 2) := by decide +kernel
theorem dL_law_538 : decode cL_law 538 = .ok (.iaload, 1) := by decide +kernel
theorem dL_law_539 : decode cL_law 539 = .ok (.iload 14, 2) := by decide +kernel
theorem dL_law_541 : decode cL_law 541 = .ok (.iadd, 1) := by decide +kernel
theorem dL_law_542 : decode cL_law 542 = .ok (.invokevirtual 102, 3) := by decide +kernel
theorem dL_law_545 : decode cL_law 545 = .ok (.aload 4, 2) := by decide +kernel
theorem dL_law_547 : decode cL_law 547 = .ok (.iload 13, 2) := by decide +kernel
theorem dL_law_549 : decode cL_law 549 = .ok (.iaload, 1) := by decide +kernel
theorem dL_law_550 : decode cL_law 550 = .ok (.if_icmp .eq 5, 3) := by decide +kernel
theorem dL_law_553 : decode cL_law 553 = .ok (.iconst 0, 1) := by decide +kernel
theorem dL_law_554 : decode cL_law 554 = .ok (.ireturn, 1) := by decide +kernel
theorem dL_law_555 : decode cL_law 555 = .ok (.iinc 13 1, 3) := by decide +kernel
theorem dL_law_558 : decode cL_law 558 = .ok (.goto (-80), 3) := by decide +kernel
theorem dL_law_561 : decode cL_law 561 = .ok (.iload 11, 2) := by decide +kernel
theorem dL_law_563 : decode cL_law 563 = .ok (.ifCond .lt 21, 3) := by decide +kernel
theorem dL_law_566 : decode cL_law 566 = .ok (.iload 12, 2) := by decide +kernel
theorem dL_law_568 : decode cL_law 568 = .ok (.iload 11, 2) := by decide +kernel
theorem dL_law_570 : decode cL_law 570 = .ok (.if_icmp .ne 22, 3) := by decide +kernel
theorem dL_law_573 : decode cL_law 573 = .ok (.aload_n 1, 1) := by decide +kernel
theorem dL_law_574 : decode cL_law 574 = .ok (.iload 8, 2) := by decide +kernel
theorem dL_law_576 : decode cL_law 576 = .ok (.iconst 0, 1) := by decide +kernel
theorem dL_law_577 : decode cL_law 577 = .ok (.invokevirtual 108, 3) := by decide +kernel
theorem dL_law_580 : decode cL_law 580 = .ok (.iconst 1, 1) := by decide +kernel
theorem dL_law_581 : decode cL_law 581 = .ok (.if_icmp .ne 11, 3) := by decide +kernel
theorem dL_law_584 : decode cL_law 584 = .ok (.aload_n 1, 1) := by decide +kernel
theorem dL_law_585 : decode cL_law 585 = .ok (.iconst 0, 1) := by decide +kernel
theorem dL_law_586 : decode cL_law 586 = .ok (.invokevirtual 116, 3) := by decide +kernel
theorem dL_law_589 : decode cL_law 589 = .ok (.ifCond .eq 5, 3) := by decide +kernel
theorem dL_law_592 : decode cL_law 592 = .ok (.iconst 0, 1) := by decide +kernel
theorem dL_law_593 : decode cL_law 593 = .ok (.ireturn, 1) := by decide +kernel
theorem dL_law_594 : decode cL_law 594 = .ok (.iinc 8 1, 3) := by decide +kernel
theorem dL_law_597 : decode cL_law 597 = .ok (.goto (-204), 3) := by decide +kernel
theorem dL_law_600 : decode cL_law 600 = .ok (.aload_n 1, 1) := by decide +kernel
theorem dL_law_601 : decode cL_law 601 = .ok (.invokevirtual 119, 3) := by decide +kernel
theorem dL_law_604 : decode cL_law 604 = .ok (.istore 8, 2) := by decide +kernel
theorem dL_law_606 : decode cL_law 606 = .ok (.aload_n 1, 1) := by decide +kernel
theorem dL_law_607 : decode cL_law 607 = .ok (.invokevirtual 86, 3) := by decide +kernel
theorem dL_law_610 : decode cL_law 610 = .ok (.istore 9, 2) := by decide +kernel
theorem dL_law_612 : decode cL_law 612 = .ok (.aload_n 1, 1) := by decide +kernel
theorem dL_law_613 : decode cL_law 613 = .ok (.invokevirtual 122, 3) := by decide +kernel
theorem dL_law_616 : decode cL_law 616 = .ok (.istore 10, 2) := by decide +kernel
theorem dL_law_618 : decode cL_law 618 = .ok (.aload_n 1, 1) := by decide +kernel
theorem dL_law_619 : decode cL_law 619 = .ok (.iload 9, 2) := by decide +kernel
theorem dL_law_621 : decode cL_law 621 = .ok (.invokevirtual 125, 3) := by decide +kernel
theorem dL_law_624 : decode cL_law 624 = .ok (.iconst 1, 1) := by decide +kernel
theorem dL_law_625 : decode cL_law 625 = .ok (.if_icmp .ne 47, 3) := by decide +kernel
theorem dL_law_628 : decode cL_law 628 = .ok (.iload 9, 2) := by decide +kernel
theorem dL_law_630 : decode cL_law 630 = .ok (.invokestatic 90, 3) := by decide +kernel
theorem dL_law_633 : decode cL_law 633 = .ok (.iload 8, 2) := by decide +kernel
theorem dL_law_635 : decode cL_law 635 = .ok (.if_icmp .ne 37, 3) := by decide +kernel
theorem dL_law_638 : decode cL_law 638 = .ok (.iload 8, 2) := by decide +kernel
theorem dL_law_640 : decode cL_law 640 = .ok (.ifCond .le 20, 3) := by decide +kernel
theorem dL_law_643 : decode cL_law 643 = .ok (.iload 10, 2) := by decide +kernel
theorem dL_law_645 : decode cL_law 645 = .ok (.ifCond .le 15, 3) := by decide +kernel
theorem dL_law_648 : decode cL_law 648 = .ok (.iload 10, 2) := by decide +kernel
theorem dL_law_650 : decode cL_law 650 = .ok (.iload 8, 2) := by decide +kernel
theorem dL_law_652 : decode cL_law 652 = .ok (.imul, 1) := by decide +kernel
theorem dL_law_653 : decode cL_law 653 = .ok (.aload 5, 2) := by decide +kernel
theorem dL_law_655 : decode cL_law 655 = .ok (.iconst 2, 1) := by decide +kernel
theorem dL_law_656 : decode cL_law 656 = .ok (.iaload, 1) := by decide +kernel
theorem dL_law_657 : decode cL_law 657 = .ok (.if_icmp .lt 15, 3) := by decide +kernel
theorem dL_law_660 : decode cL_law 660 = .ok (.aload 5, 2) := by decide +kernel
theorem dL_law_662 : decode cL_law 662 = .ok (.iconst 2, 1) := by decide +kernel
theorem dL_law_663 : decode cL_law 663 = .ok (.iaload, 1) := by decide +kernel
theorem dL_law_664 : decode cL_law 664 = .ok (.ifCond .le 10, 3) := by decide +kernel
theorem dL_law_667 : decode cL_law 667 = .ok (.iload 10, 2) := by decide +kernel
theorem dL_law_669 : decode cL_law 669 = .ok (.ifCond .ne 5, 3) := by decide +kernel
theorem dL_law_672 : decode cL_law 672 = .ok (.iconst 0, 1) := by decide +kernel
theorem dL_law_673 : decode cL_law 673 = .ok (.ireturn, 1) := by decide +kernel
theorem dL_law_674 : decode cL_law 674 = .ok (.aload_n 0, 1) := by decide +kernel
theorem dL_law_675 : decode cL_law 675 = .ok (.bipush 40, 2) := by decide +kernel
theorem dL_law_677 : decode cL_law 677 = .ok (.invokestatic 30, 3) := by decide +kernel
theorem dL_law_680 : decode cL_law 680 = .ok (.istore 11, 2) := by decide +kernel
theorem dL_law_682 : decode cL_law 682 = .ok (.iload 11, 2) := by decide +kernel
theorem dL_law_684 : decode cL_law 684 = .ok (.iload 7, 2) := by decide +kernel
theorem dL_law_686 : decode cL_law 686 = .ok (.invokestatic 34, 3) := by decide +kernel
theorem dL_law_689 : decode cL_law 689 = .ok (.istore 12, 2) := by decide +kernel
theorem dL_law_691 : decode cL_law 691 = .ok (.iload 11, 2) := by decide +kernel
theorem dL_law_693 : decode cL_law 693 = .ok (.iconst 3, 1) := by decide +kernel
theorem dL_law_694 : decode cL_law 694 = .ok (.ishr, 1) := by decide +kernel
theorem dL_law_695 : decode cL_law 695 = .ok (.bipush 8, 2) := by decide +kernel
theorem dL_law_697 : decode cL_law 697 = .ok (.invokestatic 34, 3) := by decide +kernel
theorem dL_law_700 : decode cL_law 700 = .ok (.istore 13, 2) := by decide +kernel
theorem dL_law_702 : decode cL_law 702 = .ok (.aload_n 1, 1) := by decide +kernel
theorem dL_law_703 : decode cL_law 703 = .ok (.iload 13, 2) := by decide +kernel
theorem dL_law_705 : decode cL_law 705 = .ok (.invokevirtual 128, 3) := by decide +kernel
theorem dL_law_708 : decode cL_law 708 = .ok (.ifCond .ne 28, 3) := by decide +kernel
theorem dL_law_711 : decode cL_law 711 = .ok (.aload_n 1, 1) := by decide +kernel
theorem dL_law_712 : decode cL_law 712 = .ok (.iload 12, 2) := by decide +kernel
theorem dL_law_714 : decode cL_law 714 = .ok (.iload 13, 2) := by decide +kernel
theorem dL_law_716 : decode cL_law 716 = .ok (.invokevirtual 131, 3) := by decide +kernel
theorem dL_law_719 : decode cL_law 719 = .ok (.bipush (-4), 2) := by decide +kernel
theorem dL_law_721 : decode cL_law 721 = .ok (.if_icmp .ne 15, 3) := by decide +kernel
theorem dL_law_724 : decode cL_law 724 = .ok (.aload_n 1, 1) := by decide +kernel
theorem dL_law_725 : decode cL_law 725 = .ok (.iload 12, 2) := by decide +kernel
theorem dL_law_727 : decode cL_law 727 = .ok (.iload 13, 2) := by decide +kernel
theorem dL_law_729 : decode cL_law 729 = .ok (.invokevirtual 134, 3) := by decide +kernel
theorem dL_law_732 : decode cL_law 732 = .ok (.iconst 1, 1) := by decide +kernel
theorem dL_law_733 : decode cL_law 733 = .ok (.if_icmp .eq 5, 3) := by decide +kernel
theorem dL_law_736 : decode cL_law 736 = .ok (.iconst 0, 1) := by decide +kernel
theorem dL_law_737 : decode cL_law 737 = .ok (.ireturn, 1) := by decide +kernel
theorem dL_law_738 : decode cL_law 738 = .ok (.aload_n 1, 1) := by decide +kernel
theorem dL_law_739 : decode cL_law 739 = .ok (.iload 12, 2) := by decide +kernel
theorem dL_law_741 : decode cL_law 741 = .ok (.iconst 0, 1) := by decide +kernel
theorem dL_law_742 : decode cL_law 742 = .ok (.invokevirtual 81, 3) := by decide +kernel
theorem dL_law_745 : decode cL_law 745 = .ok (.istore 14, 2) := by decide +kernel
theorem dL_law_747 : decode cL_law 747 = .ok (.aload_n 1, 1) := by decide +kernel
theorem dL_law_748 : decode cL_law 748 = .ok (.iload 13, 2) := by decide +kernel
theorem dL_law_750 : decode cL_law 750 = .ok (.iconst 1, 1) := by decide +kernel
theorem dL_law_751 : decode cL_law 751 = .ok (.invokevirtual 137, 3) := by decide +kernel
theorem dL_law_754 : decode cL_law 754 = .ok (.istore 15, 2) := by decide +kernel
theorem dL_law_756 : decode cL_law 756 = .ok (.iconst 1, 1) := by decide +kernel
theorem dL_law_757 : decode cL_law 757 = .ok (.iload 12, 2) := by decide +kernel
theorem dL_law_759 : decode cL_law 759 = .ok (.ishl, 1) := by decide +kernel
theorem dL_law_760 : decode cL_law 760 = .ok (.istore 16, 2) := by decide +kernel
theorem dL_law_762 : decode cL_law 762 = .ok (.iconst 0, 1) := by decide +kernel
theorem dL_law_763 : decode cL_law 763 = .ok (.istore 17, 2) := by decide +kernel
theorem dL_law_765 : decode cL_law 765 = .ok (.iload 17, 2) := by decide +kernel
theorem dL_law_767 : decode cL_law 767 = .ok (.bipush 8, 2) := by decide +kernel
theorem dL_law_769 : decode cL_law 769 = .ok (.if_icmp .ge 35, 3) := by decide +kernel
theorem dL_law_772 : decode cL_law 772 = .ok (.aload_n 1, 1) := by decide +kernel
theorem dL_law_773 : decode cL_law 773 = .ok (.iload 13, 2) := by decide +kernel
theorem dL_law_775 : decode cL_law 775 = .ok (.iload 17, 2) := by decide +kernel
theorem dL_law_777 : decode cL_law 777 = .ok (.invokevirtual 137, 3) := by decide +kernel
theorem dL_law_780 : decode cL_law 780 = .ok (.istore 18, 2) := by decide +kernel
theorem dL_law_782 : decode cL_law 782 = .ok (.iload 16, 2) := by decide +kernel
theorem dL_law_784 : decode cL_law 784 = .ok (.iload 18, 2) := by decide +kernel
theorem dL_law_786 : decode cL_law 786 = .ok (.iconst (-1), 1) := by decide +kernel
theorem dL_law_787 : decode cL_law 787 = .ok (.ixor, 1) := by decide +kernel
theorem dL_law_788 : decode cL_law 788 = .ok (.iand, 1) := by decide +kernel
theorem dL_law_789 : decode cL_law 789 = .ok (.ifCond .eq 5, 3) := by decide +kernel
theorem dL_law_792 : decode cL_law 792 = .ok (.iconst 0, 1) := by decide +kernel
theorem dL_law_793 : decode cL_law 793 = .ok (.ireturn, 1) := by decide +kernel
theorem dL_law_794 : decode cL_law 794 = .ok (.iload 18, 2) := by decide +kernel
theorem dL_law_796 : decode cL_law 796 = .ok (.istore 16, 2) := by decide +kernel
theorem dL_law_798 : decode cL_law 798 = .ok (.iinc 17 1, 3) := by decide +kernel
theorem dL_law_801 : decode cL_law 801 = .ok (.goto (-36), 3) := by decide +kernel
theorem dL_law_804 : decode cL_law 804 = .ok (.aload_n 1, 1) := by decide +kernel
theorem dL_law_805 : decode cL_law 805 = .ok (.iload 12, 2) := by decide +kernel
theorem dL_law_807 : decode cL_law 807 = .ok (.iload 13, 2) := by decide +kernel
theorem dL_law_809 : decode cL_law 809 = .ok (.invokevirtual 131, 3) := by decide +kernel
theorem dL_law_812 : decode cL_law 812 = .ok (.istore 17, 2) := by decide +kernel
theorem dL_law_814 : decode cL_law 814 = .ok (.iload 17, 2) := by decide +kernel
theorem dL_law_816 : decode cL_law 816 = .ok (.iload 14, 2) := by decide +kernel
theorem dL_law_818 : decode cL_law 818 = .ok (.iconst 1, 1) := by decide +kernel
theorem dL_law_819 : decode cL_law 819 = .ok (.iload 12, 2) := by decide +kernel
theorem dL_law_821 : decode cL_law 821 = .ok (.ishl, 1) := by decide +kernel
theorem dL_law_822 : decode cL_law 822 = .ok (.ior, 1) := by decide +kernel
theorem dL_law_823 : decode cL_law 823 = .ok (.if_icmp .ne 46, 3) := by decide +kernel
theorem dL_law_826 : decode cL_law 826 = .ok (.iload 15, 2) := by decide +kernel
theorem dL_law_828 : decode cL_law 828 = .ok (.iload 17, 2) := by decide +kernel
theorem dL_law_830 : decode cL_law 830 = .ok (.if_icmp .ne 39, 3) := by decide +kernel
theorem dL_law_833 : decode cL_law 833 = .ok (.aload_n 1, 1) := by decide +kernel
theorem dL_law_834 : decode cL_law 834 = .ok (.iload 17, 2) := by decide +kernel
theorem dL_law_836 : decode cL_law 836 = .ok (.invokevirtual 93, 3) := by decide +kernel
theorem dL_law_839 : decode cL_law 839 = .ok (.iload 12, 2) := by decide +kernel
theorem dL_law_841 : decode cL_law 841 = .ok (.ishr, 1) := by decide +kernel
theorem dL_law_842 : decode cL_law 842 = .ok (.ifCond .eq 27, 3) := by decide +kernel
theorem dL_law_845 : decode cL_law 845 = .ok (.aload_n 1, 1) := by decide +kernel
theorem dL_law_846 : decode cL_law 846 = .ok (.iload 17, 2) := by decide +kernel
theorem dL_law_848 : decode cL_law 848 = .ok (.invokevirtual 93, 3) := by decide +kernel
theorem dL_law_851 : decode cL_law 851 = .ok (.iload 12, 2) := by decide +kernel
theorem dL_law_853 : decode cL_law 853 = .ok (.ishr, 1) := by decide +kernel
theorem dL_law_854 : decode cL_law 854 = .ok (.iconst 1, 1) := by decide +kernel
theorem dL_law_855 : decode cL_law 855 = .ok (.iand, 1) := by decide +kernel
theorem dL_law_856 : decode cL_law 856 = .ok (.ifCond .eq 13, 3) := by decide +kernel
theorem dL_law_859 : decode cL_law 859 = .ok (.aload_n 1, 1) := by decide +kernel
theorem dL_law_860 : decode cL_law 860 = .ok (.iload 17, 2) := by decide +kernel
theorem dL_law_862 : decode cL_law 862 = .ok (.invokevirtual 140, 3) := by decide +kernel
theorem dL_law_865 : decode cL_law 865 = .ok (.iconst 1, 1) := by decide +kernel
theorem dL_law_866 : decode cL_law 866 = .ok (.if_icmp .ge 5, 3) := by decide +kernel
theorem dL_law_869 : decode cL_law 869 = .ok (.iconst 0, 1) := by decide +kernel
theorem dL_law_870 : decode cL_law 870 = .ok (.ireturn, 1) := by decide +kernel
theorem dL_law_871 : decode cL_law 871 = .ok (.iconst 0, 1) := by decide +kernel
theorem dL_law_872 : decode cL_law 872 = .ok (.istore 18, 2) := by decide +kernel
theorem dL_law_874 : decode cL_law 874 = .ok (.iload 18, 2) := by decide +kernel
theorem dL_law_876 : decode cL_law 876 = .ok (.iload 7, 2) := by decide +kernel
theorem dL_law_878 : decode cL_law 878 = .ok (.if_icmp .ge 38, 3) := by decide +kernel
theorem dL_law_881 : decode cL_law 881 = .ok (.iload 18, 2) := by decide +kernel
theorem dL_law_883 : decode cL_law 883 = .ok (.iload 12, 2) := by decide +kernel
theorem dL_law_885 : decode cL_law 885 = .ok (.if_icmp .eq 25, 3) := by decide +kernel
theorem dL_law_888 : decode cL_law 888 = .ok (.aload_n 1, 1) := by decide +kernel
theorem dL_law_889 : decode cL_law 889 = .ok (.iload 12, 2) := by decide +kernel
theorem dL_law_891 : decode cL_law 891 = .ok (.iload 18, 2) := by decide +kernel
theorem dL_law_893 : decode cL_law 893 = .ok (.iload 13, 2) := by decide +kernel
theorem dL_law_895 : decode cL_law 895 = .ok (.invokevirtual 143, 3) := by decide +kernel
theorem dL_law_898 : decode cL_law 898 = .ok (.iload 14, 2) := by decide +kernel
theorem dL_law_900 : decode cL_law 900 = .ok (.iload 18, 2) := by decide +kernel
theorem dL_law_902 : decode cL_law 902 = .ok (.ishr, 1) := by decide +kernel
theorem dL_law_903 : decode cL_law 903 = .ok (.iconst 1, 1) := by decide +kernel
theorem dL_law_904 : decode cL_law 904 = .ok (.iand, 1) := by decide +kernel
theorem dL_law_905 : decode cL_law 905 = .ok (.if_icmp .eq 5, 3) := by decide +kernel
theorem dL_law_908 : decode cL_law 908 = .ok (.iconst 0, 1) := by decide +kernel
theorem dL_law_909 : decode cL_law 909 = .ok (.ireturn, 1) := by decide +kernel
theorem dL_law_910 : decode cL_law 910 = .ok (.iinc 18 1, 3) := by decide +kernel
theorem dL_law_913 : decode cL_law 913 = .ok (.goto (-39), 3) := by decide +kernel
theorem dL_law_916 : decode cL_law 916 = .ok (.aload_n 1, 1) := by decide +kernel
theorem dL_law_917 : decode cL_law 917 = .ok (.iconst 0, 1) := by decide +kernel
theorem dL_law_918 : decode cL_law 918 = .ok (.invokevirtual 146, 3) := by decide +kernel
theorem dL_law_921 : decode cL_law 921 = .ok (.iconst 1, 1) := by decide +kernel
theorem dL_law_922 : decode cL_law 922 = .ok (.if_icmp .ne 58, 3) := by decide +kernel
theorem dL_law_925 : decode cL_law 925 = .ok (.aload_n 1, 1) := by decide +kernel
theorem dL_law_926 : decode cL_law 926 = .ok (.iload 13, 2) := by decide +kernel
theorem dL_law_928 : decode cL_law 928 = .ok (.invokevirtual 128, 3) := by decide +kernel
theorem dL_law_931 : decode cL_law 931 = .ok (.iconst 1, 1) := by decide +kernel
theorem dL_law_932 : decode cL_law 932 = .ok (.iload 12, 2) := by decide +kernel
theorem dL_law_934 : decode cL_law 934 = .ok (.ishl, 1) := by decide +kernel
theorem dL_law_935 : decode cL_law 935 = .ok (.if_icmp .ne 45, 3) := by decide +kernel
theorem dL_law_938 : decode cL_law 938 = .ok (.aload_n 1, 1) := by decide +kernel
theorem dL_law_939 : decode cL_law 939 = .ok (.iconst 0, 1) := by decide +kernel
theorem dL_law_940 : decode cL_law 940 = .ok (.invokevirtual 116, 3) := by decide +kernel
theorem dL_law_943 : decode cL_law 943 = .ok (.ifCond .ne 37, 3) := by decide +kernel
theorem dL_law_946 : decode cL_law 946 = .ok (.aload_n 1, 1) := by decide +kernel
theorem dL_law_947 : decode cL_law 947 = .ok (.iload 13, 2) := by decide +kernel
theorem dL_law_949 : decode cL_law 949 = .ok (.invokevirtual 128, 3) := by decide +kernel
theorem dL_law_952 : decode cL_law 952 = .ok (.ifCond .ne 28, 3) := by decide +kernel
theorem dL_law_955 : decode cL_law 955 = .ok (.aload_n 1, 1) := by decide +kernel
theorem dL_law_956 : decode cL_law 956 = .ok (.invokevirtual 149, 3) := by decide +kernel
theorem dL_law_959 : decode cL_law 959 = .ok (.lconst 0, 1) := by decide +kernel
theorem dL_law_960 : decode cL_law 960 = .ok (.lcmp, 1) := by decide +kernel
theorem dL_law_961 : decode cL_law 961 = .ok (.ifCond .lt 19, 3) := by decide +kernel
theorem dL_law_964 : decode cL_law 964 = .ok (.aload_n 1, 1) := by decide +kernel
theorem dL_law_965 : decode cL_law 965 = .ok (.invokevirtual 149, 3) := by decide +kernel
theorem dL_law_968 : decode cL_law 968 = .ok (.aload_n 1, 1) := by decide +kernel
theorem dL_law_969 : decode cL_law 969 = .ok (.invokevirtual 153, 3) := by decide +kernel
theorem dL_law_972 : decode cL_law 972 = .ok (.lcmp, 1) := by decide +kernel
theorem dL_law_973 : decode cL_law 973 = .ok (.ifCond .gt 7, 3) := by decide +kernel
theorem dL_law_976 : decode cL_law 976 = .ok (.iconst 1, 1) := by decide +kernel
theorem dL_law_977 : decode cL_law 977 = .ok (.goto 4, 3) := by decide +kernel
theorem dL_law_980 : decode cL_law 980 = .ok (.iconst 0, 1) := by decide +kernel
theorem dL_law_981 : decode cL_law 981 = .ok (.ireturn, 1) := by decide +kernel
abbrev vwCl : List vw_C := [(RX0, TX0, 3), (RX1, TX1, 6), (RX3, TX3, 2), (RX4, TX4, 2), (RX5, TX5, 2), (RX6, TX6, 11), (RX7, TX7, 2), (RX8, TX8, 12)]
