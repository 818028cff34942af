theorem dL_ground_235 : decode cL_ground 235 = .ok (.iconst 3, 1) := by decide +kernel
theorem dL_ground_236 : decode cL_ground 236 = .ok (.invokestatic 15, 3) := by decide +kernel
theorem dL_ground_239 : decode cL_ground 239 = .ok (.ifCond .ne 7, 3) := by decide +kernel
theorem dL_ground_242 : decode cL_ground 242 = .ok (.iconst 1, 1) := by decide +kernel
theorem dL_ground_243 : decode cL_ground 243 = .ok (.goto 4, 3) := by decide +kernel
theorem dL_ground_246 : decode cL_ground 246 = .ok (.iconst 0, 1) := by decide +kernel
theorem dL_ground_247 : decode cL_ground 247 = .ok (.istore 11, 2) := by decide +kernel
theorem dL_ground_249 : decode cL_ground 249 = .ok (.iload 8, 2) := by decide +kernel
theorem dL_ground_251 : decode cL_ground 251 = .ok (.istore 12, 2) := by decide +kernel
theorem dL_ground_253 : decode cL_ground 253 = .ok (.iload 12, 2) := by decide +kernel
theorem dL_ground_255 : decode cL_ground 255 = .ok (.iload 9, 2) := by decide +kernel
theorem dL_ground_257 : decode cL_ground 257 = .ok (.if_icmp .gt 66, 3) := by decide +kernel
theorem dL_ground_260 : decode cL_ground 260 = .ok (.iload 6, 2) := by decide +kernel
theorem dL_ground_262 : decode cL_ground 262 = .ok (.istore 13, 2) := by decide +kernel
theorem dL_ground_264 : decode cL_ground 264 = .ok (.iload 13, 2) := by decide +kernel
theorem dL_ground_266 : decode cL_ground 266 = .ok (.iload 7, 2) := by decide +kernel
theorem dL_ground_268 : decode cL_ground 268 = .ok (.if_icmp .gt 49, 3) := by decide +kernel
theorem dL_ground_271 : decode cL_ground 271 = .ok (.aload_n 3, 1) := by decide +kernel
theorem dL_ground_272 : decode cL_ground 272 = .ok (.sipush 576, 3) := by decide +kernel
theorem dL_ground_275 : decode cL_ground 275 = .ok (.bipush 24, 2) := by decide +kernel
theorem dL_ground_277 : decode cL_ground 277 = .ok (.iload 12, 2) := by decide +kernel
theorem dL_ground_279 : decode cL_ground 279 = .ok (.imul, 1) := by decide +kernel
theorem dL_ground_280 : decode cL_ground 280 = .ok (.iadd, 1) := by decide +kernel
theorem dL_ground_281 : decode cL_ground 281 = .ok (.iload 13, 2) := by decide +kernel
theorem dL_ground_283 : decode cL_ground 283 = .ok (.iadd, 1) := by decide +kernel
theorem dL_ground_284 : decode cL_ground 284 = .ok (.iload 10, 2) := by decide +kernel
theorem dL_ground_286 : decode cL_ground 286 = .ok (.iastore, 1) := by decide +kernel
theorem dL_ground_287 : decode cL_ground 287 = .ok (.aload_n 3, 1) := by decide +kernel
theorem dL_ground_288 : decode cL_ground 288 = .ok (.sipush 1152, 3) := by decide +kernel
theorem dL_ground_291 : decode cL_ground 291 = .ok (.bipush 24, 2) := by decide +kernel
theorem dL_ground_293 : decode cL_ground 293 = .ok (.iload 12, 2) := by decide +kernel
theorem dL_ground_295 : decode cL_ground 295 = .ok (.imul, 1) := by decide +kernel
theorem dL_ground_296 : decode cL_ground 296 = .ok (.iadd, 1) := by decide +kernel
theorem dL_ground_297 : decode cL_ground 297 = .ok (.iload 13, 2) := by decide +kernel
theorem dL_ground_299 : decode cL_ground 299 = .ok (.iadd, 1) := by decide +kernel
theorem dL_ground_300 : decode cL_ground 300 = .ok (.iload 11, 2) := by decide +kernel
theorem dL_ground_302 : decode cL_ground 302 = .ok (.ifCond .eq 7, 3) := by decide +kernel
theorem dL_ground_305 : decode cL_ground 305 = .ok (.iconst 1, 1) := by decide +kernel
theorem dL_ground_306 : decode cL_ground 306 = .ok (.goto 4, 3) := by decide +kernel
theorem dL_ground_309 : decode cL_ground 309 = .ok (.iconst 0, 1) := by decide +kernel
theorem dL_ground_310 : decode cL_ground 310 = .ok (.iastore, 1) := by decide +kernel
theorem dL_ground_311 : decode cL_ground 311 = .ok (.iinc 13 1, 3) := by decide +kernel
theorem dL_ground_314 : decode cL_ground 314 = .ok (.goto (-50), 3) := by decide +kernel
theorem dL_ground_317 : decode cL_ground 317 = .ok (.iinc 12 1, 3) := by decide +kernel
theorem dL_ground_320 : decode cL_ground 320 = .ok (.goto (-67), 3) := by decide +kernel
theorem dL_ground_323 : decode cL_ground 323 = .ok (.aload_n 0, 1) := by decide +kernel
theorem dL_ground_324 : decode cL_ground 324 = .ok (.iload 6, 2) := by decide +kernel
theorem dL_ground_326 : decode cL_ground 326 = .ok (.iload 7, 2) := by decide +kernel
theorem dL_ground_328 : decode cL_ground 328 = .ok (.iload 8, 2) := by decide +kernel
theorem dL_ground_330 : decode cL_ground 330 = .ok (.iload 9, 2) := by decide +kernel
theorem dL_ground_332 : decode cL_ground 332 = .ok (.iload 10, 2) := by decide +kernel
theorem dL_ground_334 : decode cL_ground 334 = .ok (.iload 11, 2) := by decide +kernel
theorem dL_ground_336 : decode cL_ground 336 = .ok (.invokevirtual 33, 3) := by decide +kernel
theorem dL_ground_339 : decode cL_ground 339 = .ok (.iload 7, 2) := by decide +kernel
theorem dL_ground_341 : decode cL_ground 341 = .ok (.iload 6, 2) := by decide +kernel
theorem dL_ground_343 : decode cL_ground 343 = .ok (.isub, 1) := by decide +kernel
theorem dL_ground_344 : decode cL_ground 344 = .ok (.iconst 1, 1) := by decide +kernel
theorem dL_ground_345 : decode cL_ground 345 = .ok (.iadd, 1) := by decide +kernel
theorem dL_ground_346 : decode cL_ground 346 = .ok (.iload 9, 2) := by decide +kernel
theorem dL_ground_348 : decode cL_ground 348 = .ok (.iload 8, 2) := by decide +kernel
theorem dL_ground_350 : decode cL_ground 350 = .ok (.isub, 1) := by decide +kernel
theorem dL_ground_351 : decode cL_ground 351 = .ok (.iconst 1, 1) := by decide +kernel
theorem dL_ground_352 : decode cL_ground 352 = .ok (.iadd, 1) := by decide +kernel
theorem dL_ground_353 : decode cL_ground 353 = .ok (.imul, 1) := by decide +kernel
theorem dL_ground_354 : decode cL_ground 354 = .ok (.if_icmp .eq 5, 3) := by decide +kernel
theorem dL_ground_357 : decode cL_ground 357 = .ok (.aconst_null, 1) := by decide +kernel
theorem dL_ground_358 : decode cL_ground 358 = .ok (.areturn, 1) := by decide +kernel
theorem dL_ground_359 : decode cL_ground 359 = .ok (.iinc 4 1, 3) := by decide +kernel
theorem dL_ground_362 : decode cL_ground 362 = .ok (.goto (-346), 3) := by decide +kernel
theorem dL_ground_365 : decode cL_ground 365 = .ok (.aload_n 1, 1) := by decide +kernel
theorem dL_ground_366 : decode cL_ground 366 = .ok (.iload_n 2, 1) := by decide +kernel
theorem dL_ground_367 : decode cL_ground 367 = .ok (.invokestatic 9, 3) := by decide +kernel
theorem dL_ground_370 : decode cL_ground 370 = .ok (.iconst 3, 1) := by decide +kernel
theorem dL_ground_371 : decode cL_ground 371 = .ok (.invokestatic 15, 3) := by decide +kernel
theorem dL_ground_374 : decode cL_ground 374 = .ok (.ifCond .ne 36, 3) := by decide +kernel
theorem dL_ground_377 : decode cL_ground 377 = .ok (.aload_n 3, 1) := by decide +kernel
theorem dL_ground_378 : decode cL_ground 378 = .ok (.sipush 1728, 3) := by decide +kernel
theorem dL_ground_381 : decode cL_ground 381 = .ok (.aload_n 1, 1) := by decide +kernel
theorem dL_ground_382 : decode cL_ground 382 = .ok (.iload_n 2, 1) := by decide +kernel
theorem dL_ground_383 : decode cL_ground 383 = .ok (.invokestatic 9, 3) := by decide +kernel
theorem dL_ground_386 : decode cL_ground 386 = .ok (.iconst 4, 1) := by decide +kernel
theorem dL_ground_387 : decode cL_ground 387 = .ok (.ishr, 1) := by decide +kernel
theorem dL_ground_388 : decode cL_ground 388 = .ok (.bipush 15, 2) := by decide +kernel
theorem dL_ground_390 : decode cL_ground 390 = .ok (.invokestatic 15, 3) := by decide +kernel
theorem dL_ground_393 : decode cL_ground 393 = .ok (.iastore, 1) := by decide +kernel
theorem dL_ground_394 : decode cL_ground 394 = .ok (.aload_n 0, 1) := by decide +kernel
theorem dL_ground_395 : decode cL_ground 395 = .ok (.aload_n 3, 1) := by decide +kernel
theorem dL_ground_396 : decode cL_ground 396 = .ok (.sipush 1728, 3) := by decide +kernel
theorem dL_ground_399 : decode cL_ground 399 = .ok (.iaload, 1) := by decide +kernel
theorem dL_ground_400 : decode cL_ground 400 = .ok (.invokevirtual 37, 3) := by decide +kernel
theorem dL_ground_403 : decode cL_ground 403 = .ok (.bipush 12, 2) := by decide +kernel
theorem dL_ground_405 : decode cL_ground 405 = .ok (.if_icmp .eq 5, 3) := by decide +kernel
theorem dL_ground_408 : decode cL_ground 408 = .ok (.aconst_null, 1) := by decide +kernel
theorem dL_ground_409 : decode cL_ground 409 = .ok (.areturn, 1) := by decide +kernel
theorem dL_ground_410 : decode cL_ground 410 = .ok (.aload_n 3, 1) := by decide +kernel
theorem dL_ground_411 : decode cL_ground 411 = .ok (.areturn, 1) := by decide +kernel
theorem dL_step_0 : decode cL_step 0 = .ok (.iload_n 1, 1) := by decide +kernel
theorem dL_step_1 : decode cL_step 1 = .ok (.getstatic 41, 3) := by decide +kernel
theorem dL_step_4 : decode cL_step 4 = .ok (.iload_n 3, 1) := by decide +kernel
theorem dL_step_5 : decode cL_step 5 = .ok (.iaload, 1) := by decide +kernel
theorem dL_step_6 : decode cL_step 6 = .ok (.iadd, 1) := by decide +kernel
theorem dL_step_7 : decode cL_step 7 = .ok (.istore 4, 2) := by decide +kernel
theorem dL_step_9 : decode cL_step 9 = .ok (.iload_n 2, 1) := by decide +kernel
theorem dL_step_10 : decode cL_step 10 = .ok (.getstatic 45, 3) := by decide +kernel
theorem dL_step_13 : decode cL_step 13 = .ok (.iload_n 3, 1) := by decide +kernel
theorem dL_step_14 : decode cL_step 14 = .ok (.iaload, 1) := by decide +kernel
theorem dL_step_15 : decode cL_step 15 = .ok (.iadd, 1) := by decide +kernel
theorem dL_step_16 : decode cL_step 16 = .ok (.istore 5, 2) := by decide +kernel
theorem dL_step_18 : decode cL_step 18 = .ok (.iload 4, 2) := by decide +kernel
theorem dL_step_20 : decode cL_step 20 = .ok (.ifCond .lt 40, 3) := by decide +kernel
theorem dL_step_23 : decode cL_step 23 = .ok (.iload 4, 2) := by decide +kernel
theorem dL_step_25 : decode cL_step 25 = .ok (.bipush 23, 2) := by decide +kernel
theorem dL_step_27 : decode cL_step 27 = .ok (.if_icmp .gt 33, 3) := by decide +kernel
theorem dL_step_30 : decode cL_step 30 = .ok (.iload 5, 2) := by decide +kernel
theorem dL_step_32 : decode cL_step 32 = .ok (.ifCond .lt 28, 3) := by decide +kernel
theorem dL_step_35 : decode cL_step 35 = .ok (.iload 5, 2) := by decide +kernel
theorem dL_step_37 : decode cL_step 37 = .ok (.bipush 23, 2) := by decide +kernel
theorem dL_step_39 : decode cL_step 39 = .ok (.if_icmp .gt 21, 3) := by decide +kernel
theorem dL_step_42 : decode cL_step 42 = .ok (.aload_n 0, 1) := by decide +kernel
theorem dL_step_43 : decode cL_step 43 = .ok (.sipush 1152, 3) := by decide +kernel
theorem dL_step_46 : decode cL_step 46 = .ok (.bipush 24, 2) := by decide +kernel
theorem dL_step_48 : decode cL_step 48 = .ok (.iload 5, 2) := by decide +kernel
theorem dL_step_50 : decode cL_step 50 = .ok (.imul, 1) := by decide +kernel
theorem dL_step_51 : decode cL_step 51 = .ok (.iadd, 1) := by decide +kernel
theorem dL_step_52 : decode cL_step 52 = .ok (.iload 4, 2) := by decide +kernel
theorem dL_step_54 : decode cL_step 54 = .ok (.iadd, 1) := by decide +kernel
theorem dL_step_55 : decode cL_step 55 = .ok (.iaload, 1) := by decide +kernel
theorem dL_step_56 : decode cL_step 56 = .ok (.iconst 1, 1) := by decide +kernel
theorem dL_step_57 : decode cL_step 57 = .ok (.if_icmp .ne 5, 3) := by decide +kernel
theorem dL_step_60 : decode cL_step 60 = .ok (.iconst 0, 1) := by decide +kernel
theorem dL_step_61 : decode cL_step 61 = .ok (.ireturn, 1) := by decide +kernel
theorem dL_step_62 : decode cL_step 62 = .ok (.getstatic 41, 3) := by decide +kernel
theorem dL_step_65 : decode cL_step 65 = .ok (.iload_n 3, 1) := by decide +kernel
theorem dL_step_66 : decode cL_step 66 = .ok (.iaload, 1) := by decide +kernel
theorem dL_step_67 : decode cL_step 67 = .ok (.ifCond .eq 47, 3) := by decide +kernel
theorem dL_step_70 : decode cL_step 70 = .ok (.getstatic 45, 3) := by decide +kernel
theorem dL_step_73 : decode cL_step 73 = .ok (.iload_n 3, 1) := by decide +kernel
theorem dL_step_74 : decode cL_step 74 = .ok (.iaload, 1) := by decide +kernel
theorem dL_step_75 : decode cL_step 75 = .ok (.ifCond .eq 39, 3) := by decide +kernel
theorem dL_step_78 : decode cL_step 78 = .ok (.aload_n 0, 1) := by decide +kernel
theorem dL_step_79 : decode cL_step 79 = .ok (.sipush 1152, 3) := by decide +kernel
theorem dL_step_82 : decode cL_step 82 = .ok (.bipush 24, 2) := by decide +kernel
theorem dL_step_84 : decode cL_step 84 = .ok (.iload_n 2, 1) := by decide +kernel
theorem dL_step_85 : decode cL_step 85 = .ok (.imul, 1) := by decide +kernel
theorem dL_step_86 : decode cL_step 86 = .ok (.iadd, 1) := by decide +kernel
theorem dL_step_87 : decode cL_step 87 = .ok (.iload 4, 2) := by decide +kernel
theorem dL_step_89 : decode cL_step 89 = .ok (.iadd, 1) := by decide +kernel
theorem dL_step_90 : decode cL_step 90 = .ok (.iaload, 1) := by decide +kernel
theorem dL_step_91 : decode cL_step 91 = .ok (.iconst 1, 1) := by decide +kernel
theorem dL_step_92 : decode cL_step 92 = .ok (.if_icmp .eq 20, 3) := by decide +kernel
theorem dL_step_95 : decode cL_step 95 = .ok (.aload_n 0, 1) := by decide +kernel
theorem dL_step_96 : decode cL_step 96 = .ok (.sipush 1152, 3) := by decide +kernel
theorem dL_step_99 : decode cL_step 99 = .ok (.bipush 24, 2) := by decide +kernel
theorem dL_step_101 : decode cL_step 101 = .ok (.iload 5, 2) := by decide +kernel
theorem dL_step_103 : decode cL_step 103 = .ok (.imul, 1) := by decide +kernel
theorem dL_step_104 : decode cL_step 104 = .ok (.iadd, 1) := by decide +kernel
theorem dL_step_105 : decode cL_step 105 = .ok (.iload_n 1, 1) := by decide +kernel
theorem dL_step_106 : decode cL_step 106 = .ok (.iadd, 1) := by decide +kernel
theorem dL_step_107 : decode cL_step 107 = .ok (.iaload, 1) := by decide +kernel
theorem dL_step_108 : decode cL_step 108 = .ok (.iconst 1, 1) := by decide +kernel
theorem dL_step_109 : decode cL_step 109 = .ok (.if_icmp .ne 5, 3) := by decide +kernel
theorem dL_step_112 : decode cL_step 112 = .ok (.iconst 0, 1) := by decide +kernel
theorem dL_step_113 : decode cL_step 113 = .ok (.ireturn, 1) := by decide +kernel
theorem dL_step_114 : decode cL_step 114 = .ok (.aload_n 0, 1) := by decide +kernel
theorem dL_step_115 : decode cL_step 115 = .ok (.bipush 24, 2) := by decide +kernel
theorem dL_step_117 : decode cL_step 117 = .ok (.iload 5, 2) := by decide +kernel
theorem dL_step_119 : decode cL_step 119 = .ok (.imul, 1) := by decide +kernel
theorem dL_step_120 : decode cL_step 120 = .ok (.iload 4, 2) := by decide +kernel
theorem dL_step_122 : decode cL_step 122 = .ok (.iadd, 1) := by decide +kernel
theorem dL_step_123 : decode cL_step 123 = .ok (.iaload, 1) := by decide +kernel
theorem dL_step_124 : decode cL_step 124 = .ok (.aload_n 0, 1) := by decide +kernel
theorem dL_step_125 : decode cL_step 125 = .ok (.bipush 24, 2) := by decide +kernel
theorem dL_step_127 : decode cL_step 127 = .ok (.iload_n 2, 1) := by decide +kernel
theorem dL_step_128 : decode cL_step 128 = .ok (.imul, 1) := by decide +kernel
theorem dL_step_129 : decode cL_step 129 = .ok (.iload_n 1, 1) := by decide +kernel
theorem dL_step_130 : decode cL_step 130 = .ok (.iadd, 1) := by decide +kernel
theorem dL_step_131 : decode cL_step 131 = .ok (.iaload, 1) := by decide +kernel
theorem dL_step_132 : decode cL_step 132 = .ok (.isub, 1) := by decide +kernel
theorem dL_step_133 : decode cL_step 133 = .ok (.istore 6, 2) := by decide +kernel
theorem dL_step_135 : decode cL_step 135 = .ok (.iload 6, 2) := by decide +kernel
theorem dL_step_137 : decode cL_step 137 = .ok (.aload_n 0, 1) := by decide +kernel
theorem dL_step_138 : decode cL_step 138 = .ok (.sipush 1728, 3) := by decide +kernel
theorem dL_step_141 : decode cL_step 141 = .ok (.iaload, 1) := by decide +kernel
theorem dL_step_142 : decode cL_step 142 = .ok (.if_icmp .gt 14, 3) := by decide +kernel
theorem dL_step_145 : decode cL_step 145 = .ok (.iload 6, 2) := by decide +kernel
theorem dL_step_147 : decode cL_step 147 = .ok (.ineg, 1) := by decide +kernel
theorem dL_step_148 : decode cL_step 148 = .ok (.aload_n 0, 1) := by decide +kernel
theorem dL_step_149 : decode cL_step 149 = .ok (.sipush 1728, 3) := by decide +kernel
theorem dL_step_152 : decode cL_step 152 = .ok (.iaload, 1) := by decide +kernel
theorem dL_step_153 : decode cL_step 153 = .ok (.if_icmp .le 5, 3) := by decide +kernel
theorem dL_step_156 : decode cL_step 156 = .ok (.iconst 0, 1) := by decide +kernel
theorem dL_step_157 : decode cL_step 157 = .ok (.ireturn, 1) := by decide +kernel
theorem dL_step_158 : decode cL_step 158 = .ok (.getstatic 41, 3) := by decide +kernel
theorem dL_step_161 : decode cL_step 161 = .ok (.iload_n 3, 1) := by decide +kernel
theorem dL_step_162 : decode cL_step 162 = .ok (.iaload, 1) := by decide +kernel
theorem dL_step_163 : decode cL_step 163 = .ok (.ifCond .eq 15, 3) := by decide +kernel
theorem dL_step_166 : decode cL_step 166 = .ok (.getstatic 45, 3) := by decide +kernel
theorem dL_step_169 : decode cL_step 169 = .ok (.iload_n 3, 1) := by decide +kernel
theorem dL_step_170 : decode cL_step 170 = .ok (.iaload, 1) := by decide +kernel
theorem dL_step_171 : decode cL_step 171 = .ok (.ifCond .eq 7, 3) := by decide +kernel
theorem dL_step_174 : decode cL_step 174 = .ok (.iconst 3, 1) := by decide +kernel
theorem dL_step_175 : decode cL_step 175 = .ok (.goto 4, 3) := by decide +kernel
theorem dL_step_178 : decode cL_step 178 = .ok (.iconst 2, 1) := by decide +kernel
theorem dL_step_179 : decode cL_step 179 = .ok (.iconst 2, 1) := by decide +kernel
theorem dL_step_180 : decode cL_step 180 = .ok (.aload_n 0, 1) := by decide +kernel
theorem dL_step_181 : decode cL_step 181 = .ok (.sipush 576, 3) := by decide +kernel
theorem dL_step_184 : decode cL_step 184 = .ok (.bipush 24, 2) := by decide +kernel
theorem dL_step_186 : decode cL_step 186 = .ok (.iload 5, 2) := by decide +kernel
theorem dL_step_188 : decode cL_step 188 = .ok (.imul, 1) := by decide +kernel
theorem dL_step_189 : decode cL_step 189 = .ok (.iadd, 1) := by decide +kernel
theorem dL_step_190 : decode cL_step 190 = .ok (.iload 4, 2) := by decide +kernel
theorem dL_step_192 : decode cL_step 192 = .ok (.iadd, 1) := by decide +kernel
theorem dL_step_193 : decode cL_step 193 = .ok (.iaload, 1) := by decide +kernel
theorem dL_step_194 : decode cL_step 194 = .ok (.iadd, 1) := by decide +kernel
theorem dL_step_195 : decode cL_step 195 = .ok (.imul, 1) := by decide +kernel
theorem dL_step_196 : decode cL_step 196 = .ok (.iload 6, 2) := by decide +kernel
theorem dL_step_198 : decode cL_step 198 = .ok (.ifCond .le 10, 3) := by decide +kernel
theorem dL_step_201 : decode cL_step 201 = .ok (.iload 6, 2) := by decide +kernel
theorem dL_step_203 : decode cL_step 203 = .ok (.iconst 3, 1) := by decide +kernel
theorem dL_step_204 : decode cL_step 204 = .ok (.idiv, 1) := by decide +kernel
theorem dL_step_205 : decode cL_step 205 = .ok (.goto 4, 3) := by decide +kernel
theorem dL_step_208 : decode cL_step 208 = .ok (.iconst 0, 1) := by decide +kernel
theorem dL_step_209 : decode cL_step 209 = .ok (.iadd, 1) := by decide +kernel
theorem dL_step_210 : decode cL_step 210 = .ok (.ireturn, 1) := by decide +kernel
theorem dL_costs_0 : decode cL_costs 0 = .ok (.sipush 576, 3) := by decide +kernel
theorem dL_costs_3 : decode cL_costs 3 = .ok (.newarray .int, 2) := by decide +kernel
theorem dL_costs_5 : decode cL_costs 5 = .ok (.astore_n 3, 1) := by decide +kernel
theorem dL_costs_6 : decode cL_costs 6 = .ok (.iconst 0, 1) := by decide +kernel
theorem dL_costs_7 : decode cL_costs 7 = .ok (.istore 4, 2) := by decide +kernel
theorem dL_costs_9 : decode cL_costs 9 = .ok (.iload 4, 2) := by decide +kernel
theorem dL_costs_11 : decode cL_costs 11 = .ok (.sipush 576, 3) := by decide +kernel
theorem dL_costs_14 : decode cL_costs 14 = .ok (.if_icmp .ge 14, 3) := by decide +kernel
theorem dL_costs_17 : decode cL_costs 17 = .ok (.aload_n 3, 1) := by decide +kernel
theorem dL_costs_18 : decode cL_costs 18 = .ok (.iload 4, 2) := by decide +kernel
theorem dL_costs_20 : decode cL_costs 20 = .ok (.iconst (-1), 1) := by decide +kernel
theorem dL_costs_21 : decode cL_costs 21 = .ok (.iastore, 1) := by decide +kernel
theorem dL_costs_22 : decode cL_costs 22 = .ok (.iinc 4 1, 3) := by decide +kernel
theorem dL_costs_25 : decode cL_costs 25 = .ok (.goto (-16), 3) := by decide +kernel
theorem dL_costs_28 : decode cL_costs 28 = .ok (.aload_n 3, 1) := by decide +kernel
theorem dL_costs_29 : decode cL_costs 29 = .ok (.bipush 24, 2) := by decide +kernel
theorem dL_costs_31 : decode cL_costs 31 = .ok (.iload_n 2, 1) := by decide +kernel
theorem dL_costs_32 : decode cL_costs 32 = .ok (.imul, 1) := by decide +kernel
theorem dL_costs_33 : decode cL_costs 33 = .ok (.iload_n 1, 1) := by decide +kernel
theorem dL_costs_34 : decode cL_costs 34 = .ok (.iadd, 1) := by decide +kernel
theorem dL_costs_35 : decode cL_costs 35 = .ok (.iconst 0, 1) := by decide +kernel
theorem dL_costs_36 : decode cL_costs 36 = .ok (.iastore, 1) := by decide +kernel
theorem dL_costs_37 : decode cL_costs 37 = .ok (.iconst 1, 1) := by decide +kernel
theorem dL_costs_38 : decode cL_costs 38 = .ok (.istore 4, 2) := by decide +kernel
theorem dL_costs_40 : decode cL_costs 40 = .ok (.iload 4, 2) := by decide +kernel
theorem dL_costs_42 : decode cL_costs 42 = .ok (.ifCond .eq 130, 3) := by decide +kernel
theorem dL_costs_45 : decode cL_costs 45 = .ok (.iconst 0, 1) := by decide +kernel
theorem dL_costs_46 : decode cL_costs 46 = .ok (.istore 4, 2) := by decide +kernel
theorem dL_costs_48 : decode cL_costs 48 = .ok (.iconst 0, 1) := by decide +kernel
theorem dL_costs_49 : decode cL_costs 49 = .ok (.istore 5, 2) := by decide +kernel
theorem dL_costs_51 : decode cL_costs 51 = .ok (.iload 5, 2) := by decide +kernel
theorem dL_costs_53 : decode cL_costs 53 = .ok (.sipush 576, 3) := by decide +kernel
theorem dL_costs_56 : decode cL_costs 56 = .ok (.if_icmp .ge 113, 3) := by decide +kernel
theorem dL_costs_59 : decode cL_costs 59 = .ok (.iconst 0, 1) := by decide +kernel
theorem dL_costs_60 : decode cL_costs 60 = .ok (.istore 6, 2) := by decide +kernel
theorem dL_costs_62 : decode cL_costs 62 = .ok (.iload 6, 2) := by decide +kernel
theorem dL_costs_64 : decode cL_costs 64 = .ok (.bipush 8, 2) := by decide +kernel
theorem dL_costs_66 : decode cL_costs 66 = .ok (.if_icmp .ge 97, 3) := by decide +kernel
theorem dL_costs_69 : decode cL_costs 69 = .ok (.aload_n 0, 1) := by decide +kernel
theorem dL_costs_70 : decode cL_costs 70 = .ok (.iload 5, 2) := by decide +kernel
theorem dL_costs_72 : decode cL_costs 72 = .ok (.bipush 24, 2) := by decide +kernel
theorem dL_costs_74 : decode cL_costs 74 = .ok (.irem, 1) := by decide +kernel
theorem dL_costs_75 : decode cL_costs 75 = .ok (.iload 5, 2) := by decide +kernel
theorem dL_costs_77 : decode cL_costs 77 = .ok (.bipush 24, 2) := by decide +kernel
theorem dL_costs_79 : decode cL_costs 79 = .ok (.idiv, 1) := by decide +kernel
theorem dL_costs_80 : decode cL_costs 80 = .ok (.iload 6, 2) := by decide +kernel
theorem dL_costs_82 : decode cL_costs 82 = .ok (.invokestatic 48, 3) := by decide +kernel
theorem dL_costs_85 : decode cL_costs 85 = .ok (.istore 7, 2) := by decide +kernel
theorem dL_costs_87 : decode cL_costs 87 = .ok (.iload 7, 2) := by decide +kernel
theorem dL_costs_89 : decode cL_costs 89 = .ok (.ifCond .ne 6, 3) := by decide +kernel
theorem dL_costs_92 : decode cL_costs 92 = .ok (.goto 65, 3) := by decide +kernel
theorem dL_costs_95 : decode cL_costs 95 = .ok (.aload_n 3, 1) := by decide +kernel
theorem dL_costs_96 : decode cL_costs 96 = .ok (.iload 5, 2) := by decide +kernel
theorem dL_costs_98 : decode cL_costs 98 = .ok (.getstatic 41, 3) := by decide +kernel
theorem dL_costs_101 : decode cL_costs 101 = .ok (.iload 6, 2) := by decide +kernel
theorem dL_costs_103 : decode cL_costs 103 = .ok (.iaload, 1) := by decide +kernel
theorem dL_costs_104 : decode cL_costs 104 = .ok (.iadd, 1) := by decide +kernel
theorem dL_costs_105 : decode cL_costs 105 = .ok (.bipush 24, 2) := by decide +kernel
theorem dL_costs_107 : decode cL_costs 107 = .ok (.getstatic 45, 3) := by decide +kernel
theorem dL_costs_110 : decode cL_costs 110 = .ok (.iload 6, 2) := by decide +kernel
theorem dL_costs_112 : decode cL_costs 112 = .ok (.iaload, 1) := by decide +kernel
theorem dL_costs_113 : decode cL_costs 113 = .ok (.imul, 1) := by decide +kernel
theorem dL_costs_114 : decode cL_costs 114 = .ok (.iadd, 1) := by decide +kernel
theorem dL_costs_115 : decode cL_costs 115 = .ok (.iaload, 1) := by decide +kernel
theorem dL_costs_116 : decode cL_costs 116 = .ok (.istore 8, 2) := by decide +kernel
theorem dL_costs_118 : decode cL_costs 118 = .ok (.iload 8, 2) := by decide +kernel
theorem dL_costs_120 : decode cL_costs 120 = .ok (.ifCond .lt 37, 3) := by decide +kernel
theorem dL_costs_123 : decode cL_costs 123 = .ok (.aload_n 3, 1) := by decide +kernel
theorem dL_costs_124 : decode cL_costs 124 = .ok (.iload 5, 2) := by decide +kernel
theorem dL_costs_126 : decode cL_costs 126 = .ok (.iaload, 1) := by decide +kernel
theorem dL_costs_127 : decode cL_costs 127 = .ok (.ifCond .lt 18, 3) := by decide +kernel
theorem dL_costs_130 : decode cL_costs 130 = .ok (.aload_n 3, 1) := by decide +kernel
theorem dL_costs_131 : decode cL_costs 131 = .ok (.iload 5, 2) := by decide +kernel
theorem dL_costs_133 : decode cL_costs 133 = .ok (.iaload, 1) := by decide +kernel
theorem dL_costs_134 : decode cL_costs 134 = .ok (.iload 8, 2) := by decide +kernel
theorem dL_costs_136 : decode cL_costs 136 = .ok (.iload 7, 2) := by decide +kernel
theorem dL_costs_138 : decode cL_costs 138 = .ok (.iadd, 1) := by decide +kernel
theorem dL_costs_139 : decode cL_costs 139 = .ok (.if_icmp .gt 6, 3) := by decide +kernel
theorem dL_costs_142 : decode cL_costs 142 = .ok (.goto 15, 3) := by decide +kernel
theorem dL_costs_145 : decode cL_costs 145 = .ok (.aload_n 3, 1) := by decide +kernel
theorem dL_costs_146 : decode cL_costs 146 = .ok (.iload 5, 2) := by decide +kernel
theorem dL_costs_148 : decode cL_costs 148 = .ok (.iload 8, 2) := by decide +kernel
theorem dL_costs_150 : decode cL_costs 150 = .ok (.iload 7, 2) := by decide +kernel
theorem dL_costs_152 : decode cL_costs 152 = .ok (.iadd, 1) := by decide +kernel
theorem dL_costs_153 : decode cL_costs 153 = .ok (.iastore, 1) := by decide +kernel
theorem dL_costs_154 : decode cL_costs 154 = .ok (.iconst 1, 1) := by decide +kernel
theorem dL_costs_155 : decode cL_costs 155 = .ok (.istore 4, 2) := by decide +kernel
theorem dL_costs_157 : decode cL_costs 157 = .ok (.iinc 6 1, 3) := by decide +kernel
theorem dL_costs_160 : decode cL_costs 160 = .ok (.goto (-98), 3) := by decide +kernel
theorem dL_costs_163 : decode cL_costs 163 = .ok (.iinc 5 1, 3) := by decide +kernel
theorem dL_costs_166 : decode cL_costs 166 = .ok (.goto (-115), 3) := by decide +kernel
theorem dL_costs_169 : decode cL_costs 169 = .ok (.goto (-129), 3) := by decide +kernel
theorem dL_costs_172 : decode cL_costs 172 = .ok (.aload_n 3, 1) := by decide +kernel
theorem dL_costs_173 : decode cL_costs 173 = .ok (.areturn, 1) := by decide +kernel
theorem dL_next_0 : decode cL_next 0 = .ok (.iconst 0, 1) := by decide +kernel
theorem dL_next_1 : decode cL_next 1 = .ok (.istore 4, 2) := by decide +kernel
theorem dL_next_3 : decode cL_next 3 = .ok (.iload 4, 2) := by decide +kernel
theorem dL_next_5 : decode cL_next 5 = .ok (.bipush 8, 2) := by decide +kernel
theorem dL_next_7 : decode cL_next 7 = .ok (.if_icmp .ge 88, 3) := by decide +kernel
theorem dL_next_10 : decode cL_next 10 = .ok (.aload_n 0, 1) := by decide +kernel
theorem dL_next_11 : decode cL_next 11 = .ok (.iload_n 2, 1) := by decide +kernel
theorem dL_next_12 : decode cL_next 12 = .ok (.iload_n 3, 1) := by decide +kernel
theorem dL_next_13 : decode cL_next 13 = .ok (.iload 4, 2) := by decide +kernel
theorem dL_next_15 : decode cL_next 15 = .ok (.invokestatic 48, 3) := by decide +kernel
theorem dL_next_18 : decode cL_next 18 = .ok (.istore 5, 2) := by decide +kernel
theorem dL_next_20 : decode cL_next 20 = .ok (.iload 5, 2) := by decide +kernel
theorem dL_next_22 : decode cL_next 22 = .ok (.ifCond .le 67, 3) := by decide +kernel
theorem dL_next_25 : decode cL_next 25 = .ok (.aload_n 1, 1) := by decide +kernel
theorem dL_next_26 : decode cL_next 26 = .ok (.bipush 24, 2) := by decide +kernel
theorem dL_next_28 : decode cL_next 28 = .ok (.iload_n 3, 1) := by decide +kernel
theorem dL_next_29 : decode cL_next 29 = .ok (.getstatic 45, 3) := by decide +kernel
theorem dL_next_32 : decode cL_next 32 = .ok (.iload 4, 2) := by decide +kernel
theorem dL_next_34 : decode cL_next 34 = .ok (.iaload, 1) := by decide +kernel
theorem dL_next_35 : decode cL_next 35 = .ok (.iadd, 1) := by decide +kernel
theorem dL_next_36 : decode cL_next 36 = .ok (.imul, 1) := by decide +kernel
theorem dL_next_37 : decode cL_next 37 = .ok (.iload_n 2, 1) := by decide +kernel
theorem dL_next_38 : decode cL_next 38 = .ok (.iadd, 1) := by decide +kernel
theorem dL_next_39 : decode cL_next 39 = .ok (.getstatic 41, 3) := by decide +kernel
theorem dL_next_42 : decode cL_next 42 = .ok (.iload 4, 2) := by decide +kernel
theorem dL_next_44 : decode cL_next 44 = .ok (.iaload, 1) := by decide +kernel
theorem dL_next_45 : decode cL_next 45 = .ok (.iadd, 1) := by decide +kernel
theorem dL_next_46 : decode cL_next 46 = .ok (.iaload, 1) := by decide +kernel
theorem dL_next_47 : decode cL_next 47 = .ok (.ifCond .lt 42, 3) := by decide +kernel
theorem dL_next_50 : decode cL_next 50 = .ok (.aload_n 1, 1) := by decide +kernel
theorem dL_next_51 : decode cL_next 51 = .ok (.bipush 24, 2) := by decide +kernel
theorem dL_next_53 : decode cL_next 53 = .ok (.iload_n 3, 1) := by decide +kernel
theorem dL_next_54 : decode cL_next 54 = .ok (.getstatic 45, 3) := by decide +kernel
theorem dL_next_57 : decode cL_next 57 = .ok (.iload 4, 2) := by decide +kernel
theorem dL_next_59 : decode cL_next 59 = .ok (.iaload, 1) := by decide +kernel
theorem dL_next_60 : decode cL_next 60 = .ok (.iadd, 1) := by decide +kernel
theorem dL_next_61 : decode cL_next 61 = .ok (.imul, 1) := by decide +kernel
theorem dL_next_62 : decode cL_next 62 = .ok (.iload_n 2, 1) := by decide +kernel
theorem dL_next_63 : decode cL_next 63 = .ok (.iadd, 1) := by decide +kernel
theorem dL_next_64 : decode cL_next 64 = .ok (.getstatic 41, 3) := by decide +kernel
theorem dL_next_67 : decode cL_next 67 = .ok (.iload 4, 2) := by decide +kernel
theorem dL_next_69 : decode cL_next 69 = .ok (.iaload, 1) := by decide +kernel
theorem dL_next_70 : decode cL_next 70 = .ok (.iadd, 1) := by decide +kernel
theorem dL_next_71 : decode cL_next 71 = .ok (.iaload, 1) := by decide +kernel
theorem dL_next_72 : decode cL_next 72 = .ok (.iload 5, 2) := by decide +kernel
theorem dL_next_74 : decode cL_next 74 = .ok (.iadd, 1) := by decide +kernel
theorem dL_next_75 : decode cL_next 75 = .ok (.aload_n 1, 1) := by decide +kernel
theorem dL_next_76 : decode cL_next 76 = .ok (.bipush 24, 2) := by decide +kernel
theorem dL_next_78 : decode cL_next 78 = .ok (.iload_n 3, 1) := by decide +kernel
theorem dL_next_79 : decode cL_next 79 = .ok (.imul, 1) := by decide +kernel
theorem dL_next_80 : decode cL_next 80 = .ok (.iload_n 2, 1) := by decide +kernel
theorem dL_next_81 : decode cL_next 81 = .ok (.iadd, 1) := by decide +kernel
theorem dL_next_82 : decode cL_next 82 = .ok (.iaload, 1) := by decide +kernel
theorem dL_next_83 : decode cL_next 83 = .ok (.if_icmp .ne 6, 3) := by decide +kernel
theorem dL_next_86 : decode cL_next 86 = .ok (.iload 4, 2) := by decide +kernel
theorem dL_next_88 : decode cL_next 88 = .ok (.ireturn, 1) := by decide +kernel
theorem dL_next_89 : decode cL_next 89 = .ok (.iinc 4 1, 3) := by decide +kernel
theorem dL_next_92 : decode cL_next 92 = .ok (.goto (-89), 3) := by decide +kernel
theorem dL_next_95 : decode cL_next 95 = .ok (.iconst (-1), 1) := by decide +kernel
theorem dL_next_96 : decode cL_next 96 = .ok (.ireturn, 1) := by decide +kernel
theorem dL_energy_0 : decode cL_energy 0 = .ok (.iconst 4, 1) := by decide +kernel
theorem dL_energy_1 : decode cL_energy 1 = .ok (.aload_n 0, 1) := by decide +kernel
theorem dL_energy_2 : decode cL_energy 2 = .ok (.iload_n 1, 1) := by decide +kernel
theorem dL_energy_3 : decode cL_energy 3 = .ok (.iload_n 2, 1) := by decide +kernel
theorem dL_energy_4 : decode cL_energy 4 = .ok (.iload_n 3, 1) := by decide +kernel
theorem dL_energy_5 : decode cL_energy 5 = .ok (.invokestatic 48, 3) := by decide +kernel
theorem dL_energy_8 : decode cL_energy 8 = .ok (.imul, 1) := by decide +kernel
theorem dL_energy_9 : decode cL_energy 9 = .ok (.iconst 2, 1) := by decide +kernel
theorem dL_energy_10 : decode cL_energy 10 = .ok (.iconst 0, 1) := by decide +kernel
theorem dL_energy_11 : decode cL_energy 11 = .ok (.aload_n 0, 1) := by decide +kernel
theorem dL_energy_12 : decode cL_energy 12 = .ok (.bipush 24, 2) := by decide +kernel
theorem dL_energy_14 : decode cL_energy 14 = .ok (.iload_n 2, 1) := by decide +kernel
theorem dL_energy_15 : decode cL_energy 15 = .ok (.getstatic 45, 3) := by decide +kernel
theorem dL_energy_18 : decode cL_energy 18 = .ok (.iload_n 3, 1) := by decide +kernel
theorem dL_energy_19 : decode cL_energy 19 = .ok (.iaload, 1) := by decide +kernel
theorem dL_energy_20 : decode cL_energy 20 = .ok (.iadd, 1) := by decide +kernel
theorem dL_energy_21 : decode cL_energy 21 = .ok (.imul, 1) := by decide +kernel
theorem dL_energy_22 : decode cL_energy 22 = .ok (.iload_n 1, 1) := by decide +kernel
theorem dL_energy_23 : decode cL_energy 23 = .ok (.iadd, 1) := by decide +kernel
theorem dL_energy_24 : decode cL_energy 24 = .ok (.getstatic 41, 3) := by decide +kernel
theorem dL_energy_27 : decode cL_energy 27 = .ok (.iload_n 3, 1) := by decide +kernel
theorem dL_energy_28 : decode cL_energy 28 = .ok (.iaload, 1) := by decide +kernel
theorem dL_energy_29 : decode cL_energy 29 = .ok (.iadd, 1) := by decide +kernel
theorem dL_energy_30 : decode cL_energy 30 = .ok (.iaload, 1) := by decide +kernel
theorem dL_energy_31 : decode cL_energy 31 = .ok (.aload_n 0, 1) := by decide +kernel
theorem dL_energy_32 : decode cL_energy 32 = .ok (.bipush 24, 2) := by decide +kernel
theorem dL_energy_34 : decode cL_energy 34 = .ok (.iload_n 2, 1) := by decide +kernel
theorem dL_energy_35 : decode cL_energy 35 = .ok (.imul, 1) := by decide +kernel
theorem dL_energy_36 : decode cL_energy 36 = .ok (.iload_n 1, 1) := by decide +kernel
theorem dL_energy_37 : decode cL_energy 37 = .ok (.iadd, 1) := by decide +kernel
theorem dL_energy_38 : decode cL_energy 38 = .ok (.iaload, 1) := by decide +kernel
theorem dL_energy_39 : decode cL_energy 39 = .ok (.isub, 1) := by decide +kernel
theorem dL_energy_40 : decode cL_energy 40 = .ok (.invokestatic 24, 3) := by decide +kernel
theorem dL_energy_43 : decode cL_energy 43 = .ok (.imul, 1) := by decide +kernel
theorem dL_energy_44 : decode cL_energy 44 = .ok (.iadd, 1) := by decide +kernel
theorem dL_energy_45 : decode cL_energy 45 = .ok (.ireturn, 1) := by decide +kernel
theorem dL_sees_0 : decode cL_sees 0 = .ok (.iload_n 3, 1) := by decide +kernel
theorem dL_sees_1 : decode cL_sees 1 = .ok (.iload_n 1, 1) := by decide +kernel
theorem dL_sees_2 : decode cL_sees 2 = .ok (.isub, 1) := by decide +kernel
theorem dL_sees_3 : decode cL_sees 3 = .ok (.invokestatic 52, 3) := by decide +kernel
theorem dL_sees_6 : decode cL_sees 6 = .ok (.iload 4, 2) := by decide +kernel
theorem dL_sees_8 : decode cL_sees 8 = .ok (.iload_n 2, 1) := by decide +kernel
theorem dL_sees_9 : decode cL_sees 9 = .ok (.isub, 1) := by decide +kernel
theorem dL_sees_10 : decode cL_sees 10 = .ok (.invokestatic 52, 3) := by decide +kernel
theorem dL_sees_13 : decode cL_sees 13 = .ok (.invokestatic 24, 3) := by decide +kernel
theorem dL_sees_16 : decode cL_sees 16 = .ok (.istore 5, 2) := by decide +kernel
theorem dL_sees_18 : decode cL_sees 18 = .ok (.iconst 1, 1) := by decide +kernel
theorem dL_sees_19 : decode cL_sees 19 = .ok (.istore 6, 2) := by decide +kernel
theorem dL_sees_21 : decode cL_sees 21 = .ok (.iload 6, 2) := by decide +kernel
theorem dL_sees_23 : decode cL_sees 23 = .ok (.iload 5, 2) := by decide +kernel
theorem dL_sees_25 : decode cL_sees 25 = .ok (.if_icmp .ge 193, 3) := by decide +kernel
theorem dL_sees_28 : decode cL_sees 28 = .ok (.iload_n 1, 1) := by decide +kernel
theorem dL_sees_29 : decode cL_sees 29 = .ok (.istore 7, 2) := by decide +kernel
theorem dL_sees_31 : decode cL_sees 31 = .ok (.iconst 2, 1) := by decide +kernel
theorem dL_sees_32 : decode cL_sees 32 = .ok (.iload 5, 2) := by decide +kernel
theorem dL_sees_34 : decode cL_sees 34 = .ok (.imul, 1) := by decide +kernel
theorem dL_sees_35 : decode cL_sees 35 = .ok (.iload 7, 2) := by decide +kernel
theorem dL_sees_37 : decode cL_sees 37 = .ok (.iconst 1, 1) := by decide +kernel
theorem dL_sees_38 : decode cL_sees 38 = .ok (.iadd, 1) := by decide +kernel
theorem dL_sees_39 : decode cL_sees 39 = .ok (.iload_n 1, 1) := by decide +kernel
theorem dL_sees_40 : decode cL_sees 40 = .ok (.isub, 1) := by decide +kernel
theorem dL_sees_41 : decode cL_sees 41 = .ok (.imul, 1) := by decide +kernel
theorem dL_sees_42 : decode cL_sees 42 = .ok (.iconst 2, 1) := by decide +kernel
theorem dL_sees_43 : decode cL_sees 43 = .ok (.iload 6, 2) := by decide +kernel
theorem dL_sees_45 : decode cL_sees 45 = .ok (.imul, 1) := by decide +kernel
theorem dL_sees_46 : decode cL_sees 46 = .ok (.iload_n 3, 1) := by decide +kernel
theorem dL_sees_47 : decode cL_sees 47 = .ok (.iload_n 1, 1) := by decide +kernel
theorem dL_sees_48 : decode cL_sees 48 = .ok (.isub, 1) := by decide +kernel
theorem dL_sees_49 : decode cL_sees 49 = .ok (.imul, 1) := by decide +kernel
theorem dL_sees_50 : decode cL_sees 50 = .ok (.iload 5, 2) := by decide +kernel
theorem dL_sees_52 : decode cL_sees 52 = .ok (.iadd, 1) := by decide +kernel
theorem dL_sees_53 : decode cL_sees 53 = .ok (.if_icmp .gt 9, 3) := by decide +kernel
theorem dL_sees_56 : decode cL_sees 56 = .ok (.iinc 7 1, 3) := by decide +kernel
theorem dL_sees_59 : decode cL_sees 59 = .ok (.goto (-28), 3) := by decide +kernel
theorem dL_sees_62 : decode cL_sees 62 = .ok (.iconst 2, 1) := by decide +kernel
theorem dL_sees_63 : decode cL_sees 63 = .ok (.iload 5, 2) := by decide +kernel
theorem dL_sees_65 : decode cL_sees 65 = .ok (.imul, 1) := by decide +kernel
theorem dL_sees_66 : decode cL_sees 66 = .ok (.iload 7, 2) := by decide +kernel
theorem dL_sees_68 : decode cL_sees 68 = .ok (.iload_n 1, 1) := by decide +kernel
theorem dL_sees_69 : decode cL_sees 69 = .ok (.isub, 1) := by decide +kernel
theorem dL_sees_70 : decode cL_sees 70 = .ok (.imul, 1) := by decide +kernel
theorem dL_sees_71 : decode cL_sees 71 = .ok (.iconst 2, 1) := by decide +kernel
theorem dL_sees_72 : decode cL_sees 72 = .ok (.iload 6, 2) := by decide +kernel
theorem dL_sees_74 : decode cL_sees 74 = .ok (.imul, 1) := by decide +kernel
theorem dL_sees_75 : decode cL_sees 75 = .ok (.iload_n 3, 1) := by decide +kernel
theorem dL_sees_76 : decode cL_sees 76 = .ok (.iload_n 1, 1) := by decide +kernel
theorem dL_sees_77 : decode cL_sees 77 = .ok (.isub, 1) := by decide +kernel
theorem dL_sees_78 : decode cL_sees 78 = .ok (.imul, 1) := by decide +kernel
theorem dL_sees_79 : decode cL_sees 79 = .ok (.iload 5, 2) := by decide +kernel
theorem dL_sees_81 : decode cL_sees 81 = .ok (.iadd, 1) := by decide +kernel
theorem dL_sees_82 : decode cL_sees 82 = .ok (.if_icmp .le 9, 3) := by decide +kernel
theorem dL_sees_85 : decode cL_sees 85 = .ok (.iinc 7 (-1), 3) := by decide +kernel
theorem dL_sees_88 : decode cL_sees 88 = .ok (.goto (-26), 3) := by decide +kernel
theorem dL_sees_91 : decode cL_sees 91 = .ok (.iload_n 2, 1) := by decide +kernel
theorem dL_sees_92 : decode cL_sees 92 = .ok (.istore 8, 2) := by decide +kernel
theorem dL_sees_94 : decode cL_sees 94 = .ok (.iconst 2, 1) := by decide +kernel
theorem dL_sees_95 : decode cL_sees 95 = .ok (.iload 5, 2) := by decide +kernel
theorem dL_sees_97 : decode cL_sees 97 = .ok (.imul, 1) := by decide +kernel
theorem dL_sees_98 : decode cL_sees 98 = .ok (.iload 8, 2) := by decide +kernel
theorem dL_sees_100 : decode cL_sees 100 = .ok (.iconst 1, 1) := by decide +kernel
theorem dL_sees_101 : decode cL_sees 101 = .ok (.iadd, 1) := by decide +kernel
theorem dL_sees_102 : decode cL_sees 102 = .ok (.iload_n 2, 1) := by decide +kernel
theorem dL_sees_103 : decode cL_sees 103 = .ok (.isub, 1) := by decide +kernel
theorem dL_sees_104 : decode cL_sees 104 = .ok (.imul, 1) := by decide +kernel
theorem dL_sees_105 : decode cL_sees 105 = .ok (.iconst 2, 1) := by decide +kernel
theorem dL_sees_106 : decode cL_sees 106 = .ok (.iload 6, 2) := by decide +kernel
theorem dL_sees_108 : decode cL_sees 108 = .ok (.imul, 1) := by decide +kernel
theorem dL_sees_109 : decode cL_sees 109 = .ok (.iload 4, 2) := by decide +kernel
theorem dL_sees_111 : decode cL_sees 111 = .ok (.iload_n 2, 1) := by decide +kernel
theorem dL_sees_112 : decode cL_sees 112 = .ok (.isub, 1) := by decide +kernel
theorem dL_sees_113 : decode cL_sees 113 = .ok (.imul, 1) := by decide +kernel
theorem dL_sees_114 : decode cL_sees 114 = .ok (.iload 5, 2) := by decide +kernel
theorem dL_sees_116 : decode cL_sees 116 = .ok (.iadd, 1) := by decide +kernel
theorem dL_sees_117 : decode cL_sees 117 = .ok (.if_icmp .gt 9, 3) := by decide +kernel
theorem dL_sees_120 : decode cL_sees 120 = .ok (.iinc 8 1, 3) := by decide +kernel
theorem dL_sees_123 : decode cL_sees 123 = .ok (.goto (-29), 3) := by decide +kernel
theorem dL_sees_126 : decode cL_sees 126 = .ok (.iconst 2, 1) := by decide +kernel
theorem dL_sees_127 : decode cL_sees 127 = .ok (.iload 5, 2) := by decide +kernel
theorem dL_sees_129 : decode cL_sees 129 = .ok (.imul, 1) := by decide +kernel
theorem dL_sees_130 : decode cL_sees 130 = .ok (.iload 8, 2) := by decide +kernel
theorem dL_sees_132 : decode cL_sees 132 = .ok (.iload_n 2, 1) := by decide +kernel
theorem dL_sees_133 : decode cL_sees 133 = .ok (.isub, 1) := by decide +kernel
theorem dL_sees_134 : decode cL_sees 134 = .ok (.imul, 1) := by decide +kernel
theorem dL_sees_135 : decode cL_sees 135 = .ok (.iconst 2, 1) := by decide +kernel
theorem dL_sees_136 : decode cL_sees 136 = .ok (.iload 6, 2) := by decide +kernel
theorem dL_sees_138 : decode cL_sees 138 = .ok (.imul, 1) := by decide +kernel
theorem dL_sees_139 : decode cL_sees 139 = .ok (.iload 4, 2) := by decide +kernel
theorem dL_sees_141 : decode cL_sees 141 = .ok (.iload_n 2, 1) := by decide +kernel
theorem dL_sees_142 : decode cL_sees 142 = .ok (.isub, 1) := by decide +kernel
theorem dL_sees_143 : decode cL_sees 143 = .ok (.imul, 1) := by decide +kernel
theorem dL_sees_144 : decode cL_sees 144 = .ok (.iload 5, 2) := by decide +kernel
theorem dL_sees_146 : decode cL_sees 146 = .ok (.iadd, 1) := by decide +kernel
theorem dL_sees_147 : decode cL_sees 147 = .ok (.if_icmp .le 9, 3) := by decide +kernel
theorem dL_sees_150 : decode cL_sees 150 = .ok (.iinc 8 (-1), 3) := by decide +kernel
theorem dL_sees_153 : decode cL_sees 153 = .ok (.goto (-27), 3) := by decide +kernel
theorem dL_sees_156 : decode cL_sees 156 = .ok (.aload_n 0, 1) := by decide +kernel
theorem dL_sees_157 : decode cL_sees 157 = .ok (.bipush 24, 2) := by decide +kernel
theorem dL_sees_159 : decode cL_sees 159 = .ok (.iload_n 2, 1) := by decide +kernel
theorem dL_sees_160 : decode cL_sees 160 = .ok (.imul, 1) := by decide +kernel
theorem dL_sees_161 : decode cL_sees 161 = .ok (.iload_n 1, 1) := by decide +kernel
theorem dL_sees_162 : decode cL_sees 162 = .ok (.iadd, 1) := by decide +kernel
theorem dL_sees_163 : decode cL_sees 163 = .ok (.iaload, 1) := by decide +kernel
theorem dL_sees_164 : decode cL_sees 164 = .ok (.iconst 3, 1) := by decide +kernel
theorem dL_sees_165 : decode cL_sees 165 = .ok (.iadd, 1) := by decide +kernel
theorem dL_sees_166 : decode cL_sees 166 = .ok (.aload_n 0, 1) := by decide +kernel
theorem dL_sees_167 : decode cL_sees 167 = .ok (.bipush 24, 2) := by decide +kernel
theorem dL_sees_169 : decode cL_sees 169 = .ok (.iload 4, 2) := by decide +kernel
theorem dL_sees_171 : decode cL_sees 171 = .ok (.imul, 1) := by decide +kernel
theorem dL_sees_172 : decode cL_sees 172 = .ok (.iload_n 3, 1) := by decide +kernel
theorem dL_sees_173 : decode cL_sees 173 = .ok (.iadd, 1) := by decide +kernel
theorem dL_sees_174 : decode cL_sees 174 = .ok (.iaload, 1) := by decide +kernel
theorem dL_sees_175 : decode cL_sees 175 = .ok (.aload_n 0, 1) := by decide +kernel
theorem dL_sees_176 : decode cL_sees 176 = .ok (.bipush 24, 2) := by decide +kernel
theorem dL_sees_178 : decode cL_sees 178 = .ok (.iload_n 2, 1) := by decide +kernel
theorem dL_sees_179 : decode cL_sees 179 = .ok (.imul, 1) := by decide +kernel
theorem dL_sees_180 : decode cL_sees 180 = .ok (.iload_n 1, 1) := by decide +kernel
theorem dL_sees_181 : decode cL_sees 181 = .ok (.iadd, 1) := by decide +kernel
theorem dL_sees_182 : decode cL_sees 182 = .ok (.iaload, 1) := by decide +kernel
theorem dL_sees_183 : decode cL_sees 183 = .ok (.isub, 1) := by decide +kernel
theorem dL_sees_184 : decode cL_sees 184 = .ok (.iconst 3, 1) := by decide +kernel
theorem dL_sees_185 : decode cL_sees 185 = .ok (.isub, 1) := by decide +kernel
theorem dL_sees_186 : decode cL_sees 186 = .ok (.iload 6, 2) := by decide +kernel
theorem dL_sees_188 : decode cL_sees 188 = .ok (.imul, 1) := by decide +kernel
theorem dL_sees_189 : decode cL_sees 189 = .ok (.iload 5, 2) := by decide +kernel
theorem dL_sees_191 : decode cL_sees 191 = .ok (.idiv, 1) := by decide +kernel
theorem dL_sees_192 : decode cL_sees 192 = .ok (.iadd, 1) := by decide +kernel
theorem dL_sees_193 : decode cL_sees 193 = .ok (.istore 9, 2) := by decide +kernel
theorem dL_sees_195 : decode cL_sees 195 = .ok (.aload_n 0, 1) := by decide +kernel
theorem dL_sees_196 : decode cL_sees 196 = .ok (.bipush 24, 2) := by decide +kernel
theorem dL_sees_198 : decode cL_sees 198 = .ok (.iload 8, 2) := by decide +kernel
theorem dL_sees_200 : decode cL_sees 200 = .ok (.imul, 1) := by decide +kernel
theorem dL_sees_201 : decode cL_sees 201 = .ok (.iload 7, 2) := by decide +kernel
theorem dL_sees_203 : decode cL_sees 203 = .ok (.iadd, 1) := by decide +kernel
theorem dL_sees_204 : decode cL_sees 204 = .ok (.iaload, 1) := by decide +kernel
theorem dL_sees_205 : decode cL_sees 205 = .ok (.iload 9, 2) := by decide +kernel
theorem dL_sees_207 : decode cL_sees 207 = .ok (.if_icmp .le 5, 3) := by decide +kernel
theorem dL_sees_210 : decode cL_sees 210 = .ok (.iconst 0, 1) := by decide +kernel
theorem dL_sees_211 : decode cL_sees 211 = .ok (.ireturn, 1) := by decide +kernel
theorem dL_sees_212 : decode cL_sees 212 = .ok (.iinc 6 1, 3) := by decide +kernel
theorem dL_sees_215 : decode cL_sees 215 = .ok (.goto (-194), 3) := by decide +kernel
theorem dL_sees_218 : decode cL_sees 218 = .ok (.iconst 1, 1) := by decide +kernel
theorem dL_sees_219 : decode cL_sees 219 = .ok (.ireturn, 1) := by decide +kernel
theorem dL_build_0 : decode cL_build 0 = .ok (.new 55, 3) := by decide +kernel
theorem dL_build_3 : decode cL_build 3 = .ok (.dup, 1) := by decide +kernel
theorem dL_build_4 : decode cL_build 4 = .ok (.invokespecial 57, 3) := by decide +kernel
theorem dL_build_7 : decode cL_build 7 = .ok (.astore_n 2, 1) := by decide +kernel
theorem dL_build_8 : decode cL_build 8 = .ok (.aload_n 2, 1) := by decide +kernel
theorem dL_build_9 : decode cL_build 9 = .ok (.aload_n 0, 1) := by decide +kernel
theorem dL_build_10 : decode cL_build 10 = .ok (.aload_n 1, 1) := by decide +kernel
theorem dL_build_11 : decode cL_build 11 = .ok (.iconst 0, 1) := by decide +kernel
theorem dL_build_12 : decode cL_build 12 = .ok (.invokestatic 58, 3) := by decide +kernel
theorem dL_build_15 : decode cL_build 15 = .ok (.putfield 62, 3) := by decide +kernel
theorem dL_build_18 : decode cL_build 18 = .ok (.aload_n 2, 1) := by decide +kernel
theorem dL_build_19 : decode cL_build 19 = .ok (.getfield 62, 3) := by decide +kernel
theorem dL_build_22 : decode cL_build 22 = .ok (.ifnonnull 5, 3) := by decide +kernel
theorem dL_build_25 : decode cL_build 25 = .ok (.aconst_null, 1) := by decide +kernel
theorem dL_build_26 : decode cL_build 26 = .ok (.areturn, 1) := by decide +kernel
theorem dL_build_27 : decode cL_build 27 = .ok (.iconst 1, 1) := by decide +kernel
theorem dL_build_28 : decode cL_build 28 = .ok (.aload_n 1, 1) := by decide +kernel
theorem dL_build_29 : decode cL_build 29 = .ok (.bipush 8, 2) := by decide +kernel
theorem dL_build_31 : decode cL_build 31 = .ok (.invokestatic 9, 3) := by decide +kernel
theorem dL_build_34 : decode cL_build 34 = .ok (.iconst 4, 1) := by decide +kernel
theorem dL_build_35 : decode cL_build 35 = .ok (.invokestatic 15, 3) := by decide +kernel
theorem dL_build_38 : decode cL_build 38 = .ok (.iadd, 1) := by decide +kernel
theorem dL_build_39 : decode cL_build 39 = .ok (.istore_n 3, 1) := by decide +kernel
theorem dL_build_40 : decode cL_build 40 = .ok (.iconst 0, 1) := by decide +kernel
theorem dL_build_41 : decode cL_build 41 = .ok (.istore 4, 2) := by decide +kernel
theorem dL_build_43 : decode cL_build 43 = .ok (.iload 4, 2) := by decide +kernel
theorem dL_build_45 : decode cL_build 45 = .ok (.iload_n 3, 1) := by decide +kernel
theorem dL_build_46 : decode cL_build 46 = .ok (.if_icmp .ge 137, 3) := by decide +kernel
theorem dL_build_49 : decode cL_build 49 = .ok (.aload_n 1, 1) := by decide +kernel
theorem dL_build_50 : decode cL_build 50 = .ok (.bipush 9, 2) := by decide +kernel
theorem dL_build_52 : decode cL_build 52 = .ok (.iload 4, 2) := by decide +kernel
theorem dL_build_54 : decode cL_build 54 = .ok (.iconst 3, 1) := by decide +kernel
theorem dL_build_55 : decode cL_build 55 = .ok (.irem, 1) := by decide +kernel
theorem dL_build_56 : decode cL_build 56 = .ok (.iadd, 1) := by decide +kernel
theorem dL_build_57 : decode cL_build 57 = .ok (.invokestatic 9, 3) := by decide +kernel
theorem dL_build_60 : decode cL_build 60 = .ok (.iload 4, 2) := by decide +kernel
theorem dL_build_62 : decode cL_build 62 = .ok (.iconst 3, 1) := by decide +kernel
theorem dL_build_63 : decode cL_build 63 = .ok (.idiv, 1) := by decide +kernel
theorem dL_build_64 : decode cL_build 64 = .ok (.bipush 9, 2) := by decide +kernel
theorem dL_build_66 : decode cL_build 66 = .ok (.imul, 1) := by decide +kernel
theorem dL_build_67 : decode cL_build 67 = .ok (.ishr, 1) := by decide +kernel
theorem dL_build_68 : decode cL_build 68 = .ok (.istore 5, 2) := by decide +kernel
theorem dL_build_70 : decode cL_build 70 = .ok (.aload_n 2, 1) := by decide +kernel
theorem dL_build_71 : decode cL_build 71 = .ok (.getfield 65, 3) := by decide +kernel
theorem dL_build_74 : decode cL_build 74 = .ok (.iload 4, 2) := by decide +kernel
theorem dL_build_76 : decode cL_build 76 = .ok (.iconst 4, 1) := by decide +kernel
theorem dL_build_77 : decode cL_build 77 = .ok (.newarray .int, 2) := by decide +kernel
theorem dL_build_79 : decode cL_build 79 = .ok (.dup, 1) := by decide +kernel
theorem dL_build_80 : decode cL_build 80 = .ok (.iconst 0, 1) := by decide +kernel
theorem dL_build_81 : decode cL_build 81 = .ok (.iload 5, 2) := by decide +kernel
theorem dL_build_83 : decode cL_build 83 = .ok (.bipush 9, 2) := by decide +kernel
theorem dL_build_85 : decode cL_build 85 = .ok (.invokestatic 15, 3) := by decide +kernel
theorem dL_build_88 : decode cL_build 88 = .ok (.iastore, 1) := by decide +kernel
theorem dL_build_89 : decode cL_build 89 = .ok (.dup, 1) := by decide +kernel
theorem dL_build_90 : decode cL_build 90 = .ok (.iconst 1, 1) := by decide +kernel
theorem dL_build_91 : decode cL_build 91 = .ok (.iload 5, 2) := by decide +kernel
theorem dL_build_93 : decode cL_build 93 = .ok (.iconst 3, 1) := by decide +kernel
theorem dL_build_94 : decode cL_build 94 = .ok (.ishr, 1) := by decide +kernel
theorem dL_build_95 : decode cL_build 95 = .ok (.bipush 9, 2) := by decide +kernel
theorem dL_build_97 : decode cL_build 97 = .ok (.invokestatic 15, 3) := by decide +kernel
theorem dL_build_100 : decode cL_build 100 = .ok (.iastore, 1) := by decide +kernel
theorem dL_build_101 : decode cL_build 101 = .ok (.dup, 1) := by decide +kernel
theorem dL_build_102 : decode cL_build 102 = .ok (.iconst 2, 1) := by decide +kernel
theorem dL_build_103 : decode cL_build 103 = .ok (.iconst 1, 1) := by decide +kernel
theorem dL_build_104 : decode cL_build 104 = .ok (.iload 5, 2) := by decide +kernel
theorem dL_build_106 : decode cL_build 106 = .ok (.iconst 5, 1) := by decide +kernel
theorem dL_build_107 : decode cL_build 107 = .ok (.ishr, 1) := by decide +kernel
theorem dL_build_108 : decode cL_build 108 = .ok (.bipush 100, 2) := by decide +kernel
theorem dL_build_110 : decode cL_build 110 = .ok (.invokestatic 15, 3) := by decide +kernel
theorem dL_build_113 : decode cL_build 113 = .ok (.iadd, 1) := by decide +kernel
theorem dL_build_114 : decode cL_build 114 = .ok (.iastore, 1) := by decide +kernel
theorem dL_build_115 : decode cL_build 115 = .ok (.dup, 1) := by decide +kernel
theorem dL_build_116 : decode cL_build 116 = .ok (.iconst 3, 1) := by decide +kernel
theorem dL_build_117 : decode cL_build 117 = .ok (.iconst 1, 1) := by decide +kernel
theorem dL_build_118 : decode cL_build 118 = .ok (.iload 5, 2) := by decide +kernel
theorem dL_build_120 : decode cL_build 120 = .ok (.bipush 7, 2) := by decide +kernel
theorem dL_build_122 : decode cL_build 122 = .ok (.ishr, 1) := by decide +kernel
theorem dL_build_123 : decode cL_build 123 = .ok (.iconst 4, 1) := by decide +kernel
theorem dL_build_124 : decode cL_build 124 = .ok (.invokestatic 15, 3) := by decide +kernel
theorem dL_build_127 : decode cL_build 127 = .ok (.iadd, 1) := by decide +kernel
theorem dL_build_128 : decode cL_build 128 = .ok (.iastore, 1) := by decide +kernel
theorem dL_build_129 : decode cL_build 129 = .ok (.aastore, 1) := by decide +kernel
theorem dL_build_130 : decode cL_build 130 = .ok (.aload_n 0, 1) := by decide +kernel
theorem dL_build_131 : decode cL_build 131 = .ok (.aload_n 2, 1) := by decide +kernel
theorem dL_build_132 : decode cL_build 132 = .ok (.getfield 65, 3) := by decide +kernel
theorem dL_build_135 : decode cL_build 135 = .ok (.iload 4, 2) := by decide +kernel
theorem dL_build_137 : decode cL_build 137 = .ok (.aaload, 1) := by decide +kernel
theorem dL_build_138 : decode cL_build 138 = .ok (.iconst 0, 1) := by decide +kernel
theorem dL_build_139 : decode cL_build 139 = .ok (.iaload, 1) := by decide +kernel
theorem dL_build_140 : decode cL_build 140 = .ok (.aload_n 2, 1) := by decide +kernel
theorem dL_build_141 : decode cL_build 141 = .ok (.getfield 65, 3) := by decide +kernel
theorem dL_build_144 : decode cL_build 144 = .ok (.iload 4, 2) := by decide +kernel
theorem dL_build_146 : decode cL_build 146 = .ok (.aaload, 1) := by decide +kernel
theorem dL_build_147 : decode cL_build 147 = .ok (.iconst 1, 1) := by decide +kernel
theorem dL_build_148 : decode cL_build 148 = .ok (.iaload, 1) := by decide +kernel
theorem dL_build_149 : decode cL_build 149 = .ok (.aload_n 2, 1) := by decide +kernel
theorem dL_build_150 : decode cL_build 150 = .ok (.getfield 65, 3) := by decide +kernel
theorem dL_build_153 : decode cL_build 153 = .ok (.iload 4, 2) := by decide +kernel
theorem dL_build_155 : decode cL_build 155 = .ok (.aaload, 1) := by decide +kernel
theorem dL_build_156 : decode cL_build 156 = .ok (.iconst 2, 1) := by decide +kernel
theorem dL_build_157 : decode cL_build 157 = .ok (.iaload, 1) := by decide +kernel
theorem dL_build_158 : decode cL_build 158 = .ok (.aload_n 2, 1) := by decide +kernel
theorem dL_build_159 : decode cL_build 159 = .ok (.getfield 65, 3) := by decide +kernel
theorem dL_build_162 : decode cL_build 162 = .ok (.iload 4, 2) := by decide +kernel
theorem dL_build_164 : decode cL_build 164 = .ok (.aaload, 1) := by decide +kernel
theorem dL_build_165 : decode cL_build 165 = .ok (.iconst 3, 1) := by decide +kernel
theorem dL_build_166 : decode cL_build 166 = .ok (.iaload, 1) := by decide +kernel
theorem dL_build_167 : decode cL_build 167 = .ok (.invokevirtual 69, 3) := by decide +kernel
theorem dL_build_170 : decode cL_build 170 = .ok (.iload 4, 2) := by decide +kernel
theorem dL_build_172 : decode cL_build 172 = .ok (.if_icmp .eq 5, 3) := by decide +kernel
theorem dL_build_175 : decode cL_build 175 = .ok (.aconst_null, 1) := by decide +kernel
theorem dL_build_176 : decode cL_build 176 = .ok (.areturn, 1) := by decide +kernel
theorem dL_build_177 : decode cL_build 177 = .ok (.iinc 4 1, 3) := by decide +kernel
theorem dL_build_180 : decode cL_build 180 = .ok (.goto (-137), 3) := by decide +kernel
theorem dL_build_183 : decode cL_build 183 = .ok (.aload_n 1, 1) := by decide +kernel
theorem dL_build_184 : decode cL_build 184 = .ok (.bipush 8, 2) := by decide +kernel
theorem dL_build_186 : decode cL_build 186 = .ok (.invokestatic 9, 3) := by decide +kernel
theorem dL_build_189 : decode cL_build 189 = .ok (.iconst 4, 1) := by decide +kernel
theorem dL_build_190 : decode cL_build 190 = .ok (.ishr, 1) := by decide +kernel
theorem dL_build_191 : decode cL_build 191 = .ok (.iconst 4, 1) := by decide +kernel
theorem dL_build_192 : decode cL_build 192 = .ok (.invokestatic 15, 3) := by decide +kernel
theorem dL_build_195 : decode cL_build 195 = .ok (.istore 4, 2) := by decide +kernel
theorem dL_build_197 : decode cL_build 197 = .ok (.iconst 0, 1) := by decide +kernel
theorem dL_build_198 : decode cL_build 198 = .ok (.istore 5, 2) := by decide +kernel
theorem dL_build_200 : decode cL_build 200 = .ok (.iload 5, 2) := by decide +kernel
theorem dL_build_202 : decode cL_build 202 = .ok (.iload 4, 2) := by decide +kernel
theorem dL_build_204 : decode cL_build 204 = .ok (.if_icmp .ge 121, 3) := by decide +kernel
theorem dL_build_207 : decode cL_build 207 = .ok (.aload_n 1, 1) := by decide +kernel
theorem dL_build_208 : decode cL_build 208 = .ok (.bipush 12, 2) := by decide +kernel
theorem dL_build_210 : decode cL_build 210 = .ok (.invokestatic 9, 3) := by decide +kernel
theorem dL_build_213 : decode cL_build 213 = .ok (.iconst 5, 1) := by decide +kernel
theorem dL_build_214 : decode cL_build 214 = .ok (.iload 5, 2) := by decide +kernel
theorem dL_build_216 : decode cL_build 216 = .ok (.imul, 1) := by decide +kernel
theorem dL_build_217 : decode cL_build 217 = .ok (.ishr, 1) := by decide +kernel
theorem dL_build_218 : decode cL_build 218 = .ok (.istore 6, 2) := by decide +kernel
theorem dL_build_220 : decode cL_build 220 = .ok (.iload 6, 2) := by decide +kernel
theorem dL_build_222 : decode cL_build 222 = .ok (.sipush 1400, 3) := by decide +kernel
theorem dL_build_225 : decode cL_build 225 = .ok (.invokestatic 15, 3) := by decide +kernel
theorem dL_build_228 : decode cL_build 228 = .ok (.istore 7, 2) := by decide +kernel
theorem dL_build_230 : decode cL_build 230 = .ok (.iload 7, 2) := by decide +kernel
theorem dL_build_232 : decode cL_build 232 = .ok (.iconst 1, 1) := by decide +kernel
theorem dL_build_233 : decode cL_build 233 = .ok (.iadd, 1) := by decide +kernel
theorem dL_build_234 : decode cL_build 234 = .ok (.iload 6, 2) := by decide +kernel
theorem dL_build_236 : decode cL_build 236 = .ok (.iconst 3, 1) := by decide +kernel
theorem dL_build_237 : decode cL_build 237 = .ok (.ishr, 1) := by decide +kernel
theorem dL_build_238 : decode cL_build 238 = .ok (.sipush 1440, 3) := by decide +kernel
theorem dL_build_241 : decode cL_build 241 = .ok (.iload 7, 2) := by decide +kernel
theorem dL_build_243 : decode cL_build 243 = .ok (.isub, 1) := by decide +kernel
theorem dL_build_244 : decode cL_build 244 = .ok (.invokestatic 15, 3) := by decide +kernel
theorem dL_build_247 : decode cL_build 247 = .ok (.iadd, 1) := by decide +kernel
theorem dL_build_248 : decode cL_build 248 = .ok (.istore 8, 2) := by decide +kernel
theorem dL_build_250 : decode cL_build 250 = .ok (.iconst 1, 1) := by decide +kernel
theorem dL_build_251 : decode cL_build 251 = .ok (.iload 6, 2) := by decide +kernel
theorem dL_build_253 : decode cL_build 253 = .ok (.bipush 7, 2) := by decide +kernel
theorem dL_build_255 : decode cL_build 255 = .ok (.ishr, 1) := by decide +kernel
theorem dL_build_256 : decode cL_build 256 = .ok (.bipush 20, 2) := by decide +kernel
theorem dL_build_258 : decode cL_build 258 = .ok (.invokestatic 15, 3) := by decide +kernel
theorem dL_build_261 : decode cL_build 261 = .ok (.iadd, 1) := by decide +kernel
theorem dL_build_262 : decode cL_build 262 = .ok (.istore 9, 2) := by decide +kernel
theorem dL_build_264 : decode cL_build 264 = .ok (.aload_n 0, 1) := by decide +kernel
theorem dL_build_265 : decode cL_build 265 = .ok (.iload 7, 2) := by decide +kernel
theorem dL_build_267 : decode cL_build 267 = .ok (.iload 8, 2) := by decide +kernel
theorem dL_build_269 : decode cL_build 269 = .ok (.iload 9, 2) := by decide +kernel
theorem dL_build_271 : decode cL_build 271 = .ok (.invokevirtual 73, 3) := by decide +kernel
theorem dL_build_274 : decode cL_build 274 = .ok (.iload 5, 2) := by decide +kernel
theorem dL_build_276 : decode cL_build 276 = .ok (.iconst 1, 1) := by decide +kernel
theorem dL_build_277 : decode cL_build 277 = .ok (.iadd, 1) := by decide +kernel
theorem dL_build_278 : decode cL_build 278 = .ok (.if_icmp .eq 5, 3) := by decide +kernel
theorem dL_build_281 : decode cL_build 281 = .ok (.aconst_null, 1) := by decide +kernel
theorem dL_build_282 : decode cL_build 282 = .ok (.areturn, 1) := by decide +kernel
theorem dL_build_283 : decode cL_build 283 = .ok (.iload 7, 2) := by decide +kernel
theorem dL_build_285 : decode cL_build 285 = .ok (.istore 10, 2) := by decide +kernel
theorem dL_build_287 : decode cL_build 287 = .ok (.iload 10, 2) := by decide +kernel
theorem dL_build_289 : decode cL_build 289 = .ok (.iload 8, 2) := by decide +kernel
theorem dL_build_291 : decode cL_build 291 = .ok (.if_icmp .ge 28, 3) := by decide +kernel
theorem dL_build_294 : decode cL_build 294 = .ok (.aload_n 2, 1) := by decide +kernel
theorem dL_build_295 : decode cL_build 295 = .ok (.getfield 77, 3) := by decide +kernel
theorem dL_build_298 : decode cL_build 298 = .ok (.iload 10, 2) := by decide +kernel
theorem dL_build_300 : decode cL_build 300 = .ok (.aload_n 2, 1) := by decide +kernel
theorem dL_build_301 : decode cL_build 301 = .ok (.getfield 77, 3) := by decide +kernel
theorem dL_build_304 : decode cL_build 304 = .ok (.iload 10, 2) := by decide +kernel
theorem dL_build_306 : decode cL_build 306 = .ok (.iaload, 1) := by decide +kernel
theorem dL_build_307 : decode cL_build 307 = .ok (.iload 9, 2) := by decide +kernel
theorem dL_build_309 : decode cL_build 309 = .ok (.invokestatic 24, 3) := by decide +kernel
theorem dL_build_312 : decode cL_build 312 = .ok (.iastore, 1) := by decide +kernel
theorem dL_build_313 : decode cL_build 313 = .ok (.iinc 10 1, 3) := by decide +kernel
theorem dL_build_316 : decode cL_build 316 = .ok (.goto (-29), 3) := by decide +kernel
theorem dL_build_319 : decode cL_build 319 = .ok (.iinc 5 1, 3) := by decide +kernel
theorem dL_build_322 : decode cL_build 322 = .ok (.goto (-122), 3) := by decide +kernel
theorem dL_build_325 : decode cL_build 325 = .ok (.aload_n 1, 1) := by decide +kernel
theorem dL_build_326 : decode cL_build 326 = .ok (.bipush 8, 2) := by decide +kernel
theorem dL_build_328 : decode cL_build 328 = .ok (.invokestatic 9, 3) := by decide +kernel
theorem dL_build_331 : decode cL_build 331 = .ok (.bipush 7, 2) := by decide +kernel
theorem dL_build_333 : decode cL_build 333 = .ok (.ishr, 1) := by decide +kernel
theorem dL_build_334 : decode cL_build 334 = .ok (.iconst 3, 1) := by decide +kernel
theorem dL_build_335 : decode cL_build 335 = .ok (.invokestatic 15, 3) := by decide +kernel
theorem dL_build_338 : decode cL_build 338 = .ok (.ifCond .ne 88, 3) := by decide +kernel
theorem dL_build_341 : decode cL_build 341 = .ok (.aload_n 2, 1) := by decide +kernel
theorem dL_build_342 : decode cL_build 342 = .ok (.getfield 80, 3) := by decide +kernel
theorem dL_build_345 : decode cL_build 345 = .ok (.bipush 8, 2) := by decide +kernel
theorem dL_build_347 : decode cL_build 347 = .ok (.bipush 100, 2) := by decide +kernel
theorem dL_build_349 : decode cL_build 349 = .ok (.aload_n 1, 1) := by decide +kernel
theorem dL_build_350 : decode cL_build 350 = .ok (.bipush 13, 2) := by decide +kernel
theorem dL_build_352 : decode cL_build 352 = .ok (.invokestatic 9, 3) := by decide +kernel
theorem dL_build_355 : decode cL_build 355 = .ok (.sipush 3000, 3) := by decide +kernel
theorem dL_build_358 : decode cL_build 358 = .ok (.invokestatic 15, 3) := by decide +kernel
theorem dL_build_361 : decode cL_build 361 = .ok (.iadd, 1) := by decide +kernel
theorem dL_build_362 : decode cL_build 362 = .ok (.iastore, 1) := by decide +kernel
theorem dL_build_363 : decode cL_build 363 = .ok (.aload_n 2, 1) := by decide +kernel
theorem dL_build_364 : decode cL_build 364 = .ok (.bipush 40, 2) := by decide +kernel
theorem dL_build_366 : decode cL_build 366 = .ok (.aload_n 1, 1) := by decide +kernel
theorem dL_build_367 : decode cL_build 367 = .ok (.bipush 13, 2) := by decide +kernel
theorem dL_build_369 : decode cL_build 369 = .ok (.invokestatic 9, 3) := by decide +kernel
theorem dL_build_372 : decode cL_build 372 = .ok (.iconst 5, 1) := by decide +kernel
theorem dL_build_373 : decode cL_build 373 = .ok (.ishr, 1) := by decide +kernel
theorem dL_build_374 : decode cL_build 374 = .ok (.sipush 400, 3) := by decide +kernel
theorem dL_build_377 : decode cL_build 377 = .ok (.invokestatic 15, 3) := by decide +kernel
theorem dL_build_380 : decode cL_build 380 = .ok (.iadd, 1) := by decide +kernel
theorem dL_build_381 : decode cL_build 381 = .ok (.putfield 83, 3) := by decide +kernel
theorem dL_build_384 : decode cL_build 384 = .ok (.aload_n 2, 1) := by decide +kernel
theorem dL_build_385 : decode cL_build 385 = .ok (.getfield 80, 3) := by decide +kernel
theorem dL_build_388 : decode cL_build 388 = .ok (.iconst 3, 1) := by decide +kernel
theorem dL_build_389 : decode cL_build 389 = .ok (.sipush 3000, 3) := by decide +kernel
theorem dL_build_392 : decode cL_build 392 = .ok (.aload_n 2, 1) := by decide +kernel
theorem dL_build_393 : decode cL_build 393 = .ok (.getfield 80, 3) := by decide +kernel
theorem dL_build_396 : decode cL_build 396 = .ok (.bipush 8, 2) := by decide +kernel
theorem dL_build_398 : decode cL_build 398 = .ok (.iaload, 1) := by decide +kernel
theorem dL_build_399 : decode cL_build 399 = .ok (.invokestatic 19, 3) := by decide +kernel
theorem dL_build_402 : decode cL_build 402 = .ok (.iastore, 1) := by decide +kernel
theorem dL_build_403 : decode cL_build 403 = .ok (.aload_n 0, 1) := by decide +kernel
theorem dL_build_404 : decode cL_build 404 = .ok (.aload_n 2, 1) := by decide +kernel
theorem dL_build_405 : decode cL_build 405 = .ok (.getfield 80, 3) := by decide +kernel
theorem dL_build_408 : decode cL_build 408 = .ok (.bipush 8, 2) := by decide +kernel
theorem dL_build_410 : decode cL_build 410 = .ok (.iaload, 1) := by decide +kernel
theorem dL_build_411 : decode cL_build 411 = .ok (.aload_n 2, 1) := by decide +kernel
theorem dL_build_412 : decode cL_build 412 = .ok (.getfield 83, 3) := by decide +kernel
theorem dL_build_415 : decode cL_build 415 = .ok (.invokevirtual 87, 3) := by decide +kernel
theorem dL_build_418 : decode cL_build 418 = .ok (.sipush 4000, 3) := by decide +kernel
theorem dL_build_421 : decode cL_build 421 = .ok (.if_icmp .eq 5, 3) := by decide +kernel
theorem dL_build_424 : decode cL_build 424 = .ok (.aconst_null, 1) := by decide +kernel
theorem dL_build_425 : decode cL_build 425 = .ok (.areturn, 1) := by decide +kernel
theorem dL_build_426 : decode cL_build 426 = .ok (.aload_n 2, 1) := by decide +kernel
theorem dL_build_427 : decode cL_build 427 = .ok (.areturn, 1) := by decide +kernel
theorem dL_law_0 : decode cL_law 0 = .ok (.new 28, 3) := by decide +kernel
theorem dL_law_3 : decode cL_law 3 = .ok (.dup, 1) := by decide +kernel
theorem dL_law_4 : decode cL_law 4 = .ok (.invokespecial 90, 3) := by decide +kernel
theorem dL_law_7 : decode cL_law 7 = .ok (.astore_n 1, 1) := by decide +kernel
theorem dL_law_8 : decode cL_law 8 = .ok (.aload_n 1, 1) := by decide +kernel
theorem dL_law_9 : decode cL_law 9 = .ok (.aload_n 0, 1) := by decide +kernel
theorem dL_law_10 : decode cL_law 10 = .ok (.invokestatic 91, 3) := by decide +kernel
theorem dL_law_13 : decode cL_law 13 = .ok (.astore_n 2, 1) := by decide +kernel
theorem dL_law_14 : decode cL_law 14 = .ok (.aload_n 2, 1) := by decide +kernel
theorem dL_law_15 : decode cL_law 15 = .ok (.ifnonnull 5, 3) := by decide +kernel
theorem dL_law_18 : decode cL_law 18 = .ok (.iconst 0, 1) := by decide +kernel
theorem dL_law_19 : decode cL_law 19 = .ok (.ireturn, 1) := by decide +kernel
theorem dL_law_20 : decode cL_law 20 = .ok (.iconst 1, 1) := by decide +kernel
theorem dL_law_21 : decode cL_law 21 = .ok (.aload_n 0, 1) := by decide +kernel
theorem dL_law_22 : decode cL_law 22 = .ok (.bipush 14, 2) := by decide +kernel
theorem dL_law_24 : decode cL_law 24 = .ok (.invokestatic 9, 3) := by decide +kernel
theorem dL_law_27 : decode cL_law 27 = .ok (.sipush 600, 3) := by decide +kernel
theorem dL_law_30 : decode cL_law 30 = .ok (.invokestatic 15, 3) := by decide +kernel
theorem dL_law_33 : decode cL_law 33 = .ok (.iadd, 1) := by decide +kernel
theorem dL_law_34 : decode cL_law 34 = .ok (.istore_n 3, 1) := by decide +kernel
theorem dL_law_35 : decode cL_law 35 = .ok (.aload_n 1, 1) := by decide +kernel
theorem dL_law_36 : decode cL_law 36 = .ok (.iload_n 3, 1) := by decide +kernel
theorem dL_law_37 : decode cL_law 37 = .ok (.invokevirtual 95, 3) := by decide +kernel
theorem dL_law_40 : decode cL_law 40 = .ok (.istore 4, 2) := by decide +kernel
theorem dL_law_42 : decode cL_law 42 = .ok (.iload 4, 2) := by decide +kernel
theorem dL_law_44 : decode cL_law 44 = .ok (.iconst 2, 1) := by decide +kernel
theorem dL_law_45 : decode cL_law 45 = .ok (.irem, 1) := by decide +kernel
theorem dL_law_46 : decode cL_law 46 = .ok (.ifCond .ne 40, 3) := by decide +kernel
theorem dL_law_49 : decode cL_law 49 = .ok (.iload 4, 2) := by decide +kernel
theorem dL_law_51 : decode cL_law 51 = .ok (.aload_n 1, 1) := by decide +kernel
theorem dL_law_52 : decode cL_law 52 = .ok (.iconst 2, 1) := by decide +kernel
theorem dL_law_53 : decode cL_law 53 = .ok (.invokevirtual 98, 3) := by decide +kernel
theorem dL_law_56 : decode cL_law 56 = .ok (.if_icmp .ne 30, 3) := by decide +kernel
theorem dL_law_59 : decode cL_law 59 = .ok (.aload_n 1, 1) := by decide +kernel
theorem dL_law_60 : decode cL_law 60 = .ok (.invokevirtual 101, 3) := by decide +kernel
theorem dL_law_63 : decode cL_law 63 = .ok (.iconst (-1), 1) := by decide +kernel
theorem dL_law_64 : decode cL_law 64 = .ok (.if_icmp .ne 22, 3) := by decide +kernel
theorem dL_law_67 : decode cL_law 67 = .ok (.aload_n 1, 1) := by decide +kernel
theorem dL_law_68 : decode cL_law 68 = .ok (.iload 4, 2) := by decide +kernel
theorem dL_law_70 : decode cL_law 70 = .ok (.iconst 0, 1) := by decide +kernel
theorem dL_law_71 : decode cL_law 71 = .ok (.invokevirtual 105, 3) := by decide +kernel
theorem dL_law_74 : decode cL_law 74 = .ok (.iload_n 3, 1) := by decide +kernel
theorem dL_law_75 : decode cL_law 75 = .ok (.if_icmp .gt 11, 3) := by decide +kernel
theorem dL_law_78 : decode cL_law 78 = .ok (.aload_n 1, 1) := by decide +kernel
theorem dL_law_79 : decode cL_law 79 = .ok (.iconst 0, 1) := by decide +kernel
theorem dL_law_80 : decode cL_law 80 = .ok (.invokevirtual 108, 3) := by decide +kernel
theorem dL_law_83 : decode cL_law 83 = .ok (.ifCond .eq 5, 3) := by decide +kernel
theorem dL_law_86 : decode cL_law 86 = .ok (.iconst 0, 1) := by decide +kernel
theorem dL_law_87 : decode cL_law 87 = .ok (.ireturn, 1) := by decide +kernel
theorem dL_law_88 : decode cL_law 88 = .ok (.iload 4, 2) := by decide +kernel
theorem dL_law_90 : decode cL_law 90 = .ok (.iconst 3, 1) := by decide +kernel
theorem dL_law_91 : decode cL_law 91 = .ok (.multianewarray 111 2, 4) := by decide +kernel
theorem dL_law_95 : decode cL_law 95 = .ok (.astore 5, 2) := by decide +kernel
theorem dL_law_97 : decode cL_law 97 = .ok (.iconst 0, 1) := by decide +kernel
theorem dL_law_98 : decode cL_law 98 = .ok (.istore 6, 2) := by decide +kernel
theorem dL_law_100 : decode cL_law 100 = .ok (.iload 6, 2) := by decide +kernel
theorem dL_law_102 : decode cL_law 102 = .ok (.iload 4, 2) := by decide +kernel
theorem dL_law_104 : decode cL_law 104 = .ok (.if_icmp .ge 40, 3) := by decide +kernel
theorem dL_law_107 : decode cL_law 107 = .ok (.iconst 0, 1) := by decide +kernel
theorem dL_law_108 : decode cL_law 108 = .ok (.istore 7, 2) := by decide +kernel
theorem dL_law_110 : decode cL_law 110 = .ok (.iload 7, 2) := by decide +kernel
theorem dL_law_112 : decode cL_law 112 = .ok (.iconst 3, 1) := by decide +kernel
theorem dL_law_113 : decode cL_law 113 = .ok (.if_icmp .ge 25, 3) := by decide +kernel
theorem dL_law_116 : decode cL_law 116 = .ok (.aload 5, 2) := by decide +kernel
theorem dL_law_118 : decode cL_law 118 = .ok (.iload 6, 2) := by decide +kernel
theorem dL_law_120 : decode cL_law 120 = .ok (.aaload, 1) := by decide +kernel
theorem dL_law_121 : decode cL_law 121 = .ok (.iload 7, 2) := by decide +kernel
theorem dL_law_123 : decode cL_law 123 = .ok (.aload_n 1, 1) := by decide +kernel
theorem dL_law_124 : decode cL_law 124 = .ok (.iload 6, 2) := by decide +kernel
theorem dL_law_126 : decode cL_law 126 = .ok (.iload 7, 2) := by decide +kernel
theorem dL_law_128 : decode cL_law 128 = .ok (.invokevirtual 112, 3) := by decide +kernel
theorem dL_law_131 : decode cL_law 131 = .ok (.iastore, 1) := by decide +kernel
theorem dL_law_132 : decode cL_law 132 = .ok (.iinc 7 1, 3) := by decide +kernel
theorem dL_law_135 : decode cL_law 135 = .ok (.goto (-25), 3) := by decide +kernel
theorem dL_law_138 : decode cL_law 138 = .ok (.iinc 6 1, 3) := by decide +kernel
theorem dL_law_141 : decode cL_law 141 = .ok (.goto (-41), 3) := by decide +kernel
theorem dL_law_144 : decode cL_law 144 = .ok (.iconst 0, 1) := by decide +kernel
theorem dL_law_145 : decode cL_law 145 = .ok (.istore 6, 2) := by decide +kernel
theorem dL_law_147 : decode cL_law 147 = .ok (.iload 6, 2) := by decide +kernel
theorem dL_law_149 : decode cL_law 149 = .ok (.iload 4, 2) := by decide +kernel
theorem dL_law_151 : decode cL_law 151 = .ok (.if_icmp .ge 321, 3) := by decide +kernel
theorem dL_law_154 : decode cL_law 154 = .ok (.aload 5, 2) := by decide +kernel
theorem dL_law_156 : decode cL_law 156 = .ok (.iload 6, 2) := by decide +kernel
theorem dL_law_158 : decode cL_law 158 = .ok (.iconst 1, 1) := by decide +kernel
theorem dL_law_159 : decode cL_law 159 = .ok (.iadd, 1) := by decide +kernel
theorem dL_law_160 : decode cL_law 160 = .ok (.aaload, 1) := by decide +kernel
theorem dL_law_161 : decode cL_law 161 = .ok (.iconst 1, 1) := by decide +kernel
theorem dL_law_162 : decode cL_law 162 = .ok (.iaload, 1) := by decide +kernel
theorem dL_law_163 : decode cL_law 163 = .ok (.istore 7, 2) := by decide +kernel
theorem dL_law_165 : decode cL_law 165 = .ok (.aload_n 2, 1) := by decide +kernel
theorem dL_law_166 : decode cL_law 166 = .ok (.getfield 65, 3) := by decide +kernel
theorem dL_law_169 : decode cL_law 169 = .ok (.iload 7, 2) := by decide +kernel
theorem dL_law_171 : decode cL_law 171 = .ok (.aaload, 1) := by decide +kernel
theorem dL_law_172 : decode cL_law 172 = .ok (.iconst 3, 1) := by decide +kernel
theorem dL_law_173 : decode cL_law 173 = .ok (.iaload, 1) := by decide +kernel
theorem dL_law_174 : decode cL_law 174 = .ok (.istore 8, 2) := by decide +kernel
theorem dL_law_176 : decode cL_law 176 = .ok (.aload 5, 2) := by decide +kernel
theorem dL_law_178 : decode cL_law 178 = .ok (.iload 6, 2) := by decide +kernel
theorem dL_law_180 : decode cL_law 180 = .ok (.aaload, 1) := by decide +kernel
theorem dL_law_181 : decode cL_law 181 = .ok (.iconst 0, 1) := by decide +kernel
theorem dL_law_182 : decode cL_law 182 = .ok (.iaload, 1) := by decide +kernel
theorem dL_law_183 : decode cL_law 183 = .ok (.ifCond .ne 39, 3) := by decide +kernel
theorem dL_law_186 : decode cL_law 186 = .ok (.aload 5, 2) := by decide +kernel
theorem dL_law_188 : decode cL_law 188 = .ok (.iload 6, 2) := by decide +kernel
theorem dL_law_190 : decode cL_law 190 = .ok (.iconst 1, 1) := by decide +kernel
theorem dL_law_191 : decode cL_law 191 = .ok (.iadd, 1) := by decide +kernel
theorem dL_law_192 : decode cL_law 192 = .ok (.aaload, 1) := by decide +kernel
theorem dL_law_193 : decode cL_law 193 = .ok (.iconst 0, 1) := by decide +kernel
theorem dL_law_194 : decode cL_law 194 = .ok (.iaload, 1) := by decide +kernel
theorem dL_law_195 : decode cL_law 195 = .ok (.iload 8, 2) := by decide +kernel
theorem dL_law_197 : decode cL_law 197 = .ok (.iconst 4, 1) := by decide +kernel
theorem dL_law_198 : decode cL_law 198 = .ok (.if_icmp .ne 7, 3) := by decide +kernel
theorem dL_law_201 : decode cL_law 201 = .ok (.iconst 2, 1) := by decide +kernel
theorem dL_law_202 : decode cL_law 202 = .ok (.goto 4, 3) := by decide +kernel
theorem dL_law_205 : decode cL_law 205 = .ok (.iconst 1, 1) := by decide +kernel
theorem dL_law_206 : decode cL_law 206 = .ok (.if_icmp .ne 16, 3) := by decide +kernel
theorem dL_law_209 : decode cL_law 209 = .ok (.aload 5, 2) := by decide +kernel
theorem dL_law_211 : decode cL_law 211 = .ok (.iload 6, 2) := by decide +kernel
theorem dL_law_213 : decode cL_law 213 = .ok (.iconst 1, 1) := by decide +kernel
theorem dL_law_214 : decode cL_law 214 = .ok (.iadd, 1) := by decide +kernel
theorem dL_law_215 : decode cL_law 215 = .ok (.aaload, 1) := by decide +kernel
theorem dL_law_216 : decode cL_law 216 = .ok (.iconst 2, 1) := by decide +kernel
theorem dL_law_217 : decode cL_law 217 = .ok (.iaload, 1) := by decide +kernel
theorem dL_law_218 : decode cL_law 218 = .ok (.iconst 5, 1) := by decide +kernel
theorem dL_law_219 : decode cL_law 219 = .ok (.if_icmp .eq 5, 3) := by decide +kernel
theorem dL_law_222 : decode cL_law 222 = .ok (.iconst 0, 1) := by decide +kernel
theorem dL_law_223 : decode cL_law 223 = .ok (.ireturn, 1) := by decide +kernel
theorem dL_law_224 : decode cL_law 224 = .ok (.aload_n 1, 1) := by decide +kernel
theorem dL_law_225 : decode cL_law 225 = .ok (.aload_n 2, 1) := by decide +kernel
theorem dL_law_226 : decode cL_law 226 = .ok (.iload 7, 2) := by decide +kernel
theorem dL_law_228 : decode cL_law 228 = .ok (.invokestatic 115, 3) := by decide +kernel
theorem dL_law_231 : decode cL_law 231 = .ok (.istore 9, 2) := by decide +kernel
theorem dL_law_233 : decode cL_law 233 = .ok (.iload 9, 2) := by decide +kernel
theorem dL_law_235 : decode cL_law 235 = .ok (.ifCond .lt 30, 3) := by decide +kernel
theorem dL_law_238 : decode cL_law 238 = .ok (.aload_n 1, 1) := by decide +kernel
theorem dL_law_239 : decode cL_law 239 = .ok (.iload 7, 2) := by decide +kernel
theorem dL_law_241 : decode cL_law 241 = .ok (.invokevirtual 119, 3) := by decide +kernel
theorem dL_law_244 : decode cL_law 244 = .ok (.bipush 100, 2) := by decide +kernel
theorem dL_law_246 : decode cL_law 246 = .ok (.aload 5, 2) := by decide +kernel
theorem dL_law_248 : decode cL_law 248 = .ok (.iload 6, 2) := by decide +kernel
theorem dL_law_250 : decode cL_law 250 = .ok (.aaload, 1) := by decide +kernel
theorem dL_law_251 : decode cL_law 251 = .ok (.iconst 1, 1) := by decide +kernel
theorem dL_law_252 : decode cL_law 252 = .ok (.iaload, 1) := by decide +kernel
theorem dL_law_253 : decode cL_law 253 = .ok (.imul, 1) := by decide +kernel
theorem dL_law_254 : decode cL_law 254 = .ok (.aload 5, 2) := by decide +kernel
theorem dL_law_256 : decode cL_law 256 = .ok (.iload 6, 2) := by decide +kernel
theorem dL_law_258 : decode cL_law 258 = .ok (.aaload, 1) := by decide +kernel
theorem dL_law_259 : decode cL_law 259 = .ok (.iconst 2, 1) := by decide +kernel
theorem dL_law_260 : decode cL_law 260 = .ok (.iaload, 1) := by decide +kernel
theorem dL_law_261 : decode cL_law 261 = .ok (.iadd, 1) := by decide +kernel
theorem dL_law_262 : decode cL_law 262 = .ok (.if_icmp .eq 5, 3) := by decide +kernel
theorem dL_law_265 : decode cL_law 265 = .ok (.iconst 0, 1) := by decide +kernel
theorem dL_law_266 : decode cL_law 266 = .ok (.ireturn, 1) := by decide +kernel
theorem dL_law_267 : decode cL_law 267 = .ok (.iconst 0, 1) := by decide +kernel
theorem dL_law_268 : decode cL_law 268 = .ok (.istore 10, 2) := by decide +kernel
theorem dL_law_270 : decode cL_law 270 = .ok (.iload 10, 2) := by decide +kernel
theorem dL_law_272 : decode cL_law 272 = .ok (.bipush 12, 2) := by decide +kernel
theorem dL_law_274 : decode cL_law 274 = .ok (.if_icmp .ge 85, 3) := by decide +kernel
theorem dL_law_277 : decode cL_law 277 = .ok (.aload_n 2, 1) := by decide +kernel
theorem dL_law_278 : decode cL_law 278 = .ok (.getfield 65, 3) := by decide +kernel
theorem dL_law_281 : decode cL_law 281 = .ok (.iload 10, 2) := by decide +kernel
theorem dL_law_283 : decode cL_law 283 = .ok (.aaload, 1) := by decide +kernel
theorem dL_law_284 : decode cL_law 284 = .ok (.ifnull 75, 3) := by decide +kernel
theorem dL_law_287 : decode cL_law 287 = .ok (.aload_n 1, 1) := by decide +kernel
theorem dL_law_288 : decode cL_law 288 = .ok (.aload_n 2, 1) := by decide +kernel
theorem dL_law_289 : decode cL_law 289 = .ok (.iload 10, 2) := by decide +kernel
theorem dL_law_291 : decode cL_law 291 = .ok (.invokestatic 115, 3) := by decide +kernel
theorem dL_law_294 : decode cL_law 294 = .ok (.istore 11, 2) := by decide +kernel
theorem dL_law_296 : decode cL_law 296 = .ok (.iload 11, 2) := by decide +kernel
theorem dL_law_298 : decode cL_law 298 = .ok (.iload 9, 2) := by decide +kernel
theorem dL_law_300 : decode cL_law 300 = .ok (.if_icmp .lt 53, 3) := by decide +kernel
theorem dL_law_303 : decode cL_law 303 = .ok (.iload 11, 2) := by decide +kernel
theorem dL_law_305 : decode cL_law 305 = .ok (.iload 9, 2) := by decide +kernel
theorem dL_law_307 : decode cL_law 307 = .ok (.if_icmp .ne 13, 3) := by decide +kernel
theorem dL_law_310 : decode cL_law 310 = .ok (.iload 10, 2) := by decide +kernel
theorem dL_law_312 : decode cL_law 312 = .ok (.iload 7, 2) := by decide +kernel
theorem dL_law_314 : decode cL_law 314 = .ok (.if_icmp .lt 6, 3) := by decide +kernel
theorem dL_law_317 : decode cL_law 317 = .ok (.goto 36, 3) := by decide +kernel
theorem dL_law_320 : decode cL_law 320 = .ok (.iload 6, 2) := by decide +kernel
theorem dL_law_322 : decode cL_law 322 = .ok (.istore 12, 2) := by decide +kernel
theorem dL_law_324 : decode cL_law 324 = .ok (.iload 12, 2) := by decide +kernel
theorem dL_law_326 : decode cL_law 326 = .ok (.iload 4, 2) := by decide +kernel
theorem dL_law_328 : decode cL_law 328 = .ok (.if_icmp .ge 25, 3) := by decide +kernel
theorem dL_law_331 : decode cL_law 331 = .ok (.aload 5, 2) := by decide +kernel
theorem dL_law_333 : decode cL_law 333 = .ok (.iload 12, 2) := by decide +kernel
theorem dL_law_335 : decode cL_law 335 = .ok (.iconst 1, 1) := by decide +kernel
theorem dL_law_336 : decode cL_law 336 = .ok (.iadd, 1) := by decide +kernel
theorem dL_law_337 : decode cL_law 337 = .ok (.aaload, 1) := by decide +kernel
theorem dL_law_338 : decode cL_law 338 = .ok (.iconst 1, 1) := by decide +kernel
theorem dL_law_339 : decode cL_law 339 = .ok (.iaload, 1) := by decide +kernel
theorem dL_law_340 : decode cL_law 340 = .ok (.iload 10, 2) := by decide +kernel
theorem dL_law_342 : decode cL_law 342 = .ok (.if_icmp .ne 5, 3) := by decide +kernel
theorem dL_law_345 : decode cL_law 345 = .ok (.iconst 0, 1) := by decide +kernel
theorem dL_law_346 : decode cL_law 346 = .ok (.ireturn, 1) := by decide +kernel
theorem dL_law_347 : decode cL_law 347 = .ok (.iinc 12 2, 3) := by decide +kernel
theorem dL_law_350 : decode cL_law 350 = .ok (.goto (-26), 3) := by decide +kernel
theorem dL_law_353 : decode cL_law 353 = .ok (.iinc 10 1, 3) := by decide +kernel
theorem dL_law_356 : decode cL_law 356 = .ok (.goto (-86), 3) := by decide +kernel
theorem dL_law_359 : decode cL_law 359 = .ok (.aload_n 2, 1) := by decide +kernel
theorem dL_law_360 : decode cL_law 360 = .ok (.iload 7, 2) := by decide +kernel
theorem dL_law_362 : decode cL_law 362 = .ok (.invokevirtual 122, 3) := by decide +kernel
theorem dL_law_365 : decode cL_law 365 = .ok (.invokestatic 125, 3) := by decide +kernel
theorem dL_law_368 : decode cL_law 368 = .ok (.istore 10, 2) := by decide +kernel
theorem dL_law_370 : decode cL_law 370 = .ok (.aload_n 2, 1) := by decide +kernel
theorem dL_law_371 : decode cL_law 371 = .ok (.iconst 0, 1) := by decide +kernel
theorem dL_law_372 : decode cL_law 372 = .ok (.aload 5, 2) := by decide +kernel
theorem dL_law_374 : decode cL_law 374 = .ok (.iload 6, 2) := by decide +kernel
theorem dL_law_376 : decode cL_law 376 = .ok (.aaload, 1) := by decide +kernel
theorem dL_law_377 : decode cL_law 377 = .ok (.iconst 1, 1) := by decide +kernel
theorem dL_law_378 : decode cL_law 378 = .ok (.iaload, 1) := by decide +kernel
theorem dL_law_379 : decode cL_law 379 = .ok (.aload 5, 2) := by decide +kernel
theorem dL_law_381 : decode cL_law 381 = .ok (.iload 6, 2) := by decide +kernel
theorem dL_law_383 : decode cL_law 383 = .ok (.aaload, 1) := by decide +kernel
theorem dL_law_384 : decode cL_law 384 = .ok (.iconst 2, 1) := by decide +kernel
theorem dL_law_385 : decode cL_law 385 = .ok (.iaload, 1) := by decide +kernel
theorem dL_law_386 : decode cL_law 386 = .ok (.invokevirtual 130, 3) := by decide +kernel
theorem dL_law_389 : decode cL_law 389 = .ok (.ifCond .ne 34, 3) := by decide +kernel
theorem dL_law_392 : decode cL_law 392 = .ok (.aload_n 2, 1) := by decide +kernel
theorem dL_law_393 : decode cL_law 393 = .ok (.iload 8, 2) := by decide +kernel
theorem dL_law_395 : decode cL_law 395 = .ok (.iconst 4, 1) := by decide +kernel
theorem dL_law_396 : decode cL_law 396 = .ok (.if_icmp .ne 7, 3) := by decide +kernel
theorem dL_law_399 : decode cL_law 399 = .ok (.iconst 2, 1) := by decide +kernel
theorem dL_law_400 : decode cL_law 400 = .ok (.goto 4, 3) := by decide +kernel
theorem dL_law_403 : decode cL_law 403 = .ok (.iconst 1, 1) := by decide +kernel
theorem dL_law_404 : decode cL_law 404 = .ok (.iload 7, 2) := by decide +kernel
theorem dL_law_406 : decode cL_law 406 = .ok (.iconst 5, 1) := by decide +kernel
theorem dL_law_407 : decode cL_law 407 = .ok (.invokevirtual 130, 3) := by decide +kernel
theorem dL_law_410 : decode cL_law 410 = .ok (.ifCond .ne 13, 3) := by decide +kernel
theorem dL_law_413 : decode cL_law 413 = .ok (.aload_n 2, 1) := by decide +kernel
theorem dL_law_414 : decode cL_law 414 = .ok (.getfield 80, 3) := by decide +kernel
theorem dL_law_417 : decode cL_law 417 = .ok (.iconst 0, 1) := by decide +kernel
theorem dL_law_418 : decode cL_law 418 = .ok (.iaload, 1) := by decide +kernel
theorem dL_law_419 : decode cL_law 419 = .ok (.iload_n 3, 1) := by decide +kernel
theorem dL_law_420 : decode cL_law 420 = .ok (.if_icmp .le 5, 3) := by decide +kernel
theorem dL_law_423 : decode cL_law 423 = .ok (.iconst 0, 1) := by decide +kernel
theorem dL_law_424 : decode cL_law 424 = .ok (.ireturn, 1) := by decide +kernel
theorem dL_law_425 : decode cL_law 425 = .ok (.iload 8, 2) := by decide +kernel
theorem dL_law_427 : decode cL_law 427 = .ok (.iconst 4, 1) := by decide +kernel
theorem dL_law_428 : decode cL_law 428 = .ok (.if_icmp .ge 19, 3) := by decide +kernel
theorem dL_law_431 : decode cL_law 431 = .ok (.aload_n 2, 1) := by decide +kernel
theorem dL_law_432 : decode cL_law 432 = .ok (.iload 7, 2) := by decide +kernel
theorem dL_law_434 : decode cL_law 434 = .ok (.invokevirtual 122, 3) := by decide +kernel
theorem dL_law_437 : decode cL_law 437 = .ok (.invokestatic 125, 3) := by decide +kernel
theorem dL_law_440 : decode cL_law 440 = .ok (.iload 10, 2) := by decide +kernel
theorem dL_law_442 : decode cL_law 442 = .ok (.iconst 1, 1) := by decide +kernel
theorem dL_law_443 : decode cL_law 443 = .ok (.iadd, 1) := by decide +kernel
theorem dL_law_444 : decode cL_law 444 = .ok (.if_icmp .ne 20, 3) := by decide +kernel
theorem dL_law_447 : decode cL_law 447 = .ok (.aload_n 1, 1) := by decide +kernel
theorem dL_law_448 : decode cL_law 448 = .ok (.iconst 2, 1) := by decide +kernel
theorem dL_law_449 : decode cL_law 449 = .ok (.invokevirtual 133, 3) := by decide +kernel
theorem dL_law_452 : decode cL_law 452 = .ok (.iconst 2, 1) := by decide +kernel
theorem dL_law_453 : decode cL_law 453 = .ok (.if_icmp .ne 11, 3) := by decide +kernel
theorem dL_law_456 : decode cL_law 456 = .ok (.aload_n 2, 1) := by decide +kernel
theorem dL_law_457 : decode cL_law 457 = .ok (.aload_n 1, 1) := by decide +kernel
theorem dL_law_458 : decode cL_law 458 = .ok (.invokevirtual 136, 3) := by decide +kernel
theorem dL_law_461 : decode cL_law 461 = .ok (.ifCond .ne 5, 3) := by decide +kernel
theorem dL_law_464 : decode cL_law 464 = .ok (.iconst 0, 1) := by decide +kernel
theorem dL_law_465 : decode cL_law 465 = .ok (.ireturn, 1) := by decide +kernel
theorem dL_law_466 : decode cL_law 466 = .ok (.iinc 6 2, 3) := by decide +kernel
theorem dL_law_469 : decode cL_law 469 = .ok (.goto (-322), 3) := by decide +kernel
theorem dL_law_472 : decode cL_law 472 = .ok (.aload_n 1, 1) := by decide +kernel
theorem dL_law_473 : decode cL_law 473 = .ok (.iconst 2, 1) := by decide +kernel
theorem dL_law_474 : decode cL_law 474 = .ok (.invokevirtual 98, 3) := by decide +kernel
theorem dL_law_477 : decode cL_law 477 = .ok (.ifCond .ne 7, 3) := by decide +kernel
theorem dL_law_480 : decode cL_law 480 = .ok (.iconst 1, 1) := by decide +kernel
theorem dL_law_481 : decode cL_law 481 = .ok (.goto 4, 3) := by decide +kernel
theorem dL_law_484 : decode cL_law 484 = .ok (.iconst 0, 1) := by decide +kernel
theorem dL_law_485 : decode cL_law 485 = .ok (.ireturn, 1) := by decide +kernel
theorem dL_worth_0 : decode cL_worth 0 = .ok (.aload_n 0, 1) := by decide +kernel
theorem dL_worth_1 : decode cL_worth 1 = .ok (.iload_n 2, 1) := by decide +kernel
theorem dL_worth_2 : decode cL_worth 2 = .ok (.invokevirtual 119, 3) := by decide +kernel
theorem dL_worth_5 : decode cL_worth 5 = .ok (.istore_n 3, 1) := by decide +kernel
theorem dL_worth_6 : decode cL_worth 6 = .ok (.iload_n 3, 1) := by decide +kernel
theorem dL_worth_7 : decode cL_worth 7 = .ok (.ifCond .ge 5, 3) := by decide +kernel
theorem dL_worth_10 : decode cL_worth 10 = .ok (.iconst (-1), 1) := by decide +kernel
theorem dL_worth_11 : decode cL_worth 11 = .ok (.ireturn, 1) := by decide +kernel
theorem dL_worth_12 : decode cL_worth 12 = .ok (.sipush 1000, 3) := by decide +kernel
theorem dL_worth_15 : decode cL_worth 15 = .ok (.aload_n 1, 1) := by decide +kernel
theorem dL_worth_16 : decode cL_worth 16 = .ok (.getfield 65, 3) := by decide +kernel
theorem dL_worth_19 : decode cL_worth 19 = .ok (.iload_n 2, 1) := by decide +kernel
theorem dL_worth_20 : decode cL_worth 20 = .ok (.aaload, 1) := by decide +kernel
theorem dL_worth_21 : decode cL_worth 21 = .ok (.iconst 2, 1) := by decide +kernel
theorem dL_worth_22 : decode cL_worth 22 = .ok (.iaload, 1) := by decide +kernel
theorem dL_worth_23 : decode cL_worth 23 = .ok (.imul, 1) := by decide +kernel
theorem dL_worth_24 : decode cL_worth 24 = .ok (.iconst 1, 1) := by decide +kernel
theorem dL_worth_25 : decode cL_worth 25 = .ok (.aload_n 0, 1) := by decide +kernel
theorem dL_worth_26 : decode cL_worth 26 = .ok (.aload_n 1, 1) := by decide +kernel
theorem dL_worth_27 : decode cL_worth 27 = .ok (.getfield 80, 3) := by decide +kernel
theorem dL_worth_30 : decode cL_worth 30 = .ok (.iconst 1, 1) := by decide +kernel
theorem dL_worth_31 : decode cL_worth 31 = .ok (.iaload, 1) := by decide +kernel
theorem dL_worth_32 : decode cL_worth 32 = .ok (.aload_n 1, 1) := by decide +kernel
theorem dL_worth_33 : decode cL_worth 33 = .ok (.getfield 80, 3) := by decide +kernel
theorem dL_worth_36 : decode cL_worth 36 = .ok (.iconst 2, 1) := by decide +kernel
theorem dL_worth_37 : decode cL_worth 37 = .ok (.iaload, 1) := by decide +kernel
theorem dL_worth_38 : decode cL_worth 38 = .ok (.iload_n 3, 1) := by decide +kernel
theorem dL_worth_39 : decode cL_worth 39 = .ok (.bipush 100, 2) := by decide +kernel
theorem dL_worth_41 : decode cL_worth 41 = .ok (.idiv, 1) := by decide +kernel
theorem dL_worth_42 : decode cL_worth 42 = .ok (.iload_n 3, 1) := by decide +kernel
theorem dL_worth_43 : decode cL_worth 43 = .ok (.bipush 100, 2) := by decide +kernel
theorem dL_worth_45 : decode cL_worth 45 = .ok (.irem, 1) := by decide +kernel
theorem dL_worth_46 : decode cL_worth 46 = .ok (.iconst 0, 1) := by decide +kernel
theorem dL_worth_47 : decode cL_worth 47 = .ok (.invokevirtual 140, 3) := by decide +kernel
theorem dL_worth_50 : decode cL_worth 50 = .ok (.iadd, 1) := by decide +kernel
theorem dL_worth_51 : decode cL_worth 51 = .ok (.idiv, 1) := by decide +kernel
theorem dL_worth_52 : decode cL_worth 52 = .ok (.ireturn, 1) := by decide +kernel
