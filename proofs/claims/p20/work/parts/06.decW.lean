theorem dL_law_0 : decode cL_law 0 = .ok (.new 8, 3) := by decide +kernel
theorem dL_law_3 : decode cL_law 3 = .ok (.dup, 1) := by decide +kernel
theorem dL_law_4 : decode cL_law 4 = .ok (.invokespecial 55, 3) := by decide +kernel
theorem dL_law_7 : decode cL_law 7 = .ok (.astore_n 1, 1) := by decide +kernel
theorem dL_law_8 : decode cL_law 8 = .ok (.bipush 6, 2) := by decide +kernel
theorem dL_law_10 : decode cL_law 10 = .ok (.newarray .int, 2) := by decide +kernel
theorem dL_law_12 : decode cL_law 12 = .ok (.astore_n 2, 1) := by decide +kernel
theorem dL_law_13 : decode cL_law 13 = .ok (.bipush 36, 2) := by decide +kernel
theorem dL_law_15 : decode cL_law 15 = .ok (.newarray .int, 2) := by decide +kernel
theorem dL_law_17 : decode cL_law 17 = .ok (.astore_n 3, 1) := by decide +kernel
theorem dL_law_18 : decode cL_law 18 = .ok (.iconst 0, 1) := by decide +kernel
theorem dL_law_19 : decode cL_law 19 = .ok (.istore 4, 2) := by decide +kernel
theorem dL_law_21 : decode cL_law 21 = .ok (.iload 4, 2) := by decide +kernel
theorem dL_law_23 : decode cL_law 23 = .ok (.bipush 6, 2) := by decide +kernel
theorem dL_law_25 : decode cL_law 25 = .ok (.if_icmp .ge 14, 3) := by decide +kernel
theorem dL_law_28 : decode cL_law 28 = .ok (.aload_n 2, 1) := by decide +kernel
theorem dL_law_29 : decode cL_law 29 = .ok (.iload 4, 2) := by decide +kernel
theorem dL_law_31 : decode cL_law 31 = .ok (.iconst (-1), 1) := by decide +kernel
theorem dL_law_32 : decode cL_law 32 = .ok (.iastore, 1) := by decide +kernel
theorem dL_law_33 : decode cL_law 33 = .ok (.iinc 4 1, 3) := by decide +kernel
theorem dL_law_36 : decode cL_law 36 = .ok (.goto (-15), 3) := by decide +kernel
theorem dL_law_39 : decode cL_law 39 = .ok (.aload_n 1, 1) := by decide +kernel
theorem dL_law_40 : decode cL_law 40 = .ok (.invokestatic 56, 3) := by decide +kernel
theorem dL_law_43 : decode cL_law 43 = .ok (.istore 4, 2) := by decide +kernel
theorem dL_law_45 : decode cL_law 45 = .ok (.iconst 0, 1) := by decide +kernel
theorem dL_law_46 : decode cL_law 46 = .ok (.istore 5, 2) := by decide +kernel
theorem dL_law_48 : decode cL_law 48 = .ok (.aload_n 0, 1) := by decide +kernel
theorem dL_law_49 : decode cL_law 49 = .ok (.arraylength, 1) := by decide +kernel
theorem dL_law_50 : decode cL_law 50 = .ok (.bipush 40, 2) := by decide +kernel
theorem dL_law_52 : decode cL_law 52 = .ok (.if_icmp .ge 9, 3) := by decide +kernel
theorem dL_law_55 : decode cL_law 55 = .ok (.sipush 180, 3) := by decide +kernel
theorem dL_law_58 : decode cL_law 58 = .ok (.goto 20, 3) := by decide +kernel
theorem dL_law_61 : decode cL_law 61 = .ok (.aload_n 0, 1) := by decide +kernel
theorem dL_law_62 : decode cL_law 62 = .ok (.arraylength, 1) := by decide +kernel
theorem dL_law_63 : decode cL_law 63 = .ok (.bipush 80, 2) := by decide +kernel
theorem dL_law_65 : decode cL_law 65 = .ok (.if_icmp .ge 10, 3) := by decide +kernel
theorem dL_law_68 : decode cL_law 68 = .ok (.iconst 4, 1) := by decide +kernel
theorem dL_law_69 : decode cL_law 69 = .ok (.aload_n 0, 1) := by decide +kernel
theorem dL_law_70 : decode cL_law 70 = .ok (.arraylength, 1) := by decide +kernel
theorem dL_law_71 : decode cL_law 71 = .ok (.imul, 1) := by decide +kernel
theorem dL_law_72 : decode cL_law 72 = .ok (.goto 6, 3) := by decide +kernel
theorem dL_law_75 : decode cL_law 75 = .ok (.sipush 340, 3) := by decide +kernel
theorem dL_law_78 : decode cL_law 78 = .ok (.istore 6, 2) := by decide +kernel
theorem dL_law_80 : decode cL_law 80 = .ok (.iconst 0, 1) := by decide +kernel
theorem dL_law_81 : decode cL_law 81 = .ok (.istore 7, 2) := by decide +kernel
theorem dL_law_83 : decode cL_law 83 = .ok (.iload 7, 2) := by decide +kernel
theorem dL_law_85 : decode cL_law 85 = .ok (.iload 6, 2) := by decide +kernel
theorem dL_law_87 : decode cL_law 87 = .ok (.if_icmp .ge 1054, 3) := by decide +kernel
theorem dL_law_90 : decode cL_law 90 = .ok (.iload 4, 2) := by decide +kernel
theorem dL_law_92 : decode cL_law 92 = .ok (.ifCond .eq 1049, 3) := by decide +kernel
theorem dL_law_95 : decode cL_law 95 = .ok (.iload 7, 2) := by decide +kernel
theorem dL_law_97 : decode cL_law 97 = .ok (.aload_n 0, 1) := by decide +kernel
theorem dL_law_98 : decode cL_law 98 = .ok (.arraylength, 1) := by decide +kernel
theorem dL_law_99 : decode cL_law 99 = .ok (.if_icmp .ge 10, 3) := by decide +kernel
theorem dL_law_102 : decode cL_law 102 = .ok (.aload_n 0, 1) := by decide +kernel
theorem dL_law_103 : decode cL_law 103 = .ok (.iload 7, 2) := by decide +kernel
theorem dL_law_105 : decode cL_law 105 = .ok (.iaload, 1) := by decide +kernel
theorem dL_law_106 : decode cL_law 106 = .ok (.goto 20, 3) := by decide +kernel
theorem dL_law_109 : decode cL_law 109 = .ok (.ldc 62, 2) := by decide +kernel
theorem dL_law_111 : decode cL_law 111 = .ok (.iload 7, 2) := by decide +kernel
theorem dL_law_113 : decode cL_law 113 = .ok (.imul, 1) := by decide +kernel
theorem dL_law_114 : decode cL_law 114 = .ok (.iload 7, 2) := by decide +kernel
theorem dL_law_116 : decode cL_law 116 = .ok (.imul, 1) := by decide +kernel
theorem dL_law_117 : decode cL_law 117 = .ok (.ldc 63, 2) := by decide +kernel
theorem dL_law_119 : decode cL_law 119 = .ok (.iload 7, 2) := by decide +kernel
theorem dL_law_121 : decode cL_law 121 = .ok (.imul, 1) := by decide +kernel
theorem dL_law_122 : decode cL_law 122 = .ok (.iadd, 1) := by decide +kernel
theorem dL_law_123 : decode cL_law 123 = .ok (.bipush 90, 2) := by decide +kernel
theorem dL_law_125 : decode cL_law 125 = .ok (.iadd, 1) := by decide +kernel
theorem dL_law_126 : decode cL_law 126 = .ok (.istore 8, 2) := by decide +kernel
theorem dL_law_128 : decode cL_law 128 = .ok (.iload 8, 2) := by decide +kernel
theorem dL_law_130 : decode cL_law 130 = .ok (.iconst 4, 1) := by decide +kernel
theorem dL_law_131 : decode cL_law 131 = .ok (.ishr, 1) := by decide +kernel
theorem dL_law_132 : decode cL_law 132 = .ok (.ldc 64, 2) := by decide +kernel
theorem dL_law_134 : decode cL_law 134 = .ok (.iand, 1) := by decide +kernel
theorem dL_law_135 : decode cL_law 135 = .ok (.istore 9, 2) := by decide +kernel
theorem dL_law_137 : decode cL_law 137 = .ok (.iload 7, 2) := by decide +kernel
theorem dL_law_139 : decode cL_law 139 = .ok (.iconst 2, 1) := by decide +kernel
theorem dL_law_140 : decode cL_law 140 = .ok (.if_icmp .ge 7, 3) := by decide +kernel
theorem dL_law_143 : decode cL_law 143 = .ok (.iconst 0, 1) := by decide +kernel
theorem dL_law_144 : decode cL_law 144 = .ok (.goto 8, 3) := by decide +kernel
theorem dL_law_147 : decode cL_law 147 = .ok (.iload 8, 2) := by decide +kernel
theorem dL_law_149 : decode cL_law 149 = .ok (.bipush 15, 2) := by decide +kernel
theorem dL_law_151 : decode cL_law 151 = .ok (.iand, 1) := by decide +kernel
theorem dL_law_152 : decode cL_law 152 = .ok (.istore 10, 2) := by decide +kernel
theorem dL_law_154 : decode cL_law 154 = .ok (.iload 9, 2) := by decide +kernel
theorem dL_law_156 : decode cL_law 156 = .ok (.bipush 6, 2) := by decide +kernel
theorem dL_law_158 : decode cL_law 158 = .ok (.irem, 1) := by decide +kernel
theorem dL_law_159 : decode cL_law 159 = .ok (.istore 11, 2) := by decide +kernel
theorem dL_law_161 : decode cL_law 161 = .ok (.iconst 0, 1) := by decide +kernel
theorem dL_law_162 : decode cL_law 162 = .ok (.istore 12, 2) := by decide +kernel
theorem dL_law_164 : decode cL_law 164 = .ok (.iload 12, 2) := by decide +kernel
theorem dL_law_166 : decode cL_law 166 = .ok (.bipush 6, 2) := by decide +kernel
theorem dL_law_168 : decode cL_law 168 = .ok (.if_icmp .ge 30, 3) := by decide +kernel
theorem dL_law_171 : decode cL_law 171 = .ok (.aload_n 2, 1) := by decide +kernel
theorem dL_law_172 : decode cL_law 172 = .ok (.iload 11, 2) := by decide +kernel
theorem dL_law_174 : decode cL_law 174 = .ok (.iaload, 1) := by decide +kernel
theorem dL_law_175 : decode cL_law 175 = .ok (.ifCond .lt 8, 3) := by decide +kernel
theorem dL_law_178 : decode cL_law 178 = .ok (.iload 11, 2) := by decide +kernel
theorem dL_law_180 : decode cL_law 180 = .ok (.goto 10, 3) := by decide +kernel
theorem dL_law_183 : decode cL_law 183 = .ok (.iload 11, 2) := by decide +kernel
theorem dL_law_185 : decode cL_law 185 = .ok (.iconst 1, 1) := by decide +kernel
theorem dL_law_186 : decode cL_law 186 = .ok (.iadd, 1) := by decide +kernel
theorem dL_law_187 : decode cL_law 187 = .ok (.bipush 6, 2) := by decide +kernel
theorem dL_law_189 : decode cL_law 189 = .ok (.irem, 1) := by decide +kernel
theorem dL_law_190 : decode cL_law 190 = .ok (.istore 11, 2) := by decide +kernel
theorem dL_law_192 : decode cL_law 192 = .ok (.iinc 12 1, 3) := by decide +kernel
theorem dL_law_195 : decode cL_law 195 = .ok (.goto (-31), 3) := by decide +kernel
theorem dL_law_198 : decode cL_law 198 = .ok (.iload 9, 2) := by decide +kernel
theorem dL_law_200 : decode cL_law 200 = .ok (.bipush 6, 2) := by decide +kernel
theorem dL_law_202 : decode cL_law 202 = .ok (.ishr, 1) := by decide +kernel
theorem dL_law_203 : decode cL_law 203 = .ok (.bipush 6, 2) := by decide +kernel
theorem dL_law_205 : decode cL_law 205 = .ok (.irem, 1) := by decide +kernel
theorem dL_law_206 : decode cL_law 206 = .ok (.istore 12, 2) := by decide +kernel
theorem dL_law_208 : decode cL_law 208 = .ok (.iload 10, 2) := by decide +kernel
theorem dL_law_210 : decode cL_law 210 = .ok (.iconst 2, 1) := by decide +kernel
theorem dL_law_211 : decode cL_law 211 = .ok (.if_icmp .ge 160, 3) := by decide +kernel
theorem dL_law_214 : decode cL_law 214 = .ok (.iconst (-1), 1) := by decide +kernel
theorem dL_law_215 : decode cL_law 215 = .ok (.istore 13, 2) := by decide +kernel
theorem dL_law_217 : decode cL_law 217 = .ok (.iconst 0, 1) := by decide +kernel
theorem dL_law_218 : decode cL_law 218 = .ok (.istore 14, 2) := by decide +kernel
theorem dL_law_220 : decode cL_law 220 = .ok (.iload 14, 2) := by decide +kernel
theorem dL_law_222 : decode cL_law 222 = .ok (.bipush 6, 2) := by decide +kernel
theorem dL_law_224 : decode cL_law 224 = .ok (.if_icmp .ge 25, 3) := by decide +kernel
theorem dL_law_227 : decode cL_law 227 = .ok (.aload_n 2, 1) := by decide +kernel
theorem dL_law_228 : decode cL_law 228 = .ok (.iload 14, 2) := by decide +kernel
theorem dL_law_230 : decode cL_law 230 = .ok (.iaload, 1) := by decide +kernel
theorem dL_law_231 : decode cL_law 231 = .ok (.ifCond .ge 8, 3) := by decide +kernel
theorem dL_law_234 : decode cL_law 234 = .ok (.iload 14, 2) := by decide +kernel
theorem dL_law_236 : decode cL_law 236 = .ok (.goto 5, 3) := by decide +kernel
theorem dL_law_239 : decode cL_law 239 = .ok (.iload 13, 2) := by decide +kernel
theorem dL_law_241 : decode cL_law 241 = .ok (.istore 13, 2) := by decide +kernel
theorem dL_law_243 : decode cL_law 243 = .ok (.iinc 14 1, 3) := by decide +kernel
theorem dL_law_246 : decode cL_law 246 = .ok (.goto (-26), 3) := by decide +kernel
theorem dL_law_249 : decode cL_law 249 = .ok (.iload 13, 2) := by decide +kernel
theorem dL_law_251 : decode cL_law 251 = .ok (.ifCond .lt 117, 3) := by decide +kernel
theorem dL_law_254 : decode cL_law 254 = .ok (.aload_n 1, 1) := by decide +kernel
theorem dL_law_255 : decode cL_law 255 = .ok (.invokevirtual 27, 3) := by decide +kernel
theorem dL_law_258 : decode cL_law 258 = .ok (.istore 14, 2) := by decide +kernel
theorem dL_law_260 : decode cL_law 260 = .ok (.aload_n 1, 1) := by decide +kernel
theorem dL_law_261 : decode cL_law 261 = .ok (.invokestatic 65, 3) := by decide +kernel
theorem dL_law_264 : decode cL_law 264 = .ok (.istore 15, 2) := by decide +kernel
theorem dL_law_266 : decode cL_law 266 = .ok (.iload 15, 2) := by decide +kernel
theorem dL_law_268 : decode cL_law 268 = .ok (.iload 5, 2) := by decide +kernel
theorem dL_law_270 : decode cL_law 270 = .ok (.bipush 60, 2) := by decide +kernel
theorem dL_law_272 : decode cL_law 272 = .ok (.if_icmp .ge 15, 3) := by decide +kernel
theorem dL_law_275 : decode cL_law 275 = .ok (.iload 14, 2) := by decide +kernel
theorem dL_law_277 : decode cL_law 277 = .ok (.bipush 28, 2) := by decide +kernel
theorem dL_law_279 : decode cL_law 279 = .ok (.if_icmp .ge 8, 3) := by decide +kernel
theorem dL_law_282 : decode cL_law 282 = .ok (.iload 5, 2) := by decide +kernel
theorem dL_law_284 : decode cL_law 284 = .ok (.goto 5, 3) := by decide +kernel
theorem dL_law_287 : decode cL_law 287 = .ok (.bipush (-3), 2) := by decide +kernel
theorem dL_law_289 : decode cL_law 289 = .ok (.if_icmp .ne 7, 3) := by decide +kernel
theorem dL_law_292 : decode cL_law 292 = .ok (.iconst 1, 1) := by decide +kernel
theorem dL_law_293 : decode cL_law 293 = .ok (.goto 4, 3) := by decide +kernel
theorem dL_law_296 : decode cL_law 296 = .ok (.iconst 0, 1) := by decide +kernel
theorem dL_law_297 : decode cL_law 297 = .ok (.istore 4, 2) := by decide +kernel
theorem dL_law_299 : decode cL_law 299 = .ok (.iload 5, 2) := by decide +kernel
theorem dL_law_301 : decode cL_law 301 = .ok (.iload 15, 2) := by decide +kernel
theorem dL_law_303 : decode cL_law 303 = .ok (.ifCond .lt 7, 3) := by decide +kernel
theorem dL_law_306 : decode cL_law 306 = .ok (.iconst 1, 1) := by decide +kernel
theorem dL_law_307 : decode cL_law 307 = .ok (.goto 4, 3) := by decide +kernel
theorem dL_law_310 : decode cL_law 310 = .ok (.iconst 0, 1) := by decide +kernel
theorem dL_law_311 : decode cL_law 311 = .ok (.iadd, 1) := by decide +kernel
theorem dL_law_312 : decode cL_law 312 = .ok (.istore 5, 2) := by decide +kernel
theorem dL_law_314 : decode cL_law 314 = .ok (.aload_n 2, 1) := by decide +kernel
theorem dL_law_315 : decode cL_law 315 = .ok (.iload 13, 2) := by decide +kernel
theorem dL_law_317 : decode cL_law 317 = .ok (.iload 15, 2) := by decide +kernel
theorem dL_law_319 : decode cL_law 319 = .ok (.ifCond .lt 8, 3) := by decide +kernel
theorem dL_law_322 : decode cL_law 322 = .ok (.iload 15, 2) := by decide +kernel
theorem dL_law_324 : decode cL_law 324 = .ok (.goto 4, 3) := by decide +kernel
theorem dL_law_327 : decode cL_law 327 = .ok (.iconst (-1), 1) := by decide +kernel
theorem dL_law_328 : decode cL_law 328 = .ok (.iastore, 1) := by decide +kernel
theorem dL_law_329 : decode cL_law 329 = .ok (.iconst 0, 1) := by decide +kernel
theorem dL_law_330 : decode cL_law 330 = .ok (.istore 16, 2) := by decide +kernel
theorem dL_law_332 : decode cL_law 332 = .ok (.iload 16, 2) := by decide +kernel
theorem dL_law_334 : decode cL_law 334 = .ok (.bipush 6, 2) := by decide +kernel
theorem dL_law_336 : decode cL_law 336 = .ok (.if_icmp .ge 32, 3) := by decide +kernel
theorem dL_law_339 : decode cL_law 339 = .ok (.iload 15, 2) := by decide +kernel
theorem dL_law_341 : decode cL_law 341 = .ok (.ifCond .lt 27, 3) := by decide +kernel
theorem dL_law_344 : decode cL_law 344 = .ok (.aload_n 3, 1) := by decide +kernel
theorem dL_law_345 : decode cL_law 345 = .ok (.bipush 6, 2) := by decide +kernel
theorem dL_law_347 : decode cL_law 347 = .ok (.iload 13, 2) := by decide +kernel
theorem dL_law_349 : decode cL_law 349 = .ok (.imul, 1) := by decide +kernel
theorem dL_law_350 : decode cL_law 350 = .ok (.iload 16, 2) := by decide +kernel
theorem dL_law_352 : decode cL_law 352 = .ok (.iadd, 1) := by decide +kernel
theorem dL_law_353 : decode cL_law 353 = .ok (.aload_n 1, 1) := by decide +kernel
theorem dL_law_354 : decode cL_law 354 = .ok (.iload 15, 2) := by decide +kernel
theorem dL_law_356 : decode cL_law 356 = .ok (.iload 16, 2) := by decide +kernel
theorem dL_law_358 : decode cL_law 358 = .ok (.invokevirtual 49, 3) := by decide +kernel
theorem dL_law_361 : decode cL_law 361 = .ok (.iastore, 1) := by decide +kernel
theorem dL_law_362 : decode cL_law 362 = .ok (.iinc 16 1, 3) := by decide +kernel
theorem dL_law_365 : decode cL_law 365 = .ok (.goto (-33), 3) := by decide +kernel
theorem dL_law_368 : decode cL_law 368 = .ok (.goto 615, 3) := by decide +kernel
theorem dL_law_371 : decode cL_law 371 = .ok (.iload 10, 2) := by decide +kernel
theorem dL_law_373 : decode cL_law 373 = .ok (.iconst 4, 1) := by decide +kernel
theorem dL_law_374 : decode cL_law 374 = .ok (.if_icmp .ge 93, 3) := by decide +kernel
theorem dL_law_377 : decode cL_law 377 = .ok (.aload_n 2, 1) := by decide +kernel
theorem dL_law_378 : decode cL_law 378 = .ok (.iload 11, 2) := by decide +kernel
theorem dL_law_380 : decode cL_law 380 = .ok (.iaload, 1) := by decide +kernel
theorem dL_law_381 : decode cL_law 381 = .ok (.ifCond .lt 86, 3) := by decide +kernel
theorem dL_law_384 : decode cL_law 384 = .ok (.iconst (-1), 1) := by decide +kernel
theorem dL_law_385 : decode cL_law 385 = .ok (.istore 13, 2) := by decide +kernel
theorem dL_law_387 : decode cL_law 387 = .ok (.iconst 0, 1) := by decide +kernel
theorem dL_law_388 : decode cL_law 388 = .ok (.istore 14, 2) := by decide +kernel
theorem dL_law_390 : decode cL_law 390 = .ok (.iload 14, 2) := by decide +kernel
theorem dL_law_392 : decode cL_law 392 = .ok (.bipush 6, 2) := by decide +kernel
theorem dL_law_394 : decode cL_law 394 = .ok (.if_icmp .ge 26, 3) := by decide +kernel
theorem dL_law_397 : decode cL_law 397 = .ok (.iload 13, 2) := by decide +kernel
theorem dL_law_399 : decode cL_law 399 = .ok (.aload_n 2, 1) := by decide +kernel
theorem dL_law_400 : decode cL_law 400 = .ok (.iload 14, 2) := by decide +kernel
theorem dL_law_402 : decode cL_law 402 = .ok (.iaload, 1) := by decide +kernel
theorem dL_law_403 : decode cL_law 403 = .ok (.ifCond .lt 7, 3) := by decide +kernel
theorem dL_law_406 : decode cL_law 406 = .ok (.iconst 1, 1) := by decide +kernel
theorem dL_law_407 : decode cL_law 407 = .ok (.goto 4, 3) := by decide +kernel
theorem dL_law_410 : decode cL_law 410 = .ok (.iconst 0, 1) := by decide +kernel
theorem dL_law_411 : decode cL_law 411 = .ok (.iadd, 1) := by decide +kernel
theorem dL_law_412 : decode cL_law 412 = .ok (.istore 13, 2) := by decide +kernel
theorem dL_law_414 : decode cL_law 414 = .ok (.iinc 14 1, 3) := by decide +kernel
theorem dL_law_417 : decode cL_law 417 = .ok (.goto (-27), 3) := by decide +kernel
theorem dL_law_420 : decode cL_law 420 = .ok (.iload 9, 2) := by decide +kernel
theorem dL_law_422 : decode cL_law 422 = .ok (.bipush 12, 2) := by decide +kernel
theorem dL_law_424 : decode cL_law 424 = .ok (.ishr, 1) := by decide +kernel
theorem dL_law_425 : decode cL_law 425 = .ok (.iconst 3, 1) := by decide +kernel
theorem dL_law_426 : decode cL_law 426 = .ok (.iand, 1) := by decide +kernel
theorem dL_law_427 : decode cL_law 427 = .ok (.ifCond .le 7, 3) := by decide +kernel
theorem dL_law_430 : decode cL_law 430 = .ok (.iconst 1, 1) := by decide +kernel
theorem dL_law_431 : decode cL_law 431 = .ok (.goto 4, 3) := by decide +kernel
theorem dL_law_434 : decode cL_law 434 = .ok (.iconst 0, 1) := by decide +kernel
theorem dL_law_435 : decode cL_law 435 = .ok (.istore 14, 2) := by decide +kernel
theorem dL_law_437 : decode cL_law 437 = .ok (.aload_n 1, 1) := by decide +kernel
theorem dL_law_438 : decode cL_law 438 = .ok (.aload_n 2, 1) := by decide +kernel
theorem dL_law_439 : decode cL_law 439 = .ok (.iload 11, 2) := by decide +kernel
theorem dL_law_441 : decode cL_law 441 = .ok (.iaload, 1) := by decide +kernel
theorem dL_law_442 : decode cL_law 442 = .ok (.iload 14, 2) := by decide +kernel
theorem dL_law_444 : decode cL_law 444 = .ok (.invokevirtual 69, 3) := by decide +kernel
theorem dL_law_447 : decode cL_law 447 = .ok (.iload 13, 2) := by decide +kernel
theorem dL_law_449 : decode cL_law 449 = .ok (.if_icmp .ne 7, 3) := by decide +kernel
theorem dL_law_452 : decode cL_law 452 = .ok (.iconst 1, 1) := by decide +kernel
theorem dL_law_453 : decode cL_law 453 = .ok (.goto 4, 3) := by decide +kernel
theorem dL_law_456 : decode cL_law 456 = .ok (.iconst 0, 1) := by decide +kernel
theorem dL_law_457 : decode cL_law 457 = .ok (.istore 4, 2) := by decide +kernel
theorem dL_law_459 : decode cL_law 459 = .ok (.aload_n 2, 1) := by decide +kernel
theorem dL_law_460 : decode cL_law 460 = .ok (.iload 11, 2) := by decide +kernel
theorem dL_law_462 : decode cL_law 462 = .ok (.iconst (-1), 1) := by decide +kernel
theorem dL_law_463 : decode cL_law 463 = .ok (.iastore, 1) := by decide +kernel
theorem dL_law_464 : decode cL_law 464 = .ok (.goto 519, 3) := by decide +kernel
theorem dL_law_467 : decode cL_law 467 = .ok (.iload 10, 2) := by decide +kernel
theorem dL_law_469 : decode cL_law 469 = .ok (.bipush 9, 2) := by decide +kernel
theorem dL_law_471 : decode cL_law 471 = .ok (.if_icmp .ge 157, 3) := by decide +kernel
theorem dL_law_474 : decode cL_law 474 = .ok (.aload_n 2, 1) := by decide +kernel
theorem dL_law_475 : decode cL_law 475 = .ok (.iload 11, 2) := by decide +kernel
theorem dL_law_477 : decode cL_law 477 = .ok (.iaload, 1) := by decide +kernel
theorem dL_law_478 : decode cL_law 478 = .ok (.ifCond .lt 150, 3) := by decide +kernel
theorem dL_law_481 : decode cL_law 481 = .ok (.iload 9, 2) := by decide +kernel
theorem dL_law_483 : decode cL_law 483 = .ok (.bipush 9, 2) := by decide +kernel
theorem dL_law_485 : decode cL_law 485 = .ok (.ishr, 1) := by decide +kernel
theorem dL_law_486 : decode cL_law 486 = .ok (.sipush 10000, 3) := by decide +kernel
theorem dL_law_489 : decode cL_law 489 = .ok (.irem, 1) := by decide +kernel
theorem dL_law_490 : decode cL_law 490 = .ok (.istore 13, 2) := by decide +kernel
theorem dL_law_492 : decode cL_law 492 = .ok (.aload_n 1, 1) := by decide +kernel
theorem dL_law_493 : decode cL_law 493 = .ok (.aload_n 2, 1) := by decide +kernel
theorem dL_law_494 : decode cL_law 494 = .ok (.iload 11, 2) := by decide +kernel
theorem dL_law_496 : decode cL_law 496 = .ok (.iaload, 1) := by decide +kernel
theorem dL_law_497 : decode cL_law 497 = .ok (.iload 12, 2) := by decide +kernel
theorem dL_law_499 : decode cL_law 499 = .ok (.iload 13, 2) := by decide +kernel
theorem dL_law_501 : decode cL_law 501 = .ok (.invokestatic 73, 3) := by decide +kernel
theorem dL_law_504 : decode cL_law 504 = .ok (.istore 14, 2) := by decide +kernel
theorem dL_law_506 : decode cL_law 506 = .ok (.iload 14, 2) := by decide +kernel
theorem dL_law_508 : decode cL_law 508 = .ok (.bipush (-3), 2) := by decide +kernel
theorem dL_law_510 : decode cL_law 510 = .ok (.if_icmp .eq 76, 3) := by decide +kernel
theorem dL_law_513 : decode cL_law 513 = .ok (.iload 14, 2) := by decide +kernel
theorem dL_law_515 : decode cL_law 515 = .ok (.ifCond .lt 75, 3) := by decide +kernel
theorem dL_law_518 : decode cL_law 518 = .ok (.iload 14, 2) := by decide +kernel
theorem dL_law_520 : decode cL_law 520 = .ok (.ldc 77, 2) := by decide +kernel
theorem dL_law_522 : decode cL_law 522 = .ok (.irem, 1) := by decide +kernel
theorem dL_law_523 : decode cL_law 523 = .ok (.sipush 1000, 3) := by decide +kernel
theorem dL_law_526 : decode cL_law 526 = .ok (.idiv, 1) := by decide +kernel
theorem dL_law_527 : decode cL_law 527 = .ok (.iconst 4, 1) := by decide +kernel
theorem dL_law_528 : decode cL_law 528 = .ok (.if_icmp .ge 62, 3) := by decide +kernel
theorem dL_law_531 : decode cL_law 531 = .ok (.iload 14, 2) := by decide +kernel
theorem dL_law_533 : decode cL_law 533 = .ok (.sipush 1000, 3) := by decide +kernel
theorem dL_law_536 : decode cL_law 536 = .ok (.irem, 1) := by decide +kernel
theorem dL_law_537 : decode cL_law 537 = .ok (.bipush 8, 2) := by decide +kernel
theorem dL_law_539 : decode cL_law 539 = .ok (.if_icmp .ge 51, 3) := by decide +kernel
theorem dL_law_542 : decode cL_law 542 = .ok (.aload_n 1, 1) := by decide +kernel
theorem dL_law_543 : decode cL_law 543 = .ok (.iload 14, 2) := by decide +kernel
theorem dL_law_545 : decode cL_law 545 = .ok (.ldc 77, 2) := by decide +kernel
theorem dL_law_547 : decode cL_law 547 = .ok (.irem, 1) := by decide +kernel
theorem dL_law_548 : decode cL_law 548 = .ok (.sipush 1000, 3) := by decide +kernel
theorem dL_law_551 : decode cL_law 551 = .ok (.idiv, 1) := by decide +kernel
theorem dL_law_552 : decode cL_law 552 = .ok (.iload 14, 2) := by decide +kernel
theorem dL_law_554 : decode cL_law 554 = .ok (.sipush 1000, 3) := by decide +kernel
theorem dL_law_557 : decode cL_law 557 = .ok (.irem, 1) := by decide +kernel
theorem dL_law_558 : decode cL_law 558 = .ok (.invokevirtual 30, 3) := by decide +kernel
theorem dL_law_561 : decode cL_law 561 = .ok (.iload 12, 2) := by decide +kernel
theorem dL_law_563 : decode cL_law 563 = .ok (.if_icmp .ne 27, 3) := by decide +kernel
theorem dL_law_566 : decode cL_law 566 = .ok (.iload 14, 2) := by decide +kernel
theorem dL_law_568 : decode cL_law 568 = .ok (.ldc 77, 2) := by decide +kernel
theorem dL_law_570 : decode cL_law 570 = .ok (.if_icmp .lt 16, 3) := by decide +kernel
theorem dL_law_573 : decode cL_law 573 = .ok (.aload_n 3, 1) := by decide +kernel
theorem dL_law_574 : decode cL_law 574 = .ok (.bipush 6, 2) := by decide +kernel
theorem dL_law_576 : decode cL_law 576 = .ok (.iload 11, 2) := by decide +kernel
theorem dL_law_578 : decode cL_law 578 = .ok (.imul, 1) := by decide +kernel
theorem dL_law_579 : decode cL_law 579 = .ok (.iload 12, 2) := by decide +kernel
theorem dL_law_581 : decode cL_law 581 = .ok (.iadd, 1) := by decide +kernel
theorem dL_law_582 : decode cL_law 582 = .ok (.iaload, 1) := by decide +kernel
theorem dL_law_583 : decode cL_law 583 = .ok (.ifCond .lt 7, 3) := by decide +kernel
theorem dL_law_586 : decode cL_law 586 = .ok (.iconst 1, 1) := by decide +kernel
theorem dL_law_587 : decode cL_law 587 = .ok (.goto 4, 3) := by decide +kernel
theorem dL_law_590 : decode cL_law 590 = .ok (.iconst 0, 1) := by decide +kernel
theorem dL_law_591 : decode cL_law 591 = .ok (.istore 4, 2) := by decide +kernel
theorem dL_law_593 : decode cL_law 593 = .ok (.aload_n 3, 1) := by decide +kernel
theorem dL_law_594 : decode cL_law 594 = .ok (.bipush 6, 2) := by decide +kernel
theorem dL_law_596 : decode cL_law 596 = .ok (.iload 11, 2) := by decide +kernel
theorem dL_law_598 : decode cL_law 598 = .ok (.imul, 1) := by decide +kernel
theorem dL_law_599 : decode cL_law 599 = .ok (.iload 12, 2) := by decide +kernel
theorem dL_law_601 : decode cL_law 601 = .ok (.iadd, 1) := by decide +kernel
theorem dL_law_602 : decode cL_law 602 = .ok (.iload 14, 2) := by decide +kernel
theorem dL_law_604 : decode cL_law 604 = .ok (.bipush (-3), 2) := by decide +kernel
theorem dL_law_606 : decode cL_law 606 = .ok (.if_icmp .ne 16, 3) := by decide +kernel
theorem dL_law_609 : decode cL_law 609 = .ok (.aload_n 3, 1) := by decide +kernel
theorem dL_law_610 : decode cL_law 610 = .ok (.bipush 6, 2) := by decide +kernel
theorem dL_law_612 : decode cL_law 612 = .ok (.iload 11, 2) := by decide +kernel
theorem dL_law_614 : decode cL_law 614 = .ok (.imul, 1) := by decide +kernel
theorem dL_law_615 : decode cL_law 615 = .ok (.iload 12, 2) := by decide +kernel
theorem dL_law_617 : decode cL_law 617 = .ok (.iadd, 1) := by decide +kernel
theorem dL_law_618 : decode cL_law 618 = .ok (.iaload, 1) := by decide +kernel
theorem dL_law_619 : decode cL_law 619 = .ok (.goto 5, 3) := by decide +kernel
theorem dL_law_622 : decode cL_law 622 = .ok (.iload 13, 2) := by decide +kernel
theorem dL_law_624 : decode cL_law 624 = .ok (.iastore, 1) := by decide +kernel
theorem dL_law_625 : decode cL_law 625 = .ok (.goto 358, 3) := by decide +kernel
theorem dL_law_628 : decode cL_law 628 = .ok (.iload 10, 2) := by decide +kernel
theorem dL_law_630 : decode cL_law 630 = .ok (.bipush 9, 2) := by decide +kernel
theorem dL_law_632 : decode cL_law 632 = .ok (.if_icmp .ne 105, 3) := by decide +kernel
theorem dL_law_635 : decode cL_law 635 = .ok (.aload_n 2, 1) := by decide +kernel
theorem dL_law_636 : decode cL_law 636 = .ok (.iload 11, 2) := by decide +kernel
theorem dL_law_638 : decode cL_law 638 = .ok (.iaload, 1) := by decide +kernel
theorem dL_law_639 : decode cL_law 639 = .ok (.ifCond .lt 98, 3) := by decide +kernel
theorem dL_law_642 : decode cL_law 642 = .ok (.aload_n 1, 1) := by decide +kernel
theorem dL_law_643 : decode cL_law 643 = .ok (.aload_n 2, 1) := by decide +kernel
theorem dL_law_644 : decode cL_law 644 = .ok (.iload 11, 2) := by decide +kernel
theorem dL_law_646 : decode cL_law 646 = .ok (.iaload, 1) := by decide +kernel
theorem dL_law_647 : decode cL_law 647 = .ok (.iload 12, 2) := by decide +kernel
theorem dL_law_649 : decode cL_law 649 = .ok (.invokestatic 78, 3) := by decide +kernel
theorem dL_law_652 : decode cL_law 652 = .ok (.istore 13, 2) := by decide +kernel
theorem dL_law_654 : decode cL_law 654 = .ok (.iload 13, 2) := by decide +kernel
theorem dL_law_656 : decode cL_law 656 = .ok (.aload_n 3, 1) := by decide +kernel
theorem dL_law_657 : decode cL_law 657 = .ok (.bipush 6, 2) := by decide +kernel
theorem dL_law_659 : decode cL_law 659 = .ok (.iload 11, 2) := by decide +kernel
theorem dL_law_661 : decode cL_law 661 = .ok (.imul, 1) := by decide +kernel
theorem dL_law_662 : decode cL_law 662 = .ok (.iload 12, 2) := by decide +kernel
theorem dL_law_664 : decode cL_law 664 = .ok (.iadd, 1) := by decide +kernel
theorem dL_law_665 : decode cL_law 665 = .ok (.iaload, 1) := by decide +kernel
theorem dL_law_666 : decode cL_law 666 = .ok (.ifCond .ge 7, 3) := by decide +kernel
theorem dL_law_669 : decode cL_law 669 = .ok (.iconst 0, 1) := by decide +kernel
theorem dL_law_670 : decode cL_law 670 = .ok (.goto 4, 3) := by decide +kernel
theorem dL_law_673 : decode cL_law 673 = .ok (.iconst 1, 1) := by decide +kernel
theorem dL_law_674 : decode cL_law 674 = .ok (.if_icmp .eq 23, 3) := by decide +kernel
theorem dL_law_677 : decode cL_law 677 = .ok (.iload 13, 2) := by decide +kernel
theorem dL_law_679 : decode cL_law 679 = .ok (.bipush (-3), 2) := by decide +kernel
theorem dL_law_681 : decode cL_law 681 = .ok (.if_icmp .ne 20, 3) := by decide +kernel
theorem dL_law_684 : decode cL_law 684 = .ok (.aload_n 3, 1) := by decide +kernel
theorem dL_law_685 : decode cL_law 685 = .ok (.bipush 6, 2) := by decide +kernel
theorem dL_law_687 : decode cL_law 687 = .ok (.iload 11, 2) := by decide +kernel
theorem dL_law_689 : decode cL_law 689 = .ok (.imul, 1) := by decide +kernel
theorem dL_law_690 : decode cL_law 690 = .ok (.iload 12, 2) := by decide +kernel
theorem dL_law_692 : decode cL_law 692 = .ok (.iadd, 1) := by decide +kernel
theorem dL_law_693 : decode cL_law 693 = .ok (.iaload, 1) := by decide +kernel
theorem dL_law_694 : decode cL_law 694 = .ok (.ifCond .lt 7, 3) := by decide +kernel
theorem dL_law_697 : decode cL_law 697 = .ok (.iconst 1, 1) := by decide +kernel
theorem dL_law_698 : decode cL_law 698 = .ok (.goto 4, 3) := by decide +kernel
theorem dL_law_701 : decode cL_law 701 = .ok (.iconst 0, 1) := by decide +kernel
theorem dL_law_702 : decode cL_law 702 = .ok (.istore 4, 2) := by decide +kernel
theorem dL_law_704 : decode cL_law 704 = .ok (.aload_n 3, 1) := by decide +kernel
theorem dL_law_705 : decode cL_law 705 = .ok (.bipush 6, 2) := by decide +kernel
theorem dL_law_707 : decode cL_law 707 = .ok (.iload 11, 2) := by decide +kernel
theorem dL_law_709 : decode cL_law 709 = .ok (.imul, 1) := by decide +kernel
theorem dL_law_710 : decode cL_law 710 = .ok (.iload 12, 2) := by decide +kernel
theorem dL_law_712 : decode cL_law 712 = .ok (.iadd, 1) := by decide +kernel
theorem dL_law_713 : decode cL_law 713 = .ok (.iload 13, 2) := by decide +kernel
theorem dL_law_715 : decode cL_law 715 = .ok (.iconst 1, 1) := by decide +kernel
theorem dL_law_716 : decode cL_law 716 = .ok (.if_icmp .ne 7, 3) := by decide +kernel
theorem dL_law_719 : decode cL_law 719 = .ok (.iconst (-1), 1) := by decide +kernel
theorem dL_law_720 : decode cL_law 720 = .ok (.goto 13, 3) := by decide +kernel
theorem dL_law_723 : decode cL_law 723 = .ok (.aload_n 3, 1) := by decide +kernel
theorem dL_law_724 : decode cL_law 724 = .ok (.bipush 6, 2) := by decide +kernel
theorem dL_law_726 : decode cL_law 726 = .ok (.iload 11, 2) := by decide +kernel
theorem dL_law_728 : decode cL_law 728 = .ok (.imul, 1) := by decide +kernel
theorem dL_law_729 : decode cL_law 729 = .ok (.iload 12, 2) := by decide +kernel
theorem dL_law_731 : decode cL_law 731 = .ok (.iadd, 1) := by decide +kernel
theorem dL_law_732 : decode cL_law 732 = .ok (.iaload, 1) := by decide +kernel
theorem dL_law_733 : decode cL_law 733 = .ok (.iastore, 1) := by decide +kernel
theorem dL_law_734 : decode cL_law 734 = .ok (.goto 249, 3) := by decide +kernel
theorem dL_law_737 : decode cL_law 737 = .ok (.iload 10, 2) := by decide +kernel
theorem dL_law_739 : decode cL_law 739 = .ok (.bipush 14, 2) := by decide +kernel
theorem dL_law_741 : decode cL_law 741 = .ok (.if_icmp .ge 91, 3) := by decide +kernel
theorem dL_law_744 : decode cL_law 744 = .ok (.iload 9, 2) := by decide +kernel
theorem dL_law_746 : decode cL_law 746 = .ok (.iconst 3, 1) := by decide +kernel
theorem dL_law_747 : decode cL_law 747 = .ok (.iand, 1) := by decide +kernel
theorem dL_law_748 : decode cL_law 748 = .ok (.ifCond .ne 12, 3) := by decide +kernel
theorem dL_law_751 : decode cL_law 751 = .ok (.iload 9, 2) := by decide +kernel
theorem dL_law_753 : decode cL_law 753 = .ok (.iconst 2, 1) := by decide +kernel
theorem dL_law_754 : decode cL_law 754 = .ok (.ishr, 1) := by decide +kernel
theorem dL_law_755 : decode cL_law 755 = .ok (.iconst 4, 1) := by decide +kernel
theorem dL_law_756 : decode cL_law 756 = .ok (.irem, 1) := by decide +kernel
theorem dL_law_757 : decode cL_law 757 = .ok (.goto 4, 3) := by decide +kernel
theorem dL_law_760 : decode cL_law 760 = .ok (.iconst 0, 1) := by decide +kernel
theorem dL_law_761 : decode cL_law 761 = .ok (.istore 13, 2) := by decide +kernel
theorem dL_law_763 : decode cL_law 763 = .ok (.aload_n 1, 1) := by decide +kernel
theorem dL_law_764 : decode cL_law 764 = .ok (.iload 13, 2) := by decide +kernel
theorem dL_law_766 : decode cL_law 766 = .ok (.invokevirtual 34, 3) := by decide +kernel
theorem dL_law_769 : decode cL_law 769 = .ok (.fstore 14, 2) := by decide +kernel
theorem dL_law_771 : decode cL_law 771 = .ok (.aload_n 1, 1) := by decide +kernel
theorem dL_law_772 : decode cL_law 772 = .ok (.iload 13, 2) := by decide +kernel
theorem dL_law_774 : decode cL_law 774 = .ok (.invokevirtual 82, 3) := by decide +kernel
theorem dL_law_777 : decode cL_law 777 = .ok (.istore 15, 2) := by decide +kernel
theorem dL_law_779 : decode cL_law 779 = .ok (.aload_n 1, 1) := by decide +kernel
theorem dL_law_780 : decode cL_law 780 = .ok (.iload 13, 2) := by decide +kernel
theorem dL_law_782 : decode cL_law 782 = .ok (.invokevirtual 34, 3) := by decide +kernel
theorem dL_law_785 : decode cL_law 785 = .ok (.fload 14, 2) := by decide +kernel
theorem dL_law_787 : decode cL_law 787 = .ok (.iload 15, 2) := by decide +kernel
theorem dL_law_789 : decode cL_law 789 = .ok (.i2f, 1) := by decide +kernel
theorem dL_law_790 : decode cL_law 790 = .ok (.ldc 38, 2) := by decide +kernel
theorem dL_law_792 : decode cL_law 792 = .ok (.fdiv, 1) := by decide +kernel
theorem dL_law_793 : decode cL_law 793 = .ok (.fsub, 1) := by decide +kernel
theorem dL_law_794 : decode cL_law 794 = .ok (.fcmp .l, 1) := by decide +kernel
theorem dL_law_795 : decode cL_law 795 = .ok (.ifCond .ne 31, 3) := by decide +kernel
theorem dL_law_798 : decode cL_law 798 = .ok (.aload_n 1, 1) := by decide +kernel
theorem dL_law_799 : decode cL_law 799 = .ok (.iload 13, 2) := by decide +kernel
theorem dL_law_801 : decode cL_law 801 = .ok (.invokevirtual 39, 3) := by decide +kernel
theorem dL_law_804 : decode cL_law 804 = .ok (.aload_n 1, 1) := by decide +kernel
theorem dL_law_805 : decode cL_law 805 = .ok (.iload 13, 2) := by decide +kernel
theorem dL_law_807 : decode cL_law 807 = .ok (.invokevirtual 43, 3) := by decide +kernel
theorem dL_law_810 : decode cL_law 810 = .ok (.if_icmp .ne 16, 3) := by decide +kernel
theorem dL_law_813 : decode cL_law 813 = .ok (.aload_n 1, 1) := by decide +kernel
theorem dL_law_814 : decode cL_law 814 = .ok (.iload 13, 2) := by decide +kernel
theorem dL_law_816 : decode cL_law 816 = .ok (.invokevirtual 82, 3) := by decide +kernel
theorem dL_law_819 : decode cL_law 819 = .ok (.ifCond .ne 7, 3) := by decide +kernel
theorem dL_law_822 : decode cL_law 822 = .ok (.iconst 1, 1) := by decide +kernel
theorem dL_law_823 : decode cL_law 823 = .ok (.goto 4, 3) := by decide +kernel
theorem dL_law_826 : decode cL_law 826 = .ok (.iconst 0, 1) := by decide +kernel
theorem dL_law_827 : decode cL_law 827 = .ok (.istore 4, 2) := by decide +kernel
theorem dL_law_829 : decode cL_law 829 = .ok (.goto 154, 3) := by decide +kernel
theorem dL_law_832 : decode cL_law 832 = .ok (.iload 10, 2) := by decide +kernel
theorem dL_law_834 : decode cL_law 834 = .ok (.bipush 14, 2) := by decide +kernel
theorem dL_law_836 : decode cL_law 836 = .ok (.if_icmp .ne 109, 3) := by decide +kernel
theorem dL_law_839 : decode cL_law 839 = .ok (.iconst 1, 1) := by decide +kernel
theorem dL_law_840 : decode cL_law 840 = .ok (.iload 9, 2) := by decide +kernel
theorem dL_law_842 : decode cL_law 842 = .ok (.iconst 2, 1) := by decide +kernel
theorem dL_law_843 : decode cL_law 843 = .ok (.ishr, 1) := by decide +kernel
theorem dL_law_844 : decode cL_law 844 = .ok (.bipush 20, 2) := by decide +kernel
theorem dL_law_846 : decode cL_law 846 = .ok (.irem, 1) := by decide +kernel
theorem dL_law_847 : decode cL_law 847 = .ok (.iadd, 1) := by decide +kernel
theorem dL_law_848 : decode cL_law 848 = .ok (.istore 13, 2) := by decide +kernel
theorem dL_law_850 : decode cL_law 850 = .ok (.aload_n 1, 1) := by decide +kernel
theorem dL_law_851 : decode cL_law 851 = .ok (.invokevirtual 27, 3) := by decide +kernel
theorem dL_law_854 : decode cL_law 854 = .ok (.istore 14, 2) := by decide +kernel
theorem dL_law_856 : decode cL_law 856 = .ok (.aload_n 1, 1) := by decide +kernel
theorem dL_law_857 : decode cL_law 857 = .ok (.iload 13, 2) := by decide +kernel
theorem dL_law_859 : decode cL_law 859 = .ok (.invokestatic 85, 3) := by decide +kernel
theorem dL_law_862 : decode cL_law 862 = .ok (.istore 15, 2) := by decide +kernel
theorem dL_law_864 : decode cL_law 864 = .ok (.iload 15, 2) := by decide +kernel
theorem dL_law_866 : decode cL_law 866 = .ok (.bipush (-3), 2) := by decide +kernel
theorem dL_law_868 : decode cL_law 868 = .ok (.if_icmp .ne 35, 3) := by decide +kernel
theorem dL_law_871 : decode cL_law 871 = .ok (.iload 14, 2) := by decide +kernel
theorem dL_law_873 : decode cL_law 873 = .ok (.ifCond .le 26, 3) := by decide +kernel
theorem dL_law_876 : decode cL_law 876 = .ok (.iload 14, 2) := by decide +kernel
theorem dL_law_878 : decode cL_law 878 = .ok (.iload 13, 2) := by decide +kernel
theorem dL_law_880 : decode cL_law 880 = .ok (.iadd, 1) := by decide +kernel
theorem dL_law_881 : decode cL_law 881 = .ok (.bipush 32, 2) := by decide +kernel
theorem dL_law_883 : decode cL_law 883 = .ok (.if_icmp .lt 16, 3) := by decide +kernel
theorem dL_law_886 : decode cL_law 886 = .ok (.aload_n 1, 1) := by decide +kernel
theorem dL_law_887 : decode cL_law 887 = .ok (.invokevirtual 27, 3) := by decide +kernel
theorem dL_law_890 : decode cL_law 890 = .ok (.iload 14, 2) := by decide +kernel
theorem dL_law_892 : decode cL_law 892 = .ok (.if_icmp .ne 7, 3) := by decide +kernel
theorem dL_law_895 : decode cL_law 895 = .ok (.iconst 1, 1) := by decide +kernel
theorem dL_law_896 : decode cL_law 896 = .ok (.goto 44, 3) := by decide +kernel
theorem dL_law_899 : decode cL_law 899 = .ok (.iconst 0, 1) := by decide +kernel
theorem dL_law_900 : decode cL_law 900 = .ok (.goto 40, 3) := by decide +kernel
theorem dL_law_903 : decode cL_law 903 = .ok (.iload 14, 2) := by decide +kernel
theorem dL_law_905 : decode cL_law 905 = .ok (.ifCond .ne 18, 3) := by decide +kernel
theorem dL_law_908 : decode cL_law 908 = .ok (.aload_n 1, 1) := by decide +kernel
theorem dL_law_909 : decode cL_law 909 = .ok (.invokevirtual 27, 3) := by decide +kernel
theorem dL_law_912 : decode cL_law 912 = .ok (.ifCond .ne 7, 3) := by decide +kernel
theorem dL_law_915 : decode cL_law 915 = .ok (.iconst 1, 1) := by decide +kernel
theorem dL_law_916 : decode cL_law 916 = .ok (.goto 24, 3) := by decide +kernel
theorem dL_law_919 : decode cL_law 919 = .ok (.iconst 0, 1) := by decide +kernel
theorem dL_law_920 : decode cL_law 920 = .ok (.goto 20, 3) := by decide +kernel
theorem dL_law_923 : decode cL_law 923 = .ok (.aload_n 1, 1) := by decide +kernel
theorem dL_law_924 : decode cL_law 924 = .ok (.invokevirtual 27, 3) := by decide +kernel
theorem dL_law_927 : decode cL_law 927 = .ok (.iload 14, 2) := by decide +kernel
theorem dL_law_929 : decode cL_law 929 = .ok (.iload 13, 2) := by decide +kernel
theorem dL_law_931 : decode cL_law 931 = .ok (.iadd, 1) := by decide +kernel
theorem dL_law_932 : decode cL_law 932 = .ok (.if_icmp .ne 7, 3) := by decide +kernel
theorem dL_law_935 : decode cL_law 935 = .ok (.iconst 1, 1) := by decide +kernel
theorem dL_law_936 : decode cL_law 936 = .ok (.goto 4, 3) := by decide +kernel
theorem dL_law_939 : decode cL_law 939 = .ok (.iconst 0, 1) := by decide +kernel
theorem dL_law_940 : decode cL_law 940 = .ok (.istore 4, 2) := by decide +kernel
theorem dL_law_942 : decode cL_law 942 = .ok (.goto 41, 3) := by decide +kernel
theorem dL_law_945 : decode cL_law 945 = .ok (.iconst 1, 1) := by decide +kernel
theorem dL_law_946 : decode cL_law 946 = .ok (.iload 9, 2) := by decide +kernel
theorem dL_law_948 : decode cL_law 948 = .ok (.iconst 2, 1) := by decide +kernel
theorem dL_law_949 : decode cL_law 949 = .ok (.ishr, 1) := by decide +kernel
theorem dL_law_950 : decode cL_law 950 = .ok (.bipush 27, 2) := by decide +kernel
theorem dL_law_952 : decode cL_law 952 = .ok (.irem, 1) := by decide +kernel
theorem dL_law_953 : decode cL_law 953 = .ok (.iadd, 1) := by decide +kernel
theorem dL_law_954 : decode cL_law 954 = .ok (.istore 13, 2) := by decide +kernel
theorem dL_law_956 : decode cL_law 956 = .ok (.aload_n 1, 1) := by decide +kernel
theorem dL_law_957 : decode cL_law 957 = .ok (.iload 13, 2) := by decide +kernel
theorem dL_law_959 : decode cL_law 959 = .ok (.invokevirtual 89, 3) := by decide +kernel
theorem dL_law_962 : decode cL_law 962 = .ok (.ifCond .le 18, 3) := by decide +kernel
theorem dL_law_965 : decode cL_law 965 = .ok (.aload_n 1, 1) := by decide +kernel
theorem dL_law_966 : decode cL_law 966 = .ok (.iload 13, 2) := by decide +kernel
theorem dL_law_968 : decode cL_law 968 = .ok (.invokevirtual 89, 3) := by decide +kernel
theorem dL_law_971 : decode cL_law 971 = .ok (.iload 13, 2) := by decide +kernel
theorem dL_law_973 : decode cL_law 973 = .ok (.if_icmp .ne 7, 3) := by decide +kernel
theorem dL_law_976 : decode cL_law 976 = .ok (.iconst 1, 1) := by decide +kernel
theorem dL_law_977 : decode cL_law 977 = .ok (.goto 4, 3) := by decide +kernel
theorem dL_law_980 : decode cL_law 980 = .ok (.iconst 0, 1) := by decide +kernel
theorem dL_law_981 : decode cL_law 981 = .ok (.istore 4, 2) := by decide +kernel
theorem dL_law_983 : decode cL_law 983 = .ok (.iconst 0, 1) := by decide +kernel
theorem dL_law_984 : decode cL_law 984 = .ok (.istore 13, 2) := by decide +kernel
theorem dL_law_986 : decode cL_law 986 = .ok (.iload 13, 2) := by decide +kernel
theorem dL_law_988 : decode cL_law 988 = .ok (.bipush 6, 2) := by decide +kernel
theorem dL_law_990 : decode cL_law 990 = .ok (.if_icmp .ge 63, 3) := by decide +kernel
theorem dL_law_993 : decode cL_law 993 = .ok (.iload 4, 2) := by decide +kernel
theorem dL_law_995 : decode cL_law 995 = .ok (.ifCond .eq 58, 3) := by decide +kernel
theorem dL_law_998 : decode cL_law 998 = .ok (.aload_n 2, 1) := by decide +kernel
theorem dL_law_999 : decode cL_law 999 = .ok (.iload 13, 2) := by decide +kernel
theorem dL_law_1001 : decode cL_law 1001 = .ok (.iaload, 1) := by decide +kernel
theorem dL_law_1002 : decode cL_law 1002 = .ok (.istore 14, 2) := by decide +kernel
theorem dL_law_1004 : decode cL_law 1004 = .ok (.iload 9, 2) := by decide +kernel
theorem dL_law_1006 : decode cL_law 1006 = .ok (.iload 13, 2) := by decide +kernel
theorem dL_law_1008 : decode cL_law 1008 = .ok (.iadd, 1) := by decide +kernel
theorem dL_law_1009 : decode cL_law 1009 = .ok (.bipush 6, 2) := by decide +kernel
theorem dL_law_1011 : decode cL_law 1011 = .ok (.irem, 1) := by decide +kernel
theorem dL_law_1012 : decode cL_law 1012 = .ok (.istore 15, 2) := by decide +kernel
theorem dL_law_1014 : decode cL_law 1014 = .ok (.iload 14, 2) := by decide +kernel
theorem dL_law_1016 : decode cL_law 1016 = .ok (.ifCond .lt 24, 3) := by decide +kernel
theorem dL_law_1019 : decode cL_law 1019 = .ok (.aload_n 1, 1) := by decide +kernel
theorem dL_law_1020 : decode cL_law 1020 = .ok (.iload 14, 2) := by decide +kernel
theorem dL_law_1022 : decode cL_law 1022 = .ok (.iload 15, 2) := by decide +kernel
theorem dL_law_1024 : decode cL_law 1024 = .ok (.invokevirtual 49, 3) := by decide +kernel
theorem dL_law_1027 : decode cL_law 1027 = .ok (.aload_n 3, 1) := by decide +kernel
theorem dL_law_1028 : decode cL_law 1028 = .ok (.bipush 6, 2) := by decide +kernel
theorem dL_law_1030 : decode cL_law 1030 = .ok (.iload 13, 2) := by decide +kernel
theorem dL_law_1032 : decode cL_law 1032 = .ok (.imul, 1) := by decide +kernel
theorem dL_law_1033 : decode cL_law 1033 = .ok (.iload 15, 2) := by decide +kernel
theorem dL_law_1035 : decode cL_law 1035 = .ok (.iadd, 1) := by decide +kernel
theorem dL_law_1036 : decode cL_law 1036 = .ok (.iaload, 1) := by decide +kernel
theorem dL_law_1037 : decode cL_law 1037 = .ok (.if_icmp .ne 7, 3) := by decide +kernel
theorem dL_law_1040 : decode cL_law 1040 = .ok (.iconst 1, 1) := by decide +kernel
theorem dL_law_1041 : decode cL_law 1041 = .ok (.goto 4, 3) := by decide +kernel
theorem dL_law_1044 : decode cL_law 1044 = .ok (.iconst 0, 1) := by decide +kernel
theorem dL_law_1045 : decode cL_law 1045 = .ok (.istore 4, 2) := by decide +kernel
theorem dL_law_1047 : decode cL_law 1047 = .ok (.iinc 13 1, 3) := by decide +kernel
theorem dL_law_1050 : decode cL_law 1050 = .ok (.goto (-64), 3) := by decide +kernel
theorem dL_law_1053 : decode cL_law 1053 = .ok (.iload 4, 2) := by decide +kernel
theorem dL_law_1055 : decode cL_law 1055 = .ok (.ifCond .eq 77, 3) := by decide +kernel
theorem dL_law_1058 : decode cL_law 1058 = .ok (.aload_n 1, 1) := by decide +kernel
theorem dL_law_1059 : decode cL_law 1059 = .ok (.invokestatic 56, 3) := by decide +kernel
theorem dL_law_1062 : decode cL_law 1062 = .ok (.ifCond .eq 70, 3) := by decide +kernel
theorem dL_law_1065 : decode cL_law 1065 = .ok (.aload_n 2, 1) := by decide +kernel
theorem dL_law_1066 : decode cL_law 1066 = .ok (.iload 11, 2) := by decide +kernel
theorem dL_law_1068 : decode cL_law 1068 = .ok (.iaload, 1) := by decide +kernel
theorem dL_law_1069 : decode cL_law 1069 = .ok (.ifCond .lt 14, 3) := by decide +kernel
theorem dL_law_1072 : decode cL_law 1072 = .ok (.aload_n 1, 1) := by decide +kernel
theorem dL_law_1073 : decode cL_law 1073 = .ok (.aload_n 2, 1) := by decide +kernel
theorem dL_law_1074 : decode cL_law 1074 = .ok (.iload 11, 2) := by decide +kernel
theorem dL_law_1076 : decode cL_law 1076 = .ok (.iaload, 1) := by decide +kernel
theorem dL_law_1077 : decode cL_law 1077 = .ok (.invokestatic 92, 3) := by decide +kernel
theorem dL_law_1080 : decode cL_law 1080 = .ok (.ifCond .eq 52, 3) := by decide +kernel
theorem dL_law_1083 : decode cL_law 1083 = .ok (.aload_n 1, 1) := by decide +kernel
theorem dL_law_1084 : decode cL_law 1084 = .ok (.iload 9, 2) := by decide +kernel
theorem dL_law_1086 : decode cL_law 1086 = .ok (.bipush 63, 2) := by decide +kernel
theorem dL_law_1088 : decode cL_law 1088 = .ok (.iand, 1) := by decide +kernel
theorem dL_law_1089 : decode cL_law 1089 = .ok (.iload 9, 2) := by decide +kernel
theorem dL_law_1091 : decode cL_law 1091 = .ok (.iconst 1, 1) := by decide +kernel
theorem dL_law_1092 : decode cL_law 1092 = .ok (.iadd, 1) := by decide +kernel
theorem dL_law_1093 : decode cL_law 1093 = .ok (.iload 9, 2) := by decide +kernel
theorem dL_law_1095 : decode cL_law 1095 = .ok (.bipush 6, 2) := by decide +kernel
theorem dL_law_1097 : decode cL_law 1097 = .ok (.ishr, 1) := by decide +kernel
theorem dL_law_1098 : decode cL_law 1098 = .ok (.bipush 31, 2) := by decide +kernel
theorem dL_law_1100 : decode cL_law 1100 = .ok (.irem, 1) := by decide +kernel
theorem dL_law_1101 : decode cL_law 1101 = .ok (.iadd, 1) := by decide +kernel
theorem dL_law_1102 : decode cL_law 1102 = .ok (.bipush 63, 2) := by decide +kernel
theorem dL_law_1104 : decode cL_law 1104 = .ok (.iand, 1) := by decide +kernel
theorem dL_law_1105 : decode cL_law 1105 = .ok (.invokevirtual 96, 3) := by decide +kernel
theorem dL_law_1108 : decode cL_law 1108 = .ok (.ifCond .eq 24, 3) := by decide +kernel
theorem dL_law_1111 : decode cL_law 1111 = .ok (.aload_n 1, 1) := by decide +kernel
theorem dL_law_1112 : decode cL_law 1112 = .ok (.iload 9, 2) := by decide +kernel
theorem dL_law_1114 : decode cL_law 1114 = .ok (.bipush 63, 2) := by decide +kernel
theorem dL_law_1116 : decode cL_law 1116 = .ok (.iand, 1) := by decide +kernel
theorem dL_law_1117 : decode cL_law 1117 = .ok (.iload 9, 2) := by decide +kernel
theorem dL_law_1119 : decode cL_law 1119 = .ok (.bipush 63, 2) := by decide +kernel
theorem dL_law_1121 : decode cL_law 1121 = .ok (.iand, 1) := by decide +kernel
theorem dL_law_1122 : decode cL_law 1122 = .ok (.invokevirtual 96, 3) := by decide +kernel
theorem dL_law_1125 : decode cL_law 1125 = .ok (.ifCond .ne 7, 3) := by decide +kernel
theorem dL_law_1128 : decode cL_law 1128 = .ok (.iconst 1, 1) := by decide +kernel
theorem dL_law_1129 : decode cL_law 1129 = .ok (.goto 4, 3) := by decide +kernel
theorem dL_law_1132 : decode cL_law 1132 = .ok (.iconst 0, 1) := by decide +kernel
theorem dL_law_1133 : decode cL_law 1133 = .ok (.istore 4, 2) := by decide +kernel
theorem dL_law_1135 : decode cL_law 1135 = .ok (.iinc 7 1, 3) := by decide +kernel
theorem dL_law_1138 : decode cL_law 1138 = .ok (.goto (-1055), 3) := by decide +kernel
theorem dL_law_1141 : decode cL_law 1141 = .ok (.iload 4, 2) := by decide +kernel
theorem dL_law_1143 : decode cL_law 1143 = .ok (.ireturn, 1) := by decide +kernel
abbrev vwCl : List vw_C := [(RX0, TX0, 2), (RX1, TX1, 9), (RX2, TX2, 5), (RX3, TX3, 6), (RX4, TX4, 6)]
