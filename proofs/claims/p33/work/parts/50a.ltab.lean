/-! the law: decoded, table -/
theorem dL_law_0 : decode cL_law 0 = .ok (.new 15, 3) := by decide +kernel
theorem dL_law_3 : decode cL_law 3 = .ok (.dup, 1) := by decide +kernel
theorem dL_law_4 : decode cL_law 4 = .ok (.invokespecial 125, 3) := by decide +kernel
theorem dL_law_7 : decode cL_law 7 = .ok (.astore_n 1, 1) := by decide +kernel
theorem dL_law_8 : decode cL_law 8 = .ok (.iconst 1, 1) := by decide +kernel
theorem dL_law_9 : decode cL_law 9 = .ok (.istore_n 2, 1) := by decide +kernel
theorem dL_law_10 : decode cL_law 10 = .ok (.iconst 1, 1) := by decide +kernel
theorem dL_law_11 : decode cL_law 11 = .ok (.istore_n 3, 1) := by decide +kernel
theorem dL_law_12 : decode cL_law 12 = .ok (.iconst 0, 1) := by decide +kernel
theorem dL_law_13 : decode cL_law 13 = .ok (.istore 4, 2) := by decide +kernel
theorem dL_law_15 : decode cL_law 15 = .ok (.iload 4, 2) := by decide +kernel
theorem dL_law_17 : decode cL_law 17 = .ok (.iconst 3, 1) := by decide +kernel
theorem dL_law_18 : decode cL_law 18 = .ok (.if_icmp .ge 90, 3) := by decide +kernel
theorem dL_law_21 : decode cL_law 21 = .ok (.aload_n 1, 1) := by decide +kernel
theorem dL_law_22 : decode cL_law 22 = .ok (.ldc 126, 2) := by decide +kernel
theorem dL_law_24 : decode cL_law 24 = .ok (.aload_n 0, 1) := by decide +kernel
theorem dL_law_25 : decode cL_law 25 = .ok (.iload_n 2, 1) := by decide +kernel
theorem dL_law_26 : decode cL_law 26 = .ok (.iconst 4, 1) := by decide +kernel
theorem dL_law_27 : decode cL_law 27 = .ok (.invokestatic 128, 3) := by decide +kernel
theorem dL_law_30 : decode cL_law 30 = .ok (.invokevirtual 132, 3) := by decide +kernel
theorem dL_law_33 : decode cL_law 33 = .ok (.ldc 137, 2) := by decide +kernel
theorem dL_law_35 : decode cL_law 35 = .ok (.aload_n 0, 1) := by decide +kernel
theorem dL_law_36 : decode cL_law 36 = .ok (.iload_n 2, 1) := by decide +kernel
theorem dL_law_37 : decode cL_law 37 = .ok (.iconst 1, 1) := by decide +kernel
theorem dL_law_38 : decode cL_law 38 = .ok (.iadd, 1) := by decide +kernel
theorem dL_law_39 : decode cL_law 39 = .ok (.iconst 3, 1) := by decide +kernel
theorem dL_law_40 : decode cL_law 40 = .ok (.invokestatic 128, 3) := by decide +kernel
theorem dL_law_43 : decode cL_law 43 = .ok (.invokevirtual 132, 3) := by decide +kernel
theorem dL_law_46 : decode cL_law 46 = .ok (.aload_n 0, 1) := by decide +kernel
theorem dL_law_47 : decode cL_law 47 = .ok (.iload_n 2, 1) := by decide +kernel
theorem dL_law_48 : decode cL_law 48 = .ok (.iconst 2, 1) := by decide +kernel
theorem dL_law_49 : decode cL_law 49 = .ok (.iadd, 1) := by decide +kernel
theorem dL_law_50 : decode cL_law 50 = .ok (.iconst 2, 1) := by decide +kernel
theorem dL_law_51 : decode cL_law 51 = .ok (.invokestatic 128, 3) := by decide +kernel
theorem dL_law_54 : decode cL_law 54 = .ok (.ifCond .ne 7, 3) := by decide +kernel
theorem dL_law_57 : decode cL_law 57 = .ok (.iconst 1, 1) := by decide +kernel
theorem dL_law_58 : decode cL_law 58 = .ok (.goto 4, 3) := by decide +kernel
theorem dL_law_61 : decode cL_law 61 = .ok (.iconst 0, 1) := by decide +kernel
theorem dL_law_62 : decode cL_law 62 = .ok (.iconst 1, 1) := by decide +kernel
theorem dL_law_63 : decode cL_law 63 = .ok (.aload_n 0, 1) := by decide +kernel
theorem dL_law_64 : decode cL_law 64 = .ok (.iload_n 2, 1) := by decide +kernel
theorem dL_law_65 : decode cL_law 65 = .ok (.iconst 2, 1) := by decide +kernel
theorem dL_law_66 : decode cL_law 66 = .ok (.iadd, 1) := by decide +kernel
theorem dL_law_67 : decode cL_law 67 = .ok (.iconst 3, 1) := by decide +kernel
theorem dL_law_68 : decode cL_law 68 = .ok (.invokestatic 128, 3) := by decide +kernel
theorem dL_law_71 : decode cL_law 71 = .ok (.iadd, 1) := by decide +kernel
theorem dL_law_72 : decode cL_law 72 = .ok (.invokestatic 139, 3) := by decide +kernel
theorem dL_law_75 : decode cL_law 75 = .ok (.istore 5, 2) := by decide +kernel
theorem dL_law_77 : decode cL_law 77 = .ok (.iload_n 3, 1) := by decide +kernel
theorem dL_law_78 : decode cL_law 78 = .ok (.iload 5, 2) := by decide +kernel
theorem dL_law_80 : decode cL_law 80 = .ok (.bipush 10, 2) := by decide +kernel
theorem dL_law_82 : decode cL_law 82 = .ok (.if_icmp .ge 10, 3) := by decide +kernel
theorem dL_law_85 : decode cL_law 85 = .ok (.iload 5, 2) := by decide +kernel
theorem dL_law_87 : decode cL_law 87 = .ok (.bipush (-78), 2) := by decide +kernel
theorem dL_law_89 : decode cL_law 89 = .ok (.if_icmp .ne 7, 3) := by decide +kernel
theorem dL_law_92 : decode cL_law 92 = .ok (.iconst 1, 1) := by decide +kernel
theorem dL_law_93 : decode cL_law 93 = .ok (.goto 4, 3) := by decide +kernel
theorem dL_law_96 : decode cL_law 96 = .ok (.iconst 0, 1) := by decide +kernel
theorem dL_law_97 : decode cL_law 97 = .ok (.iand, 1) := by decide +kernel
theorem dL_law_98 : decode cL_law 98 = .ok (.istore_n 3, 1) := by decide +kernel
theorem dL_law_99 : decode cL_law 99 = .ok (.iinc 2 3, 3) := by decide +kernel
theorem dL_law_102 : decode cL_law 102 = .ok (.iinc 4 1, 3) := by decide +kernel
theorem dL_law_105 : decode cL_law 105 = .ok (.goto (-90), 3) := by decide +kernel
theorem dL_law_108 : decode cL_law 108 = .ok (.iconst 0, 1) := by decide +kernel
theorem dL_law_109 : decode cL_law 109 = .ok (.istore 4, 2) := by decide +kernel
theorem dL_law_111 : decode cL_law 111 = .ok (.iload 4, 2) := by decide +kernel
theorem dL_law_113 : decode cL_law 113 = .ok (.iconst 3, 1) := by decide +kernel
theorem dL_law_114 : decode cL_law 114 = .ok (.if_icmp .ge 51, 3) := by decide +kernel
theorem dL_law_117 : decode cL_law 117 = .ok (.iload_n 3, 1) := by decide +kernel
theorem dL_law_118 : decode cL_law 118 = .ok (.aload_n 1, 1) := by decide +kernel
theorem dL_law_119 : decode cL_law 119 = .ok (.invokestatic 142, 3) := by decide +kernel
theorem dL_law_122 : decode cL_law 122 = .ok (.iload 4, 2) := by decide +kernel
theorem dL_law_124 : decode cL_law 124 = .ok (.if_icmp .ne 32, 3) := by decide +kernel
theorem dL_law_127 : decode cL_law 127 = .ok (.aload_n 1, 1) := by decide +kernel
theorem dL_law_128 : decode cL_law 128 = .ok (.iload 4, 2) := by decide +kernel
theorem dL_law_130 : decode cL_law 130 = .ok (.bipush 30, 2) := by decide +kernel
theorem dL_law_132 : decode cL_law 132 = .ok (.bipush 20, 2) := by decide +kernel
theorem dL_law_134 : decode cL_law 134 = .ok (.iload 4, 2) := by decide +kernel
theorem dL_law_136 : decode cL_law 136 = .ok (.imul, 1) := by decide +kernel
theorem dL_law_137 : decode cL_law 137 = .ok (.iadd, 1) := by decide +kernel
theorem dL_law_138 : decode cL_law 138 = .ok (.invokestatic 145, 3) := by decide +kernel
theorem dL_law_141 : decode cL_law 141 = .ok (.bipush 30, 2) := by decide +kernel
theorem dL_law_143 : decode cL_law 143 = .ok (.bipush 20, 2) := by decide +kernel
theorem dL_law_145 : decode cL_law 145 = .ok (.iload 4, 2) := by decide +kernel
theorem dL_law_147 : decode cL_law 147 = .ok (.imul, 1) := by decide +kernel
theorem dL_law_148 : decode cL_law 148 = .ok (.iadd, 1) := by decide +kernel
theorem dL_law_149 : decode cL_law 149 = .ok (.if_icmp .ne 7, 3) := by decide +kernel
theorem dL_law_152 : decode cL_law 152 = .ok (.iconst 1, 1) := by decide +kernel
theorem dL_law_153 : decode cL_law 153 = .ok (.goto 4, 3) := by decide +kernel
theorem dL_law_156 : decode cL_law 156 = .ok (.iconst 0, 1) := by decide +kernel
theorem dL_law_157 : decode cL_law 157 = .ok (.iand, 1) := by decide +kernel
theorem dL_law_158 : decode cL_law 158 = .ok (.istore_n 3, 1) := by decide +kernel
theorem dL_law_159 : decode cL_law 159 = .ok (.iinc 4 1, 3) := by decide +kernel
theorem dL_law_162 : decode cL_law 162 = .ok (.goto (-51), 3) := by decide +kernel
theorem dL_law_165 : decode cL_law 165 = .ok (.ldc2_w 148, 3) := by decide +kernel
theorem dL_law_168 : decode cL_law 168 = .ok (.lstore 4, 2) := by decide +kernel
theorem dL_law_170 : decode cL_law 170 = .ok (.iconst 0, 1) := by decide +kernel
theorem dL_law_171 : decode cL_law 171 = .ok (.istore 6, 2) := by decide +kernel
theorem dL_law_173 : decode cL_law 173 = .ok (.iload 6, 2) := by decide +kernel
theorem dL_law_175 : decode cL_law 175 = .ok (.iconst 5, 1) := by decide +kernel
theorem dL_law_176 : decode cL_law 176 = .ok (.if_icmp .ge 137, 3) := by decide +kernel
theorem dL_law_179 : decode cL_law 179 = .ok (.iconst 3, 1) := by decide +kernel
theorem dL_law_180 : decode cL_law 180 = .ok (.aload_n 0, 1) := by decide +kernel
theorem dL_law_181 : decode cL_law 181 = .ok (.iload_n 2, 1) := by decide +kernel
theorem dL_law_182 : decode cL_law 182 = .ok (.iconst 2, 1) := by decide +kernel
theorem dL_law_183 : decode cL_law 183 = .ok (.invokestatic 128, 3) := by decide +kernel
theorem dL_law_186 : decode cL_law 186 = .ok (.iadd, 1) := by decide +kernel
theorem dL_law_187 : decode cL_law 187 = .ok (.istore 7, 2) := by decide +kernel
theorem dL_law_189 : decode cL_law 189 = .ok (.iload_n 3, 1) := by decide +kernel
theorem dL_law_190 : decode cL_law 190 = .ok (.aload_n 1, 1) := by decide +kernel
theorem dL_law_191 : decode cL_law 191 = .ok (.iload 7, 2) := by decide +kernel
theorem dL_law_193 : decode cL_law 193 = .ok (.invokestatic 150, 3) := by decide +kernel
theorem dL_law_196 : decode cL_law 196 = .ok (.iload 6, 2) := by decide +kernel
theorem dL_law_198 : decode cL_law 198 = .ok (.if_icmp .ne 7, 3) := by decide +kernel
theorem dL_law_201 : decode cL_law 201 = .ok (.iconst 1, 1) := by decide +kernel
theorem dL_law_202 : decode cL_law 202 = .ok (.goto 4, 3) := by decide +kernel
theorem dL_law_205 : decode cL_law 205 = .ok (.iconst 0, 1) := by decide +kernel
theorem dL_law_206 : decode cL_law 206 = .ok (.iand, 1) := by decide +kernel
theorem dL_law_207 : decode cL_law 207 = .ok (.istore_n 3, 1) := by decide +kernel
theorem dL_law_208 : decode cL_law 208 = .ok (.iconst 0, 1) := by decide +kernel
theorem dL_law_209 : decode cL_law 209 = .ok (.istore 8, 2) := by decide +kernel
theorem dL_law_211 : decode cL_law 211 = .ok (.iload 8, 2) := by decide +kernel
theorem dL_law_213 : decode cL_law 213 = .ok (.iconst 3, 1) := by decide +kernel
theorem dL_law_214 : decode cL_law 214 = .ok (.aload_n 0, 1) := by decide +kernel
theorem dL_law_215 : decode cL_law 215 = .ok (.iload_n 2, 1) := by decide +kernel
theorem dL_law_216 : decode cL_law 216 = .ok (.iconst 1, 1) := by decide +kernel
theorem dL_law_217 : decode cL_law 217 = .ok (.iadd, 1) := by decide +kernel
theorem dL_law_218 : decode cL_law 218 = .ok (.iconst 4, 1) := by decide +kernel
theorem dL_law_219 : decode cL_law 219 = .ok (.invokestatic 128, 3) := by decide +kernel
theorem dL_law_222 : decode cL_law 222 = .ok (.iadd, 1) := by decide +kernel
theorem dL_law_223 : decode cL_law 223 = .ok (.if_icmp .ge 81, 3) := by decide +kernel
theorem dL_law_226 : decode cL_law 226 = .ok (.iload_n 2, 1) := by decide +kernel
theorem dL_law_227 : decode cL_law 227 = .ok (.iconst 2, 1) := by decide +kernel
theorem dL_law_228 : decode cL_law 228 = .ok (.iadd, 1) := by decide +kernel
theorem dL_law_229 : decode cL_law 229 = .ok (.iconst 4, 1) := by decide +kernel
theorem dL_law_230 : decode cL_law 230 = .ok (.iload 8, 2) := by decide +kernel
theorem dL_law_232 : decode cL_law 232 = .ok (.imul, 1) := by decide +kernel
theorem dL_law_233 : decode cL_law 233 = .ok (.iadd, 1) := by decide +kernel
theorem dL_law_234 : decode cL_law 234 = .ok (.istore 9, 2) := by decide +kernel
theorem dL_law_236 : decode cL_law 236 = .ok (.iload_n 3, 1) := by decide +kernel
theorem dL_law_237 : decode cL_law 237 = .ok (.aload_n 1, 1) := by decide +kernel
theorem dL_law_238 : decode cL_law 238 = .ok (.iload 6, 2) := by decide +kernel
theorem dL_law_240 : decode cL_law 240 = .ok (.ldc 153, 2) := by decide +kernel
theorem dL_law_242 : decode cL_law 242 = .ok (.aload_n 0, 1) := by decide +kernel
theorem dL_law_243 : decode cL_law 243 = .ok (.iload 9, 2) := by decide +kernel
theorem dL_law_245 : decode cL_law 245 = .ok (.bipush 8, 2) := by decide +kernel
theorem dL_law_247 : decode cL_law 247 = .ok (.invokestatic 128, 3) := by decide +kernel
theorem dL_law_250 : decode cL_law 250 = .ok (.invokevirtual 132, 3) := by decide +kernel
theorem dL_law_253 : decode cL_law 253 = .ok (.aload_n 0, 1) := by decide +kernel
theorem dL_law_254 : decode cL_law 254 = .ok (.iload 9, 2) := by decide +kernel
theorem dL_law_256 : decode cL_law 256 = .ok (.iconst 1, 1) := by decide +kernel
theorem dL_law_257 : decode cL_law 257 = .ok (.iadd, 1) := by decide +kernel
theorem dL_law_258 : decode cL_law 258 = .ok (.iload 7, 2) := by decide +kernel
theorem dL_law_260 : decode cL_law 260 = .ok (.invokestatic 128, 3) := by decide +kernel
theorem dL_law_263 : decode cL_law 263 = .ok (.aload_n 0, 1) := by decide +kernel
theorem dL_law_264 : decode cL_law 264 = .ok (.iload 9, 2) := by decide +kernel
theorem dL_law_266 : decode cL_law 266 = .ok (.iconst 2, 1) := by decide +kernel
theorem dL_law_267 : decode cL_law 267 = .ok (.iadd, 1) := by decide +kernel
theorem dL_law_268 : decode cL_law 268 = .ok (.iload 7, 2) := by decide +kernel
theorem dL_law_270 : decode cL_law 270 = .ok (.invokestatic 128, 3) := by decide +kernel
theorem dL_law_273 : decode cL_law 273 = .ok (.aload_n 0, 1) := by decide +kernel
theorem dL_law_274 : decode cL_law 274 = .ok (.iload 9, 2) := by decide +kernel
theorem dL_law_276 : decode cL_law 276 = .ok (.iconst 3, 1) := by decide +kernel
theorem dL_law_277 : decode cL_law 277 = .ok (.iadd, 1) := by decide +kernel
theorem dL_law_278 : decode cL_law 278 = .ok (.iload 7, 2) := by decide +kernel
theorem dL_law_280 : decode cL_law 280 = .ok (.invokestatic 128, 3) := by decide +kernel
theorem dL_law_283 : decode cL_law 283 = .ok (.invokestatic 155, 3) := by decide +kernel
theorem dL_law_286 : decode cL_law 286 = .ok (.bipush (-78), 2) := by decide +kernel
theorem dL_law_288 : decode cL_law 288 = .ok (.if_icmp .lt 7, 3) := by decide +kernel
theorem dL_law_291 : decode cL_law 291 = .ok (.iconst 1, 1) := by decide +kernel
theorem dL_law_292 : decode cL_law 292 = .ok (.goto 4, 3) := by decide +kernel
theorem dL_law_295 : decode cL_law 295 = .ok (.iconst 0, 1) := by decide +kernel
theorem dL_law_296 : decode cL_law 296 = .ok (.iand, 1) := by decide +kernel
theorem dL_law_297 : decode cL_law 297 = .ok (.istore_n 3, 1) := by decide +kernel
theorem dL_law_298 : decode cL_law 298 = .ok (.iinc 8 1, 3) := by decide +kernel
theorem dL_law_301 : decode cL_law 301 = .ok (.goto (-90), 3) := by decide +kernel
theorem dL_law_304 : decode cL_law 304 = .ok (.iinc 2 32, 3) := by decide +kernel
theorem dL_law_307 : decode cL_law 307 = .ok (.iinc 6 1, 3) := by decide +kernel
theorem dL_law_310 : decode cL_law 310 = .ok (.goto (-137), 3) := by decide +kernel
theorem dL_law_313 : decode cL_law 313 = .ok (.iconst 0, 1) := by decide +kernel
theorem dL_law_314 : decode cL_law 314 = .ok (.istore 6, 2) := by decide +kernel
theorem dL_law_316 : decode cL_law 316 = .ok (.iload 6, 2) := by decide +kernel
theorem dL_law_318 : decode cL_law 318 = .ok (.bipush 26, 2) := by decide +kernel
theorem dL_law_320 : decode cL_law 320 = .ok (.if_icmp .ge 109, 3) := by decide +kernel
theorem dL_law_323 : decode cL_law 323 = .ok (.iload_n 3, 1) := by decide +kernel
theorem dL_law_324 : decode cL_law 324 = .ok (.ifCond .eq 105, 3) := by decide +kernel
theorem dL_law_327 : decode cL_law 327 = .ok (.aload_n 1, 1) := by decide +kernel
theorem dL_law_328 : decode cL_law 328 = .ok (.aload_n 0, 1) := by decide +kernel
theorem dL_law_329 : decode cL_law 329 = .ok (.iload_n 2, 1) := by decide +kernel
theorem dL_law_330 : decode cL_law 330 = .ok (.iconst 5, 1) := by decide +kernel
theorem dL_law_331 : decode cL_law 331 = .ok (.invokestatic 158, 3) := by decide +kernel
theorem dL_law_334 : decode cL_law 334 = .ok (.ifCond .eq 21, 3) := by decide +kernel
theorem dL_law_337 : decode cL_law 337 = .ok (.aload_n 1, 1) := by decide +kernel
theorem dL_law_338 : decode cL_law 338 = .ok (.invokestatic 162, 3) := by decide +kernel
theorem dL_law_341 : decode cL_law 341 = .ok (.ifCond .eq 14, 3) := by decide +kernel
theorem dL_law_344 : decode cL_law 344 = .ok (.aload_n 1, 1) := by decide +kernel
theorem dL_law_345 : decode cL_law 345 = .ok (.invokestatic 166, 3) := by decide +kernel
theorem dL_law_348 : decode cL_law 348 = .ok (.ifCond .eq 7, 3) := by decide +kernel
theorem dL_law_351 : decode cL_law 351 = .ok (.iconst 1, 1) := by decide +kernel
theorem dL_law_352 : decode cL_law 352 = .ok (.goto 4, 3) := by decide +kernel
theorem dL_law_355 : decode cL_law 355 = .ok (.iconst 0, 1) := by decide +kernel
theorem dL_law_356 : decode cL_law 356 = .ok (.istore_n 3, 1) := by decide +kernel
theorem dL_law_357 : decode cL_law 357 = .ok (.lload 4, 2) := by decide +kernel
theorem dL_law_359 : decode cL_law 359 = .ok (.aload_n 0, 1) := by decide +kernel
theorem dL_law_360 : decode cL_law 360 = .ok (.iload_n 2, 1) := by decide +kernel
theorem dL_law_361 : decode cL_law 361 = .ok (.bipush 12, 2) := by decide +kernel
theorem dL_law_363 : decode cL_law 363 = .ok (.invokestatic 128, 3) := by decide +kernel
theorem dL_law_366 : decode cL_law 366 = .ok (.bipush 9, 2) := by decide +kernel
theorem dL_law_368 : decode cL_law 368 = .ok (.if_icmp .ne 9, 3) := by decide +kernel
theorem dL_law_371 : decode cL_law 371 = .ok (.ldc2_w 169, 3) := by decide +kernel
theorem dL_law_374 : decode cL_law 374 = .ok (.goto 4, 3) := by decide +kernel
theorem dL_law_377 : decode cL_law 377 = .ok (.lconst 0, 1) := by decide +kernel
theorem dL_law_378 : decode cL_law 378 = .ok (.ladd, 1) := by decide +kernel
theorem dL_law_379 : decode cL_law 379 = .ok (.lstore 4, 2) := by decide +kernel
theorem dL_law_381 : decode cL_law 381 = .ok (.iload_n 3, 1) := by decide +kernel
theorem dL_law_382 : decode cL_law 382 = .ok (.aload_n 1, 1) := by decide +kernel
theorem dL_law_383 : decode cL_law 383 = .ok (.invokevirtual 171, 3) := by decide +kernel
theorem dL_law_386 : decode cL_law 386 = .ok (.aload_n 1, 1) := by decide +kernel
theorem dL_law_387 : decode cL_law 387 = .ok (.iconst 0, 1) := by decide +kernel
theorem dL_law_388 : decode cL_law 388 = .ok (.invokestatic 175, 3) := by decide +kernel
theorem dL_law_391 : decode cL_law 391 = .ok (.i2l, 1) := by decide +kernel
theorem dL_law_392 : decode cL_law 392 = .ok (.ladd, 1) := by decide +kernel
theorem dL_law_393 : decode cL_law 393 = .ok (.aload_n 1, 1) := by decide +kernel
theorem dL_law_394 : decode cL_law 394 = .ok (.iconst 1, 1) := by decide +kernel
theorem dL_law_395 : decode cL_law 395 = .ok (.invokestatic 175, 3) := by decide +kernel
theorem dL_law_398 : decode cL_law 398 = .ok (.i2l, 1) := by decide +kernel
theorem dL_law_399 : decode cL_law 399 = .ok (.ladd, 1) := by decide +kernel
theorem dL_law_400 : decode cL_law 400 = .ok (.aload_n 1, 1) := by decide +kernel
theorem dL_law_401 : decode cL_law 401 = .ok (.iconst 2, 1) := by decide +kernel
theorem dL_law_402 : decode cL_law 402 = .ok (.invokestatic 175, 3) := by decide +kernel
theorem dL_law_405 : decode cL_law 405 = .ok (.i2l, 1) := by decide +kernel
theorem dL_law_406 : decode cL_law 406 = .ok (.ladd, 1) := by decide +kernel
theorem dL_law_407 : decode cL_law 407 = .ok (.lload 4, 2) := by decide +kernel
theorem dL_law_409 : decode cL_law 409 = .ok (.lcmp, 1) := by decide +kernel
theorem dL_law_410 : decode cL_law 410 = .ok (.ifCond .ne 7, 3) := by decide +kernel
theorem dL_law_413 : decode cL_law 413 = .ok (.iconst 1, 1) := by decide +kernel
theorem dL_law_414 : decode cL_law 414 = .ok (.goto 4, 3) := by decide +kernel
theorem dL_law_417 : decode cL_law 417 = .ok (.iconst 0, 1) := by decide +kernel
theorem dL_law_418 : decode cL_law 418 = .ok (.iand, 1) := by decide +kernel
theorem dL_law_419 : decode cL_law 419 = .ok (.istore_n 3, 1) := by decide +kernel
theorem dL_law_420 : decode cL_law 420 = .ok (.iinc 2 4, 3) := by decide +kernel
theorem dL_law_423 : decode cL_law 423 = .ok (.iinc 6 1, 3) := by decide +kernel
theorem dL_law_426 : decode cL_law 426 = .ok (.goto (-110), 3) := by decide +kernel
theorem dL_law_429 : decode cL_law 429 = .ok (.iload_n 3, 1) := by decide +kernel
theorem dL_law_430 : decode cL_law 430 = .ok (.ifCond .eq 14, 3) := by decide +kernel
theorem dL_law_433 : decode cL_law 433 = .ok (.aload_n 1, 1) := by decide +kernel
theorem dL_law_434 : decode cL_law 434 = .ok (.invokestatic 177, 3) := by decide +kernel
theorem dL_law_437 : decode cL_law 437 = .ok (.ifCond .eq 7, 3) := by decide +kernel
theorem dL_law_440 : decode cL_law 440 = .ok (.iconst 1, 1) := by decide +kernel
theorem dL_law_441 : decode cL_law 441 = .ok (.goto 4, 3) := by decide +kernel
theorem dL_law_444 : decode cL_law 444 = .ok (.iconst 0, 1) := by decide +kernel
theorem dL_law_445 : decode cL_law 445 = .ok (.ireturn, 1) := by decide +kernel
def tb_L_law0 (g : Nat → Nat) : Nat → ab_I := ab_tn 38 (ab_tn 18 (ab_tn 10 (ab_tn 7 (ab_tn 3 (ab_tl 0 (ab_new 11 [.null, .null, .null, .null, .long 0] 5 1076544 5864974 3)) (ab_tn 4 (ab_tl 3 (ab_dup 4)) (ab_tl 4 (ab_callI 1 0 (wp_X8_init g) 4 12 1076544 5864974 ab_NX 7)))) (ab_tn 8 (ab_tl 7 (ab_astore 1 8)) (ab_tn 9 (ab_tl 8 (ab_push (.int 1) 9)) (ab_tl 9 (ab_istore 2 10))))) (ab_tn 13 (ab_tn 11 (ab_tl 10 (ab_push (.int 1) 11)) (ab_tn 12 (ab_tl 11 (ab_istore 3 12)) (ab_tl 12 (ab_push (.int 0) 13)))) (ab_tn 15 (ab_tl 13 (ab_istore 4 15)) (ab_tn 17 (ab_tl 15 (ab_iload 4 17)) (ab_tl 17 (ab_push (.int 3) 18)))))) (ab_tn 27 (ab_tn 24 (ab_tn 21 (ab_tl 18 (ab_icmp (fun x y => y ≤ x) 108 21)) (ab_tn 22 (ab_tl 21 (ab_aload 1 22)) (ab_tl 22 (ab_push (.ref (g (2 + 2))) 24)))) (ab_tn 25 (ab_tl 24 (ab_aload 0 25)) (ab_tn 26 (ab_tl 25 (ab_iload 2 26)) (ab_tl 26 (ab_push (.int 4) 27))))) (ab_tn 35 (ab_tn 30 (ab_tl 27 (ab_callS 3 1 (wp_L_pick g) 0 0 1076544 5864974 ab_NX 30)) (ab_tn 33 (ab_tl 30 (ab_callK g 2 1 (wp_J0_charAt_5068e g) 0 0 1076544 5864974 ab_NX 33)) (ab_tl 33 (ab_push (.ref (g (2 + 3))) 35)))) (ab_tn 36 (ab_tl 35 (ab_aload 0 36)) (ab_tn 37 (ab_tl 36 (ab_iload 2 37)) (ab_tl 37 (ab_push (.int 1) 38))))))) (ab_tn 58 (ab_tn 48 (ab_tn 43 (ab_tn 39 (ab_tl 38 (ab_bin (fun x y => x + y) 39)) (ab_tn 40 (ab_tl 39 (ab_push (.int 3) 40)) (ab_tl 40 (ab_callS 3 1 (wp_L_pick g) 0 0 1076544 5864974 ab_NX 43)))) (ab_tn 46 (ab_tl 43 (ab_callK g 2 1 (wp_J0_charAt_5068e g) 0 0 1076544 5864974 ab_NX 46)) (ab_tn 47 (ab_tl 46 (ab_aload 0 47)) (ab_tl 47 (ab_iload 2 48))))) (ab_tn 51 (ab_tn 49 (ab_tl 48 (ab_push (.int 2) 49)) (ab_tn 50 (ab_tl 49 (ab_bin (fun x y => x + y) 50)) (ab_tl 50 (ab_push (.int 2) 51)))) (ab_tn 54 (ab_tl 51 (ab_callS 3 1 (wp_L_pick g) 0 0 1076544 5864974 ab_NX 54)) (ab_tn 57 (ab_tl 54 (ab_if (fun x => x = 0) 57 61)) (ab_tl 57 (ab_push (.int 1) 58)))))) (ab_tn 66 (ab_tn 63 (ab_tn 61 (ab_tl 58 (ab_goto 62)) (ab_tn 62 (ab_tl 61 (ab_push (.int 0) 62)) (ab_tl 62 (ab_push (.int 1) 63)))) (ab_tn 64 (ab_tl 63 (ab_aload 0 64)) (ab_tn 65 (ab_tl 64 (ab_iload 2 65)) (ab_tl 65 (ab_push (.int 2) 66))))) (ab_tn 71 (ab_tn 67 (ab_tl 66 (ab_bin (fun x y => x + y) 67)) (ab_tn 68 (ab_tl 67 (ab_push (.int 3) 68)) (ab_tl 68 (ab_callS 3 1 (wp_L_pick g) 0 0 1076544 5864974 ab_NX 71)))) (ab_tn 72 (ab_tl 71 (ab_bin (fun x y => x + y) 72)) (ab_tn 75 (ab_tl 72 (ab_callS 5 1 (wp_L_rule g) 13 124 1076544 5864974 ab_NX 75)) (ab_tl 75 (ab_istore 5 77)))))))
set_option maxRecDepth 100000 in
set_option maxHeartbeats 4000000 in
theorem st_L_law0 {p : Program} {l : Launch} {e : Env} {s : State} {m : MethodId} {below : List Frame} {meth : Method} {c : Code} {D : va_G} {C : Nat → ClassId} {g : Nat → Nat} {A : Nat → Prop} {nm : String} {b : Nat} (Cx : ab_Cx l D C g R_law nm code 10 ret ab_T p s m #[Value.ref b] meth c A) (hl : l.stackTraces = false) (hlk : meth.locks = false) (hA : ∀ q, A q → s.heap.size ≤ q) : ∀ pc, ab_Sn (ab_W p l e room_1 s m #[Value.ref b] below meth c (lw_Z below #[Value.ref b] s) D C A 10) pc (tb_L_law0 g pc) :=
  ab_tn_ok (ab_tn_ok (ab_tn_ok (ab_tn_ok (ab_tn_ok (ab_tl_ok (sn_new Cx (Cn := RX8) (T := TX8) (N := 5) dL_law_0 rfl in_X8 tyX8 tyX8_ok wd_1_34 wd_1_35 wd_1_1 (fun j hj => by rcases (show j = 0 ∨ j = 1 ∨ j = 2 ∨ j = 3 ∨ j = 4 by omega) with rfl | rfl | rfl | rfl | rfl <;> rfl) rfl rfl)) (ab_tn_ok (ab_tl_ok (sn_dup Cx dL_law_3)) (ab_tl_ok (sn_callIG Cx (ct_X8_init hl) dL_law_4 wd_1_36 wd_1_37 wd_1_1 wd_1_38 rfl (hd := by decide +kernel) (by decide) rfl rfl)))) (ab_tn_ok (ab_tl_ok (sn_astore_n Cx dL_law_7 rfl (by decide))) (ab_tn_ok (ab_tl_ok (sn_iconst Cx dL_law_8 (by decide))) (ab_tl_ok (sn_istore_n Cx dL_law_9 rfl (by decide)))))) (ab_tn_ok (ab_tn_ok (ab_tl_ok (sn_iconst Cx dL_law_10 (by decide))) (ab_tn_ok (ab_tl_ok (sn_istore_n Cx dL_law_11 rfl (by decide))) (ab_tl_ok (sn_iconst Cx dL_law_12 (by decide))))) (ab_tn_ok (ab_tl_ok (sn_istore Cx dL_law_13 (by decide))) (ab_tn_ok (ab_tl_ok (sn_iload Cx dL_law_15)) (ab_tl_ok (sn_iconst Cx dL_law_17 (by decide))))))) (ab_tn_ok (ab_tn_ok (ab_tn_ok (ab_tl_ok (sn_icmp_ge Cx dL_law_18 (tgt := 108) (by decide))) (ab_tn_ok (ab_tl_ok (sn_aload_n Cx dL_law_21 rfl)) (ab_tl_ok (sn_ldcS Cx dL_law_22 (j := 2) rfl rfl rfl)))) (ab_tn_ok (ab_tl_ok (sn_aload_n Cx dL_law_24 rfl)) (ab_tn_ok (ab_tl_ok (sn_iload_n Cx dL_law_25 rfl)) (ab_tl_ok (sn_iconst Cx dL_law_26 (by decide)))))) (ab_tn_ok (ab_tn_ok (ab_tl_ok (sn_callSN Cx (ct_L_pick hl) dL_law_27 wd_1_88 wd_1_89 wd_1_0 wd_1_90 (hd := by decide +kernel) (by decide) rfl rfl)) (ab_tn_ok (ab_tl_ok (sn_callKN Cx (ct_J0_charAt_5068e hl) dL_law_30 wd_5_206 wd_5_207 wd_1_5 wd_5_209 wd_5_208 (hd := by decide +kernel) (by decide) rfl rfl)) (ab_tl_ok (sn_ldcS Cx dL_law_33 (j := 3) rfl rfl rfl)))) (ab_tn_ok (ab_tl_ok (sn_aload_n Cx dL_law_35 rfl)) (ab_tn_ok (ab_tl_ok (sn_iload_n Cx dL_law_36 rfl)) (ab_tl_ok (sn_iconst Cx dL_law_37 (by decide)))))))) (ab_tn_ok (ab_tn_ok (ab_tn_ok (ab_tn_ok (ab_tl_ok (sn_iadd Cx dL_law_38)) (ab_tn_ok (ab_tl_ok (sn_iconst Cx dL_law_39 (by decide))) (ab_tl_ok (sn_callSN Cx (ct_L_pick hl) dL_law_40 wd_1_88 wd_1_89 wd_1_0 wd_1_90 (hd := by decide +kernel) (by decide) rfl rfl)))) (ab_tn_ok (ab_tl_ok (sn_callKN Cx (ct_J0_charAt_5068e hl) dL_law_43 wd_5_206 wd_5_207 wd_1_5 wd_5_209 wd_5_208 (hd := by decide +kernel) (by decide) rfl rfl)) (ab_tn_ok (ab_tl_ok (sn_aload_n Cx dL_law_46 rfl)) (ab_tl_ok (sn_iload_n Cx dL_law_47 rfl))))) (ab_tn_ok (ab_tn_ok (ab_tl_ok (sn_iconst Cx dL_law_48 (by decide))) (ab_tn_ok (ab_tl_ok (sn_iadd Cx dL_law_49)) (ab_tl_ok (sn_iconst Cx dL_law_50 (by decide))))) (ab_tn_ok (ab_tl_ok (sn_callSN Cx (ct_L_pick hl) dL_law_51 wd_1_88 wd_1_89 wd_1_0 wd_1_90 (hd := by decide +kernel) (by decide) rfl rfl)) (ab_tn_ok (ab_tl_ok (sn_if_ne Cx dL_law_54 (tgt := 61) (by decide))) (ab_tl_ok (sn_iconst Cx dL_law_57 (by decide))))))) (ab_tn_ok (ab_tn_ok (ab_tn_ok (ab_tl_ok (sn_goto Cx dL_law_58 (tgt := 62) (by decide))) (ab_tn_ok (ab_tl_ok (sn_iconst Cx dL_law_61 (by decide))) (ab_tl_ok (sn_iconst Cx dL_law_62 (by decide))))) (ab_tn_ok (ab_tl_ok (sn_aload_n Cx dL_law_63 rfl)) (ab_tn_ok (ab_tl_ok (sn_iload_n Cx dL_law_64 rfl)) (ab_tl_ok (sn_iconst Cx dL_law_65 (by decide)))))) (ab_tn_ok (ab_tn_ok (ab_tl_ok (sn_iadd Cx dL_law_66)) (ab_tn_ok (ab_tl_ok (sn_iconst Cx dL_law_67 (by decide))) (ab_tl_ok (sn_callSN Cx (ct_L_pick hl) dL_law_68 wd_1_88 wd_1_89 wd_1_0 wd_1_90 (hd := by decide +kernel) (by decide) rfl rfl)))) (ab_tn_ok (ab_tl_ok (sn_iadd Cx dL_law_71)) (ab_tn_ok (ab_tl_ok (sn_callSG Cx (ct_L_rule hl) dL_law_72 wd_3_81 wd_3_82 wd_1_0 wd_3_83 (hd := by decide +kernel) (by decide) rfl rfl)) (ab_tl_ok (sn_istore Cx dL_law_75 (by decide))))))))
def tb_L_law1 (g : Nat → Nat) : Nat → ab_I := ab_tn 124 (ab_tn 99 (ab_tn 89 (ab_tn 82 (ab_tn 78 (ab_tl 77 (ab_iload 3 78)) (ab_tn 80 (ab_tl 78 (ab_iload 5 80)) (ab_tl 80 (ab_push (.int 10) 82)))) (ab_tn 85 (ab_tl 82 (ab_icmp (fun x y => y ≤ x) 92 85)) (ab_tn 87 (ab_tl 85 (ab_iload 5 87)) (ab_tl 87 (ab_push (.int (-78)) 89))))) (ab_tn 96 (ab_tn 92 (ab_tl 89 (ab_icmp (fun x y => x = y) 92 96)) (ab_tn 93 (ab_tl 92 (ab_push (.int 1) 93)) (ab_tl 93 (ab_goto 97)))) (ab_tn 97 (ab_tl 96 (ab_push (.int 0) 97)) (ab_tn 98 (ab_tl 97 (ab_bin (fun x y => x &&& y) 98)) (ab_tl 98 (ab_istore 3 99)))))) (ab_tn 113 (ab_tn 108 (ab_tn 102 (ab_tl 99 (ab_iinc 2 (3) 102)) (ab_tn 105 (ab_tl 102 (ab_iinc 4 (1) 105)) (ab_tl 105 (ab_goto 15)))) (ab_tn 109 (ab_tl 108 (ab_push (.int 0) 109)) (ab_tn 111 (ab_tl 109 (ab_istore 4 111)) (ab_tl 111 (ab_iload 4 113))))) (ab_tn 118 (ab_tn 114 (ab_tl 113 (ab_push (.int 3) 114)) (ab_tn 117 (ab_tl 114 (ab_icmp (fun x y => y ≤ x) 165 117)) (ab_tl 117 (ab_iload 3 118)))) (ab_tn 119 (ab_tl 118 (ab_aload 1 119)) (ab_tn 122 (ab_tl 119 (ab_callS 1 1 (wp_L_customer g) 5 101 1076544 5864974 ab_NX 122)) (ab_tl 122 (ab_iload 4 124))))))) (ab_tn 147 (ab_tn 136 (ab_tn 130 (ab_tn 127 (ab_tl 124 (ab_icmp (fun x y => x = y) 127 156)) (ab_tn 128 (ab_tl 127 (ab_aload 1 128)) (ab_tl 128 (ab_iload 4 130)))) (ab_tn 132 (ab_tl 130 (ab_push (.int 30) 132)) (ab_tn 134 (ab_tl 132 (ab_push (.int 20) 134)) (ab_tl 134 (ab_iload 4 136))))) (ab_tn 141 (ab_tn 137 (ab_tl 136 (ab_bin (fun x y => x * y) 137)) (ab_tn 138 (ab_tl 137 (ab_bin (fun x y => x + y) 138)) (ab_tl 138 (ab_callS 3 1 (wp_L_deposit g) 2 12 1076544 5864974 ab_NX 141)))) (ab_tn 143 (ab_tl 141 (ab_push (.int 30) 143)) (ab_tn 145 (ab_tl 143 (ab_push (.int 20) 145)) (ab_tl 145 (ab_iload 4 147)))))) (ab_tn 157 (ab_tn 152 (ab_tn 148 (ab_tl 147 (ab_bin (fun x y => x * y) 148)) (ab_tn 149 (ab_tl 148 (ab_bin (fun x y => x + y) 149)) (ab_tl 149 (ab_icmp (fun x y => x = y) 152 156)))) (ab_tn 153 (ab_tl 152 (ab_push (.int 1) 153)) (ab_tn 156 (ab_tl 153 (ab_goto 157)) (ab_tl 156 (ab_push (.int 0) 157))))) (ab_tn 162 (ab_tn 158 (ab_tl 157 (ab_bin (fun x y => x &&& y) 158)) (ab_tn 159 (ab_tl 158 (ab_istore 3 159)) (ab_tl 159 (ab_iinc 4 (1) 162)))) (ab_tn 165 (ab_tl 162 (ab_goto 111)) (ab_tn 168 (ab_tl 165 (ab_push (.long 150) 168)) (ab_tl 168 (ab_lstore 4 170)))))))
set_option maxRecDepth 100000 in
set_option maxHeartbeats 4000000 in
theorem st_L_law1 {p : Program} {l : Launch} {e : Env} {s : State} {m : MethodId} {below : List Frame} {meth : Method} {c : Code} {D : va_G} {C : Nat → ClassId} {g : Nat → Nat} {A : Nat → Prop} {nm : String} {b : Nat} (Cx : ab_Cx l D C g R_law nm code 10 ret ab_T p s m #[Value.ref b] meth c A) (hl : l.stackTraces = false) (hlk : meth.locks = false) (hA : ∀ q, A q → s.heap.size ≤ q) : ∀ pc, ab_Sn (ab_W p l e room_1 s m #[Value.ref b] below meth c (lw_Z below #[Value.ref b] s) D C A 10) pc (tb_L_law1 g pc) :=
  ab_tn_ok (ab_tn_ok (ab_tn_ok (ab_tn_ok (ab_tn_ok (ab_tl_ok (sn_iload_n Cx dL_law_77 rfl)) (ab_tn_ok (ab_tl_ok (sn_iload Cx dL_law_78)) (ab_tl_ok (sn_bipush Cx dL_law_80 (by decide))))) (ab_tn_ok (ab_tl_ok (sn_icmp_ge Cx dL_law_82 (tgt := 92) (by decide))) (ab_tn_ok (ab_tl_ok (sn_iload Cx dL_law_85)) (ab_tl_ok (sn_bipush Cx dL_law_87 (by decide)))))) (ab_tn_ok (ab_tn_ok (ab_tl_ok (sn_icmp_ne Cx dL_law_89 (tgt := 96) (by decide))) (ab_tn_ok (ab_tl_ok (sn_iconst Cx dL_law_92 (by decide))) (ab_tl_ok (sn_goto Cx dL_law_93 (tgt := 97) (by decide))))) (ab_tn_ok (ab_tl_ok (sn_iconst Cx dL_law_96 (by decide))) (ab_tn_ok (ab_tl_ok (sn_iand Cx dL_law_97)) (ab_tl_ok (sn_istore_n Cx dL_law_98 rfl (by decide))))))) (ab_tn_ok (ab_tn_ok (ab_tn_ok (ab_tl_ok (sn_iinc Cx dL_law_99 (by decide) (by decide))) (ab_tn_ok (ab_tl_ok (sn_iinc Cx dL_law_102 (by decide) (by decide))) (ab_tl_ok (sn_goto Cx dL_law_105 (tgt := 15) (by decide))))) (ab_tn_ok (ab_tl_ok (sn_iconst Cx dL_law_108 (by decide))) (ab_tn_ok (ab_tl_ok (sn_istore Cx dL_law_109 (by decide))) (ab_tl_ok (sn_iload Cx dL_law_111))))) (ab_tn_ok (ab_tn_ok (ab_tl_ok (sn_iconst Cx dL_law_113 (by decide))) (ab_tn_ok (ab_tl_ok (sn_icmp_ge Cx dL_law_114 (tgt := 165) (by decide))) (ab_tl_ok (sn_iload_n Cx dL_law_117 rfl)))) (ab_tn_ok (ab_tl_ok (sn_aload_n Cx dL_law_118 rfl)) (ab_tn_ok (ab_tl_ok (sn_callSG Cx (ct_L_customer hl) dL_law_119 wd_3_179 wd_3_180 wd_1_0 wd_3_181 (hd := by decide +kernel) (by decide) rfl rfl)) (ab_tl_ok (sn_iload Cx dL_law_122))))))) (ab_tn_ok (ab_tn_ok (ab_tn_ok (ab_tn_ok (ab_tl_ok (sn_icmp_ne Cx dL_law_124 (tgt := 156) (by decide))) (ab_tn_ok (ab_tl_ok (sn_aload_n Cx dL_law_127 rfl)) (ab_tl_ok (sn_iload Cx dL_law_128)))) (ab_tn_ok (ab_tl_ok (sn_bipush Cx dL_law_130 (by decide))) (ab_tn_ok (ab_tl_ok (sn_bipush Cx dL_law_132 (by decide))) (ab_tl_ok (sn_iload Cx dL_law_134))))) (ab_tn_ok (ab_tn_ok (ab_tl_ok (sn_imul Cx dL_law_136)) (ab_tn_ok (ab_tl_ok (sn_iadd Cx dL_law_137)) (ab_tl_ok (sn_callSG Cx (ct_L_deposit hl) dL_law_138 wd_3_206 wd_3_207 wd_1_0 wd_3_208 (hd := by decide +kernel) (by decide) rfl rfl)))) (ab_tn_ok (ab_tl_ok (sn_bipush Cx dL_law_141 (by decide))) (ab_tn_ok (ab_tl_ok (sn_bipush Cx dL_law_143 (by decide))) (ab_tl_ok (sn_iload Cx dL_law_145)))))) (ab_tn_ok (ab_tn_ok (ab_tn_ok (ab_tl_ok (sn_imul Cx dL_law_147)) (ab_tn_ok (ab_tl_ok (sn_iadd Cx dL_law_148)) (ab_tl_ok (sn_icmp_ne Cx dL_law_149 (tgt := 156) (by decide))))) (ab_tn_ok (ab_tl_ok (sn_iconst Cx dL_law_152 (by decide))) (ab_tn_ok (ab_tl_ok (sn_goto Cx dL_law_153 (tgt := 157) (by decide))) (ab_tl_ok (sn_iconst Cx dL_law_156 (by decide)))))) (ab_tn_ok (ab_tn_ok (ab_tl_ok (sn_iand Cx dL_law_157)) (ab_tn_ok (ab_tl_ok (sn_istore_n Cx dL_law_158 rfl (by decide))) (ab_tl_ok (sn_iinc Cx dL_law_159 (by decide) (by decide))))) (ab_tn_ok (ab_tl_ok (sn_goto Cx dL_law_162 (tgt := 111) (by decide))) (ab_tn_ok (ab_tl_ok (sn_ldc2 Cx dL_law_165 wd_5_226)) (ab_tl_ok (sn_lstore Cx dL_law_168 (by decide))))))))
def tb_L_law2 (g : Nat → Nat) : Nat → ab_I := ab_tn 209 (ab_tn 189 (ab_tn 180 (ab_tn 175 (ab_tn 171 (ab_tl 170 (ab_push (.int 0) 171)) (ab_tn 173 (ab_tl 171 (ab_istore 6 173)) (ab_tl 173 (ab_iload 6 175)))) (ab_tn 176 (ab_tl 175 (ab_push (.int 5) 176)) (ab_tn 179 (ab_tl 176 (ab_icmp (fun x y => y ≤ x) 313 179)) (ab_tl 179 (ab_push (.int 3) 180))))) (ab_tn 183 (ab_tn 181 (ab_tl 180 (ab_aload 0 181)) (ab_tn 182 (ab_tl 181 (ab_iload 2 182)) (ab_tl 182 (ab_push (.int 2) 183)))) (ab_tn 186 (ab_tl 183 (ab_callS 3 1 (wp_L_pick g) 0 0 1076544 5864974 ab_NX 186)) (ab_tn 187 (ab_tl 186 (ab_bin (fun x y => x + y) 187)) (ab_tl 187 (ab_istore 7 189)))))) (ab_tn 201 (ab_tn 193 (ab_tn 190 (ab_tl 189 (ab_iload 3 190)) (ab_tn 191 (ab_tl 190 (ab_aload 1 191)) (ab_tl 191 (ab_iload 7 193)))) (ab_tn 196 (ab_tl 193 (ab_callS 2 1 (wp_L_riddle g) 12 224 1076544 5864974 ab_NX 196)) (ab_tn 198 (ab_tl 196 (ab_iload 6 198)) (ab_tl 198 (ab_icmp (fun x y => x = y) 201 205))))) (ab_tn 206 (ab_tn 202 (ab_tl 201 (ab_push (.int 1) 202)) (ab_tn 205 (ab_tl 202 (ab_goto 206)) (ab_tl 205 (ab_push (.int 0) 206)))) (ab_tn 207 (ab_tl 206 (ab_bin (fun x y => x &&& y) 207)) (ab_tn 208 (ab_tl 207 (ab_istore 3 208)) (ab_tl 208 (ab_push (.int 0) 209))))))) (ab_tn 227 (ab_tn 217 (ab_tn 214 (ab_tn 211 (ab_tl 209 (ab_istore 8 211)) (ab_tn 213 (ab_tl 211 (ab_iload 8 213)) (ab_tl 213 (ab_push (.int 3) 214)))) (ab_tn 215 (ab_tl 214 (ab_aload 0 215)) (ab_tn 216 (ab_tl 215 (ab_iload 2 216)) (ab_tl 216 (ab_push (.int 1) 217))))) (ab_tn 222 (ab_tn 218 (ab_tl 217 (ab_bin (fun x y => x + y) 218)) (ab_tn 219 (ab_tl 218 (ab_push (.int 4) 219)) (ab_tl 219 (ab_callS 3 1 (wp_L_pick g) 0 0 1076544 5864974 ab_NX 222)))) (ab_tn 223 (ab_tl 222 (ab_bin (fun x y => x + y) 223)) (ab_tn 226 (ab_tl 223 (ab_icmp (fun x y => y ≤ x) 304 226)) (ab_tl 226 (ab_iload 2 227)))))) (ab_tn 234 (ab_tn 230 (ab_tn 228 (ab_tl 227 (ab_push (.int 2) 228)) (ab_tn 229 (ab_tl 228 (ab_bin (fun x y => x + y) 229)) (ab_tl 229 (ab_push (.int 4) 230)))) (ab_tn 232 (ab_tl 230 (ab_iload 8 232)) (ab_tn 233 (ab_tl 232 (ab_bin (fun x y => x * y) 233)) (ab_tl 233 (ab_bin (fun x y => x + y) 234))))) (ab_tn 238 (ab_tn 236 (ab_tl 234 (ab_istore 9 236)) (ab_tn 237 (ab_tl 236 (ab_iload 3 237)) (ab_tl 237 (ab_aload 1 238)))) (ab_tn 240 (ab_tl 238 (ab_iload 6 240)) (ab_tn 242 (ab_tl 240 (ab_push (.ref (g (2 + 4))) 242)) (ab_tl 242 (ab_aload 0 243)))))))
set_option maxRecDepth 100000 in
set_option maxHeartbeats 4000000 in
theorem st_L_law2 {p : Program} {l : Launch} {e : Env} {s : State} {m : MethodId} {below : List Frame} {meth : Method} {c : Code} {D : va_G} {C : Nat → ClassId} {g : Nat → Nat} {A : Nat → Prop} {nm : String} {b : Nat} (Cx : ab_Cx l D C g R_law nm code 10 ret ab_T p s m #[Value.ref b] meth c A) (hl : l.stackTraces = false) (hlk : meth.locks = false) (hA : ∀ q, A q → s.heap.size ≤ q) : ∀ pc, ab_Sn (ab_W p l e room_1 s m #[Value.ref b] below meth c (lw_Z below #[Value.ref b] s) D C A 10) pc (tb_L_law2 g pc) :=
  ab_tn_ok (ab_tn_ok (ab_tn_ok (ab_tn_ok (ab_tn_ok (ab_tl_ok (sn_iconst Cx dL_law_170 (by decide))) (ab_tn_ok (ab_tl_ok (sn_istore Cx dL_law_171 (by decide))) (ab_tl_ok (sn_iload Cx dL_law_173)))) (ab_tn_ok (ab_tl_ok (sn_iconst Cx dL_law_175 (by decide))) (ab_tn_ok (ab_tl_ok (sn_icmp_ge Cx dL_law_176 (tgt := 313) (by decide))) (ab_tl_ok (sn_iconst Cx dL_law_179 (by decide)))))) (ab_tn_ok (ab_tn_ok (ab_tl_ok (sn_aload_n Cx dL_law_180 rfl)) (ab_tn_ok (ab_tl_ok (sn_iload_n Cx dL_law_181 rfl)) (ab_tl_ok (sn_iconst Cx dL_law_182 (by decide))))) (ab_tn_ok (ab_tl_ok (sn_callSN Cx (ct_L_pick hl) dL_law_183 wd_1_88 wd_1_89 wd_1_0 wd_1_90 (hd := by decide +kernel) (by decide) rfl rfl)) (ab_tn_ok (ab_tl_ok (sn_iadd Cx dL_law_186)) (ab_tl_ok (sn_istore Cx dL_law_187 (by decide))))))) (ab_tn_ok (ab_tn_ok (ab_tn_ok (ab_tl_ok (sn_iload_n Cx dL_law_189 rfl)) (ab_tn_ok (ab_tl_ok (sn_aload_n Cx dL_law_190 rfl)) (ab_tl_ok (sn_iload Cx dL_law_191)))) (ab_tn_ok (ab_tl_ok (sn_callSG Cx (ct_L_riddle hl) dL_law_193 wd_1_95 wd_1_96 wd_1_0 wd_1_97 (hd := by decide +kernel) (by decide) rfl rfl)) (ab_tn_ok (ab_tl_ok (sn_iload Cx dL_law_196)) (ab_tl_ok (sn_icmp_ne Cx dL_law_198 (tgt := 205) (by decide)))))) (ab_tn_ok (ab_tn_ok (ab_tl_ok (sn_iconst Cx dL_law_201 (by decide))) (ab_tn_ok (ab_tl_ok (sn_goto Cx dL_law_202 (tgt := 206) (by decide))) (ab_tl_ok (sn_iconst Cx dL_law_205 (by decide))))) (ab_tn_ok (ab_tl_ok (sn_iand Cx dL_law_206)) (ab_tn_ok (ab_tl_ok (sn_istore_n Cx dL_law_207 rfl (by decide))) (ab_tl_ok (sn_iconst Cx dL_law_208 (by decide)))))))) (ab_tn_ok (ab_tn_ok (ab_tn_ok (ab_tn_ok (ab_tl_ok (sn_istore Cx dL_law_209 (by decide))) (ab_tn_ok (ab_tl_ok (sn_iload Cx dL_law_211)) (ab_tl_ok (sn_iconst Cx dL_law_213 (by decide))))) (ab_tn_ok (ab_tl_ok (sn_aload_n Cx dL_law_214 rfl)) (ab_tn_ok (ab_tl_ok (sn_iload_n Cx dL_law_215 rfl)) (ab_tl_ok (sn_iconst Cx dL_law_216 (by decide)))))) (ab_tn_ok (ab_tn_ok (ab_tl_ok (sn_iadd Cx dL_law_217)) (ab_tn_ok (ab_tl_ok (sn_iconst Cx dL_law_218 (by decide))) (ab_tl_ok (sn_callSN Cx (ct_L_pick hl) dL_law_219 wd_1_88 wd_1_89 wd_1_0 wd_1_90 (hd := by decide +kernel) (by decide) rfl rfl)))) (ab_tn_ok (ab_tl_ok (sn_iadd Cx dL_law_222)) (ab_tn_ok (ab_tl_ok (sn_icmp_ge Cx dL_law_223 (tgt := 304) (by decide))) (ab_tl_ok (sn_iload_n Cx dL_law_226 rfl)))))) (ab_tn_ok (ab_tn_ok (ab_tn_ok (ab_tl_ok (sn_iconst Cx dL_law_227 (by decide))) (ab_tn_ok (ab_tl_ok (sn_iadd Cx dL_law_228)) (ab_tl_ok (sn_iconst Cx dL_law_229 (by decide))))) (ab_tn_ok (ab_tl_ok (sn_iload Cx dL_law_230)) (ab_tn_ok (ab_tl_ok (sn_imul Cx dL_law_232)) (ab_tl_ok (sn_iadd Cx dL_law_233))))) (ab_tn_ok (ab_tn_ok (ab_tl_ok (sn_istore Cx dL_law_234 (by decide))) (ab_tn_ok (ab_tl_ok (sn_iload_n Cx dL_law_236 rfl)) (ab_tl_ok (sn_aload_n Cx dL_law_237 rfl)))) (ab_tn_ok (ab_tl_ok (sn_iload Cx dL_law_238)) (ab_tn_ok (ab_tl_ok (sn_ldcS Cx dL_law_240 (j := 4) rfl rfl rfl)) (ab_tl_ok (sn_aload_n Cx dL_law_242 rfl)))))))
def tb_L_law3 (g : Nat → Nat) : Nat → ab_I := ab_tn 288 (ab_tn 266 (ab_tn 256 (ab_tn 250 (ab_tn 245 (ab_tl 243 (ab_iload 9 245)) (ab_tn 247 (ab_tl 245 (ab_push (.int 8) 247)) (ab_tl 247 (ab_callS 3 1 (wp_L_pick g) 0 0 1076544 5864974 ab_NX 250)))) (ab_tn 253 (ab_tl 250 (ab_callK g 2 1 (wp_J0_charAt_5068e g) 0 0 1076544 5864974 ab_NX 253)) (ab_tn 254 (ab_tl 253 (ab_aload 0 254)) (ab_tl 254 (ab_iload 9 256))))) (ab_tn 260 (ab_tn 257 (ab_tl 256 (ab_push (.int 1) 257)) (ab_tn 258 (ab_tl 257 (ab_bin (fun x y => x + y) 258)) (ab_tl 258 (ab_iload 7 260)))) (ab_tn 263 (ab_tl 260 (ab_callS 3 1 (wp_L_pick g) 0 0 1076544 5864974 ab_NX 263)) (ab_tn 264 (ab_tl 263 (ab_aload 0 264)) (ab_tl 264 (ab_iload 9 266)))))) (ab_tn 276 (ab_tn 270 (ab_tn 267 (ab_tl 266 (ab_push (.int 2) 267)) (ab_tn 268 (ab_tl 267 (ab_bin (fun x y => x + y) 268)) (ab_tl 268 (ab_iload 7 270)))) (ab_tn 273 (ab_tl 270 (ab_callS 3 1 (wp_L_pick g) 0 0 1076544 5864974 ab_NX 273)) (ab_tn 274 (ab_tl 273 (ab_aload 0 274)) (ab_tl 274 (ab_iload 9 276))))) (ab_tn 280 (ab_tn 277 (ab_tl 276 (ab_push (.int 3) 277)) (ab_tn 278 (ab_tl 277 (ab_bin (fun x y => x + y) 278)) (ab_tl 278 (ab_iload 7 280)))) (ab_tn 283 (ab_tl 280 (ab_callS 3 1 (wp_L_pick g) 0 0 1076544 5864974 ab_NX 283)) (ab_tn 286 (ab_tl 283 (ab_callS 6 1 (wp_L_clue g) 5 96 1076544 5864974 ab_NX 286)) (ab_tl 286 (ab_push (.int (-78)) 288))))))) (ab_tn 314 (ab_tn 298 (ab_tn 295 (ab_tn 291 (ab_tl 288 (ab_icmp (fun x y => x < y) 295 291)) (ab_tn 292 (ab_tl 291 (ab_push (.int 1) 292)) (ab_tl 292 (ab_goto 296)))) (ab_tn 296 (ab_tl 295 (ab_push (.int 0) 296)) (ab_tn 297 (ab_tl 296 (ab_bin (fun x y => x &&& y) 297)) (ab_tl 297 (ab_istore 3 298))))) (ab_tn 307 (ab_tn 301 (ab_tl 298 (ab_iinc 8 (1) 301)) (ab_tn 304 (ab_tl 301 (ab_goto 211)) (ab_tl 304 (ab_iinc 2 (32) 307)))) (ab_tn 310 (ab_tl 307 (ab_iinc 6 (1) 310)) (ab_tn 313 (ab_tl 310 (ab_goto 173)) (ab_tl 313 (ab_push (.int 0) 314)))))) (ab_tn 327 (ab_tn 320 (ab_tn 316 (ab_tl 314 (ab_istore 6 316)) (ab_tn 318 (ab_tl 316 (ab_iload 6 318)) (ab_tl 318 (ab_push (.int 26) 320)))) (ab_tn 323 (ab_tl 320 (ab_icmp (fun x y => y ≤ x) 429 323)) (ab_tn 324 (ab_tl 323 (ab_iload 3 324)) (ab_tl 324 (ab_if (fun x => x = 0) 429 327))))) (ab_tn 330 (ab_tn 328 (ab_tl 327 (ab_aload 1 328)) (ab_tn 329 (ab_tl 328 (ab_aload 0 329)) (ab_tl 329 (ab_iload 2 330)))) (ab_tn 331 (ab_tl 330 (ab_push (.int 5) 331)) (ab_tn 334 (ab_tl 331 (ab_callS 4 1 (wp_L_acts g) 45 329 1076544 5864974 ab_NX 334)) (ab_tl 334 (ab_if (fun x => x = 0) 355 337)))))))
set_option maxRecDepth 100000 in
set_option maxHeartbeats 4000000 in
theorem st_L_law3 {p : Program} {l : Launch} {e : Env} {s : State} {m : MethodId} {below : List Frame} {meth : Method} {c : Code} {D : va_G} {C : Nat → ClassId} {g : Nat → Nat} {A : Nat → Prop} {nm : String} {b : Nat} (Cx : ab_Cx l D C g R_law nm code 10 ret ab_T p s m #[Value.ref b] meth c A) (hl : l.stackTraces = false) (hlk : meth.locks = false) (hA : ∀ q, A q → s.heap.size ≤ q) : ∀ pc, ab_Sn (ab_W p l e room_1 s m #[Value.ref b] below meth c (lw_Z below #[Value.ref b] s) D C A 10) pc (tb_L_law3 g pc) :=
  ab_tn_ok (ab_tn_ok (ab_tn_ok (ab_tn_ok (ab_tn_ok (ab_tl_ok (sn_iload Cx dL_law_243)) (ab_tn_ok (ab_tl_ok (sn_bipush Cx dL_law_245 (by decide))) (ab_tl_ok (sn_callSN Cx (ct_L_pick hl) dL_law_247 wd_1_88 wd_1_89 wd_1_0 wd_1_90 (hd := by decide +kernel) (by decide) rfl rfl)))) (ab_tn_ok (ab_tl_ok (sn_callKN Cx (ct_J0_charAt_5068e hl) dL_law_250 wd_5_206 wd_5_207 wd_1_5 wd_5_209 wd_5_208 (hd := by decide +kernel) (by decide) rfl rfl)) (ab_tn_ok (ab_tl_ok (sn_aload_n Cx dL_law_253 rfl)) (ab_tl_ok (sn_iload Cx dL_law_254))))) (ab_tn_ok (ab_tn_ok (ab_tl_ok (sn_iconst Cx dL_law_256 (by decide))) (ab_tn_ok (ab_tl_ok (sn_iadd Cx dL_law_257)) (ab_tl_ok (sn_iload Cx dL_law_258)))) (ab_tn_ok (ab_tl_ok (sn_callSN Cx (ct_L_pick hl) dL_law_260 wd_1_88 wd_1_89 wd_1_0 wd_1_90 (hd := by decide +kernel) (by decide) rfl rfl)) (ab_tn_ok (ab_tl_ok (sn_aload_n Cx dL_law_263 rfl)) (ab_tl_ok (sn_iload Cx dL_law_264)))))) (ab_tn_ok (ab_tn_ok (ab_tn_ok (ab_tl_ok (sn_iconst Cx dL_law_266 (by decide))) (ab_tn_ok (ab_tl_ok (sn_iadd Cx dL_law_267)) (ab_tl_ok (sn_iload Cx dL_law_268)))) (ab_tn_ok (ab_tl_ok (sn_callSN Cx (ct_L_pick hl) dL_law_270 wd_1_88 wd_1_89 wd_1_0 wd_1_90 (hd := by decide +kernel) (by decide) rfl rfl)) (ab_tn_ok (ab_tl_ok (sn_aload_n Cx dL_law_273 rfl)) (ab_tl_ok (sn_iload Cx dL_law_274))))) (ab_tn_ok (ab_tn_ok (ab_tl_ok (sn_iconst Cx dL_law_276 (by decide))) (ab_tn_ok (ab_tl_ok (sn_iadd Cx dL_law_277)) (ab_tl_ok (sn_iload Cx dL_law_278)))) (ab_tn_ok (ab_tl_ok (sn_callSN Cx (ct_L_pick hl) dL_law_280 wd_1_88 wd_1_89 wd_1_0 wd_1_90 (hd := by decide +kernel) (by decide) rfl rfl)) (ab_tn_ok (ab_tl_ok (sn_callSG Cx (ct_L_clue hl) dL_law_283 wd_2_112 wd_2_113 wd_1_0 wd_2_114 (hd := by decide +kernel) (by decide) rfl rfl)) (ab_tl_ok (sn_bipush Cx dL_law_286 (by decide)))))))) (ab_tn_ok (ab_tn_ok (ab_tn_ok (ab_tn_ok (ab_tl_ok (sn_icmp_lt Cx dL_law_288 (tgt := 295) (by decide))) (ab_tn_ok (ab_tl_ok (sn_iconst Cx dL_law_291 (by decide))) (ab_tl_ok (sn_goto Cx dL_law_292 (tgt := 296) (by decide))))) (ab_tn_ok (ab_tl_ok (sn_iconst Cx dL_law_295 (by decide))) (ab_tn_ok (ab_tl_ok (sn_iand Cx dL_law_296)) (ab_tl_ok (sn_istore_n Cx dL_law_297 rfl (by decide)))))) (ab_tn_ok (ab_tn_ok (ab_tl_ok (sn_iinc Cx dL_law_298 (by decide) (by decide))) (ab_tn_ok (ab_tl_ok (sn_goto Cx dL_law_301 (tgt := 211) (by decide))) (ab_tl_ok (sn_iinc Cx dL_law_304 (by decide) (by decide))))) (ab_tn_ok (ab_tl_ok (sn_iinc Cx dL_law_307 (by decide) (by decide))) (ab_tn_ok (ab_tl_ok (sn_goto Cx dL_law_310 (tgt := 173) (by decide))) (ab_tl_ok (sn_iconst Cx dL_law_313 (by decide))))))) (ab_tn_ok (ab_tn_ok (ab_tn_ok (ab_tl_ok (sn_istore Cx dL_law_314 (by decide))) (ab_tn_ok (ab_tl_ok (sn_iload Cx dL_law_316)) (ab_tl_ok (sn_bipush Cx dL_law_318 (by decide))))) (ab_tn_ok (ab_tl_ok (sn_icmp_ge Cx dL_law_320 (tgt := 429) (by decide))) (ab_tn_ok (ab_tl_ok (sn_iload_n Cx dL_law_323 rfl)) (ab_tl_ok (sn_if_eq Cx dL_law_324 (tgt := 429) (by decide)))))) (ab_tn_ok (ab_tn_ok (ab_tl_ok (sn_aload_n Cx dL_law_327 rfl)) (ab_tn_ok (ab_tl_ok (sn_aload_n Cx dL_law_328 rfl)) (ab_tl_ok (sn_iload_n Cx dL_law_329 rfl)))) (ab_tn_ok (ab_tl_ok (sn_iconst Cx dL_law_330 (by decide))) (ab_tn_ok (ab_tl_ok (sn_callSN Cx (ct_L_acts hl) dL_law_331 wd_4_5 wd_4_6 wd_1_0 wd_4_7 (hd := by decide +kernel) (by decide) rfl rfl)) (ab_tl_ok (sn_if_eq Cx dL_law_334 (tgt := 355) (by decide))))))))
def tb_L_law4 (g : Nat → Nat) : Nat → ab_I := ab_tn 383 (ab_tn 360 (ab_tn 351 (ab_tn 344 (ab_tn 338 (ab_tl 337 (ab_aload 1 338)) (ab_tn 341 (ab_tl 338 (ab_callS 1 1 (wp_L_areRiddles g) 3372 20057 1076544 5864974 ab_NX 341)) (ab_tl 341 (ab_if (fun x => x = 0) 355 344)))) (ab_tn 345 (ab_tl 344 (ab_aload 1 345)) (ab_tn 348 (ab_tl 345 (ab_callS 1 1 (wp_L_areIssues g) 92 552 1076544 5864974 ab_NX 348)) (ab_tl 348 (ab_if (fun x => x = 0) 355 351))))) (ab_tn 356 (ab_tn 352 (ab_tl 351 (ab_push (.int 1) 352)) (ab_tn 355 (ab_tl 352 (ab_goto 356)) (ab_tl 355 (ab_push (.int 0) 356)))) (ab_tn 357 (ab_tl 356 (ab_istore 3 357)) (ab_tn 359 (ab_tl 357 (ab_lload 4 359)) (ab_tl 359 (ab_aload 0 360)))))) (ab_tn 374 (ab_tn 366 (ab_tn 361 (ab_tl 360 (ab_iload 2 361)) (ab_tn 363 (ab_tl 361 (ab_push (.int 12) 363)) (ab_tl 363 (ab_callS 3 1 (wp_L_pick g) 0 0 1076544 5864974 ab_NX 366)))) (ab_tn 368 (ab_tl 366 (ab_push (.int 9) 368)) (ab_tn 371 (ab_tl 368 (ab_icmp (fun x y => x = y) 371 377)) (ab_tl 371 (ab_push (.long 10) 374))))) (ab_tn 379 (ab_tn 377 (ab_tl 374 (ab_goto 378)) (ab_tn 378 (ab_tl 377 (ab_push (.long 0) 378)) (ab_tl 378 (ab_binL (fun x y => x + y) 379)))) (ab_tn 381 (ab_tl 379 (ab_lstore 4 381)) (ab_tn 382 (ab_tl 381 (ab_iload 3 382)) (ab_tl 382 (ab_aload 1 383))))))) (ab_tn 401 (ab_tn 393 (ab_tn 388 (ab_tn 386 (ab_tl 383 (ab_callV 11 1 3 (wp_X8_press g) 0 0 1076544 5864974 ab_NX 386)) (ab_tn 387 (ab_tl 386 (ab_aload 1 387)) (ab_tl 387 (ab_push (.int 0) 388)))) (ab_tn 391 (ab_tl 388 (ab_callS 2 1 (wp_L_credits g) 1 6 1076544 5864974 ab_NX 391)) (ab_tn 392 (ab_tl 391 (ab_i2l 392)) (ab_tl 392 (ab_binL (fun x y => x + y) 393))))) (ab_tn 398 (ab_tn 394 (ab_tl 393 (ab_aload 1 394)) (ab_tn 395 (ab_tl 394 (ab_push (.int 1) 395)) (ab_tl 395 (ab_callS 2 1 (wp_L_credits g) 1 6 1076544 5864974 ab_NX 398)))) (ab_tn 399 (ab_tl 398 (ab_i2l 399)) (ab_tn 400 (ab_tl 399 (ab_binL (fun x y => x + y) 400)) (ab_tl 400 (ab_aload 1 401)))))) (ab_tn 410 (ab_tn 406 (ab_tn 402 (ab_tl 401 (ab_push (.int 2) 402)) (ab_tn 405 (ab_tl 402 (ab_callS 2 1 (wp_L_credits g) 1 6 1076544 5864974 ab_NX 405)) (ab_tl 405 (ab_i2l 406)))) (ab_tn 407 (ab_tl 406 (ab_binL (fun x y => x + y) 407)) (ab_tn 409 (ab_tl 407 (ab_lload 4 409)) (ab_tl 409 (ab_lcmp 410))))) (ab_tn 417 (ab_tn 413 (ab_tl 410 (ab_if (fun x => x = 0) 413 417)) (ab_tn 414 (ab_tl 413 (ab_push (.int 1) 414)) (ab_tl 414 (ab_goto 418)))) (ab_tn 418 (ab_tl 417 (ab_push (.int 0) 418)) (ab_tn 419 (ab_tl 418 (ab_bin (fun x y => x &&& y) 419)) (ab_tl 419 (ab_istore 3 420)))))))
set_option maxRecDepth 100000 in
set_option maxHeartbeats 4000000 in
theorem st_L_law4 {p : Program} {l : Launch} {e : Env} {s : State} {m : MethodId} {below : List Frame} {meth : Method} {c : Code} {D : va_G} {C : Nat → ClassId} {g : Nat → Nat} {A : Nat → Prop} {nm : String} {b : Nat} (Cx : ab_Cx l D C g R_law nm code 10 ret ab_T p s m #[Value.ref b] meth c A) (hl : l.stackTraces = false) (hlk : meth.locks = false) (hA : ∀ q, A q → s.heap.size ≤ q) : ∀ pc, ab_Sn (ab_W p l e room_1 s m #[Value.ref b] below meth c (lw_Z below #[Value.ref b] s) D C A 10) pc (tb_L_law4 g pc) :=
  ab_tn_ok (ab_tn_ok (ab_tn_ok (ab_tn_ok (ab_tn_ok (ab_tl_ok (sn_aload_n Cx dL_law_337 rfl)) (ab_tn_ok (ab_tl_ok (sn_callSN Cx (ct_L_areRiddles hl) dL_law_338 wd_5_106 wd_5_107 wd_1_0 wd_5_108 (hd := by decide +kernel) (by decide) rfl rfl)) (ab_tl_ok (sn_if_eq Cx dL_law_341 (tgt := 355) (by decide))))) (ab_tn_ok (ab_tl_ok (sn_aload_n Cx dL_law_344 rfl)) (ab_tn_ok (ab_tl_ok (sn_callSN Cx (ct_L_areIssues hl) dL_law_345 wd_5_191 wd_5_192 wd_1_0 wd_5_193 (hd := by decide +kernel) (by decide) rfl rfl)) (ab_tl_ok (sn_if_eq Cx dL_law_348 (tgt := 355) (by decide)))))) (ab_tn_ok (ab_tn_ok (ab_tl_ok (sn_iconst Cx dL_law_351 (by decide))) (ab_tn_ok (ab_tl_ok (sn_goto Cx dL_law_352 (tgt := 356) (by decide))) (ab_tl_ok (sn_iconst Cx dL_law_355 (by decide))))) (ab_tn_ok (ab_tl_ok (sn_istore_n Cx dL_law_356 rfl (by decide))) (ab_tn_ok (ab_tl_ok (sn_lload Cx dL_law_357)) (ab_tl_ok (sn_aload_n Cx dL_law_359 rfl)))))) (ab_tn_ok (ab_tn_ok (ab_tn_ok (ab_tl_ok (sn_iload_n Cx dL_law_360 rfl)) (ab_tn_ok (ab_tl_ok (sn_bipush Cx dL_law_361 (by decide))) (ab_tl_ok (sn_callSN Cx (ct_L_pick hl) dL_law_363 wd_1_88 wd_1_89 wd_1_0 wd_1_90 (hd := by decide +kernel) (by decide) rfl rfl)))) (ab_tn_ok (ab_tl_ok (sn_bipush Cx dL_law_366 (by decide))) (ab_tn_ok (ab_tl_ok (sn_icmp_ne Cx dL_law_368 (tgt := 377) (by decide))) (ab_tl_ok (sn_ldc2 Cx dL_law_371 wd_5_228))))) (ab_tn_ok (ab_tn_ok (ab_tl_ok (sn_goto Cx dL_law_374 (tgt := 378) (by decide))) (ab_tn_ok (ab_tl_ok (sn_lconst Cx dL_law_377 (by decide))) (ab_tl_ok (sn_ladd Cx dL_law_378)))) (ab_tn_ok (ab_tl_ok (sn_lstore Cx dL_law_379 (by decide))) (ab_tn_ok (ab_tl_ok (sn_iload_n Cx dL_law_381 rfl)) (ab_tl_ok (sn_aload_n Cx dL_law_382 rfl))))))) (ab_tn_ok (ab_tn_ok (ab_tn_ok (ab_tn_ok (ab_tl_ok (sn_callVN Cx (Cn := RX8) (T := TX8) (N := 5) rfl (ct_X8_press hl) dL_law_383 wd_1_84 wd_1_85 wd_1_1 wd_1_87 wd_1_86 (hd := by decide +kernel) (by decide) rfl rfl)) (ab_tn_ok (ab_tl_ok (sn_aload_n Cx dL_law_386 rfl)) (ab_tl_ok (sn_iconst Cx dL_law_387 (by decide))))) (ab_tn_ok (ab_tl_ok (sn_callSG Cx (ct_L_credits hl) dL_law_388 wd_3_238 wd_3_239 wd_1_0 wd_4_0 (hd := by decide +kernel) (by decide) rfl rfl)) (ab_tn_ok (ab_tl_ok (sn_i2l Cx dL_law_391)) (ab_tl_ok (sn_ladd Cx dL_law_392))))) (ab_tn_ok (ab_tn_ok (ab_tl_ok (sn_aload_n Cx dL_law_393 rfl)) (ab_tn_ok (ab_tl_ok (sn_iconst Cx dL_law_394 (by decide))) (ab_tl_ok (sn_callSG Cx (ct_L_credits hl) dL_law_395 wd_3_238 wd_3_239 wd_1_0 wd_4_0 (hd := by decide +kernel) (by decide) rfl rfl)))) (ab_tn_ok (ab_tl_ok (sn_i2l Cx dL_law_398)) (ab_tn_ok (ab_tl_ok (sn_ladd Cx dL_law_399)) (ab_tl_ok (sn_aload_n Cx dL_law_400 rfl)))))) (ab_tn_ok (ab_tn_ok (ab_tn_ok (ab_tl_ok (sn_iconst Cx dL_law_401 (by decide))) (ab_tn_ok (ab_tl_ok (sn_callSG Cx (ct_L_credits hl) dL_law_402 wd_3_238 wd_3_239 wd_1_0 wd_4_0 (hd := by decide +kernel) (by decide) rfl rfl)) (ab_tl_ok (sn_i2l Cx dL_law_405)))) (ab_tn_ok (ab_tl_ok (sn_ladd Cx dL_law_406)) (ab_tn_ok (ab_tl_ok (sn_lload Cx dL_law_407)) (ab_tl_ok (sn_lcmp Cx dL_law_409))))) (ab_tn_ok (ab_tn_ok (ab_tl_ok (sn_if_ne Cx dL_law_410 (tgt := 417) (by decide))) (ab_tn_ok (ab_tl_ok (sn_iconst Cx dL_law_413 (by decide))) (ab_tl_ok (sn_goto Cx dL_law_414 (tgt := 418) (by decide))))) (ab_tn_ok (ab_tl_ok (sn_iconst Cx dL_law_417 (by decide))) (ab_tn_ok (ab_tl_ok (sn_iand Cx dL_law_418)) (ab_tl_ok (sn_istore_n Cx dL_law_419 rfl (by decide))))))))
def tb_L_law5 (g : Nat → Nat) : Nat → ab_I := ab_tn 434 (ab_tn 429 (ab_tn 423 (ab_tl 420 (ab_iinc 2 (4) 423)) (ab_tn 426 (ab_tl 423 (ab_iinc 6 (1) 426)) (ab_tl 426 (ab_goto 316)))) (ab_tn 430 (ab_tl 429 (ab_iload 3 430)) (ab_tn 433 (ab_tl 430 (ab_if (fun x => x = 0) 444 433)) (ab_tl 433 (ab_aload 1 434))))) (ab_tn 441 (ab_tn 437 (ab_tl 434 (ab_callS 1 1 (wp_L_isThrown g) 54 583 1076544 5864974 ab_NX 437)) (ab_tn 440 (ab_tl 437 (ab_if (fun x => x = 0) 444 440)) (ab_tl 440 (ab_push (.int 1) 441)))) (ab_tn 444 (ab_tl 441 (ab_goto 445)) (ab_tn 445 (ab_tl 444 (ab_push (.int 0) 445)) (ab_tl 445 (ab_end 1076544 5864974)))))
set_option maxRecDepth 100000 in
set_option maxHeartbeats 4000000 in
theorem st_L_law5 {p : Program} {l : Launch} {e : Env} {s : State} {m : MethodId} {below : List Frame} {meth : Method} {c : Code} {D : va_G} {C : Nat → ClassId} {g : Nat → Nat} {A : Nat → Prop} {nm : String} {b : Nat} (Cx : ab_Cx l D C g R_law nm code 10 ret ab_T p s m #[Value.ref b] meth c A) (hl : l.stackTraces = false) (hlk : meth.locks = false) (hA : ∀ q, A q → s.heap.size ≤ q) : ∀ pc, ab_Sn (ab_W p l e room_1 s m #[Value.ref b] below meth c (lw_Z below #[Value.ref b] s) D C A 10) pc (tb_L_law5 g pc) :=
  ab_tn_ok (ab_tn_ok (ab_tn_ok (ab_tl_ok (sn_iinc Cx dL_law_420 (by decide) (by decide))) (ab_tn_ok (ab_tl_ok (sn_iinc Cx dL_law_423 (by decide) (by decide))) (ab_tl_ok (sn_goto Cx dL_law_426 (tgt := 316) (by decide))))) (ab_tn_ok (ab_tl_ok (sn_iload_n Cx dL_law_429 rfl)) (ab_tn_ok (ab_tl_ok (sn_if_eq Cx dL_law_430 (tgt := 444) (by decide))) (ab_tl_ok (sn_aload_n Cx dL_law_433 rfl))))) (ab_tn_ok (ab_tn_ok (ab_tl_ok (sn_callSN Cx (ct_L_isThrown hl) dL_law_434 wd_5_194 wd_5_195 wd_1_0 wd_5_196 (hd := by decide +kernel) (by decide) rfl rfl)) (ab_tn_ok (ab_tl_ok (sn_if_eq Cx dL_law_437 (tgt := 444) (by decide))) (ab_tl_ok (sn_iconst Cx dL_law_440 (by decide))))) (ab_tn_ok (ab_tl_ok (sn_goto Cx dL_law_441 (tgt := 445) (by decide))) (ab_tn_ok (ab_tl_ok (sn_iconst Cx dL_law_444 (by decide))) (ab_tl_ok (sn_end Cx hlk hA dL_law_445)))))
def tb_L_law (g : Nat → Nat) (R2 : ab_R) (XP : ab_XP) : Nat → ab_I := ab_tn 243 (ab_tn 77 (tb_L_law0 g) (ab_tn 170 (tb_L_law1 g) (tb_L_law2 g))) (ab_tn 337 (tb_L_law3 g) (ab_tn 420 (tb_L_law4 g) (tb_L_law5 g)))
theorem st_L_law {p : Program} {l : Launch} {e : Env} {s : State} {m : MethodId} {below : List Frame} {meth : Method} {c : Code} {D : va_G} {C : Nat → ClassId} {g : Nat → Nat} {A : Nat → Prop} {nm : String} {b : Nat} (Cx : ab_Cx l D C g R_law nm code 10 ret ab_T p s m #[Value.ref b] meth c A) (hl : l.stackTraces = false) (hlk : meth.locks = false) (hA : ∀ q, A q → s.heap.size ≤ q) (R2 : ab_R) (XP : ab_XP) : ∀ pc, ab_Sn (ab_W p l e room_1 s m #[Value.ref b] below meth c (lw_Z below #[Value.ref b] s) D C A 10) pc (tb_L_law g R2 XP pc) :=
  ab_tn_ok (ab_tn_ok (st_L_law0 Cx hl hlk hA) (ab_tn_ok (st_L_law1 Cx hl hlk hA) (st_L_law2 Cx hl hlk hA))) (ab_tn_ok (st_L_law3 Cx hl hlk hA) (ab_tn_ok (st_L_law4 Cx hl hlk hA) (st_L_law5 Cx hl hlk hA)))
