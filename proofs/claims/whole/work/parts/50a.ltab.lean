/-! the law: decoded, table -/
theorem dL_law_0 : decode cL_law 0 = .ok (.new 8, 3) := by decide +kernel
theorem dL_law_3 : decode cL_law 3 = .ok (.dup, 1) := by decide +kernel
theorem dL_law_4 : decode cL_law 4 = .ok (.invokespecial 115, 3) := by decide +kernel
theorem dL_law_7 : decode cL_law 7 = .ok (.astore_n 1, 1) := by decide +kernel
theorem dL_law_8 : decode cL_law 8 = .ok (.new 116, 3) := by decide +kernel
theorem dL_law_11 : decode cL_law 11 = .ok (.dup, 1) := by decide +kernel
theorem dL_law_12 : decode cL_law 12 = .ok (.invokespecial 118, 3) := by decide +kernel
theorem dL_law_15 : decode cL_law 15 = .ok (.astore_n 2, 1) := by decide +kernel
theorem dL_law_16 : decode cL_law 16 = .ok (.iconst 1, 1) := by decide +kernel
theorem dL_law_17 : decode cL_law 17 = .ok (.newarray .long, 2) := by decide +kernel
theorem dL_law_19 : decode cL_law 19 = .ok (.astore_n 3, 1) := by decide +kernel
theorem dL_law_20 : decode cL_law 20 = .ok (.iconst 1, 1) := by decide +kernel
theorem dL_law_21 : decode cL_law 21 = .ok (.newarray .double, 2) := by decide +kernel
theorem dL_law_23 : decode cL_law 23 = .ok (.astore 4, 2) := by decide +kernel
theorem dL_law_25 : decode cL_law 25 = .ok (.iconst 0, 1) := by decide +kernel
theorem dL_law_26 : decode cL_law 26 = .ok (.istore 5, 2) := by decide +kernel
theorem dL_law_28 : decode cL_law 28 = .ok (.iload 5, 2) := by decide +kernel
theorem dL_law_30 : decode cL_law 30 = .ok (.aload_n 0, 1) := by decide +kernel
theorem dL_law_31 : decode cL_law 31 = .ok (.arraylength, 1) := by decide +kernel
theorem dL_law_32 : decode cL_law 32 = .ok (.bipush 6, 2) := by decide +kernel
theorem dL_law_34 : decode cL_law 34 = .ok (.isub, 1) := by decide +kernel
theorem dL_law_35 : decode cL_law 35 = .ok (.if_icmp .gt 2000, 3) := by decide +kernel
theorem dL_law_38 : decode cL_law 38 = .ok (.aload_n 0, 1) := by decide +kernel
theorem dL_law_39 : decode cL_law 39 = .ok (.iload 5, 2) := by decide +kernel
theorem dL_law_41 : decode cL_law 41 = .ok (.iaload, 1) := by decide +kernel
theorem dL_law_42 : decode cL_law 42 = .ok (.bipush 31, 2) := by decide +kernel
theorem dL_law_44 : decode cL_law 44 = .ok (.iand, 1) := by decide +kernel
theorem dL_law_45 : decode cL_law 45 = .ok (.tableswitch 1984 0 29 #[135, 191, 297, 353, 421, 477, 533, 601, 669, 737, 812, 868, 980, 1043, 1099, 1155, 1199, 1267, 1335, 1391, 1447, 1491, 1559, 1627, 1695, 1751, 1826, 1840, 1853, 1919], 135) := by decide +kernel
theorem dL_law_180 : decode cL_law 180 = .ok (.aload_n 1, 1) := by decide +kernel
theorem dL_law_181 : decode cL_law 181 = .ok (.aload_n 0, 1) := by decide +kernel
theorem dL_law_182 : decode cL_law 182 = .ok (.iload 5, 2) := by decide +kernel
theorem dL_law_184 : decode cL_law 184 = .ok (.iconst 1, 1) := by decide +kernel
theorem dL_law_185 : decode cL_law 185 = .ok (.iadd, 1) := by decide +kernel
theorem dL_law_186 : decode cL_law 186 = .ok (.iaload, 1) := by decide +kernel
theorem dL_law_187 : decode cL_law 187 = .ok (.aload_n 3, 1) := by decide +kernel
theorem dL_law_188 : decode cL_law 188 = .ok (.invokestatic 119, 3) := by decide +kernel
theorem dL_law_191 : decode cL_law 191 = .ok (.istore 6, 2) := by decide +kernel
theorem dL_law_193 : decode cL_law 193 = .ok (.aload_n 2, 1) := by decide +kernel
theorem dL_law_194 : decode cL_law 194 = .ok (.aload_n 0, 1) := by decide +kernel
theorem dL_law_195 : decode cL_law 195 = .ok (.iload 5, 2) := by decide +kernel
theorem dL_law_197 : decode cL_law 197 = .ok (.iconst 1, 1) := by decide +kernel
theorem dL_law_198 : decode cL_law 198 = .ok (.iadd, 1) := by decide +kernel
theorem dL_law_199 : decode cL_law 199 = .ok (.iaload, 1) := by decide +kernel
theorem dL_law_200 : decode cL_law 200 = .ok (.invokevirtual 124, 3) := by decide +kernel
theorem dL_law_203 : decode cL_law 203 = .ok (.istore 7, 2) := by decide +kernel
theorem dL_law_205 : decode cL_law 205 = .ok (.aload_n 2, 1) := by decide +kernel
theorem dL_law_206 : decode cL_law 206 = .ok (.invokevirtual 125, 3) := by decide +kernel
theorem dL_law_209 : decode cL_law 209 = .ok (.iload 6, 2) := by decide +kernel
theorem dL_law_211 : decode cL_law 211 = .ok (.if_icmp .eq 5, 3) := by decide +kernel
theorem dL_law_214 : decode cL_law 214 = .ok (.iconst 0, 1) := by decide +kernel
theorem dL_law_215 : decode cL_law 215 = .ok (.ireturn, 1) := by decide +kernel
theorem dL_law_216 : decode cL_law 216 = .ok (.iload 6, 2) := by decide +kernel
theorem dL_law_218 : decode cL_law 218 = .ok (.ifCond .ne 15, 3) := by decide +kernel
theorem dL_law_221 : decode cL_law 221 = .ok (.aload_n 3, 1) := by decide +kernel
theorem dL_law_222 : decode cL_law 222 = .ok (.iconst 0, 1) := by decide +kernel
theorem dL_law_223 : decode cL_law 223 = .ok (.laload, 1) := by decide +kernel
theorem dL_law_224 : decode cL_law 224 = .ok (.iload 7, 2) := by decide +kernel
theorem dL_law_226 : decode cL_law 226 = .ok (.i2l, 1) := by decide +kernel
theorem dL_law_227 : decode cL_law 227 = .ok (.lcmp, 1) := by decide +kernel
theorem dL_law_228 : decode cL_law 228 = .ok (.ifCond .eq 5, 3) := by decide +kernel
theorem dL_law_231 : decode cL_law 231 = .ok (.iconst 0, 1) := by decide +kernel
theorem dL_law_232 : decode cL_law 232 = .ok (.ireturn, 1) := by decide +kernel
theorem dL_law_233 : decode cL_law 233 = .ok (.goto 1796, 3) := by decide +kernel
theorem dL_law_236 : decode cL_law 236 = .ok (.aload_n 1, 1) := by decide +kernel
theorem dL_law_237 : decode cL_law 237 = .ok (.aload_n 0, 1) := by decide +kernel
theorem dL_law_238 : decode cL_law 238 = .ok (.iload 5, 2) := by decide +kernel
theorem dL_law_240 : decode cL_law 240 = .ok (.iconst 1, 1) := by decide +kernel
theorem dL_law_241 : decode cL_law 241 = .ok (.iadd, 1) := by decide +kernel
theorem dL_law_242 : decode cL_law 242 = .ok (.iaload, 1) := by decide +kernel
theorem dL_law_243 : decode cL_law 243 = .ok (.aload_n 0, 1) := by decide +kernel
theorem dL_law_244 : decode cL_law 244 = .ok (.iload 5, 2) := by decide +kernel
theorem dL_law_246 : decode cL_law 246 = .ok (.iconst 2, 1) := by decide +kernel
theorem dL_law_247 : decode cL_law 247 = .ok (.iadd, 1) := by decide +kernel
theorem dL_law_248 : decode cL_law 248 = .ok (.iaload, 1) := by decide +kernel
theorem dL_law_249 : decode cL_law 249 = .ok (.i2c, 1) := by decide +kernel
theorem dL_law_250 : decode cL_law 250 = .ok (.aload_n 0, 1) := by decide +kernel
theorem dL_law_251 : decode cL_law 251 = .ok (.iload 5, 2) := by decide +kernel
theorem dL_law_253 : decode cL_law 253 = .ok (.iconst 3, 1) := by decide +kernel
theorem dL_law_254 : decode cL_law 254 = .ok (.iadd, 1) := by decide +kernel
theorem dL_law_255 : decode cL_law 255 = .ok (.iaload, 1) := by decide +kernel
theorem dL_law_256 : decode cL_law 256 = .ok (.aload_n 0, 1) := by decide +kernel
theorem dL_law_257 : decode cL_law 257 = .ok (.iload 5, 2) := by decide +kernel
theorem dL_law_259 : decode cL_law 259 = .ok (.iconst 4, 1) := by decide +kernel
theorem dL_law_260 : decode cL_law 260 = .ok (.iadd, 1) := by decide +kernel
theorem dL_law_261 : decode cL_law 261 = .ok (.iaload, 1) := by decide +kernel
theorem dL_law_262 : decode cL_law 262 = .ok (.aload_n 0, 1) := by decide +kernel
theorem dL_law_263 : decode cL_law 263 = .ok (.iload 5, 2) := by decide +kernel
theorem dL_law_265 : decode cL_law 265 = .ok (.iconst 5, 1) := by decide +kernel
theorem dL_law_266 : decode cL_law 266 = .ok (.iadd, 1) := by decide +kernel
theorem dL_law_267 : decode cL_law 267 = .ok (.iaload, 1) := by decide +kernel
theorem dL_law_268 : decode cL_law 268 = .ok (.aload_n 3, 1) := by decide +kernel
theorem dL_law_269 : decode cL_law 269 = .ok (.invokestatic 128, 3) := by decide +kernel
theorem dL_law_272 : decode cL_law 272 = .ok (.istore 6, 2) := by decide +kernel
theorem dL_law_274 : decode cL_law 274 = .ok (.aload_n 2, 1) := by decide +kernel
theorem dL_law_275 : decode cL_law 275 = .ok (.aload_n 0, 1) := by decide +kernel
theorem dL_law_276 : decode cL_law 276 = .ok (.iload 5, 2) := by decide +kernel
theorem dL_law_278 : decode cL_law 278 = .ok (.iconst 1, 1) := by decide +kernel
theorem dL_law_279 : decode cL_law 279 = .ok (.iadd, 1) := by decide +kernel
theorem dL_law_280 : decode cL_law 280 = .ok (.iaload, 1) := by decide +kernel
theorem dL_law_281 : decode cL_law 281 = .ok (.aload_n 0, 1) := by decide +kernel
theorem dL_law_282 : decode cL_law 282 = .ok (.iload 5, 2) := by decide +kernel
theorem dL_law_284 : decode cL_law 284 = .ok (.iconst 2, 1) := by decide +kernel
theorem dL_law_285 : decode cL_law 285 = .ok (.iadd, 1) := by decide +kernel
theorem dL_law_286 : decode cL_law 286 = .ok (.iaload, 1) := by decide +kernel
theorem dL_law_287 : decode cL_law 287 = .ok (.i2c, 1) := by decide +kernel
theorem dL_law_288 : decode cL_law 288 = .ok (.aload_n 0, 1) := by decide +kernel
theorem dL_law_289 : decode cL_law 289 = .ok (.iload 5, 2) := by decide +kernel
theorem dL_law_291 : decode cL_law 291 = .ok (.iconst 3, 1) := by decide +kernel
theorem dL_law_292 : decode cL_law 292 = .ok (.iadd, 1) := by decide +kernel
theorem dL_law_293 : decode cL_law 293 = .ok (.iaload, 1) := by decide +kernel
theorem dL_law_294 : decode cL_law 294 = .ok (.aload_n 0, 1) := by decide +kernel
theorem dL_law_295 : decode cL_law 295 = .ok (.iload 5, 2) := by decide +kernel
theorem dL_law_297 : decode cL_law 297 = .ok (.iconst 4, 1) := by decide +kernel
theorem dL_law_298 : decode cL_law 298 = .ok (.iadd, 1) := by decide +kernel
theorem dL_law_299 : decode cL_law 299 = .ok (.iaload, 1) := by decide +kernel
theorem dL_law_300 : decode cL_law 300 = .ok (.aload_n 0, 1) := by decide +kernel
theorem dL_law_301 : decode cL_law 301 = .ok (.iload 5, 2) := by decide +kernel
theorem dL_law_303 : decode cL_law 303 = .ok (.iconst 5, 1) := by decide +kernel
theorem dL_law_304 : decode cL_law 304 = .ok (.iadd, 1) := by decide +kernel
theorem dL_law_305 : decode cL_law 305 = .ok (.iaload, 1) := by decide +kernel
theorem dL_law_306 : decode cL_law 306 = .ok (.invokevirtual 131, 3) := by decide +kernel
theorem dL_law_309 : decode cL_law 309 = .ok (.istore 7, 2) := by decide +kernel
theorem dL_law_311 : decode cL_law 311 = .ok (.aload_n 2, 1) := by decide +kernel
theorem dL_law_312 : decode cL_law 312 = .ok (.invokevirtual 125, 3) := by decide +kernel
theorem dL_law_315 : decode cL_law 315 = .ok (.iload 6, 2) := by decide +kernel
theorem dL_law_317 : decode cL_law 317 = .ok (.if_icmp .eq 5, 3) := by decide +kernel
theorem dL_law_320 : decode cL_law 320 = .ok (.iconst 0, 1) := by decide +kernel
theorem dL_law_321 : decode cL_law 321 = .ok (.ireturn, 1) := by decide +kernel
theorem dL_law_322 : decode cL_law 322 = .ok (.iload 6, 2) := by decide +kernel
theorem dL_law_324 : decode cL_law 324 = .ok (.ifCond .ne 15, 3) := by decide +kernel
theorem dL_law_327 : decode cL_law 327 = .ok (.aload_n 3, 1) := by decide +kernel
theorem dL_law_328 : decode cL_law 328 = .ok (.iconst 0, 1) := by decide +kernel
theorem dL_law_329 : decode cL_law 329 = .ok (.laload, 1) := by decide +kernel
theorem dL_law_330 : decode cL_law 330 = .ok (.iload 7, 2) := by decide +kernel
theorem dL_law_332 : decode cL_law 332 = .ok (.i2l, 1) := by decide +kernel
theorem dL_law_333 : decode cL_law 333 = .ok (.lcmp, 1) := by decide +kernel
theorem dL_law_334 : decode cL_law 334 = .ok (.ifCond .eq 5, 3) := by decide +kernel
theorem dL_law_337 : decode cL_law 337 = .ok (.iconst 0, 1) := by decide +kernel
theorem dL_law_338 : decode cL_law 338 = .ok (.ireturn, 1) := by decide +kernel
theorem dL_law_339 : decode cL_law 339 = .ok (.goto 1690, 3) := by decide +kernel
theorem dL_law_342 : decode cL_law 342 = .ok (.aload_n 1, 1) := by decide +kernel
theorem dL_law_343 : decode cL_law 343 = .ok (.aload_n 0, 1) := by decide +kernel
theorem dL_law_344 : decode cL_law 344 = .ok (.iload 5, 2) := by decide +kernel
theorem dL_law_346 : decode cL_law 346 = .ok (.iconst 1, 1) := by decide +kernel
theorem dL_law_347 : decode cL_law 347 = .ok (.iadd, 1) := by decide +kernel
theorem dL_law_348 : decode cL_law 348 = .ok (.iaload, 1) := by decide +kernel
theorem dL_law_349 : decode cL_law 349 = .ok (.aload_n 3, 1) := by decide +kernel
theorem dL_law_350 : decode cL_law 350 = .ok (.invokestatic 132, 3) := by decide +kernel
theorem dL_law_353 : decode cL_law 353 = .ok (.istore 6, 2) := by decide +kernel
theorem dL_law_355 : decode cL_law 355 = .ok (.aload_n 2, 1) := by decide +kernel
theorem dL_law_356 : decode cL_law 356 = .ok (.aload_n 0, 1) := by decide +kernel
theorem dL_law_357 : decode cL_law 357 = .ok (.iload 5, 2) := by decide +kernel
theorem dL_law_359 : decode cL_law 359 = .ok (.iconst 1, 1) := by decide +kernel
theorem dL_law_360 : decode cL_law 360 = .ok (.iadd, 1) := by decide +kernel
theorem dL_law_361 : decode cL_law 361 = .ok (.iaload, 1) := by decide +kernel
theorem dL_law_362 : decode cL_law 362 = .ok (.invokevirtual 134, 3) := by decide +kernel
theorem dL_law_365 : decode cL_law 365 = .ok (.istore 7, 2) := by decide +kernel
theorem dL_law_367 : decode cL_law 367 = .ok (.aload_n 2, 1) := by decide +kernel
theorem dL_law_368 : decode cL_law 368 = .ok (.invokevirtual 125, 3) := by decide +kernel
theorem dL_law_371 : decode cL_law 371 = .ok (.iload 6, 2) := by decide +kernel
theorem dL_law_373 : decode cL_law 373 = .ok (.if_icmp .eq 5, 3) := by decide +kernel
theorem dL_law_376 : decode cL_law 376 = .ok (.iconst 0, 1) := by decide +kernel
theorem dL_law_377 : decode cL_law 377 = .ok (.ireturn, 1) := by decide +kernel
theorem dL_law_378 : decode cL_law 378 = .ok (.iload 6, 2) := by decide +kernel
theorem dL_law_380 : decode cL_law 380 = .ok (.ifCond .ne 15, 3) := by decide +kernel
theorem dL_law_383 : decode cL_law 383 = .ok (.aload_n 3, 1) := by decide +kernel
theorem dL_law_384 : decode cL_law 384 = .ok (.iconst 0, 1) := by decide +kernel
theorem dL_law_385 : decode cL_law 385 = .ok (.laload, 1) := by decide +kernel
theorem dL_law_386 : decode cL_law 386 = .ok (.iload 7, 2) := by decide +kernel
theorem dL_law_388 : decode cL_law 388 = .ok (.i2l, 1) := by decide +kernel
theorem dL_law_389 : decode cL_law 389 = .ok (.lcmp, 1) := by decide +kernel
theorem dL_law_390 : decode cL_law 390 = .ok (.ifCond .eq 5, 3) := by decide +kernel
theorem dL_law_393 : decode cL_law 393 = .ok (.iconst 0, 1) := by decide +kernel
theorem dL_law_394 : decode cL_law 394 = .ok (.ireturn, 1) := by decide +kernel
theorem dL_law_395 : decode cL_law 395 = .ok (.goto 1634, 3) := by decide +kernel
theorem dL_law_398 : decode cL_law 398 = .ok (.aload_n 1, 1) := by decide +kernel
theorem dL_law_399 : decode cL_law 399 = .ok (.aload_n 0, 1) := by decide +kernel
theorem dL_law_400 : decode cL_law 400 = .ok (.iload 5, 2) := by decide +kernel
theorem dL_law_402 : decode cL_law 402 = .ok (.iconst 1, 1) := by decide +kernel
theorem dL_law_403 : decode cL_law 403 = .ok (.iadd, 1) := by decide +kernel
theorem dL_law_404 : decode cL_law 404 = .ok (.iaload, 1) := by decide +kernel
theorem dL_law_405 : decode cL_law 405 = .ok (.aload_n 0, 1) := by decide +kernel
theorem dL_law_406 : decode cL_law 406 = .ok (.iload 5, 2) := by decide +kernel
theorem dL_law_408 : decode cL_law 408 = .ok (.iconst 2, 1) := by decide +kernel
theorem dL_law_409 : decode cL_law 409 = .ok (.iadd, 1) := by decide +kernel
theorem dL_law_410 : decode cL_law 410 = .ok (.iaload, 1) := by decide +kernel
theorem dL_law_411 : decode cL_law 411 = .ok (.aload_n 3, 1) := by decide +kernel
theorem dL_law_412 : decode cL_law 412 = .ok (.invokestatic 135, 3) := by decide +kernel
theorem dL_law_415 : decode cL_law 415 = .ok (.istore 6, 2) := by decide +kernel
theorem dL_law_417 : decode cL_law 417 = .ok (.aload_n 2, 1) := by decide +kernel
theorem dL_law_418 : decode cL_law 418 = .ok (.aload_n 0, 1) := by decide +kernel
theorem dL_law_419 : decode cL_law 419 = .ok (.iload 5, 2) := by decide +kernel
theorem dL_law_421 : decode cL_law 421 = .ok (.iconst 1, 1) := by decide +kernel
theorem dL_law_422 : decode cL_law 422 = .ok (.iadd, 1) := by decide +kernel
theorem dL_law_423 : decode cL_law 423 = .ok (.iaload, 1) := by decide +kernel
theorem dL_law_424 : decode cL_law 424 = .ok (.aload_n 0, 1) := by decide +kernel
theorem dL_law_425 : decode cL_law 425 = .ok (.iload 5, 2) := by decide +kernel
theorem dL_law_427 : decode cL_law 427 = .ok (.iconst 2, 1) := by decide +kernel
theorem dL_law_428 : decode cL_law 428 = .ok (.iadd, 1) := by decide +kernel
theorem dL_law_429 : decode cL_law 429 = .ok (.iaload, 1) := by decide +kernel
theorem dL_law_430 : decode cL_law 430 = .ok (.invokevirtual 138, 3) := by decide +kernel
theorem dL_law_433 : decode cL_law 433 = .ok (.istore 7, 2) := by decide +kernel
theorem dL_law_435 : decode cL_law 435 = .ok (.aload_n 2, 1) := by decide +kernel
theorem dL_law_436 : decode cL_law 436 = .ok (.invokevirtual 125, 3) := by decide +kernel
theorem dL_law_439 : decode cL_law 439 = .ok (.iload 6, 2) := by decide +kernel
theorem dL_law_441 : decode cL_law 441 = .ok (.if_icmp .eq 5, 3) := by decide +kernel
theorem dL_law_444 : decode cL_law 444 = .ok (.iconst 0, 1) := by decide +kernel
theorem dL_law_445 : decode cL_law 445 = .ok (.ireturn, 1) := by decide +kernel
theorem dL_law_446 : decode cL_law 446 = .ok (.iload 6, 2) := by decide +kernel
theorem dL_law_448 : decode cL_law 448 = .ok (.ifCond .ne 15, 3) := by decide +kernel
theorem dL_law_451 : decode cL_law 451 = .ok (.aload_n 3, 1) := by decide +kernel
theorem dL_law_452 : decode cL_law 452 = .ok (.iconst 0, 1) := by decide +kernel
theorem dL_law_453 : decode cL_law 453 = .ok (.laload, 1) := by decide +kernel
theorem dL_law_454 : decode cL_law 454 = .ok (.iload 7, 2) := by decide +kernel
theorem dL_law_456 : decode cL_law 456 = .ok (.i2l, 1) := by decide +kernel
theorem dL_law_457 : decode cL_law 457 = .ok (.lcmp, 1) := by decide +kernel
theorem dL_law_458 : decode cL_law 458 = .ok (.ifCond .eq 5, 3) := by decide +kernel
theorem dL_law_461 : decode cL_law 461 = .ok (.iconst 0, 1) := by decide +kernel
theorem dL_law_462 : decode cL_law 462 = .ok (.ireturn, 1) := by decide +kernel
theorem dL_law_463 : decode cL_law 463 = .ok (.goto 1566, 3) := by decide +kernel
theorem dL_law_466 : decode cL_law 466 = .ok (.aload_n 1, 1) := by decide +kernel
theorem dL_law_467 : decode cL_law 467 = .ok (.aload_n 0, 1) := by decide +kernel
theorem dL_law_468 : decode cL_law 468 = .ok (.iload 5, 2) := by decide +kernel
theorem dL_law_470 : decode cL_law 470 = .ok (.iconst 1, 1) := by decide +kernel
theorem dL_law_471 : decode cL_law 471 = .ok (.iadd, 1) := by decide +kernel
theorem dL_law_472 : decode cL_law 472 = .ok (.iaload, 1) := by decide +kernel
theorem dL_law_473 : decode cL_law 473 = .ok (.aload_n 3, 1) := by decide +kernel
theorem dL_law_474 : decode cL_law 474 = .ok (.invokestatic 139, 3) := by decide +kernel
theorem dL_law_477 : decode cL_law 477 = .ok (.istore 6, 2) := by decide +kernel
theorem dL_law_479 : decode cL_law 479 = .ok (.aload_n 2, 1) := by decide +kernel
theorem dL_law_480 : decode cL_law 480 = .ok (.aload_n 0, 1) := by decide +kernel
theorem dL_law_481 : decode cL_law 481 = .ok (.iload 5, 2) := by decide +kernel
theorem dL_law_483 : decode cL_law 483 = .ok (.iconst 1, 1) := by decide +kernel
theorem dL_law_484 : decode cL_law 484 = .ok (.iadd, 1) := by decide +kernel
theorem dL_law_485 : decode cL_law 485 = .ok (.iaload, 1) := by decide +kernel
theorem dL_law_486 : decode cL_law 486 = .ok (.invokevirtual 141, 3) := by decide +kernel
theorem dL_law_489 : decode cL_law 489 = .ok (.istore 7, 2) := by decide +kernel
theorem dL_law_491 : decode cL_law 491 = .ok (.aload_n 2, 1) := by decide +kernel
theorem dL_law_492 : decode cL_law 492 = .ok (.invokevirtual 125, 3) := by decide +kernel
theorem dL_law_495 : decode cL_law 495 = .ok (.iload 6, 2) := by decide +kernel
theorem dL_law_497 : decode cL_law 497 = .ok (.if_icmp .eq 5, 3) := by decide +kernel
theorem dL_law_500 : decode cL_law 500 = .ok (.iconst 0, 1) := by decide +kernel
theorem dL_law_501 : decode cL_law 501 = .ok (.ireturn, 1) := by decide +kernel
theorem dL_law_502 : decode cL_law 502 = .ok (.iload 6, 2) := by decide +kernel
theorem dL_law_504 : decode cL_law 504 = .ok (.ifCond .ne 15, 3) := by decide +kernel
theorem dL_law_507 : decode cL_law 507 = .ok (.aload_n 3, 1) := by decide +kernel
theorem dL_law_508 : decode cL_law 508 = .ok (.iconst 0, 1) := by decide +kernel
theorem dL_law_509 : decode cL_law 509 = .ok (.laload, 1) := by decide +kernel
theorem dL_law_510 : decode cL_law 510 = .ok (.iload 7, 2) := by decide +kernel
theorem dL_law_512 : decode cL_law 512 = .ok (.i2l, 1) := by decide +kernel
theorem dL_law_513 : decode cL_law 513 = .ok (.lcmp, 1) := by decide +kernel
theorem dL_law_514 : decode cL_law 514 = .ok (.ifCond .eq 5, 3) := by decide +kernel
theorem dL_law_517 : decode cL_law 517 = .ok (.iconst 0, 1) := by decide +kernel
theorem dL_law_518 : decode cL_law 518 = .ok (.ireturn, 1) := by decide +kernel
theorem dL_law_519 : decode cL_law 519 = .ok (.goto 1510, 3) := by decide +kernel
theorem dL_law_522 : decode cL_law 522 = .ok (.aload_n 1, 1) := by decide +kernel
theorem dL_law_523 : decode cL_law 523 = .ok (.aload_n 0, 1) := by decide +kernel
theorem dL_law_524 : decode cL_law 524 = .ok (.iload 5, 2) := by decide +kernel
theorem dL_law_526 : decode cL_law 526 = .ok (.iconst 1, 1) := by decide +kernel
theorem dL_law_527 : decode cL_law 527 = .ok (.iadd, 1) := by decide +kernel
theorem dL_law_528 : decode cL_law 528 = .ok (.iaload, 1) := by decide +kernel
theorem dL_law_529 : decode cL_law 529 = .ok (.aload_n 3, 1) := by decide +kernel
theorem dL_law_530 : decode cL_law 530 = .ok (.invokestatic 142, 3) := by decide +kernel
theorem dL_law_533 : decode cL_law 533 = .ok (.istore 6, 2) := by decide +kernel
theorem dL_law_535 : decode cL_law 535 = .ok (.aload_n 2, 1) := by decide +kernel
theorem dL_law_536 : decode cL_law 536 = .ok (.aload_n 0, 1) := by decide +kernel
theorem dL_law_537 : decode cL_law 537 = .ok (.iload 5, 2) := by decide +kernel
theorem dL_law_539 : decode cL_law 539 = .ok (.iconst 1, 1) := by decide +kernel
theorem dL_law_540 : decode cL_law 540 = .ok (.iadd, 1) := by decide +kernel
theorem dL_law_541 : decode cL_law 541 = .ok (.iaload, 1) := by decide +kernel
theorem dL_law_542 : decode cL_law 542 = .ok (.invokevirtual 144, 3) := by decide +kernel
theorem dL_law_545 : decode cL_law 545 = .ok (.istore 7, 2) := by decide +kernel
theorem dL_law_547 : decode cL_law 547 = .ok (.aload_n 2, 1) := by decide +kernel
theorem dL_law_548 : decode cL_law 548 = .ok (.invokevirtual 125, 3) := by decide +kernel
theorem dL_law_551 : decode cL_law 551 = .ok (.iload 6, 2) := by decide +kernel
theorem dL_law_553 : decode cL_law 553 = .ok (.if_icmp .eq 5, 3) := by decide +kernel
theorem dL_law_556 : decode cL_law 556 = .ok (.iconst 0, 1) := by decide +kernel
theorem dL_law_557 : decode cL_law 557 = .ok (.ireturn, 1) := by decide +kernel
theorem dL_law_558 : decode cL_law 558 = .ok (.iload 6, 2) := by decide +kernel
theorem dL_law_560 : decode cL_law 560 = .ok (.ifCond .ne 15, 3) := by decide +kernel
theorem dL_law_563 : decode cL_law 563 = .ok (.aload_n 3, 1) := by decide +kernel
theorem dL_law_564 : decode cL_law 564 = .ok (.iconst 0, 1) := by decide +kernel
theorem dL_law_565 : decode cL_law 565 = .ok (.laload, 1) := by decide +kernel
theorem dL_law_566 : decode cL_law 566 = .ok (.iload 7, 2) := by decide +kernel
theorem dL_law_568 : decode cL_law 568 = .ok (.i2l, 1) := by decide +kernel
theorem dL_law_569 : decode cL_law 569 = .ok (.lcmp, 1) := by decide +kernel
theorem dL_law_570 : decode cL_law 570 = .ok (.ifCond .eq 5, 3) := by decide +kernel
theorem dL_law_573 : decode cL_law 573 = .ok (.iconst 0, 1) := by decide +kernel
theorem dL_law_574 : decode cL_law 574 = .ok (.ireturn, 1) := by decide +kernel
theorem dL_law_575 : decode cL_law 575 = .ok (.goto 1454, 3) := by decide +kernel
theorem dL_law_578 : decode cL_law 578 = .ok (.aload_n 1, 1) := by decide +kernel
theorem dL_law_579 : decode cL_law 579 = .ok (.aload_n 0, 1) := by decide +kernel
theorem dL_law_580 : decode cL_law 580 = .ok (.iload 5, 2) := by decide +kernel
theorem dL_law_582 : decode cL_law 582 = .ok (.iconst 1, 1) := by decide +kernel
theorem dL_law_583 : decode cL_law 583 = .ok (.iadd, 1) := by decide +kernel
theorem dL_law_584 : decode cL_law 584 = .ok (.iaload, 1) := by decide +kernel
theorem dL_law_585 : decode cL_law 585 = .ok (.aload_n 0, 1) := by decide +kernel
theorem dL_law_586 : decode cL_law 586 = .ok (.iload 5, 2) := by decide +kernel
theorem dL_law_588 : decode cL_law 588 = .ok (.iconst 2, 1) := by decide +kernel
theorem dL_law_589 : decode cL_law 589 = .ok (.iadd, 1) := by decide +kernel
theorem dL_law_590 : decode cL_law 590 = .ok (.iaload, 1) := by decide +kernel
theorem dL_law_591 : decode cL_law 591 = .ok (.aload_n 3, 1) := by decide +kernel
theorem dL_law_592 : decode cL_law 592 = .ok (.invokestatic 145, 3) := by decide +kernel
theorem dL_law_595 : decode cL_law 595 = .ok (.istore 6, 2) := by decide +kernel
theorem dL_law_597 : decode cL_law 597 = .ok (.aload_n 2, 1) := by decide +kernel
theorem dL_law_598 : decode cL_law 598 = .ok (.aload_n 0, 1) := by decide +kernel
theorem dL_law_599 : decode cL_law 599 = .ok (.iload 5, 2) := by decide +kernel
theorem dL_law_601 : decode cL_law 601 = .ok (.iconst 1, 1) := by decide +kernel
theorem dL_law_602 : decode cL_law 602 = .ok (.iadd, 1) := by decide +kernel
theorem dL_law_603 : decode cL_law 603 = .ok (.iaload, 1) := by decide +kernel
theorem dL_law_604 : decode cL_law 604 = .ok (.aload_n 0, 1) := by decide +kernel
theorem dL_law_605 : decode cL_law 605 = .ok (.iload 5, 2) := by decide +kernel
theorem dL_law_607 : decode cL_law 607 = .ok (.iconst 2, 1) := by decide +kernel
theorem dL_law_608 : decode cL_law 608 = .ok (.iadd, 1) := by decide +kernel
theorem dL_law_609 : decode cL_law 609 = .ok (.iaload, 1) := by decide +kernel
theorem dL_law_610 : decode cL_law 610 = .ok (.invokevirtual 147, 3) := by decide +kernel
theorem dL_law_613 : decode cL_law 613 = .ok (.istore 7, 2) := by decide +kernel
theorem dL_law_615 : decode cL_law 615 = .ok (.aload_n 2, 1) := by decide +kernel
theorem dL_law_616 : decode cL_law 616 = .ok (.invokevirtual 125, 3) := by decide +kernel
theorem dL_law_619 : decode cL_law 619 = .ok (.iload 6, 2) := by decide +kernel
theorem dL_law_621 : decode cL_law 621 = .ok (.if_icmp .eq 5, 3) := by decide +kernel
theorem dL_law_624 : decode cL_law 624 = .ok (.iconst 0, 1) := by decide +kernel
theorem dL_law_625 : decode cL_law 625 = .ok (.ireturn, 1) := by decide +kernel
theorem dL_law_626 : decode cL_law 626 = .ok (.iload 6, 2) := by decide +kernel
theorem dL_law_628 : decode cL_law 628 = .ok (.ifCond .ne 15, 3) := by decide +kernel
theorem dL_law_631 : decode cL_law 631 = .ok (.aload_n 3, 1) := by decide +kernel
theorem dL_law_632 : decode cL_law 632 = .ok (.iconst 0, 1) := by decide +kernel
theorem dL_law_633 : decode cL_law 633 = .ok (.laload, 1) := by decide +kernel
theorem dL_law_634 : decode cL_law 634 = .ok (.iload 7, 2) := by decide +kernel
theorem dL_law_636 : decode cL_law 636 = .ok (.i2l, 1) := by decide +kernel
theorem dL_law_637 : decode cL_law 637 = .ok (.lcmp, 1) := by decide +kernel
theorem dL_law_638 : decode cL_law 638 = .ok (.ifCond .eq 5, 3) := by decide +kernel
theorem dL_law_641 : decode cL_law 641 = .ok (.iconst 0, 1) := by decide +kernel
theorem dL_law_642 : decode cL_law 642 = .ok (.ireturn, 1) := by decide +kernel
theorem dL_law_643 : decode cL_law 643 = .ok (.goto 1386, 3) := by decide +kernel
theorem dL_law_646 : decode cL_law 646 = .ok (.aload_n 1, 1) := by decide +kernel
theorem dL_law_647 : decode cL_law 647 = .ok (.aload_n 0, 1) := by decide +kernel
theorem dL_law_648 : decode cL_law 648 = .ok (.iload 5, 2) := by decide +kernel
theorem dL_law_650 : decode cL_law 650 = .ok (.iconst 1, 1) := by decide +kernel
theorem dL_law_651 : decode cL_law 651 = .ok (.iadd, 1) := by decide +kernel
theorem dL_law_652 : decode cL_law 652 = .ok (.iaload, 1) := by decide +kernel
theorem dL_law_653 : decode cL_law 653 = .ok (.aload_n 0, 1) := by decide +kernel
theorem dL_law_654 : decode cL_law 654 = .ok (.iload 5, 2) := by decide +kernel
theorem dL_law_656 : decode cL_law 656 = .ok (.iconst 2, 1) := by decide +kernel
theorem dL_law_657 : decode cL_law 657 = .ok (.iadd, 1) := by decide +kernel
theorem dL_law_658 : decode cL_law 658 = .ok (.iaload, 1) := by decide +kernel
theorem dL_law_659 : decode cL_law 659 = .ok (.aload_n 3, 1) := by decide +kernel
theorem dL_law_660 : decode cL_law 660 = .ok (.invokestatic 148, 3) := by decide +kernel
theorem dL_law_663 : decode cL_law 663 = .ok (.istore 6, 2) := by decide +kernel
theorem dL_law_665 : decode cL_law 665 = .ok (.aload_n 2, 1) := by decide +kernel
theorem dL_law_666 : decode cL_law 666 = .ok (.aload_n 0, 1) := by decide +kernel
theorem dL_law_667 : decode cL_law 667 = .ok (.iload 5, 2) := by decide +kernel
theorem dL_law_669 : decode cL_law 669 = .ok (.iconst 1, 1) := by decide +kernel
theorem dL_law_670 : decode cL_law 670 = .ok (.iadd, 1) := by decide +kernel
theorem dL_law_671 : decode cL_law 671 = .ok (.iaload, 1) := by decide +kernel
theorem dL_law_672 : decode cL_law 672 = .ok (.aload_n 0, 1) := by decide +kernel
theorem dL_law_673 : decode cL_law 673 = .ok (.iload 5, 2) := by decide +kernel
theorem dL_law_675 : decode cL_law 675 = .ok (.iconst 2, 1) := by decide +kernel
theorem dL_law_676 : decode cL_law 676 = .ok (.iadd, 1) := by decide +kernel
theorem dL_law_677 : decode cL_law 677 = .ok (.iaload, 1) := by decide +kernel
theorem dL_law_678 : decode cL_law 678 = .ok (.invokevirtual 150, 3) := by decide +kernel
theorem dL_law_681 : decode cL_law 681 = .ok (.istore 7, 2) := by decide +kernel
theorem dL_law_683 : decode cL_law 683 = .ok (.aload_n 2, 1) := by decide +kernel
theorem dL_law_684 : decode cL_law 684 = .ok (.invokevirtual 125, 3) := by decide +kernel
theorem dL_law_687 : decode cL_law 687 = .ok (.iload 6, 2) := by decide +kernel
theorem dL_law_689 : decode cL_law 689 = .ok (.if_icmp .eq 5, 3) := by decide +kernel
theorem dL_law_692 : decode cL_law 692 = .ok (.iconst 0, 1) := by decide +kernel
theorem dL_law_693 : decode cL_law 693 = .ok (.ireturn, 1) := by decide +kernel
theorem dL_law_694 : decode cL_law 694 = .ok (.iload 6, 2) := by decide +kernel
theorem dL_law_696 : decode cL_law 696 = .ok (.ifCond .ne 15, 3) := by decide +kernel
theorem dL_law_699 : decode cL_law 699 = .ok (.aload_n 3, 1) := by decide +kernel
theorem dL_law_700 : decode cL_law 700 = .ok (.iconst 0, 1) := by decide +kernel
theorem dL_law_701 : decode cL_law 701 = .ok (.laload, 1) := by decide +kernel
theorem dL_law_702 : decode cL_law 702 = .ok (.iload 7, 2) := by decide +kernel
theorem dL_law_704 : decode cL_law 704 = .ok (.i2l, 1) := by decide +kernel
theorem dL_law_705 : decode cL_law 705 = .ok (.lcmp, 1) := by decide +kernel
theorem dL_law_706 : decode cL_law 706 = .ok (.ifCond .eq 5, 3) := by decide +kernel
theorem dL_law_709 : decode cL_law 709 = .ok (.iconst 0, 1) := by decide +kernel
theorem dL_law_710 : decode cL_law 710 = .ok (.ireturn, 1) := by decide +kernel
theorem dL_law_711 : decode cL_law 711 = .ok (.goto 1318, 3) := by decide +kernel
theorem dL_law_714 : decode cL_law 714 = .ok (.aload_n 1, 1) := by decide +kernel
theorem dL_law_715 : decode cL_law 715 = .ok (.aload_n 0, 1) := by decide +kernel
theorem dL_law_716 : decode cL_law 716 = .ok (.iload 5, 2) := by decide +kernel
theorem dL_law_718 : decode cL_law 718 = .ok (.iconst 1, 1) := by decide +kernel
theorem dL_law_719 : decode cL_law 719 = .ok (.iadd, 1) := by decide +kernel
theorem dL_law_720 : decode cL_law 720 = .ok (.iaload, 1) := by decide +kernel
theorem dL_law_721 : decode cL_law 721 = .ok (.aload_n 0, 1) := by decide +kernel
theorem dL_law_722 : decode cL_law 722 = .ok (.iload 5, 2) := by decide +kernel
theorem dL_law_724 : decode cL_law 724 = .ok (.iconst 2, 1) := by decide +kernel
theorem dL_law_725 : decode cL_law 725 = .ok (.iadd, 1) := by decide +kernel
theorem dL_law_726 : decode cL_law 726 = .ok (.iaload, 1) := by decide +kernel
theorem dL_law_727 : decode cL_law 727 = .ok (.aload_n 3, 1) := by decide +kernel
theorem dL_law_728 : decode cL_law 728 = .ok (.invokestatic 151, 3) := by decide +kernel
theorem dL_law_731 : decode cL_law 731 = .ok (.istore 6, 2) := by decide +kernel
theorem dL_law_733 : decode cL_law 733 = .ok (.aload_n 2, 1) := by decide +kernel
theorem dL_law_734 : decode cL_law 734 = .ok (.aload_n 0, 1) := by decide +kernel
theorem dL_law_735 : decode cL_law 735 = .ok (.iload 5, 2) := by decide +kernel
theorem dL_law_737 : decode cL_law 737 = .ok (.iconst 1, 1) := by decide +kernel
theorem dL_law_738 : decode cL_law 738 = .ok (.iadd, 1) := by decide +kernel
theorem dL_law_739 : decode cL_law 739 = .ok (.iaload, 1) := by decide +kernel
theorem dL_law_740 : decode cL_law 740 = .ok (.aload_n 0, 1) := by decide +kernel
theorem dL_law_741 : decode cL_law 741 = .ok (.iload 5, 2) := by decide +kernel
theorem dL_law_743 : decode cL_law 743 = .ok (.iconst 2, 1) := by decide +kernel
theorem dL_law_744 : decode cL_law 744 = .ok (.iadd, 1) := by decide +kernel
theorem dL_law_745 : decode cL_law 745 = .ok (.iaload, 1) := by decide +kernel
theorem dL_law_746 : decode cL_law 746 = .ok (.invokevirtual 153, 3) := by decide +kernel
theorem dL_law_749 : decode cL_law 749 = .ok (.istore 7, 2) := by decide +kernel
theorem dL_law_751 : decode cL_law 751 = .ok (.aload_n 2, 1) := by decide +kernel
theorem dL_law_752 : decode cL_law 752 = .ok (.invokevirtual 125, 3) := by decide +kernel
theorem dL_law_755 : decode cL_law 755 = .ok (.iload 6, 2) := by decide +kernel
theorem dL_law_757 : decode cL_law 757 = .ok (.if_icmp .eq 5, 3) := by decide +kernel
theorem dL_law_760 : decode cL_law 760 = .ok (.iconst 0, 1) := by decide +kernel
theorem dL_law_761 : decode cL_law 761 = .ok (.ireturn, 1) := by decide +kernel
theorem dL_law_762 : decode cL_law 762 = .ok (.iload 6, 2) := by decide +kernel
theorem dL_law_764 : decode cL_law 764 = .ok (.ifCond .ne 15, 3) := by decide +kernel
theorem dL_law_767 : decode cL_law 767 = .ok (.aload_n 3, 1) := by decide +kernel
theorem dL_law_768 : decode cL_law 768 = .ok (.iconst 0, 1) := by decide +kernel
theorem dL_law_769 : decode cL_law 769 = .ok (.laload, 1) := by decide +kernel
theorem dL_law_770 : decode cL_law 770 = .ok (.iload 7, 2) := by decide +kernel
theorem dL_law_772 : decode cL_law 772 = .ok (.i2l, 1) := by decide +kernel
theorem dL_law_773 : decode cL_law 773 = .ok (.lcmp, 1) := by decide +kernel
theorem dL_law_774 : decode cL_law 774 = .ok (.ifCond .eq 5, 3) := by decide +kernel
theorem dL_law_777 : decode cL_law 777 = .ok (.iconst 0, 1) := by decide +kernel
theorem dL_law_778 : decode cL_law 778 = .ok (.ireturn, 1) := by decide +kernel
theorem dL_law_779 : decode cL_law 779 = .ok (.goto 1250, 3) := by decide +kernel
theorem dL_law_782 : decode cL_law 782 = .ok (.aload_n 1, 1) := by decide +kernel
theorem dL_law_783 : decode cL_law 783 = .ok (.aload_n 0, 1) := by decide +kernel
theorem dL_law_784 : decode cL_law 784 = .ok (.iload 5, 2) := by decide +kernel
theorem dL_law_786 : decode cL_law 786 = .ok (.iconst 1, 1) := by decide +kernel
theorem dL_law_787 : decode cL_law 787 = .ok (.iadd, 1) := by decide +kernel
theorem dL_law_788 : decode cL_law 788 = .ok (.iaload, 1) := by decide +kernel
theorem dL_law_789 : decode cL_law 789 = .ok (.aload_n 0, 1) := by decide +kernel
theorem dL_law_790 : decode cL_law 790 = .ok (.iload 5, 2) := by decide +kernel
theorem dL_law_792 : decode cL_law 792 = .ok (.iconst 2, 1) := by decide +kernel
theorem dL_law_793 : decode cL_law 793 = .ok (.iadd, 1) := by decide +kernel
theorem dL_law_794 : decode cL_law 794 = .ok (.iaload, 1) := by decide +kernel
theorem dL_law_795 : decode cL_law 795 = .ok (.aload_n 3, 1) := by decide +kernel
theorem dL_law_796 : decode cL_law 796 = .ok (.invokestatic 154, 3) := by decide +kernel
theorem dL_law_799 : decode cL_law 799 = .ok (.istore 6, 2) := by decide +kernel
theorem dL_law_801 : decode cL_law 801 = .ok (.aload_n 2, 1) := by decide +kernel
theorem dL_law_802 : decode cL_law 802 = .ok (.aload_n 0, 1) := by decide +kernel
theorem dL_law_803 : decode cL_law 803 = .ok (.iload 5, 2) := by decide +kernel
theorem dL_law_805 : decode cL_law 805 = .ok (.iconst 1, 1) := by decide +kernel
theorem dL_law_806 : decode cL_law 806 = .ok (.iadd, 1) := by decide +kernel
theorem dL_law_807 : decode cL_law 807 = .ok (.iaload, 1) := by decide +kernel
theorem dL_law_808 : decode cL_law 808 = .ok (.aload_n 0, 1) := by decide +kernel
theorem dL_law_809 : decode cL_law 809 = .ok (.iload 5, 2) := by decide +kernel
theorem dL_law_811 : decode cL_law 811 = .ok (.iconst 2, 1) := by decide +kernel
theorem dL_law_812 : decode cL_law 812 = .ok (.iadd, 1) := by decide +kernel
theorem dL_law_813 : decode cL_law 813 = .ok (.iaload, 1) := by decide +kernel
theorem dL_law_814 : decode cL_law 814 = .ok (.invokevirtual 156, 3) := by decide +kernel
theorem dL_law_817 : decode cL_law 817 = .ok (.istore 7, 2) := by decide +kernel
theorem dL_law_819 : decode cL_law 819 = .ok (.aload_n 2, 1) := by decide +kernel
theorem dL_law_820 : decode cL_law 820 = .ok (.invokevirtual 125, 3) := by decide +kernel
theorem dL_law_823 : decode cL_law 823 = .ok (.iload 6, 2) := by decide +kernel
theorem dL_law_825 : decode cL_law 825 = .ok (.if_icmp .eq 5, 3) := by decide +kernel
theorem dL_law_828 : decode cL_law 828 = .ok (.iconst 0, 1) := by decide +kernel
theorem dL_law_829 : decode cL_law 829 = .ok (.ireturn, 1) := by decide +kernel
theorem dL_law_830 : decode cL_law 830 = .ok (.iload 6, 2) := by decide +kernel
theorem dL_law_832 : decode cL_law 832 = .ok (.ifCond .ne 22, 3) := by decide +kernel
theorem dL_law_835 : decode cL_law 835 = .ok (.aload_n 3, 1) := by decide +kernel
theorem dL_law_836 : decode cL_law 836 = .ok (.iconst 0, 1) := by decide +kernel
theorem dL_law_837 : decode cL_law 837 = .ok (.laload, 1) := by decide +kernel
theorem dL_law_838 : decode cL_law 838 = .ok (.iload 7, 2) := by decide +kernel
theorem dL_law_840 : decode cL_law 840 = .ok (.ifCond .eq 7, 3) := by decide +kernel
theorem dL_law_843 : decode cL_law 843 = .ok (.lconst 1, 1) := by decide +kernel
theorem dL_law_844 : decode cL_law 844 = .ok (.goto 4, 3) := by decide +kernel
theorem dL_law_847 : decode cL_law 847 = .ok (.lconst 0, 1) := by decide +kernel
theorem dL_law_848 : decode cL_law 848 = .ok (.lcmp, 1) := by decide +kernel
theorem dL_law_849 : decode cL_law 849 = .ok (.ifCond .eq 5, 3) := by decide +kernel
theorem dL_law_852 : decode cL_law 852 = .ok (.iconst 0, 1) := by decide +kernel
theorem dL_law_853 : decode cL_law 853 = .ok (.ireturn, 1) := by decide +kernel
theorem dL_law_854 : decode cL_law 854 = .ok (.goto 1175, 3) := by decide +kernel
theorem dL_law_857 : decode cL_law 857 = .ok (.aload_n 1, 1) := by decide +kernel
theorem dL_law_858 : decode cL_law 858 = .ok (.aload_n 0, 1) := by decide +kernel
theorem dL_law_859 : decode cL_law 859 = .ok (.iload 5, 2) := by decide +kernel
theorem dL_law_861 : decode cL_law 861 = .ok (.iconst 1, 1) := by decide +kernel
theorem dL_law_862 : decode cL_law 862 = .ok (.iadd, 1) := by decide +kernel
theorem dL_law_863 : decode cL_law 863 = .ok (.iaload, 1) := by decide +kernel
theorem dL_law_864 : decode cL_law 864 = .ok (.aload_n 3, 1) := by decide +kernel
theorem dL_law_865 : decode cL_law 865 = .ok (.invokestatic 157, 3) := by decide +kernel
theorem dL_law_868 : decode cL_law 868 = .ok (.istore 6, 2) := by decide +kernel
theorem dL_law_870 : decode cL_law 870 = .ok (.aload_n 2, 1) := by decide +kernel
theorem dL_law_871 : decode cL_law 871 = .ok (.aload_n 0, 1) := by decide +kernel
theorem dL_law_872 : decode cL_law 872 = .ok (.iload 5, 2) := by decide +kernel
theorem dL_law_874 : decode cL_law 874 = .ok (.iconst 1, 1) := by decide +kernel
theorem dL_law_875 : decode cL_law 875 = .ok (.iadd, 1) := by decide +kernel
theorem dL_law_876 : decode cL_law 876 = .ok (.iaload, 1) := by decide +kernel
theorem dL_law_877 : decode cL_law 877 = .ok (.invokevirtual 159, 3) := by decide +kernel
theorem dL_law_880 : decode cL_law 880 = .ok (.istore 7, 2) := by decide +kernel
theorem dL_law_882 : decode cL_law 882 = .ok (.aload_n 2, 1) := by decide +kernel
theorem dL_law_883 : decode cL_law 883 = .ok (.invokevirtual 125, 3) := by decide +kernel
theorem dL_law_886 : decode cL_law 886 = .ok (.iload 6, 2) := by decide +kernel
theorem dL_law_888 : decode cL_law 888 = .ok (.if_icmp .eq 5, 3) := by decide +kernel
theorem dL_law_891 : decode cL_law 891 = .ok (.iconst 0, 1) := by decide +kernel
theorem dL_law_892 : decode cL_law 892 = .ok (.ireturn, 1) := by decide +kernel
theorem dL_law_893 : decode cL_law 893 = .ok (.iload 6, 2) := by decide +kernel
theorem dL_law_895 : decode cL_law 895 = .ok (.ifCond .ne 15, 3) := by decide +kernel
theorem dL_law_898 : decode cL_law 898 = .ok (.aload_n 3, 1) := by decide +kernel
theorem dL_law_899 : decode cL_law 899 = .ok (.iconst 0, 1) := by decide +kernel
theorem dL_law_900 : decode cL_law 900 = .ok (.laload, 1) := by decide +kernel
theorem dL_law_901 : decode cL_law 901 = .ok (.iload 7, 2) := by decide +kernel
theorem dL_law_903 : decode cL_law 903 = .ok (.i2l, 1) := by decide +kernel
theorem dL_law_904 : decode cL_law 904 = .ok (.lcmp, 1) := by decide +kernel
theorem dL_law_905 : decode cL_law 905 = .ok (.ifCond .eq 5, 3) := by decide +kernel
theorem dL_law_908 : decode cL_law 908 = .ok (.iconst 0, 1) := by decide +kernel
theorem dL_law_909 : decode cL_law 909 = .ok (.ireturn, 1) := by decide +kernel
theorem dL_law_910 : decode cL_law 910 = .ok (.goto 1119, 3) := by decide +kernel
theorem dL_law_913 : decode cL_law 913 = .ok (.aload_n 1, 1) := by decide +kernel
theorem dL_law_914 : decode cL_law 914 = .ok (.aload_n 0, 1) := by decide +kernel
theorem dL_law_915 : decode cL_law 915 = .ok (.iload 5, 2) := by decide +kernel
theorem dL_law_917 : decode cL_law 917 = .ok (.iconst 1, 1) := by decide +kernel
theorem dL_law_918 : decode cL_law 918 = .ok (.iadd, 1) := by decide +kernel
theorem dL_law_919 : decode cL_law 919 = .ok (.iaload, 1) := by decide +kernel
theorem dL_law_920 : decode cL_law 920 = .ok (.i2c, 1) := by decide +kernel
theorem dL_law_921 : decode cL_law 921 = .ok (.aload_n 0, 1) := by decide +kernel
theorem dL_law_922 : decode cL_law 922 = .ok (.iload 5, 2) := by decide +kernel
theorem dL_law_924 : decode cL_law 924 = .ok (.iconst 2, 1) := by decide +kernel
theorem dL_law_925 : decode cL_law 925 = .ok (.iadd, 1) := by decide +kernel
theorem dL_law_926 : decode cL_law 926 = .ok (.iaload, 1) := by decide +kernel
theorem dL_law_927 : decode cL_law 927 = .ok (.i2c, 1) := by decide +kernel
theorem dL_law_928 : decode cL_law 928 = .ok (.aload_n 0, 1) := by decide +kernel
theorem dL_law_929 : decode cL_law 929 = .ok (.iload 5, 2) := by decide +kernel
theorem dL_law_931 : decode cL_law 931 = .ok (.iconst 3, 1) := by decide +kernel
theorem dL_law_932 : decode cL_law 932 = .ok (.iadd, 1) := by decide +kernel
theorem dL_law_933 : decode cL_law 933 = .ok (.iaload, 1) := by decide +kernel
theorem dL_law_934 : decode cL_law 934 = .ok (.ifCond .eq 7, 3) := by decide +kernel
theorem dL_law_937 : decode cL_law 937 = .ok (.iconst 1, 1) := by decide +kernel
theorem dL_law_938 : decode cL_law 938 = .ok (.goto 4, 3) := by decide +kernel
theorem dL_law_941 : decode cL_law 941 = .ok (.iconst 0, 1) := by decide +kernel
theorem dL_law_942 : decode cL_law 942 = .ok (.aload_n 0, 1) := by decide +kernel
theorem dL_law_943 : decode cL_law 943 = .ok (.iload 5, 2) := by decide +kernel
theorem dL_law_945 : decode cL_law 945 = .ok (.iconst 4, 1) := by decide +kernel
theorem dL_law_946 : decode cL_law 946 = .ok (.iadd, 1) := by decide +kernel
theorem dL_law_947 : decode cL_law 947 = .ok (.iaload, 1) := by decide +kernel
theorem dL_law_948 : decode cL_law 948 = .ok (.aload_n 3, 1) := by decide +kernel
theorem dL_law_949 : decode cL_law 949 = .ok (.invokestatic 160, 3) := by decide +kernel
theorem dL_law_952 : decode cL_law 952 = .ok (.istore 6, 2) := by decide +kernel
theorem dL_law_954 : decode cL_law 954 = .ok (.aload_n 2, 1) := by decide +kernel
theorem dL_law_955 : decode cL_law 955 = .ok (.aload_n 0, 1) := by decide +kernel
theorem dL_law_956 : decode cL_law 956 = .ok (.iload 5, 2) := by decide +kernel
theorem dL_law_958 : decode cL_law 958 = .ok (.iconst 1, 1) := by decide +kernel
theorem dL_law_959 : decode cL_law 959 = .ok (.iadd, 1) := by decide +kernel
theorem dL_law_960 : decode cL_law 960 = .ok (.iaload, 1) := by decide +kernel
theorem dL_law_961 : decode cL_law 961 = .ok (.i2c, 1) := by decide +kernel
theorem dL_law_962 : decode cL_law 962 = .ok (.aload_n 0, 1) := by decide +kernel
theorem dL_law_963 : decode cL_law 963 = .ok (.iload 5, 2) := by decide +kernel
theorem dL_law_965 : decode cL_law 965 = .ok (.iconst 2, 1) := by decide +kernel
theorem dL_law_966 : decode cL_law 966 = .ok (.iadd, 1) := by decide +kernel
theorem dL_law_967 : decode cL_law 967 = .ok (.iaload, 1) := by decide +kernel
theorem dL_law_968 : decode cL_law 968 = .ok (.i2c, 1) := by decide +kernel
theorem dL_law_969 : decode cL_law 969 = .ok (.aload_n 0, 1) := by decide +kernel
theorem dL_law_970 : decode cL_law 970 = .ok (.iload 5, 2) := by decide +kernel
theorem dL_law_972 : decode cL_law 972 = .ok (.iconst 3, 1) := by decide +kernel
theorem dL_law_973 : decode cL_law 973 = .ok (.iadd, 1) := by decide +kernel
theorem dL_law_974 : decode cL_law 974 = .ok (.iaload, 1) := by decide +kernel
theorem dL_law_975 : decode cL_law 975 = .ok (.ifCond .eq 7, 3) := by decide +kernel
theorem dL_law_978 : decode cL_law 978 = .ok (.iconst 1, 1) := by decide +kernel
theorem dL_law_979 : decode cL_law 979 = .ok (.goto 4, 3) := by decide +kernel
theorem dL_law_982 : decode cL_law 982 = .ok (.iconst 0, 1) := by decide +kernel
theorem dL_law_983 : decode cL_law 983 = .ok (.aload_n 0, 1) := by decide +kernel
theorem dL_law_984 : decode cL_law 984 = .ok (.iload 5, 2) := by decide +kernel
theorem dL_law_986 : decode cL_law 986 = .ok (.iconst 4, 1) := by decide +kernel
theorem dL_law_987 : decode cL_law 987 = .ok (.iadd, 1) := by decide +kernel
theorem dL_law_988 : decode cL_law 988 = .ok (.iaload, 1) := by decide +kernel
theorem dL_law_989 : decode cL_law 989 = .ok (.invokevirtual 163, 3) := by decide +kernel
theorem dL_law_992 : decode cL_law 992 = .ok (.istore 7, 2) := by decide +kernel
theorem dL_law_994 : decode cL_law 994 = .ok (.aload_n 2, 1) := by decide +kernel
theorem dL_law_995 : decode cL_law 995 = .ok (.invokevirtual 125, 3) := by decide +kernel
theorem dL_law_998 : decode cL_law 998 = .ok (.iload 6, 2) := by decide +kernel
theorem dL_law_1000 : decode cL_law 1000 = .ok (.if_icmp .eq 5, 3) := by decide +kernel
theorem dL_law_1003 : decode cL_law 1003 = .ok (.iconst 0, 1) := by decide +kernel
theorem dL_law_1004 : decode cL_law 1004 = .ok (.ireturn, 1) := by decide +kernel
theorem dL_law_1005 : decode cL_law 1005 = .ok (.iload 6, 2) := by decide +kernel
theorem dL_law_1007 : decode cL_law 1007 = .ok (.ifCond .ne 15, 3) := by decide +kernel
theorem dL_law_1010 : decode cL_law 1010 = .ok (.aload_n 3, 1) := by decide +kernel
theorem dL_law_1011 : decode cL_law 1011 = .ok (.iconst 0, 1) := by decide +kernel
theorem dL_law_1012 : decode cL_law 1012 = .ok (.laload, 1) := by decide +kernel
theorem dL_law_1013 : decode cL_law 1013 = .ok (.iload 7, 2) := by decide +kernel
theorem dL_law_1015 : decode cL_law 1015 = .ok (.i2l, 1) := by decide +kernel
theorem dL_law_1016 : decode cL_law 1016 = .ok (.lcmp, 1) := by decide +kernel
theorem dL_law_1017 : decode cL_law 1017 = .ok (.ifCond .eq 5, 3) := by decide +kernel
theorem dL_law_1020 : decode cL_law 1020 = .ok (.iconst 0, 1) := by decide +kernel
theorem dL_law_1021 : decode cL_law 1021 = .ok (.ireturn, 1) := by decide +kernel
theorem dL_law_1022 : decode cL_law 1022 = .ok (.goto 1007, 3) := by decide +kernel
theorem dL_law_1025 : decode cL_law 1025 = .ok (.aload_n 1, 1) := by decide +kernel
theorem dL_law_1026 : decode cL_law 1026 = .ok (.aload_n 0, 1) := by decide +kernel
theorem dL_law_1027 : decode cL_law 1027 = .ok (.iload 5, 2) := by decide +kernel
theorem dL_law_1029 : decode cL_law 1029 = .ok (.iconst 1, 1) := by decide +kernel
theorem dL_law_1030 : decode cL_law 1030 = .ok (.iadd, 1) := by decide +kernel
theorem dL_law_1031 : decode cL_law 1031 = .ok (.iaload, 1) := by decide +kernel
theorem dL_law_1032 : decode cL_law 1032 = .ok (.aload_n 3, 1) := by decide +kernel
theorem dL_law_1033 : decode cL_law 1033 = .ok (.invokestatic 164, 3) := by decide +kernel
theorem dL_law_1036 : decode cL_law 1036 = .ok (.istore 6, 2) := by decide +kernel
theorem dL_law_1038 : decode cL_law 1038 = .ok (.aload_n 2, 1) := by decide +kernel
theorem dL_law_1039 : decode cL_law 1039 = .ok (.aload_n 0, 1) := by decide +kernel
theorem dL_law_1040 : decode cL_law 1040 = .ok (.iload 5, 2) := by decide +kernel
theorem dL_law_1042 : decode cL_law 1042 = .ok (.iconst 1, 1) := by decide +kernel
theorem dL_law_1043 : decode cL_law 1043 = .ok (.iadd, 1) := by decide +kernel
theorem dL_law_1044 : decode cL_law 1044 = .ok (.iaload, 1) := by decide +kernel
theorem dL_law_1045 : decode cL_law 1045 = .ok (.invokevirtual 166, 3) := by decide +kernel
theorem dL_law_1048 : decode cL_law 1048 = .ok (.istore 7, 2) := by decide +kernel
theorem dL_law_1050 : decode cL_law 1050 = .ok (.aload_n 2, 1) := by decide +kernel
theorem dL_law_1051 : decode cL_law 1051 = .ok (.invokevirtual 125, 3) := by decide +kernel
theorem dL_law_1054 : decode cL_law 1054 = .ok (.iload 6, 2) := by decide +kernel
theorem dL_law_1056 : decode cL_law 1056 = .ok (.if_icmp .eq 5, 3) := by decide +kernel
theorem dL_law_1059 : decode cL_law 1059 = .ok (.iconst 0, 1) := by decide +kernel
theorem dL_law_1060 : decode cL_law 1060 = .ok (.ireturn, 1) := by decide +kernel
theorem dL_law_1061 : decode cL_law 1061 = .ok (.iload 6, 2) := by decide +kernel
theorem dL_law_1063 : decode cL_law 1063 = .ok (.ifCond .ne 22, 3) := by decide +kernel
theorem dL_law_1066 : decode cL_law 1066 = .ok (.aload_n 3, 1) := by decide +kernel
theorem dL_law_1067 : decode cL_law 1067 = .ok (.iconst 0, 1) := by decide +kernel
theorem dL_law_1068 : decode cL_law 1068 = .ok (.laload, 1) := by decide +kernel
theorem dL_law_1069 : decode cL_law 1069 = .ok (.iload 7, 2) := by decide +kernel
theorem dL_law_1071 : decode cL_law 1071 = .ok (.ifCond .eq 7, 3) := by decide +kernel
theorem dL_law_1074 : decode cL_law 1074 = .ok (.lconst 1, 1) := by decide +kernel
theorem dL_law_1075 : decode cL_law 1075 = .ok (.goto 4, 3) := by decide +kernel
theorem dL_law_1078 : decode cL_law 1078 = .ok (.lconst 0, 1) := by decide +kernel
theorem dL_law_1079 : decode cL_law 1079 = .ok (.lcmp, 1) := by decide +kernel
theorem dL_law_1080 : decode cL_law 1080 = .ok (.ifCond .eq 5, 3) := by decide +kernel
theorem dL_law_1083 : decode cL_law 1083 = .ok (.iconst 0, 1) := by decide +kernel
theorem dL_law_1084 : decode cL_law 1084 = .ok (.ireturn, 1) := by decide +kernel
theorem dL_law_1085 : decode cL_law 1085 = .ok (.goto 944, 3) := by decide +kernel
theorem dL_law_1088 : decode cL_law 1088 = .ok (.aload_n 1, 1) := by decide +kernel
theorem dL_law_1089 : decode cL_law 1089 = .ok (.aload_n 0, 1) := by decide +kernel
theorem dL_law_1090 : decode cL_law 1090 = .ok (.iload 5, 2) := by decide +kernel
theorem dL_law_1092 : decode cL_law 1092 = .ok (.iconst 1, 1) := by decide +kernel
theorem dL_law_1093 : decode cL_law 1093 = .ok (.iadd, 1) := by decide +kernel
theorem dL_law_1094 : decode cL_law 1094 = .ok (.iaload, 1) := by decide +kernel
theorem dL_law_1095 : decode cL_law 1095 = .ok (.aload_n 3, 1) := by decide +kernel
theorem dL_law_1096 : decode cL_law 1096 = .ok (.invokestatic 167, 3) := by decide +kernel
theorem dL_law_1099 : decode cL_law 1099 = .ok (.istore 6, 2) := by decide +kernel
theorem dL_law_1101 : decode cL_law 1101 = .ok (.aload_n 2, 1) := by decide +kernel
theorem dL_law_1102 : decode cL_law 1102 = .ok (.aload_n 0, 1) := by decide +kernel
theorem dL_law_1103 : decode cL_law 1103 = .ok (.iload 5, 2) := by decide +kernel
theorem dL_law_1105 : decode cL_law 1105 = .ok (.iconst 1, 1) := by decide +kernel
theorem dL_law_1106 : decode cL_law 1106 = .ok (.iadd, 1) := by decide +kernel
theorem dL_law_1107 : decode cL_law 1107 = .ok (.iaload, 1) := by decide +kernel
theorem dL_law_1108 : decode cL_law 1108 = .ok (.invokevirtual 169, 3) := by decide +kernel
theorem dL_law_1111 : decode cL_law 1111 = .ok (.istore 7, 2) := by decide +kernel
theorem dL_law_1113 : decode cL_law 1113 = .ok (.aload_n 2, 1) := by decide +kernel
theorem dL_law_1114 : decode cL_law 1114 = .ok (.invokevirtual 125, 3) := by decide +kernel
theorem dL_law_1117 : decode cL_law 1117 = .ok (.iload 6, 2) := by decide +kernel
theorem dL_law_1119 : decode cL_law 1119 = .ok (.if_icmp .eq 5, 3) := by decide +kernel
theorem dL_law_1122 : decode cL_law 1122 = .ok (.iconst 0, 1) := by decide +kernel
theorem dL_law_1123 : decode cL_law 1123 = .ok (.ireturn, 1) := by decide +kernel
theorem dL_law_1124 : decode cL_law 1124 = .ok (.iload 6, 2) := by decide +kernel
theorem dL_law_1126 : decode cL_law 1126 = .ok (.ifCond .ne 15, 3) := by decide +kernel
theorem dL_law_1129 : decode cL_law 1129 = .ok (.aload_n 3, 1) := by decide +kernel
theorem dL_law_1130 : decode cL_law 1130 = .ok (.iconst 0, 1) := by decide +kernel
theorem dL_law_1131 : decode cL_law 1131 = .ok (.laload, 1) := by decide +kernel
theorem dL_law_1132 : decode cL_law 1132 = .ok (.iload 7, 2) := by decide +kernel
theorem dL_law_1134 : decode cL_law 1134 = .ok (.i2l, 1) := by decide +kernel
theorem dL_law_1135 : decode cL_law 1135 = .ok (.lcmp, 1) := by decide +kernel
theorem dL_law_1136 : decode cL_law 1136 = .ok (.ifCond .eq 5, 3) := by decide +kernel
theorem dL_law_1139 : decode cL_law 1139 = .ok (.iconst 0, 1) := by decide +kernel
theorem dL_law_1140 : decode cL_law 1140 = .ok (.ireturn, 1) := by decide +kernel
theorem dL_law_1141 : decode cL_law 1141 = .ok (.goto 888, 3) := by decide +kernel
theorem dL_law_1144 : decode cL_law 1144 = .ok (.aload_n 1, 1) := by decide +kernel
theorem dL_law_1145 : decode cL_law 1145 = .ok (.aload_n 0, 1) := by decide +kernel
theorem dL_law_1146 : decode cL_law 1146 = .ok (.iload 5, 2) := by decide +kernel
theorem dL_law_1148 : decode cL_law 1148 = .ok (.iconst 1, 1) := by decide +kernel
theorem dL_law_1149 : decode cL_law 1149 = .ok (.iadd, 1) := by decide +kernel
theorem dL_law_1150 : decode cL_law 1150 = .ok (.iaload, 1) := by decide +kernel
theorem dL_law_1151 : decode cL_law 1151 = .ok (.aload_n 3, 1) := by decide +kernel
theorem dL_law_1152 : decode cL_law 1152 = .ok (.invokestatic 170, 3) := by decide +kernel
theorem dL_law_1155 : decode cL_law 1155 = .ok (.istore 6, 2) := by decide +kernel
theorem dL_law_1157 : decode cL_law 1157 = .ok (.aload_n 2, 1) := by decide +kernel
theorem dL_law_1158 : decode cL_law 1158 = .ok (.aload_n 0, 1) := by decide +kernel
theorem dL_law_1159 : decode cL_law 1159 = .ok (.iload 5, 2) := by decide +kernel
theorem dL_law_1161 : decode cL_law 1161 = .ok (.iconst 1, 1) := by decide +kernel
theorem dL_law_1162 : decode cL_law 1162 = .ok (.iadd, 1) := by decide +kernel
theorem dL_law_1163 : decode cL_law 1163 = .ok (.iaload, 1) := by decide +kernel
theorem dL_law_1164 : decode cL_law 1164 = .ok (.invokevirtual 172, 3) := by decide +kernel
theorem dL_law_1167 : decode cL_law 1167 = .ok (.istore 7, 2) := by decide +kernel
theorem dL_law_1169 : decode cL_law 1169 = .ok (.aload_n 2, 1) := by decide +kernel
theorem dL_law_1170 : decode cL_law 1170 = .ok (.invokevirtual 125, 3) := by decide +kernel
theorem dL_law_1173 : decode cL_law 1173 = .ok (.iload 6, 2) := by decide +kernel
theorem dL_law_1175 : decode cL_law 1175 = .ok (.if_icmp .eq 5, 3) := by decide +kernel
theorem dL_law_1178 : decode cL_law 1178 = .ok (.iconst 0, 1) := by decide +kernel
theorem dL_law_1179 : decode cL_law 1179 = .ok (.ireturn, 1) := by decide +kernel
theorem dL_law_1180 : decode cL_law 1180 = .ok (.iload 6, 2) := by decide +kernel
theorem dL_law_1182 : decode cL_law 1182 = .ok (.ifCond .ne 15, 3) := by decide +kernel
theorem dL_law_1185 : decode cL_law 1185 = .ok (.aload_n 3, 1) := by decide +kernel
theorem dL_law_1186 : decode cL_law 1186 = .ok (.iconst 0, 1) := by decide +kernel
theorem dL_law_1187 : decode cL_law 1187 = .ok (.laload, 1) := by decide +kernel
theorem dL_law_1188 : decode cL_law 1188 = .ok (.iload 7, 2) := by decide +kernel
theorem dL_law_1190 : decode cL_law 1190 = .ok (.i2l, 1) := by decide +kernel
theorem dL_law_1191 : decode cL_law 1191 = .ok (.lcmp, 1) := by decide +kernel
theorem dL_law_1192 : decode cL_law 1192 = .ok (.ifCond .eq 5, 3) := by decide +kernel
theorem dL_law_1195 : decode cL_law 1195 = .ok (.iconst 0, 1) := by decide +kernel
theorem dL_law_1196 : decode cL_law 1196 = .ok (.ireturn, 1) := by decide +kernel
theorem dL_law_1197 : decode cL_law 1197 = .ok (.goto 832, 3) := by decide +kernel
theorem dL_law_1200 : decode cL_law 1200 = .ok (.aload_n 1, 1) := by decide +kernel
theorem dL_law_1201 : decode cL_law 1201 = .ok (.aload_n 3, 1) := by decide +kernel
theorem dL_law_1202 : decode cL_law 1202 = .ok (.invokestatic 173, 3) := by decide +kernel
theorem dL_law_1205 : decode cL_law 1205 = .ok (.istore 6, 2) := by decide +kernel
theorem dL_law_1207 : decode cL_law 1207 = .ok (.aload_n 2, 1) := by decide +kernel
theorem dL_law_1208 : decode cL_law 1208 = .ok (.invokevirtual 176, 3) := by decide +kernel
theorem dL_law_1211 : decode cL_law 1211 = .ok (.istore 7, 2) := by decide +kernel
theorem dL_law_1213 : decode cL_law 1213 = .ok (.aload_n 2, 1) := by decide +kernel
theorem dL_law_1214 : decode cL_law 1214 = .ok (.invokevirtual 125, 3) := by decide +kernel
theorem dL_law_1217 : decode cL_law 1217 = .ok (.iload 6, 2) := by decide +kernel
theorem dL_law_1219 : decode cL_law 1219 = .ok (.if_icmp .eq 5, 3) := by decide +kernel
theorem dL_law_1222 : decode cL_law 1222 = .ok (.iconst 0, 1) := by decide +kernel
theorem dL_law_1223 : decode cL_law 1223 = .ok (.ireturn, 1) := by decide +kernel
theorem dL_law_1224 : decode cL_law 1224 = .ok (.iload 6, 2) := by decide +kernel
theorem dL_law_1226 : decode cL_law 1226 = .ok (.ifCond .ne 15, 3) := by decide +kernel
theorem dL_law_1229 : decode cL_law 1229 = .ok (.aload_n 3, 1) := by decide +kernel
theorem dL_law_1230 : decode cL_law 1230 = .ok (.iconst 0, 1) := by decide +kernel
theorem dL_law_1231 : decode cL_law 1231 = .ok (.laload, 1) := by decide +kernel
theorem dL_law_1232 : decode cL_law 1232 = .ok (.iload 7, 2) := by decide +kernel
theorem dL_law_1234 : decode cL_law 1234 = .ok (.i2l, 1) := by decide +kernel
theorem dL_law_1235 : decode cL_law 1235 = .ok (.lcmp, 1) := by decide +kernel
theorem dL_law_1236 : decode cL_law 1236 = .ok (.ifCond .eq 5, 3) := by decide +kernel
theorem dL_law_1239 : decode cL_law 1239 = .ok (.iconst 0, 1) := by decide +kernel
theorem dL_law_1240 : decode cL_law 1240 = .ok (.ireturn, 1) := by decide +kernel
theorem dL_law_1241 : decode cL_law 1241 = .ok (.goto 788, 3) := by decide +kernel
theorem dL_law_1244 : decode cL_law 1244 = .ok (.aload_n 1, 1) := by decide +kernel
theorem dL_law_1245 : decode cL_law 1245 = .ok (.aload_n 0, 1) := by decide +kernel
theorem dL_law_1246 : decode cL_law 1246 = .ok (.iload 5, 2) := by decide +kernel
theorem dL_law_1248 : decode cL_law 1248 = .ok (.iconst 1, 1) := by decide +kernel
theorem dL_law_1249 : decode cL_law 1249 = .ok (.iadd, 1) := by decide +kernel
theorem dL_law_1250 : decode cL_law 1250 = .ok (.iaload, 1) := by decide +kernel
theorem dL_law_1251 : decode cL_law 1251 = .ok (.aload_n 0, 1) := by decide +kernel
theorem dL_law_1252 : decode cL_law 1252 = .ok (.iload 5, 2) := by decide +kernel
theorem dL_law_1254 : decode cL_law 1254 = .ok (.iconst 2, 1) := by decide +kernel
theorem dL_law_1255 : decode cL_law 1255 = .ok (.iadd, 1) := by decide +kernel
theorem dL_law_1256 : decode cL_law 1256 = .ok (.iaload, 1) := by decide +kernel
theorem dL_law_1257 : decode cL_law 1257 = .ok (.aload_n 3, 1) := by decide +kernel
theorem dL_law_1258 : decode cL_law 1258 = .ok (.invokestatic 177, 3) := by decide +kernel
theorem dL_law_1261 : decode cL_law 1261 = .ok (.istore 6, 2) := by decide +kernel
theorem dL_law_1263 : decode cL_law 1263 = .ok (.aload_n 2, 1) := by decide +kernel
theorem dL_law_1264 : decode cL_law 1264 = .ok (.aload_n 0, 1) := by decide +kernel
theorem dL_law_1265 : decode cL_law 1265 = .ok (.iload 5, 2) := by decide +kernel
theorem dL_law_1267 : decode cL_law 1267 = .ok (.iconst 1, 1) := by decide +kernel
theorem dL_law_1268 : decode cL_law 1268 = .ok (.iadd, 1) := by decide +kernel
theorem dL_law_1269 : decode cL_law 1269 = .ok (.iaload, 1) := by decide +kernel
theorem dL_law_1270 : decode cL_law 1270 = .ok (.aload_n 0, 1) := by decide +kernel
theorem dL_law_1271 : decode cL_law 1271 = .ok (.iload 5, 2) := by decide +kernel
theorem dL_law_1273 : decode cL_law 1273 = .ok (.iconst 2, 1) := by decide +kernel
theorem dL_law_1274 : decode cL_law 1274 = .ok (.iadd, 1) := by decide +kernel
theorem dL_law_1275 : decode cL_law 1275 = .ok (.iaload, 1) := by decide +kernel
theorem dL_law_1276 : decode cL_law 1276 = .ok (.invokevirtual 179, 3) := by decide +kernel
theorem dL_law_1279 : decode cL_law 1279 = .ok (.istore 7, 2) := by decide +kernel
theorem dL_law_1281 : decode cL_law 1281 = .ok (.aload_n 2, 1) := by decide +kernel
theorem dL_law_1282 : decode cL_law 1282 = .ok (.invokevirtual 125, 3) := by decide +kernel
theorem dL_law_1285 : decode cL_law 1285 = .ok (.iload 6, 2) := by decide +kernel
theorem dL_law_1287 : decode cL_law 1287 = .ok (.if_icmp .eq 5, 3) := by decide +kernel
theorem dL_law_1290 : decode cL_law 1290 = .ok (.iconst 0, 1) := by decide +kernel
theorem dL_law_1291 : decode cL_law 1291 = .ok (.ireturn, 1) := by decide +kernel
theorem dL_law_1292 : decode cL_law 1292 = .ok (.iload 6, 2) := by decide +kernel
theorem dL_law_1294 : decode cL_law 1294 = .ok (.ifCond .ne 15, 3) := by decide +kernel
theorem dL_law_1297 : decode cL_law 1297 = .ok (.aload_n 3, 1) := by decide +kernel
theorem dL_law_1298 : decode cL_law 1298 = .ok (.iconst 0, 1) := by decide +kernel
theorem dL_law_1299 : decode cL_law 1299 = .ok (.laload, 1) := by decide +kernel
theorem dL_law_1300 : decode cL_law 1300 = .ok (.iload 7, 2) := by decide +kernel
theorem dL_law_1302 : decode cL_law 1302 = .ok (.i2l, 1) := by decide +kernel
theorem dL_law_1303 : decode cL_law 1303 = .ok (.lcmp, 1) := by decide +kernel
theorem dL_law_1304 : decode cL_law 1304 = .ok (.ifCond .eq 5, 3) := by decide +kernel
theorem dL_law_1307 : decode cL_law 1307 = .ok (.iconst 0, 1) := by decide +kernel
theorem dL_law_1308 : decode cL_law 1308 = .ok (.ireturn, 1) := by decide +kernel
theorem dL_law_1309 : decode cL_law 1309 = .ok (.goto 720, 3) := by decide +kernel
theorem dL_law_1312 : decode cL_law 1312 = .ok (.aload_n 1, 1) := by decide +kernel
theorem dL_law_1313 : decode cL_law 1313 = .ok (.aload_n 0, 1) := by decide +kernel
theorem dL_law_1314 : decode cL_law 1314 = .ok (.iload 5, 2) := by decide +kernel
theorem dL_law_1316 : decode cL_law 1316 = .ok (.iconst 1, 1) := by decide +kernel
theorem dL_law_1317 : decode cL_law 1317 = .ok (.iadd, 1) := by decide +kernel
theorem dL_law_1318 : decode cL_law 1318 = .ok (.iaload, 1) := by decide +kernel
theorem dL_law_1319 : decode cL_law 1319 = .ok (.aload_n 0, 1) := by decide +kernel
theorem dL_law_1320 : decode cL_law 1320 = .ok (.iload 5, 2) := by decide +kernel
theorem dL_law_1322 : decode cL_law 1322 = .ok (.iconst 2, 1) := by decide +kernel
theorem dL_law_1323 : decode cL_law 1323 = .ok (.iadd, 1) := by decide +kernel
theorem dL_law_1324 : decode cL_law 1324 = .ok (.iaload, 1) := by decide +kernel
theorem dL_law_1325 : decode cL_law 1325 = .ok (.aload_n 3, 1) := by decide +kernel
theorem dL_law_1326 : decode cL_law 1326 = .ok (.invokestatic 180, 3) := by decide +kernel
theorem dL_law_1329 : decode cL_law 1329 = .ok (.istore 6, 2) := by decide +kernel
theorem dL_law_1331 : decode cL_law 1331 = .ok (.aload_n 2, 1) := by decide +kernel
theorem dL_law_1332 : decode cL_law 1332 = .ok (.aload_n 0, 1) := by decide +kernel
theorem dL_law_1333 : decode cL_law 1333 = .ok (.iload 5, 2) := by decide +kernel
theorem dL_law_1335 : decode cL_law 1335 = .ok (.iconst 1, 1) := by decide +kernel
theorem dL_law_1336 : decode cL_law 1336 = .ok (.iadd, 1) := by decide +kernel
theorem dL_law_1337 : decode cL_law 1337 = .ok (.iaload, 1) := by decide +kernel
theorem dL_law_1338 : decode cL_law 1338 = .ok (.aload_n 0, 1) := by decide +kernel
theorem dL_law_1339 : decode cL_law 1339 = .ok (.iload 5, 2) := by decide +kernel
theorem dL_law_1341 : decode cL_law 1341 = .ok (.iconst 2, 1) := by decide +kernel
theorem dL_law_1342 : decode cL_law 1342 = .ok (.iadd, 1) := by decide +kernel
theorem dL_law_1343 : decode cL_law 1343 = .ok (.iaload, 1) := by decide +kernel
theorem dL_law_1344 : decode cL_law 1344 = .ok (.invokevirtual 182, 3) := by decide +kernel
theorem dL_law_1347 : decode cL_law 1347 = .ok (.istore 7, 2) := by decide +kernel
theorem dL_law_1349 : decode cL_law 1349 = .ok (.aload_n 2, 1) := by decide +kernel
theorem dL_law_1350 : decode cL_law 1350 = .ok (.invokevirtual 125, 3) := by decide +kernel
theorem dL_law_1353 : decode cL_law 1353 = .ok (.iload 6, 2) := by decide +kernel
theorem dL_law_1355 : decode cL_law 1355 = .ok (.if_icmp .eq 5, 3) := by decide +kernel
theorem dL_law_1358 : decode cL_law 1358 = .ok (.iconst 0, 1) := by decide +kernel
theorem dL_law_1359 : decode cL_law 1359 = .ok (.ireturn, 1) := by decide +kernel
theorem dL_law_1360 : decode cL_law 1360 = .ok (.iload 6, 2) := by decide +kernel
theorem dL_law_1362 : decode cL_law 1362 = .ok (.ifCond .ne 15, 3) := by decide +kernel
theorem dL_law_1365 : decode cL_law 1365 = .ok (.aload_n 3, 1) := by decide +kernel
theorem dL_law_1366 : decode cL_law 1366 = .ok (.iconst 0, 1) := by decide +kernel
theorem dL_law_1367 : decode cL_law 1367 = .ok (.laload, 1) := by decide +kernel
theorem dL_law_1368 : decode cL_law 1368 = .ok (.iload 7, 2) := by decide +kernel
theorem dL_law_1370 : decode cL_law 1370 = .ok (.i2l, 1) := by decide +kernel
theorem dL_law_1371 : decode cL_law 1371 = .ok (.lcmp, 1) := by decide +kernel
theorem dL_law_1372 : decode cL_law 1372 = .ok (.ifCond .eq 5, 3) := by decide +kernel
theorem dL_law_1375 : decode cL_law 1375 = .ok (.iconst 0, 1) := by decide +kernel
theorem dL_law_1376 : decode cL_law 1376 = .ok (.ireturn, 1) := by decide +kernel
theorem dL_law_1377 : decode cL_law 1377 = .ok (.goto 652, 3) := by decide +kernel
theorem dL_law_1380 : decode cL_law 1380 = .ok (.aload_n 1, 1) := by decide +kernel
theorem dL_law_1381 : decode cL_law 1381 = .ok (.aload_n 0, 1) := by decide +kernel
theorem dL_law_1382 : decode cL_law 1382 = .ok (.iload 5, 2) := by decide +kernel
theorem dL_law_1384 : decode cL_law 1384 = .ok (.iconst 1, 1) := by decide +kernel
theorem dL_law_1385 : decode cL_law 1385 = .ok (.iadd, 1) := by decide +kernel
theorem dL_law_1386 : decode cL_law 1386 = .ok (.iaload, 1) := by decide +kernel
theorem dL_law_1387 : decode cL_law 1387 = .ok (.aload_n 3, 1) := by decide +kernel
theorem dL_law_1388 : decode cL_law 1388 = .ok (.invokestatic 183, 3) := by decide +kernel
theorem dL_law_1391 : decode cL_law 1391 = .ok (.istore 6, 2) := by decide +kernel
theorem dL_law_1393 : decode cL_law 1393 = .ok (.aload_n 2, 1) := by decide +kernel
theorem dL_law_1394 : decode cL_law 1394 = .ok (.aload_n 0, 1) := by decide +kernel
theorem dL_law_1395 : decode cL_law 1395 = .ok (.iload 5, 2) := by decide +kernel
theorem dL_law_1397 : decode cL_law 1397 = .ok (.iconst 1, 1) := by decide +kernel
theorem dL_law_1398 : decode cL_law 1398 = .ok (.iadd, 1) := by decide +kernel
theorem dL_law_1399 : decode cL_law 1399 = .ok (.iaload, 1) := by decide +kernel
theorem dL_law_1400 : decode cL_law 1400 = .ok (.invokevirtual 185, 3) := by decide +kernel
theorem dL_law_1403 : decode cL_law 1403 = .ok (.istore 7, 2) := by decide +kernel
theorem dL_law_1405 : decode cL_law 1405 = .ok (.aload_n 2, 1) := by decide +kernel
theorem dL_law_1406 : decode cL_law 1406 = .ok (.invokevirtual 125, 3) := by decide +kernel
theorem dL_law_1409 : decode cL_law 1409 = .ok (.iload 6, 2) := by decide +kernel
theorem dL_law_1411 : decode cL_law 1411 = .ok (.if_icmp .eq 5, 3) := by decide +kernel
theorem dL_law_1414 : decode cL_law 1414 = .ok (.iconst 0, 1) := by decide +kernel
theorem dL_law_1415 : decode cL_law 1415 = .ok (.ireturn, 1) := by decide +kernel
theorem dL_law_1416 : decode cL_law 1416 = .ok (.iload 6, 2) := by decide +kernel
theorem dL_law_1418 : decode cL_law 1418 = .ok (.ifCond .ne 15, 3) := by decide +kernel
theorem dL_law_1421 : decode cL_law 1421 = .ok (.aload_n 3, 1) := by decide +kernel
theorem dL_law_1422 : decode cL_law 1422 = .ok (.iconst 0, 1) := by decide +kernel
theorem dL_law_1423 : decode cL_law 1423 = .ok (.laload, 1) := by decide +kernel
theorem dL_law_1424 : decode cL_law 1424 = .ok (.iload 7, 2) := by decide +kernel
theorem dL_law_1426 : decode cL_law 1426 = .ok (.i2l, 1) := by decide +kernel
theorem dL_law_1427 : decode cL_law 1427 = .ok (.lcmp, 1) := by decide +kernel
theorem dL_law_1428 : decode cL_law 1428 = .ok (.ifCond .eq 5, 3) := by decide +kernel
theorem dL_law_1431 : decode cL_law 1431 = .ok (.iconst 0, 1) := by decide +kernel
theorem dL_law_1432 : decode cL_law 1432 = .ok (.ireturn, 1) := by decide +kernel
theorem dL_law_1433 : decode cL_law 1433 = .ok (.goto 596, 3) := by decide +kernel
theorem dL_law_1436 : decode cL_law 1436 = .ok (.aload_n 1, 1) := by decide +kernel
theorem dL_law_1437 : decode cL_law 1437 = .ok (.aload_n 0, 1) := by decide +kernel
theorem dL_law_1438 : decode cL_law 1438 = .ok (.iload 5, 2) := by decide +kernel
theorem dL_law_1440 : decode cL_law 1440 = .ok (.iconst 1, 1) := by decide +kernel
theorem dL_law_1441 : decode cL_law 1441 = .ok (.iadd, 1) := by decide +kernel
theorem dL_law_1442 : decode cL_law 1442 = .ok (.iaload, 1) := by decide +kernel
theorem dL_law_1443 : decode cL_law 1443 = .ok (.aload_n 3, 1) := by decide +kernel
theorem dL_law_1444 : decode cL_law 1444 = .ok (.invokestatic 186, 3) := by decide +kernel
theorem dL_law_1447 : decode cL_law 1447 = .ok (.istore 6, 2) := by decide +kernel
theorem dL_law_1449 : decode cL_law 1449 = .ok (.aload_n 2, 1) := by decide +kernel
theorem dL_law_1450 : decode cL_law 1450 = .ok (.aload_n 0, 1) := by decide +kernel
theorem dL_law_1451 : decode cL_law 1451 = .ok (.iload 5, 2) := by decide +kernel
theorem dL_law_1453 : decode cL_law 1453 = .ok (.iconst 1, 1) := by decide +kernel
theorem dL_law_1454 : decode cL_law 1454 = .ok (.iadd, 1) := by decide +kernel
theorem dL_law_1455 : decode cL_law 1455 = .ok (.iaload, 1) := by decide +kernel
theorem dL_law_1456 : decode cL_law 1456 = .ok (.invokevirtual 188, 3) := by decide +kernel
theorem dL_law_1459 : decode cL_law 1459 = .ok (.istore 7, 2) := by decide +kernel
theorem dL_law_1461 : decode cL_law 1461 = .ok (.aload_n 2, 1) := by decide +kernel
theorem dL_law_1462 : decode cL_law 1462 = .ok (.invokevirtual 125, 3) := by decide +kernel
theorem dL_law_1465 : decode cL_law 1465 = .ok (.iload 6, 2) := by decide +kernel
theorem dL_law_1467 : decode cL_law 1467 = .ok (.if_icmp .eq 5, 3) := by decide +kernel
theorem dL_law_1470 : decode cL_law 1470 = .ok (.iconst 0, 1) := by decide +kernel
theorem dL_law_1471 : decode cL_law 1471 = .ok (.ireturn, 1) := by decide +kernel
theorem dL_law_1472 : decode cL_law 1472 = .ok (.iload 6, 2) := by decide +kernel
theorem dL_law_1474 : decode cL_law 1474 = .ok (.ifCond .ne 15, 3) := by decide +kernel
theorem dL_law_1477 : decode cL_law 1477 = .ok (.aload_n 3, 1) := by decide +kernel
theorem dL_law_1478 : decode cL_law 1478 = .ok (.iconst 0, 1) := by decide +kernel
theorem dL_law_1479 : decode cL_law 1479 = .ok (.laload, 1) := by decide +kernel
theorem dL_law_1480 : decode cL_law 1480 = .ok (.iload 7, 2) := by decide +kernel
theorem dL_law_1482 : decode cL_law 1482 = .ok (.i2l, 1) := by decide +kernel
theorem dL_law_1483 : decode cL_law 1483 = .ok (.lcmp, 1) := by decide +kernel
theorem dL_law_1484 : decode cL_law 1484 = .ok (.ifCond .eq 5, 3) := by decide +kernel
theorem dL_law_1487 : decode cL_law 1487 = .ok (.iconst 0, 1) := by decide +kernel
theorem dL_law_1488 : decode cL_law 1488 = .ok (.ireturn, 1) := by decide +kernel
theorem dL_law_1489 : decode cL_law 1489 = .ok (.goto 540, 3) := by decide +kernel
theorem dL_law_1492 : decode cL_law 1492 = .ok (.aload_n 1, 1) := by decide +kernel
theorem dL_law_1493 : decode cL_law 1493 = .ok (.aload_n 3, 1) := by decide +kernel
theorem dL_law_1494 : decode cL_law 1494 = .ok (.invokestatic 189, 3) := by decide +kernel
theorem dL_law_1497 : decode cL_law 1497 = .ok (.istore 6, 2) := by decide +kernel
theorem dL_law_1499 : decode cL_law 1499 = .ok (.aload_n 2, 1) := by decide +kernel
theorem dL_law_1500 : decode cL_law 1500 = .ok (.invokevirtual 191, 3) := by decide +kernel
theorem dL_law_1503 : decode cL_law 1503 = .ok (.istore 7, 2) := by decide +kernel
theorem dL_law_1505 : decode cL_law 1505 = .ok (.aload_n 2, 1) := by decide +kernel
theorem dL_law_1506 : decode cL_law 1506 = .ok (.invokevirtual 125, 3) := by decide +kernel
theorem dL_law_1509 : decode cL_law 1509 = .ok (.iload 6, 2) := by decide +kernel
theorem dL_law_1511 : decode cL_law 1511 = .ok (.if_icmp .eq 5, 3) := by decide +kernel
theorem dL_law_1514 : decode cL_law 1514 = .ok (.iconst 0, 1) := by decide +kernel
theorem dL_law_1515 : decode cL_law 1515 = .ok (.ireturn, 1) := by decide +kernel
theorem dL_law_1516 : decode cL_law 1516 = .ok (.iload 6, 2) := by decide +kernel
theorem dL_law_1518 : decode cL_law 1518 = .ok (.ifCond .ne 15, 3) := by decide +kernel
theorem dL_law_1521 : decode cL_law 1521 = .ok (.aload_n 3, 1) := by decide +kernel
theorem dL_law_1522 : decode cL_law 1522 = .ok (.iconst 0, 1) := by decide +kernel
theorem dL_law_1523 : decode cL_law 1523 = .ok (.laload, 1) := by decide +kernel
theorem dL_law_1524 : decode cL_law 1524 = .ok (.iload 7, 2) := by decide +kernel
theorem dL_law_1526 : decode cL_law 1526 = .ok (.i2l, 1) := by decide +kernel
theorem dL_law_1527 : decode cL_law 1527 = .ok (.lcmp, 1) := by decide +kernel
theorem dL_law_1528 : decode cL_law 1528 = .ok (.ifCond .eq 5, 3) := by decide +kernel
theorem dL_law_1531 : decode cL_law 1531 = .ok (.iconst 0, 1) := by decide +kernel
theorem dL_law_1532 : decode cL_law 1532 = .ok (.ireturn, 1) := by decide +kernel
theorem dL_law_1533 : decode cL_law 1533 = .ok (.goto 496, 3) := by decide +kernel
theorem dL_law_1536 : decode cL_law 1536 = .ok (.aload_n 1, 1) := by decide +kernel
theorem dL_law_1537 : decode cL_law 1537 = .ok (.aload_n 0, 1) := by decide +kernel
theorem dL_law_1538 : decode cL_law 1538 = .ok (.iload 5, 2) := by decide +kernel
theorem dL_law_1540 : decode cL_law 1540 = .ok (.iconst 1, 1) := by decide +kernel
theorem dL_law_1541 : decode cL_law 1541 = .ok (.iadd, 1) := by decide +kernel
theorem dL_law_1542 : decode cL_law 1542 = .ok (.iaload, 1) := by decide +kernel
theorem dL_law_1543 : decode cL_law 1543 = .ok (.aload_n 0, 1) := by decide +kernel
theorem dL_law_1544 : decode cL_law 1544 = .ok (.iload 5, 2) := by decide +kernel
theorem dL_law_1546 : decode cL_law 1546 = .ok (.iconst 2, 1) := by decide +kernel
theorem dL_law_1547 : decode cL_law 1547 = .ok (.iadd, 1) := by decide +kernel
theorem dL_law_1548 : decode cL_law 1548 = .ok (.iaload, 1) := by decide +kernel
theorem dL_law_1549 : decode cL_law 1549 = .ok (.aload_n 3, 1) := by decide +kernel
theorem dL_law_1550 : decode cL_law 1550 = .ok (.invokestatic 192, 3) := by decide +kernel
theorem dL_law_1553 : decode cL_law 1553 = .ok (.istore 6, 2) := by decide +kernel
theorem dL_law_1555 : decode cL_law 1555 = .ok (.aload_n 2, 1) := by decide +kernel
theorem dL_law_1556 : decode cL_law 1556 = .ok (.aload_n 0, 1) := by decide +kernel
theorem dL_law_1557 : decode cL_law 1557 = .ok (.iload 5, 2) := by decide +kernel
theorem dL_law_1559 : decode cL_law 1559 = .ok (.iconst 1, 1) := by decide +kernel
theorem dL_law_1560 : decode cL_law 1560 = .ok (.iadd, 1) := by decide +kernel
theorem dL_law_1561 : decode cL_law 1561 = .ok (.iaload, 1) := by decide +kernel
theorem dL_law_1562 : decode cL_law 1562 = .ok (.aload_n 0, 1) := by decide +kernel
theorem dL_law_1563 : decode cL_law 1563 = .ok (.iload 5, 2) := by decide +kernel
theorem dL_law_1565 : decode cL_law 1565 = .ok (.iconst 2, 1) := by decide +kernel
theorem dL_law_1566 : decode cL_law 1566 = .ok (.iadd, 1) := by decide +kernel
theorem dL_law_1567 : decode cL_law 1567 = .ok (.iaload, 1) := by decide +kernel
theorem dL_law_1568 : decode cL_law 1568 = .ok (.invokevirtual 194, 3) := by decide +kernel
theorem dL_law_1571 : decode cL_law 1571 = .ok (.istore 7, 2) := by decide +kernel
theorem dL_law_1573 : decode cL_law 1573 = .ok (.aload_n 2, 1) := by decide +kernel
theorem dL_law_1574 : decode cL_law 1574 = .ok (.invokevirtual 125, 3) := by decide +kernel
theorem dL_law_1577 : decode cL_law 1577 = .ok (.iload 6, 2) := by decide +kernel
theorem dL_law_1579 : decode cL_law 1579 = .ok (.if_icmp .eq 5, 3) := by decide +kernel
theorem dL_law_1582 : decode cL_law 1582 = .ok (.iconst 0, 1) := by decide +kernel
theorem dL_law_1583 : decode cL_law 1583 = .ok (.ireturn, 1) := by decide +kernel
theorem dL_law_1584 : decode cL_law 1584 = .ok (.iload 6, 2) := by decide +kernel
theorem dL_law_1586 : decode cL_law 1586 = .ok (.ifCond .ne 15, 3) := by decide +kernel
theorem dL_law_1589 : decode cL_law 1589 = .ok (.aload_n 3, 1) := by decide +kernel
theorem dL_law_1590 : decode cL_law 1590 = .ok (.iconst 0, 1) := by decide +kernel
theorem dL_law_1591 : decode cL_law 1591 = .ok (.laload, 1) := by decide +kernel
theorem dL_law_1592 : decode cL_law 1592 = .ok (.iload 7, 2) := by decide +kernel
theorem dL_law_1594 : decode cL_law 1594 = .ok (.i2l, 1) := by decide +kernel
theorem dL_law_1595 : decode cL_law 1595 = .ok (.lcmp, 1) := by decide +kernel
theorem dL_law_1596 : decode cL_law 1596 = .ok (.ifCond .eq 5, 3) := by decide +kernel
theorem dL_law_1599 : decode cL_law 1599 = .ok (.iconst 0, 1) := by decide +kernel
theorem dL_law_1600 : decode cL_law 1600 = .ok (.ireturn, 1) := by decide +kernel
theorem dL_law_1601 : decode cL_law 1601 = .ok (.goto 428, 3) := by decide +kernel
theorem dL_law_1604 : decode cL_law 1604 = .ok (.aload_n 1, 1) := by decide +kernel
theorem dL_law_1605 : decode cL_law 1605 = .ok (.aload_n 0, 1) := by decide +kernel
theorem dL_law_1606 : decode cL_law 1606 = .ok (.iload 5, 2) := by decide +kernel
theorem dL_law_1608 : decode cL_law 1608 = .ok (.iconst 1, 1) := by decide +kernel
theorem dL_law_1609 : decode cL_law 1609 = .ok (.iadd, 1) := by decide +kernel
theorem dL_law_1610 : decode cL_law 1610 = .ok (.iaload, 1) := by decide +kernel
theorem dL_law_1611 : decode cL_law 1611 = .ok (.aload_n 0, 1) := by decide +kernel
theorem dL_law_1612 : decode cL_law 1612 = .ok (.iload 5, 2) := by decide +kernel
theorem dL_law_1614 : decode cL_law 1614 = .ok (.iconst 2, 1) := by decide +kernel
theorem dL_law_1615 : decode cL_law 1615 = .ok (.iadd, 1) := by decide +kernel
theorem dL_law_1616 : decode cL_law 1616 = .ok (.iaload, 1) := by decide +kernel
theorem dL_law_1617 : decode cL_law 1617 = .ok (.aload_n 3, 1) := by decide +kernel
theorem dL_law_1618 : decode cL_law 1618 = .ok (.invokestatic 195, 3) := by decide +kernel
theorem dL_law_1621 : decode cL_law 1621 = .ok (.istore 6, 2) := by decide +kernel
theorem dL_law_1623 : decode cL_law 1623 = .ok (.aload_n 2, 1) := by decide +kernel
theorem dL_law_1624 : decode cL_law 1624 = .ok (.aload_n 0, 1) := by decide +kernel
theorem dL_law_1625 : decode cL_law 1625 = .ok (.iload 5, 2) := by decide +kernel
theorem dL_law_1627 : decode cL_law 1627 = .ok (.iconst 1, 1) := by decide +kernel
theorem dL_law_1628 : decode cL_law 1628 = .ok (.iadd, 1) := by decide +kernel
theorem dL_law_1629 : decode cL_law 1629 = .ok (.iaload, 1) := by decide +kernel
theorem dL_law_1630 : decode cL_law 1630 = .ok (.aload_n 0, 1) := by decide +kernel
theorem dL_law_1631 : decode cL_law 1631 = .ok (.iload 5, 2) := by decide +kernel
theorem dL_law_1633 : decode cL_law 1633 = .ok (.iconst 2, 1) := by decide +kernel
theorem dL_law_1634 : decode cL_law 1634 = .ok (.iadd, 1) := by decide +kernel
theorem dL_law_1635 : decode cL_law 1635 = .ok (.iaload, 1) := by decide +kernel
theorem dL_law_1636 : decode cL_law 1636 = .ok (.invokevirtual 197, 3) := by decide +kernel
theorem dL_law_1639 : decode cL_law 1639 = .ok (.istore 7, 2) := by decide +kernel
theorem dL_law_1641 : decode cL_law 1641 = .ok (.aload_n 2, 1) := by decide +kernel
theorem dL_law_1642 : decode cL_law 1642 = .ok (.invokevirtual 125, 3) := by decide +kernel
theorem dL_law_1645 : decode cL_law 1645 = .ok (.iload 6, 2) := by decide +kernel
theorem dL_law_1647 : decode cL_law 1647 = .ok (.if_icmp .eq 5, 3) := by decide +kernel
theorem dL_law_1650 : decode cL_law 1650 = .ok (.iconst 0, 1) := by decide +kernel
theorem dL_law_1651 : decode cL_law 1651 = .ok (.ireturn, 1) := by decide +kernel
theorem dL_law_1652 : decode cL_law 1652 = .ok (.iload 6, 2) := by decide +kernel
theorem dL_law_1654 : decode cL_law 1654 = .ok (.ifCond .ne 15, 3) := by decide +kernel
theorem dL_law_1657 : decode cL_law 1657 = .ok (.aload_n 3, 1) := by decide +kernel
theorem dL_law_1658 : decode cL_law 1658 = .ok (.iconst 0, 1) := by decide +kernel
theorem dL_law_1659 : decode cL_law 1659 = .ok (.laload, 1) := by decide +kernel
theorem dL_law_1660 : decode cL_law 1660 = .ok (.iload 7, 2) := by decide +kernel
theorem dL_law_1662 : decode cL_law 1662 = .ok (.i2l, 1) := by decide +kernel
theorem dL_law_1663 : decode cL_law 1663 = .ok (.lcmp, 1) := by decide +kernel
theorem dL_law_1664 : decode cL_law 1664 = .ok (.ifCond .eq 5, 3) := by decide +kernel
theorem dL_law_1667 : decode cL_law 1667 = .ok (.iconst 0, 1) := by decide +kernel
theorem dL_law_1668 : decode cL_law 1668 = .ok (.ireturn, 1) := by decide +kernel
theorem dL_law_1669 : decode cL_law 1669 = .ok (.goto 360, 3) := by decide +kernel
theorem dL_law_1672 : decode cL_law 1672 = .ok (.aload_n 1, 1) := by decide +kernel
theorem dL_law_1673 : decode cL_law 1673 = .ok (.aload_n 0, 1) := by decide +kernel
theorem dL_law_1674 : decode cL_law 1674 = .ok (.iload 5, 2) := by decide +kernel
theorem dL_law_1676 : decode cL_law 1676 = .ok (.iconst 1, 1) := by decide +kernel
theorem dL_law_1677 : decode cL_law 1677 = .ok (.iadd, 1) := by decide +kernel
theorem dL_law_1678 : decode cL_law 1678 = .ok (.iaload, 1) := by decide +kernel
theorem dL_law_1679 : decode cL_law 1679 = .ok (.aload_n 0, 1) := by decide +kernel
theorem dL_law_1680 : decode cL_law 1680 = .ok (.iload 5, 2) := by decide +kernel
theorem dL_law_1682 : decode cL_law 1682 = .ok (.iconst 2, 1) := by decide +kernel
theorem dL_law_1683 : decode cL_law 1683 = .ok (.iadd, 1) := by decide +kernel
theorem dL_law_1684 : decode cL_law 1684 = .ok (.iaload, 1) := by decide +kernel
theorem dL_law_1685 : decode cL_law 1685 = .ok (.aload_n 3, 1) := by decide +kernel
theorem dL_law_1686 : decode cL_law 1686 = .ok (.invokestatic 198, 3) := by decide +kernel
theorem dL_law_1689 : decode cL_law 1689 = .ok (.istore 6, 2) := by decide +kernel
theorem dL_law_1691 : decode cL_law 1691 = .ok (.aload_n 2, 1) := by decide +kernel
theorem dL_law_1692 : decode cL_law 1692 = .ok (.aload_n 0, 1) := by decide +kernel
theorem dL_law_1693 : decode cL_law 1693 = .ok (.iload 5, 2) := by decide +kernel
theorem dL_law_1695 : decode cL_law 1695 = .ok (.iconst 1, 1) := by decide +kernel
theorem dL_law_1696 : decode cL_law 1696 = .ok (.iadd, 1) := by decide +kernel
theorem dL_law_1697 : decode cL_law 1697 = .ok (.iaload, 1) := by decide +kernel
theorem dL_law_1698 : decode cL_law 1698 = .ok (.aload_n 0, 1) := by decide +kernel
theorem dL_law_1699 : decode cL_law 1699 = .ok (.iload 5, 2) := by decide +kernel
theorem dL_law_1701 : decode cL_law 1701 = .ok (.iconst 2, 1) := by decide +kernel
theorem dL_law_1702 : decode cL_law 1702 = .ok (.iadd, 1) := by decide +kernel
theorem dL_law_1703 : decode cL_law 1703 = .ok (.iaload, 1) := by decide +kernel
theorem dL_law_1704 : decode cL_law 1704 = .ok (.invokevirtual 200, 3) := by decide +kernel
theorem dL_law_1707 : decode cL_law 1707 = .ok (.istore 7, 2) := by decide +kernel
theorem dL_law_1709 : decode cL_law 1709 = .ok (.aload_n 2, 1) := by decide +kernel
theorem dL_law_1710 : decode cL_law 1710 = .ok (.invokevirtual 125, 3) := by decide +kernel
theorem dL_law_1713 : decode cL_law 1713 = .ok (.iload 6, 2) := by decide +kernel
theorem dL_law_1715 : decode cL_law 1715 = .ok (.if_icmp .eq 5, 3) := by decide +kernel
theorem dL_law_1718 : decode cL_law 1718 = .ok (.iconst 0, 1) := by decide +kernel
theorem dL_law_1719 : decode cL_law 1719 = .ok (.ireturn, 1) := by decide +kernel
theorem dL_law_1720 : decode cL_law 1720 = .ok (.iload 6, 2) := by decide +kernel
theorem dL_law_1722 : decode cL_law 1722 = .ok (.ifCond .ne 15, 3) := by decide +kernel
theorem dL_law_1725 : decode cL_law 1725 = .ok (.aload_n 3, 1) := by decide +kernel
theorem dL_law_1726 : decode cL_law 1726 = .ok (.iconst 0, 1) := by decide +kernel
theorem dL_law_1727 : decode cL_law 1727 = .ok (.laload, 1) := by decide +kernel
theorem dL_law_1728 : decode cL_law 1728 = .ok (.iload 7, 2) := by decide +kernel
theorem dL_law_1730 : decode cL_law 1730 = .ok (.i2l, 1) := by decide +kernel
theorem dL_law_1731 : decode cL_law 1731 = .ok (.lcmp, 1) := by decide +kernel
theorem dL_law_1732 : decode cL_law 1732 = .ok (.ifCond .eq 5, 3) := by decide +kernel
theorem dL_law_1735 : decode cL_law 1735 = .ok (.iconst 0, 1) := by decide +kernel
theorem dL_law_1736 : decode cL_law 1736 = .ok (.ireturn, 1) := by decide +kernel
theorem dL_law_1737 : decode cL_law 1737 = .ok (.goto 292, 3) := by decide +kernel
theorem dL_law_1740 : decode cL_law 1740 = .ok (.aload_n 1, 1) := by decide +kernel
theorem dL_law_1741 : decode cL_law 1741 = .ok (.aload_n 0, 1) := by decide +kernel
theorem dL_law_1742 : decode cL_law 1742 = .ok (.iload 5, 2) := by decide +kernel
theorem dL_law_1744 : decode cL_law 1744 = .ok (.iconst 1, 1) := by decide +kernel
theorem dL_law_1745 : decode cL_law 1745 = .ok (.iadd, 1) := by decide +kernel
theorem dL_law_1746 : decode cL_law 1746 = .ok (.iaload, 1) := by decide +kernel
theorem dL_law_1747 : decode cL_law 1747 = .ok (.aload_n 3, 1) := by decide +kernel
theorem dL_law_1748 : decode cL_law 1748 = .ok (.invokestatic 201, 3) := by decide +kernel
theorem dL_law_1751 : decode cL_law 1751 = .ok (.istore 6, 2) := by decide +kernel
theorem dL_law_1753 : decode cL_law 1753 = .ok (.aload_n 2, 1) := by decide +kernel
theorem dL_law_1754 : decode cL_law 1754 = .ok (.aload_n 0, 1) := by decide +kernel
theorem dL_law_1755 : decode cL_law 1755 = .ok (.iload 5, 2) := by decide +kernel
theorem dL_law_1757 : decode cL_law 1757 = .ok (.iconst 1, 1) := by decide +kernel
theorem dL_law_1758 : decode cL_law 1758 = .ok (.iadd, 1) := by decide +kernel
theorem dL_law_1759 : decode cL_law 1759 = .ok (.iaload, 1) := by decide +kernel
theorem dL_law_1760 : decode cL_law 1760 = .ok (.invokevirtual 203, 3) := by decide +kernel
theorem dL_law_1763 : decode cL_law 1763 = .ok (.istore 7, 2) := by decide +kernel
theorem dL_law_1765 : decode cL_law 1765 = .ok (.aload_n 2, 1) := by decide +kernel
theorem dL_law_1766 : decode cL_law 1766 = .ok (.invokevirtual 125, 3) := by decide +kernel
theorem dL_law_1769 : decode cL_law 1769 = .ok (.iload 6, 2) := by decide +kernel
theorem dL_law_1771 : decode cL_law 1771 = .ok (.if_icmp .eq 5, 3) := by decide +kernel
theorem dL_law_1774 : decode cL_law 1774 = .ok (.iconst 0, 1) := by decide +kernel
theorem dL_law_1775 : decode cL_law 1775 = .ok (.ireturn, 1) := by decide +kernel
theorem dL_law_1776 : decode cL_law 1776 = .ok (.iload 6, 2) := by decide +kernel
theorem dL_law_1778 : decode cL_law 1778 = .ok (.ifCond .ne 15, 3) := by decide +kernel
theorem dL_law_1781 : decode cL_law 1781 = .ok (.aload_n 3, 1) := by decide +kernel
theorem dL_law_1782 : decode cL_law 1782 = .ok (.iconst 0, 1) := by decide +kernel
theorem dL_law_1783 : decode cL_law 1783 = .ok (.laload, 1) := by decide +kernel
theorem dL_law_1784 : decode cL_law 1784 = .ok (.iload 7, 2) := by decide +kernel
theorem dL_law_1786 : decode cL_law 1786 = .ok (.i2l, 1) := by decide +kernel
theorem dL_law_1787 : decode cL_law 1787 = .ok (.lcmp, 1) := by decide +kernel
theorem dL_law_1788 : decode cL_law 1788 = .ok (.ifCond .eq 5, 3) := by decide +kernel
theorem dL_law_1791 : decode cL_law 1791 = .ok (.iconst 0, 1) := by decide +kernel
theorem dL_law_1792 : decode cL_law 1792 = .ok (.ireturn, 1) := by decide +kernel
theorem dL_law_1793 : decode cL_law 1793 = .ok (.goto 236, 3) := by decide +kernel
theorem dL_law_1796 : decode cL_law 1796 = .ok (.aload_n 1, 1) := by decide +kernel
theorem dL_law_1797 : decode cL_law 1797 = .ok (.aload_n 0, 1) := by decide +kernel
theorem dL_law_1798 : decode cL_law 1798 = .ok (.iload 5, 2) := by decide +kernel
theorem dL_law_1800 : decode cL_law 1800 = .ok (.iconst 1, 1) := by decide +kernel
theorem dL_law_1801 : decode cL_law 1801 = .ok (.iadd, 1) := by decide +kernel
theorem dL_law_1802 : decode cL_law 1802 = .ok (.iaload, 1) := by decide +kernel
theorem dL_law_1803 : decode cL_law 1803 = .ok (.aload_n 0, 1) := by decide +kernel
theorem dL_law_1804 : decode cL_law 1804 = .ok (.iload 5, 2) := by decide +kernel
theorem dL_law_1806 : decode cL_law 1806 = .ok (.iconst 2, 1) := by decide +kernel
theorem dL_law_1807 : decode cL_law 1807 = .ok (.iadd, 1) := by decide +kernel
theorem dL_law_1808 : decode cL_law 1808 = .ok (.iaload, 1) := by decide +kernel
theorem dL_law_1809 : decode cL_law 1809 = .ok (.aload_n 3, 1) := by decide +kernel
theorem dL_law_1810 : decode cL_law 1810 = .ok (.invokestatic 204, 3) := by decide +kernel
theorem dL_law_1813 : decode cL_law 1813 = .ok (.istore 6, 2) := by decide +kernel
theorem dL_law_1815 : decode cL_law 1815 = .ok (.aload_n 2, 1) := by decide +kernel
theorem dL_law_1816 : decode cL_law 1816 = .ok (.aload_n 0, 1) := by decide +kernel
theorem dL_law_1817 : decode cL_law 1817 = .ok (.iload 5, 2) := by decide +kernel
theorem dL_law_1819 : decode cL_law 1819 = .ok (.iconst 1, 1) := by decide +kernel
theorem dL_law_1820 : decode cL_law 1820 = .ok (.iadd, 1) := by decide +kernel
theorem dL_law_1821 : decode cL_law 1821 = .ok (.iaload, 1) := by decide +kernel
theorem dL_law_1822 : decode cL_law 1822 = .ok (.aload_n 0, 1) := by decide +kernel
theorem dL_law_1823 : decode cL_law 1823 = .ok (.iload 5, 2) := by decide +kernel
theorem dL_law_1825 : decode cL_law 1825 = .ok (.iconst 2, 1) := by decide +kernel
theorem dL_law_1826 : decode cL_law 1826 = .ok (.iadd, 1) := by decide +kernel
theorem dL_law_1827 : decode cL_law 1827 = .ok (.iaload, 1) := by decide +kernel
theorem dL_law_1828 : decode cL_law 1828 = .ok (.invokevirtual 206, 3) := by decide +kernel
theorem dL_law_1831 : decode cL_law 1831 = .ok (.istore 7, 2) := by decide +kernel
theorem dL_law_1833 : decode cL_law 1833 = .ok (.aload_n 2, 1) := by decide +kernel
theorem dL_law_1834 : decode cL_law 1834 = .ok (.invokevirtual 125, 3) := by decide +kernel
theorem dL_law_1837 : decode cL_law 1837 = .ok (.iload 6, 2) := by decide +kernel
theorem dL_law_1839 : decode cL_law 1839 = .ok (.if_icmp .eq 5, 3) := by decide +kernel
theorem dL_law_1842 : decode cL_law 1842 = .ok (.iconst 0, 1) := by decide +kernel
theorem dL_law_1843 : decode cL_law 1843 = .ok (.ireturn, 1) := by decide +kernel
theorem dL_law_1844 : decode cL_law 1844 = .ok (.iload 6, 2) := by decide +kernel
theorem dL_law_1846 : decode cL_law 1846 = .ok (.ifCond .ne 22, 3) := by decide +kernel
theorem dL_law_1849 : decode cL_law 1849 = .ok (.aload_n 3, 1) := by decide +kernel
theorem dL_law_1850 : decode cL_law 1850 = .ok (.iconst 0, 1) := by decide +kernel
theorem dL_law_1851 : decode cL_law 1851 = .ok (.laload, 1) := by decide +kernel
theorem dL_law_1852 : decode cL_law 1852 = .ok (.iload 7, 2) := by decide +kernel
theorem dL_law_1854 : decode cL_law 1854 = .ok (.ifCond .eq 7, 3) := by decide +kernel
theorem dL_law_1857 : decode cL_law 1857 = .ok (.lconst 1, 1) := by decide +kernel
theorem dL_law_1858 : decode cL_law 1858 = .ok (.goto 4, 3) := by decide +kernel
theorem dL_law_1861 : decode cL_law 1861 = .ok (.lconst 0, 1) := by decide +kernel
theorem dL_law_1862 : decode cL_law 1862 = .ok (.lcmp, 1) := by decide +kernel
theorem dL_law_1863 : decode cL_law 1863 = .ok (.ifCond .eq 5, 3) := by decide +kernel
theorem dL_law_1866 : decode cL_law 1866 = .ok (.iconst 0, 1) := by decide +kernel
theorem dL_law_1867 : decode cL_law 1867 = .ok (.ireturn, 1) := by decide +kernel
theorem dL_law_1868 : decode cL_law 1868 = .ok (.goto 161, 3) := by decide +kernel
theorem dL_law_1871 : decode cL_law 1871 = .ok (.aload_n 1, 1) := by decide +kernel
theorem dL_law_1872 : decode cL_law 1872 = .ok (.invokevirtual 207, 3) := by decide +kernel
theorem dL_law_1875 : decode cL_law 1875 = .ok (.aload_n 2, 1) := by decide +kernel
theorem dL_law_1876 : decode cL_law 1876 = .ok (.invokevirtual 211, 3) := by decide +kernel
theorem dL_law_1879 : decode cL_law 1879 = .ok (.lcmp, 1) := by decide +kernel
theorem dL_law_1880 : decode cL_law 1880 = .ok (.ifCond .eq 149, 3) := by decide +kernel
theorem dL_law_1883 : decode cL_law 1883 = .ok (.iconst 0, 1) := by decide +kernel
theorem dL_law_1884 : decode cL_law 1884 = .ok (.ireturn, 1) := by decide +kernel
theorem dL_law_1885 : decode cL_law 1885 = .ok (.aload_n 1, 1) := by decide +kernel
theorem dL_law_1886 : decode cL_law 1886 = .ok (.invokevirtual 212, 3) := by decide +kernel
theorem dL_law_1889 : decode cL_law 1889 = .ok (.aload_n 2, 1) := by decide +kernel
theorem dL_law_1890 : decode cL_law 1890 = .ok (.invokevirtual 216, 3) := by decide +kernel
theorem dL_law_1893 : decode cL_law 1893 = .ok (.if_icmp .eq 136, 3) := by decide +kernel
theorem dL_law_1896 : decode cL_law 1896 = .ok (.iconst 0, 1) := by decide +kernel
theorem dL_law_1897 : decode cL_law 1897 = .ok (.ireturn, 1) := by decide +kernel
theorem dL_law_1898 : decode cL_law 1898 = .ok (.aload_n 1, 1) := by decide +kernel
theorem dL_law_1899 : decode cL_law 1899 = .ok (.aload 4, 2) := by decide +kernel
theorem dL_law_1901 : decode cL_law 1901 = .ok (.invokestatic 217, 3) := by decide +kernel
theorem dL_law_1904 : decode cL_law 1904 = .ok (.istore 6, 2) := by decide +kernel
theorem dL_law_1906 : decode cL_law 1906 = .ok (.aload_n 2, 1) := by decide +kernel
theorem dL_law_1907 : decode cL_law 1907 = .ok (.invokevirtual 220, 3) := by decide +kernel
theorem dL_law_1910 : decode cL_law 1910 = .ok (.fstore 7, 2) := by decide +kernel
theorem dL_law_1912 : decode cL_law 1912 = .ok (.aload_n 2, 1) := by decide +kernel
theorem dL_law_1913 : decode cL_law 1913 = .ok (.invokevirtual 125, 3) := by decide +kernel
theorem dL_law_1916 : decode cL_law 1916 = .ok (.iload 6, 2) := by decide +kernel
theorem dL_law_1918 : decode cL_law 1918 = .ok (.if_icmp .eq 5, 3) := by decide +kernel
theorem dL_law_1921 : decode cL_law 1921 = .ok (.iconst 0, 1) := by decide +kernel
theorem dL_law_1922 : decode cL_law 1922 = .ok (.ireturn, 1) := by decide +kernel
theorem dL_law_1923 : decode cL_law 1923 = .ok (.iload 6, 2) := by decide +kernel
theorem dL_law_1925 : decode cL_law 1925 = .ok (.ifCond .ne 36, 3) := by decide +kernel
theorem dL_law_1928 : decode cL_law 1928 = .ok (.aload 4, 2) := by decide +kernel
theorem dL_law_1930 : decode cL_law 1930 = .ok (.iconst 0, 1) := by decide +kernel
theorem dL_law_1931 : decode cL_law 1931 = .ok (.daload, 1) := by decide +kernel
theorem dL_law_1932 : decode cL_law 1932 = .ok (.fload 7, 2) := by decide +kernel
theorem dL_law_1934 : decode cL_law 1934 = .ok (.f2d, 1) := by decide +kernel
theorem dL_law_1935 : decode cL_law 1935 = .ok (.dcmp .l, 1) := by decide +kernel
theorem dL_law_1936 : decode cL_law 1936 = .ok (.ifCond .eq 25, 3) := by decide +kernel
theorem dL_law_1939 : decode cL_law 1939 = .ok (.aload 4, 2) := by decide +kernel
theorem dL_law_1941 : decode cL_law 1941 = .ok (.iconst 0, 1) := by decide +kernel
theorem dL_law_1942 : decode cL_law 1942 = .ok (.daload, 1) := by decide +kernel
theorem dL_law_1943 : decode cL_law 1943 = .ok (.aload 4, 2) := by decide +kernel
theorem dL_law_1945 : decode cL_law 1945 = .ok (.iconst 0, 1) := by decide +kernel
theorem dL_law_1946 : decode cL_law 1946 = .ok (.daload, 1) := by decide +kernel
theorem dL_law_1947 : decode cL_law 1947 = .ok (.dcmp .l, 1) := by decide +kernel
theorem dL_law_1948 : decode cL_law 1948 = .ok (.ifCond .eq 11, 3) := by decide +kernel
theorem dL_law_1951 : decode cL_law 1951 = .ok (.fload 7, 2) := by decide +kernel
theorem dL_law_1953 : decode cL_law 1953 = .ok (.fload 7, 2) := by decide +kernel
theorem dL_law_1955 : decode cL_law 1955 = .ok (.fcmp .l, 1) := by decide +kernel
theorem dL_law_1956 : decode cL_law 1956 = .ok (.ifCond .ne 5, 3) := by decide +kernel
theorem dL_law_1959 : decode cL_law 1959 = .ok (.iconst 0, 1) := by decide +kernel
theorem dL_law_1960 : decode cL_law 1960 = .ok (.ireturn, 1) := by decide +kernel
theorem dL_law_1961 : decode cL_law 1961 = .ok (.goto 68, 3) := by decide +kernel
theorem dL_law_1964 : decode cL_law 1964 = .ok (.aload_n 1, 1) := by decide +kernel
theorem dL_law_1965 : decode cL_law 1965 = .ok (.aload 4, 2) := by decide +kernel
theorem dL_law_1967 : decode cL_law 1967 = .ok (.invokestatic 221, 3) := by decide +kernel
theorem dL_law_1970 : decode cL_law 1970 = .ok (.istore 6, 2) := by decide +kernel
theorem dL_law_1972 : decode cL_law 1972 = .ok (.aload_n 2, 1) := by decide +kernel
theorem dL_law_1973 : decode cL_law 1973 = .ok (.invokevirtual 223, 3) := by decide +kernel
theorem dL_law_1976 : decode cL_law 1976 = .ok (.dstore 7, 2) := by decide +kernel
theorem dL_law_1978 : decode cL_law 1978 = .ok (.aload_n 2, 1) := by decide +kernel
theorem dL_law_1979 : decode cL_law 1979 = .ok (.invokevirtual 125, 3) := by decide +kernel
theorem dL_law_1982 : decode cL_law 1982 = .ok (.iload 6, 2) := by decide +kernel
theorem dL_law_1984 : decode cL_law 1984 = .ok (.if_icmp .eq 5, 3) := by decide +kernel
theorem dL_law_1987 : decode cL_law 1987 = .ok (.iconst 0, 1) := by decide +kernel
theorem dL_law_1988 : decode cL_law 1988 = .ok (.ireturn, 1) := by decide +kernel
theorem dL_law_1989 : decode cL_law 1989 = .ok (.iload 6, 2) := by decide +kernel
theorem dL_law_1991 : decode cL_law 1991 = .ok (.ifCond .ne 35, 3) := by decide +kernel
theorem dL_law_1994 : decode cL_law 1994 = .ok (.aload 4, 2) := by decide +kernel
theorem dL_law_1996 : decode cL_law 1996 = .ok (.iconst 0, 1) := by decide +kernel
theorem dL_law_1997 : decode cL_law 1997 = .ok (.daload, 1) := by decide +kernel
theorem dL_law_1998 : decode cL_law 1998 = .ok (.dload 7, 2) := by decide +kernel
theorem dL_law_2000 : decode cL_law 2000 = .ok (.dcmp .l, 1) := by decide +kernel
theorem dL_law_2001 : decode cL_law 2001 = .ok (.ifCond .eq 25, 3) := by decide +kernel
theorem dL_law_2004 : decode cL_law 2004 = .ok (.aload 4, 2) := by decide +kernel
theorem dL_law_2006 : decode cL_law 2006 = .ok (.iconst 0, 1) := by decide +kernel
theorem dL_law_2007 : decode cL_law 2007 = .ok (.daload, 1) := by decide +kernel
theorem dL_law_2008 : decode cL_law 2008 = .ok (.aload 4, 2) := by decide +kernel
theorem dL_law_2010 : decode cL_law 2010 = .ok (.iconst 0, 1) := by decide +kernel
theorem dL_law_2011 : decode cL_law 2011 = .ok (.daload, 1) := by decide +kernel
theorem dL_law_2012 : decode cL_law 2012 = .ok (.dcmp .l, 1) := by decide +kernel
theorem dL_law_2013 : decode cL_law 2013 = .ok (.ifCond .eq 11, 3) := by decide +kernel
theorem dL_law_2016 : decode cL_law 2016 = .ok (.dload 7, 2) := by decide +kernel
theorem dL_law_2018 : decode cL_law 2018 = .ok (.dload 7, 2) := by decide +kernel
theorem dL_law_2020 : decode cL_law 2020 = .ok (.dcmp .l, 1) := by decide +kernel
theorem dL_law_2021 : decode cL_law 2021 = .ok (.ifCond .ne 5, 3) := by decide +kernel
theorem dL_law_2024 : decode cL_law 2024 = .ok (.iconst 0, 1) := by decide +kernel
theorem dL_law_2025 : decode cL_law 2025 = .ok (.ireturn, 1) := by decide +kernel
theorem dL_law_2026 : decode cL_law 2026 = .ok (.goto 3, 3) := by decide +kernel
theorem dL_law_2029 : decode cL_law 2029 = .ok (.iinc 5 6, 3) := by decide +kernel
theorem dL_law_2032 : decode cL_law 2032 = .ok (.goto (-2004), 3) := by decide +kernel
theorem dL_law_2035 : decode cL_law 2035 = .ok (.iconst 1, 1) := by decide +kernel
theorem dL_law_2036 : decode cL_law 2036 = .ok (.ireturn, 1) := by decide +kernel
def tb_L_law0 (b Ls : Nat) (xs : Nat → Int32) (g : Nat → Nat) : Nat → ab_I := ab_tn 41 (ab_tn 21 (ab_tn 12 (ab_tn 7 (ab_tn 3 (ab_tl 0 (ab_new 11 [.null, .null, .null, .null, .long 0] 5 603072 7207018 3)) (ab_tn 4 (ab_tl 3 (ab_dup 4)) (ab_tl 4 (ab_callI 1 0 (wp_X8_init g) 4 12 603072 7207018 ab_NX 7)))) (ab_tn 8 (ab_tl 7 (ab_astore 1 8)) (ab_tn 11 (ab_tl 8 (ab_new 12 [.null, .null, .null, .null, .null, .null, .null, .null, .null, .null, .null, .null, .null, .null, .null, .null, .null, .null, .null, .null, .null, .null, .null, .null, .null, .null, .null, .null, .long 0, .int 0, .int 0, .int 0, .int 0, .int 0, .int 0, .int 0] 36 603072 7207018 11)) (ab_tl 11 (ab_dup 12))))) (ab_tn 17 (ab_tn 15 (ab_tl 12 (ab_callI 1 0 (wp_X9_init g) 28 3164 603072 7207018 ab_NX 15)) (ab_tn 16 (ab_tl 15 (ab_astore 2 16)) (ab_tl 16 (ab_push (.int 1) 17)))) (ab_tn 19 (ab_tl 17 (ab_newa 2 (.inr (.inl (fun _ => 0))) 603072 7207018 19)) (ab_tn 20 (ab_tl 19 (ab_astore 3 20)) (ab_tl 20 (ab_push (.int 1) 21)))))) (ab_tn 31 (ab_tn 26 (ab_tn 23 (ab_tl 21 (ab_newa 3 (.inr (.inr (.inr (.inl (fun _ => 0))))) 603072 7207018 23)) (ab_tn 25 (ab_tl 23 (ab_astore 4 25)) (ab_tl 25 (ab_push (.int 0) 26)))) (ab_tn 28 (ab_tl 26 (ab_istore 5 28)) (ab_tn 30 (ab_tl 28 (ab_iload 5 30)) (ab_tl 30 (ab_aload 0 31))))) (ab_tn 35 (ab_tn 32 (ab_tl 31 (ab_slen b Ls 32)) (ab_tn 34 (ab_tl 32 (ab_push (.int 6) 34)) (ab_tl 34 (ab_bin (fun x y => x - y) 35)))) (ab_tn 38 (ab_tl 35 (ab_icmp (fun x y => y < x) 2035 38)) (ab_tn 39 (ab_tl 38 (ab_aload 0 39)) (ab_tl 39 (ab_iload 5 41))))))) (ab_tn 191 (ab_tn 182 (ab_tn 45 (ab_tn 42 (ab_tl 41 (ab_sld b Ls xs 42)) (ab_tn 44 (ab_tl 42 (ab_push (.int 31) 44)) (ab_tl 44 (ab_bin (fun x y => x &&& y) 45)))) (ab_tn 180 (ab_tl 45 (ab_switch [(0, 180), (1, 236), (2, 342), (3, 398), (4, 466), (5, 522), (6, 578), (7, 646), (8, 714), (9, 782), (10, 857), (11, 913), (12, 1025), (13, 1088), (14, 1144), (15, 1200), (16, 1244), (17, 1312), (18, 1380), (19, 1436), (20, 1492), (21, 1536), (22, 1604), (23, 1672), (24, 1740), (25, 1796), (26, 1871), (27, 1885), (28, 1898), (29, 1964)] 2029)) (ab_tn 181 (ab_tl 180 (ab_aload 1 181)) (ab_tl 181 (ab_aload 0 182))))) (ab_tn 186 (ab_tn 184 (ab_tl 182 (ab_iload 5 184)) (ab_tn 185 (ab_tl 184 (ab_push (.int 1) 185)) (ab_tl 185 (ab_bin (fun x y => x + y) 186)))) (ab_tn 187 (ab_tl 186 (ab_sld b Ls xs 187)) (ab_tn 188 (ab_tl 187 (ab_aload 3 188)) (ab_tl 188 (ab_callS 3 1 (wp_L_riddle g) 12 224 603072 7207018 ab_NX 191)))))) (ab_tn 199 (ab_tn 195 (ab_tn 193 (ab_tl 191 (ab_istore 6 193)) (ab_tn 194 (ab_tl 193 (ab_aload 2 194)) (ab_tl 194 (ab_aload 0 195)))) (ab_tn 197 (ab_tl 195 (ab_iload 5 197)) (ab_tn 198 (ab_tl 197 (ab_push (.int 1) 198)) (ab_tl 198 (ab_bin (fun x y => x + y) 199))))) (ab_tn 205 (ab_tn 200 (ab_tl 199 (ab_sld b Ls xs 200)) (ab_tn 203 (ab_tl 200 (ab_callV 12 2 1 (wp_X9_riddle g) 0 0 603072 7207018 ab_NX 203)) (ab_tl 203 (ab_istore 7 205)))) (ab_tn 206 (ab_tl 205 (ab_aload 2 206)) (ab_tn 209 (ab_tl 206 (ab_callV 12 1 1 (wp_X9_thrown g) 0 0 603072 7207018 ab_NX 209)) (ab_tl 209 (ab_iload 6 211)))))))
set_option maxRecDepth 100000 in
set_option maxHeartbeats 4000000 in
theorem st_L_law0 {p : Program} {l : Launch} {e : Env} {s : State} {m : MethodId} {below : List Frame} {meth : Method} {c : Code} {D : va_G} {C : Nat → ClassId} {g : Nat → Nat} {A : Nat → Prop} {nm : String} {b Ls : Nat} {xs : Nat → Int32} (Cx : ab_Cx l D C g R_law nm code 9 ret ab_T p s m #[Value.ref b] meth c A) (hl : l.stackTraces = false) (hlk : meth.locks = false) (hA : ∀ q, A q → s.heap.size ≤ q) (hX : va_X b Ls xs s s.heap) (hbl : b < s.heap.size) (hbA : ¬ A b) : ∀ pc, ab_Sn (ab_W p l e room_1 s m #[Value.ref b] below meth c (lw_Z below #[Value.ref b] s) D C A 9) pc (tb_L_law0 b Ls xs g pc) :=
  ab_tn_ok (ab_tn_ok (ab_tn_ok (ab_tn_ok (ab_tn_ok (ab_tl_ok (sn_new Cx (Cn := RX8) (T := TX8) (N := 5) dL_law_0 rfl in_X8 tyX8 tyX8_ok wd_1_35 wd_1_36 wd_1_1 (fun j hj => by rcases (show j = 0 ∨ j = 1 ∨ j = 2 ∨ j = 3 ∨ j = 4 by omega) with rfl | rfl | rfl | rfl | rfl <;> rfl) rfl rfl)) (ab_tn_ok (ab_tl_ok (sn_dup Cx dL_law_3)) (ab_tl_ok (sn_callIG Cx (ct_X8_init hl) dL_law_4 wd_1_37 wd_1_38 wd_1_1 wd_1_39 rfl (hd := by decide +kernel) (by decide) rfl rfl)))) (ab_tn_ok (ab_tl_ok (sn_astore_n Cx dL_law_7 rfl (by decide))) (ab_tn_ok (ab_tl_ok (sn_new Cx (Cn := RX9) (T := TX9) (N := 36) dL_law_8 rfl in_X9 tyX9 tyX9_ok wd_5_185 wd_5_186 wd_1_5 (fun j hj => by rcases (show j = 0 ∨ j = 1 ∨ j = 2 ∨ j = 3 ∨ j = 4 ∨ j = 5 ∨ j = 6 ∨ j = 7 ∨ j = 8 ∨ j = 9 ∨ j = 10 ∨ j = 11 ∨ j = 12 ∨ j = 13 ∨ j = 14 ∨ j = 15 ∨ j = 16 ∨ j = 17 ∨ j = 18 ∨ j = 19 ∨ j = 20 ∨ j = 21 ∨ j = 22 ∨ j = 23 ∨ j = 24 ∨ j = 25 ∨ j = 26 ∨ j = 27 ∨ j = 28 ∨ j = 29 ∨ j = 30 ∨ j = 31 ∨ j = 32 ∨ j = 33 ∨ j = 34 ∨ j = 35 by omega) with rfl | rfl | rfl | rfl | rfl | rfl | rfl | rfl | rfl | rfl | rfl | rfl | rfl | rfl | rfl | rfl | rfl | rfl | rfl | rfl | rfl | rfl | rfl | rfl | rfl | rfl | rfl | rfl | rfl | rfl | rfl | rfl | rfl | rfl | rfl | rfl <;> rfl) rfl rfl)) (ab_tl_ok (sn_dup Cx dL_law_11))))) (ab_tn_ok (ab_tn_ok (ab_tl_ok (sn_callIG Cx (ct_X9_init hl) dL_law_12 wd_5_187 wd_5_188 wd_1_5 wd_5_189 rfl (hd := by decide +kernel) (by decide) rfl rfl)) (ab_tn_ok (ab_tl_ok (sn_astore_n Cx dL_law_15 rfl (by decide))) (ab_tl_ok (sn_iconst Cx dL_law_16 (by decide))))) (ab_tn_ok (ab_tl_ok (sn_newa Cx (j := 2) dL_law_17 wd_7_140 rfl (fun _ => rfl) (fun _ h => nomatch h) (by decide) (fun _ _ => rfl) rfl rfl)) (ab_tn_ok (ab_tl_ok (sn_astore_n Cx dL_law_19 rfl (by decide))) (ab_tl_ok (sn_iconst Cx dL_law_20 (by decide))))))) (ab_tn_ok (ab_tn_ok (ab_tn_ok (ab_tl_ok (sn_newa Cx (j := 3) dL_law_21 wd_7_141 rfl (fun _ => rfl) (fun _ h => nomatch h) (by decide) (fun _ _ => rfl) rfl rfl)) (ab_tn_ok (ab_tl_ok (sn_astore Cx dL_law_23 (by decide))) (ab_tl_ok (sn_iconst Cx dL_law_25 (by decide))))) (ab_tn_ok (ab_tl_ok (sn_istore Cx dL_law_26 (by decide))) (ab_tn_ok (ab_tl_ok (sn_iload Cx dL_law_28)) (ab_tl_ok (sn_aload_n Cx dL_law_30 rfl))))) (ab_tn_ok (ab_tn_ok (ab_tl_ok (sn_slen Cx hX hbl hbA dL_law_31)) (ab_tn_ok (ab_tl_ok (sn_bipush Cx dL_law_32 (by decide))) (ab_tl_ok (sn_isub Cx dL_law_34)))) (ab_tn_ok (ab_tl_ok (sn_icmp_gt Cx dL_law_35 (tgt := 2035) (by decide))) (ab_tn_ok (ab_tl_ok (sn_aload_n Cx dL_law_38 rfl)) (ab_tl_ok (sn_iload Cx dL_law_39))))))) (ab_tn_ok (ab_tn_ok (ab_tn_ok (ab_tn_ok (ab_tl_ok (sn_sld Cx hX hbl hbA dL_law_41)) (ab_tn_ok (ab_tl_ok (sn_bipush Cx dL_law_42 (by decide))) (ab_tl_ok (sn_iand Cx dL_law_44)))) (ab_tn_ok (ab_tl_ok (sn_table Cx dL_law_45 (by decide) (by decide))) (ab_tn_ok (ab_tl_ok (sn_aload_n Cx dL_law_180 rfl)) (ab_tl_ok (sn_aload_n Cx dL_law_181 rfl))))) (ab_tn_ok (ab_tn_ok (ab_tl_ok (sn_iload Cx dL_law_182)) (ab_tn_ok (ab_tl_ok (sn_iconst Cx dL_law_184 (by decide))) (ab_tl_ok (sn_iadd Cx dL_law_185)))) (ab_tn_ok (ab_tl_ok (sn_sld Cx hX hbl hbA dL_law_186)) (ab_tn_ok (ab_tl_ok (sn_aload_n Cx dL_law_187 rfl)) (ab_tl_ok (sn_callSG Cx (ct_L_riddle hl) dL_law_188 wd_1_187 wd_1_188 wd_1_0 wd_1_189 (hd := by decide +kernel) (by decide) rfl rfl)))))) (ab_tn_ok (ab_tn_ok (ab_tn_ok (ab_tl_ok (sn_istore Cx dL_law_191 (by decide))) (ab_tn_ok (ab_tl_ok (sn_aload_n Cx dL_law_193 rfl)) (ab_tl_ok (sn_aload_n Cx dL_law_194 rfl)))) (ab_tn_ok (ab_tl_ok (sn_iload Cx dL_law_195)) (ab_tn_ok (ab_tl_ok (sn_iconst Cx dL_law_197 (by decide))) (ab_tl_ok (sn_iadd Cx dL_law_198))))) (ab_tn_ok (ab_tn_ok (ab_tl_ok (sn_sld Cx hX hbl hbA dL_law_199)) (ab_tn_ok (ab_tl_ok (sn_callVG Cx (Cn := RX9) (T := TX9) (N := 36) rfl (ct_X9_riddle hl) dL_law_200 wd_6_64 wd_6_65 wd_1_5 wd_6_67 wd_6_66 (hd := by decide +kernel) (by decide) rfl rfl)) (ab_tl_ok (sn_istore Cx dL_law_203 (by decide))))) (ab_tn_ok (ab_tl_ok (sn_aload_n Cx dL_law_205 rfl)) (ab_tn_ok (ab_tl_ok (sn_callVG Cx (Cn := RX9) (T := TX9) (N := 36) rfl (ct_X9_thrown hl) dL_law_206 wd_6_60 wd_6_61 wd_1_5 wd_6_63 wd_6_62 (hd := by decide +kernel) (by decide) rfl rfl)) (ab_tl_ok (sn_iload Cx dL_law_209)))))))
def tb_L_law1 (b Ls : Nat) (xs : Nat → Int32) (g : Nat → Nat) : Nat → ab_I := ab_tn 249 (ab_tn 233 (ab_tn 223 (ab_tn 218 (ab_tn 214 (ab_tl 211 (ab_icmp (fun x y => x = y) 216 214)) (ab_tn 216 (ab_tl 214 (ab_push (.int 0) 215)) (ab_tl 216 (ab_iload 6 218)))) (ab_tn 221 (ab_tl 218 (ab_if (fun x => x = 0) 221 233)) (ab_tn 222 (ab_tl 221 (ab_aload 3 222)) (ab_tl 222 (ab_push (.int 0) 223))))) (ab_tn 227 (ab_tn 224 (ab_tl 223 (ab_lald 224)) (ab_tn 226 (ab_tl 224 (ab_iload 7 226)) (ab_tl 226 (ab_i2l 227)))) (ab_tn 228 (ab_tl 227 (ab_lcmp 228)) (ab_tn 231 (ab_tl 228 (ab_if (fun x => x = 0) 233 231)) (ab_tl 231 (ab_push (.int 0) 232)))))) (ab_tn 242 (ab_tn 238 (ab_tn 236 (ab_tl 233 (ab_goto 2029)) (ab_tn 237 (ab_tl 236 (ab_aload 1 237)) (ab_tl 237 (ab_aload 0 238)))) (ab_tn 240 (ab_tl 238 (ab_iload 5 240)) (ab_tn 241 (ab_tl 240 (ab_push (.int 1) 241)) (ab_tl 241 (ab_bin (fun x y => x + y) 242))))) (ab_tn 246 (ab_tn 243 (ab_tl 242 (ab_sld b Ls xs 243)) (ab_tn 244 (ab_tl 243 (ab_aload 0 244)) (ab_tl 244 (ab_iload 5 246)))) (ab_tn 247 (ab_tl 246 (ab_push (.int 2) 247)) (ab_tn 248 (ab_tl 247 (ab_bin (fun x y => x + y) 248)) (ab_tl 248 (ab_sld b Ls xs 249))))))) (ab_tn 263 (ab_tn 256 (ab_tn 253 (ab_tn 250 (ab_tl 249 (ab_i2c 250)) (ab_tn 251 (ab_tl 250 (ab_aload 0 251)) (ab_tl 251 (ab_iload 5 253)))) (ab_tn 254 (ab_tl 253 (ab_push (.int 3) 254)) (ab_tn 255 (ab_tl 254 (ab_bin (fun x y => x + y) 255)) (ab_tl 255 (ab_sld b Ls xs 256))))) (ab_tn 260 (ab_tn 257 (ab_tl 256 (ab_aload 0 257)) (ab_tn 259 (ab_tl 257 (ab_iload 5 259)) (ab_tl 259 (ab_push (.int 4) 260)))) (ab_tn 261 (ab_tl 260 (ab_bin (fun x y => x + y) 261)) (ab_tn 262 (ab_tl 261 (ab_sld b Ls xs 262)) (ab_tl 262 (ab_aload 0 263)))))) (ab_tn 272 (ab_tn 267 (ab_tn 265 (ab_tl 263 (ab_iload 5 265)) (ab_tn 266 (ab_tl 265 (ab_push (.int 5) 266)) (ab_tl 266 (ab_bin (fun x y => x + y) 267)))) (ab_tn 268 (ab_tl 267 (ab_sld b Ls xs 268)) (ab_tn 269 (ab_tl 268 (ab_aload 3 269)) (ab_tl 269 (ab_callS 7 1 (wp_L_clue g) 5 96 603072 7207018 ab_NX 272))))) (ab_tn 276 (ab_tn 274 (ab_tl 272 (ab_istore 6 274)) (ab_tn 275 (ab_tl 274 (ab_aload 2 275)) (ab_tl 275 (ab_aload 0 276)))) (ab_tn 278 (ab_tl 276 (ab_iload 5 278)) (ab_tn 279 (ab_tl 278 (ab_push (.int 1) 279)) (ab_tl 279 (ab_bin (fun x y => x + y) 280)))))))
set_option maxRecDepth 100000 in
set_option maxHeartbeats 4000000 in
theorem st_L_law1 {p : Program} {l : Launch} {e : Env} {s : State} {m : MethodId} {below : List Frame} {meth : Method} {c : Code} {D : va_G} {C : Nat → ClassId} {g : Nat → Nat} {A : Nat → Prop} {nm : String} {b Ls : Nat} {xs : Nat → Int32} (Cx : ab_Cx l D C g R_law nm code 9 ret ab_T p s m #[Value.ref b] meth c A) (hl : l.stackTraces = false) (hlk : meth.locks = false) (hA : ∀ q, A q → s.heap.size ≤ q) (hX : va_X b Ls xs s s.heap) (hbl : b < s.heap.size) (hbA : ¬ A b) : ∀ pc, ab_Sn (ab_W p l e room_1 s m #[Value.ref b] below meth c (lw_Z below #[Value.ref b] s) D C A 9) pc (tb_L_law1 b Ls xs g pc) :=
  ab_tn_ok (ab_tn_ok (ab_tn_ok (ab_tn_ok (ab_tn_ok (ab_tl_ok (sn_icmp_eq Cx dL_law_211 (tgt := 216) (by decide))) (ab_tn_ok (ab_tl_ok (sn_iconst Cx dL_law_214 (by decide))) (ab_tl_ok (sn_iload Cx dL_law_216)))) (ab_tn_ok (ab_tl_ok (sn_if_ne Cx dL_law_218 (tgt := 233) (by decide))) (ab_tn_ok (ab_tl_ok (sn_aload_n Cx dL_law_221 rfl)) (ab_tl_ok (sn_iconst Cx dL_law_222 (by decide)))))) (ab_tn_ok (ab_tn_ok (ab_tl_ok (sn_lald Cx dL_law_223)) (ab_tn_ok (ab_tl_ok (sn_iload Cx dL_law_224)) (ab_tl_ok (sn_i2l Cx dL_law_226)))) (ab_tn_ok (ab_tl_ok (sn_lcmp Cx dL_law_227)) (ab_tn_ok (ab_tl_ok (sn_if_eq Cx dL_law_228 (tgt := 233) (by decide))) (ab_tl_ok (sn_iconst Cx dL_law_231 (by decide))))))) (ab_tn_ok (ab_tn_ok (ab_tn_ok (ab_tl_ok (sn_goto Cx dL_law_233 (tgt := 2029) (by decide))) (ab_tn_ok (ab_tl_ok (sn_aload_n Cx dL_law_236 rfl)) (ab_tl_ok (sn_aload_n Cx dL_law_237 rfl)))) (ab_tn_ok (ab_tl_ok (sn_iload Cx dL_law_238)) (ab_tn_ok (ab_tl_ok (sn_iconst Cx dL_law_240 (by decide))) (ab_tl_ok (sn_iadd Cx dL_law_241))))) (ab_tn_ok (ab_tn_ok (ab_tl_ok (sn_sld Cx hX hbl hbA dL_law_242)) (ab_tn_ok (ab_tl_ok (sn_aload_n Cx dL_law_243 rfl)) (ab_tl_ok (sn_iload Cx dL_law_244)))) (ab_tn_ok (ab_tl_ok (sn_iconst Cx dL_law_246 (by decide))) (ab_tn_ok (ab_tl_ok (sn_iadd Cx dL_law_247)) (ab_tl_ok (sn_sld Cx hX hbl hbA dL_law_248))))))) (ab_tn_ok (ab_tn_ok (ab_tn_ok (ab_tn_ok (ab_tl_ok (sn_i2c Cx dL_law_249)) (ab_tn_ok (ab_tl_ok (sn_aload_n Cx dL_law_250 rfl)) (ab_tl_ok (sn_iload Cx dL_law_251)))) (ab_tn_ok (ab_tl_ok (sn_iconst Cx dL_law_253 (by decide))) (ab_tn_ok (ab_tl_ok (sn_iadd Cx dL_law_254)) (ab_tl_ok (sn_sld Cx hX hbl hbA dL_law_255))))) (ab_tn_ok (ab_tn_ok (ab_tl_ok (sn_aload_n Cx dL_law_256 rfl)) (ab_tn_ok (ab_tl_ok (sn_iload Cx dL_law_257)) (ab_tl_ok (sn_iconst Cx dL_law_259 (by decide))))) (ab_tn_ok (ab_tl_ok (sn_iadd Cx dL_law_260)) (ab_tn_ok (ab_tl_ok (sn_sld Cx hX hbl hbA dL_law_261)) (ab_tl_ok (sn_aload_n Cx dL_law_262 rfl)))))) (ab_tn_ok (ab_tn_ok (ab_tn_ok (ab_tl_ok (sn_iload Cx dL_law_263)) (ab_tn_ok (ab_tl_ok (sn_iconst Cx dL_law_265 (by decide))) (ab_tl_ok (sn_iadd Cx dL_law_266)))) (ab_tn_ok (ab_tl_ok (sn_sld Cx hX hbl hbA dL_law_267)) (ab_tn_ok (ab_tl_ok (sn_aload_n Cx dL_law_268 rfl)) (ab_tl_ok (sn_callSG Cx (ct_L_clue hl) dL_law_269 wd_2_188 wd_2_189 wd_1_0 wd_2_190 (hd := by decide +kernel) (by decide) rfl rfl))))) (ab_tn_ok (ab_tn_ok (ab_tl_ok (sn_istore Cx dL_law_272 (by decide))) (ab_tn_ok (ab_tl_ok (sn_aload_n Cx dL_law_274 rfl)) (ab_tl_ok (sn_aload_n Cx dL_law_275 rfl)))) (ab_tn_ok (ab_tl_ok (sn_iload Cx dL_law_276)) (ab_tn_ok (ab_tl_ok (sn_iconst Cx dL_law_278 (by decide))) (ab_tl_ok (sn_iadd Cx dL_law_279)))))))
def tb_L_law2 (b Ls : Nat) (xs : Nat → Int32) (g : Nat → Nat) : Nat → ab_I := ab_tn 311 (ab_tn 294 (ab_tn 287 (ab_tn 284 (ab_tn 281 (ab_tl 280 (ab_sld b Ls xs 281)) (ab_tn 282 (ab_tl 281 (ab_aload 0 282)) (ab_tl 282 (ab_iload 5 284)))) (ab_tn 285 (ab_tl 284 (ab_push (.int 2) 285)) (ab_tn 286 (ab_tl 285 (ab_bin (fun x y => x + y) 286)) (ab_tl 286 (ab_sld b Ls xs 287))))) (ab_tn 291 (ab_tn 288 (ab_tl 287 (ab_i2c 288)) (ab_tn 289 (ab_tl 288 (ab_aload 0 289)) (ab_tl 289 (ab_iload 5 291)))) (ab_tn 292 (ab_tl 291 (ab_push (.int 3) 292)) (ab_tn 293 (ab_tl 292 (ab_bin (fun x y => x + y) 293)) (ab_tl 293 (ab_sld b Ls xs 294)))))) (ab_tn 301 (ab_tn 298 (ab_tn 295 (ab_tl 294 (ab_aload 0 295)) (ab_tn 297 (ab_tl 295 (ab_iload 5 297)) (ab_tl 297 (ab_push (.int 4) 298)))) (ab_tn 299 (ab_tl 298 (ab_bin (fun x y => x + y) 299)) (ab_tn 300 (ab_tl 299 (ab_sld b Ls xs 300)) (ab_tl 300 (ab_aload 0 301))))) (ab_tn 305 (ab_tn 303 (ab_tl 301 (ab_iload 5 303)) (ab_tn 304 (ab_tl 303 (ab_push (.int 5) 304)) (ab_tl 304 (ab_bin (fun x y => x + y) 305)))) (ab_tn 306 (ab_tl 305 (ab_sld b Ls xs 306)) (ab_tn 309 (ab_tl 306 (ab_callV 12 6 1 (wp_X9_clue g) 0 0 603072 7207018 ab_NX 309)) (ab_tl 309 (ab_istore 7 311))))))) (ab_tn 333 (ab_tn 324 (ab_tn 317 (ab_tn 312 (ab_tl 311 (ab_aload 2 312)) (ab_tn 315 (ab_tl 312 (ab_callV 12 1 1 (wp_X9_thrown g) 0 0 603072 7207018 ab_NX 315)) (ab_tl 315 (ab_iload 6 317)))) (ab_tn 320 (ab_tl 317 (ab_icmp (fun x y => x = y) 322 320)) (ab_tn 322 (ab_tl 320 (ab_push (.int 0) 321)) (ab_tl 322 (ab_iload 6 324))))) (ab_tn 329 (ab_tn 327 (ab_tl 324 (ab_if (fun x => x = 0) 327 339)) (ab_tn 328 (ab_tl 327 (ab_aload 3 328)) (ab_tl 328 (ab_push (.int 0) 329)))) (ab_tn 330 (ab_tl 329 (ab_lald 330)) (ab_tn 332 (ab_tl 330 (ab_iload 7 332)) (ab_tl 332 (ab_i2l 333)))))) (ab_tn 344 (ab_tn 339 (ab_tn 334 (ab_tl 333 (ab_lcmp 334)) (ab_tn 337 (ab_tl 334 (ab_if (fun x => x = 0) 339 337)) (ab_tl 337 (ab_push (.int 0) 338)))) (ab_tn 342 (ab_tl 339 (ab_goto 2029)) (ab_tn 343 (ab_tl 342 (ab_aload 1 343)) (ab_tl 343 (ab_aload 0 344))))) (ab_tn 348 (ab_tn 346 (ab_tl 344 (ab_iload 5 346)) (ab_tn 347 (ab_tl 346 (ab_push (.int 1) 347)) (ab_tl 347 (ab_bin (fun x y => x + y) 348)))) (ab_tn 349 (ab_tl 348 (ab_sld b Ls xs 349)) (ab_tn 350 (ab_tl 349 (ab_aload 3 350)) (ab_tl 350 (ab_callS 3 1 (wp_L_answers g) 3 13 603072 7207018 ab_NX 353)))))))
set_option maxRecDepth 100000 in
set_option maxHeartbeats 4000000 in
theorem st_L_law2 {p : Program} {l : Launch} {e : Env} {s : State} {m : MethodId} {below : List Frame} {meth : Method} {c : Code} {D : va_G} {C : Nat → ClassId} {g : Nat → Nat} {A : Nat → Prop} {nm : String} {b Ls : Nat} {xs : Nat → Int32} (Cx : ab_Cx l D C g R_law nm code 9 ret ab_T p s m #[Value.ref b] meth c A) (hl : l.stackTraces = false) (hlk : meth.locks = false) (hA : ∀ q, A q → s.heap.size ≤ q) (hX : va_X b Ls xs s s.heap) (hbl : b < s.heap.size) (hbA : ¬ A b) : ∀ pc, ab_Sn (ab_W p l e room_1 s m #[Value.ref b] below meth c (lw_Z below #[Value.ref b] s) D C A 9) pc (tb_L_law2 b Ls xs g pc) :=
  ab_tn_ok (ab_tn_ok (ab_tn_ok (ab_tn_ok (ab_tn_ok (ab_tl_ok (sn_sld Cx hX hbl hbA dL_law_280)) (ab_tn_ok (ab_tl_ok (sn_aload_n Cx dL_law_281 rfl)) (ab_tl_ok (sn_iload Cx dL_law_282)))) (ab_tn_ok (ab_tl_ok (sn_iconst Cx dL_law_284 (by decide))) (ab_tn_ok (ab_tl_ok (sn_iadd Cx dL_law_285)) (ab_tl_ok (sn_sld Cx hX hbl hbA dL_law_286))))) (ab_tn_ok (ab_tn_ok (ab_tl_ok (sn_i2c Cx dL_law_287)) (ab_tn_ok (ab_tl_ok (sn_aload_n Cx dL_law_288 rfl)) (ab_tl_ok (sn_iload Cx dL_law_289)))) (ab_tn_ok (ab_tl_ok (sn_iconst Cx dL_law_291 (by decide))) (ab_tn_ok (ab_tl_ok (sn_iadd Cx dL_law_292)) (ab_tl_ok (sn_sld Cx hX hbl hbA dL_law_293)))))) (ab_tn_ok (ab_tn_ok (ab_tn_ok (ab_tl_ok (sn_aload_n Cx dL_law_294 rfl)) (ab_tn_ok (ab_tl_ok (sn_iload Cx dL_law_295)) (ab_tl_ok (sn_iconst Cx dL_law_297 (by decide))))) (ab_tn_ok (ab_tl_ok (sn_iadd Cx dL_law_298)) (ab_tn_ok (ab_tl_ok (sn_sld Cx hX hbl hbA dL_law_299)) (ab_tl_ok (sn_aload_n Cx dL_law_300 rfl))))) (ab_tn_ok (ab_tn_ok (ab_tl_ok (sn_iload Cx dL_law_301)) (ab_tn_ok (ab_tl_ok (sn_iconst Cx dL_law_303 (by decide))) (ab_tl_ok (sn_iadd Cx dL_law_304)))) (ab_tn_ok (ab_tl_ok (sn_sld Cx hX hbl hbA dL_law_305)) (ab_tn_ok (ab_tl_ok (sn_callVG Cx (Cn := RX9) (T := TX9) (N := 36) rfl (ct_X9_clue hl) dL_law_306 wd_6_79 wd_6_80 wd_1_5 wd_6_82 wd_6_81 (hd := by decide +kernel) (by decide) rfl rfl)) (ab_tl_ok (sn_istore Cx dL_law_309 (by decide)))))))) (ab_tn_ok (ab_tn_ok (ab_tn_ok (ab_tn_ok (ab_tl_ok (sn_aload_n Cx dL_law_311 rfl)) (ab_tn_ok (ab_tl_ok (sn_callVG Cx (Cn := RX9) (T := TX9) (N := 36) rfl (ct_X9_thrown hl) dL_law_312 wd_6_60 wd_6_61 wd_1_5 wd_6_63 wd_6_62 (hd := by decide +kernel) (by decide) rfl rfl)) (ab_tl_ok (sn_iload Cx dL_law_315)))) (ab_tn_ok (ab_tl_ok (sn_icmp_eq Cx dL_law_317 (tgt := 322) (by decide))) (ab_tn_ok (ab_tl_ok (sn_iconst Cx dL_law_320 (by decide))) (ab_tl_ok (sn_iload Cx dL_law_322))))) (ab_tn_ok (ab_tn_ok (ab_tl_ok (sn_if_ne Cx dL_law_324 (tgt := 339) (by decide))) (ab_tn_ok (ab_tl_ok (sn_aload_n Cx dL_law_327 rfl)) (ab_tl_ok (sn_iconst Cx dL_law_328 (by decide))))) (ab_tn_ok (ab_tl_ok (sn_lald Cx dL_law_329)) (ab_tn_ok (ab_tl_ok (sn_iload Cx dL_law_330)) (ab_tl_ok (sn_i2l Cx dL_law_332)))))) (ab_tn_ok (ab_tn_ok (ab_tn_ok (ab_tl_ok (sn_lcmp Cx dL_law_333)) (ab_tn_ok (ab_tl_ok (sn_if_eq Cx dL_law_334 (tgt := 339) (by decide))) (ab_tl_ok (sn_iconst Cx dL_law_337 (by decide))))) (ab_tn_ok (ab_tl_ok (sn_goto Cx dL_law_339 (tgt := 2029) (by decide))) (ab_tn_ok (ab_tl_ok (sn_aload_n Cx dL_law_342 rfl)) (ab_tl_ok (sn_aload_n Cx dL_law_343 rfl))))) (ab_tn_ok (ab_tn_ok (ab_tl_ok (sn_iload Cx dL_law_344)) (ab_tn_ok (ab_tl_ok (sn_iconst Cx dL_law_346 (by decide))) (ab_tl_ok (sn_iadd Cx dL_law_347)))) (ab_tn_ok (ab_tl_ok (sn_sld Cx hX hbl hbA dL_law_348)) (ab_tn_ok (ab_tl_ok (sn_aload_n Cx dL_law_349 rfl)) (ab_tl_ok (sn_callSG Cx (ct_L_answers hl) dL_law_350 wd_3_138 wd_3_139 wd_1_0 wd_3_140 (hd := by decide +kernel) (by decide) rfl rfl)))))))
def tb_L_law3 (b Ls : Nat) (xs : Nat → Int32) (g : Nat → Nat) : Nat → ab_I := ab_tn 395 (ab_tn 373 (ab_tn 361 (ab_tn 357 (ab_tn 355 (ab_tl 353 (ab_istore 6 355)) (ab_tn 356 (ab_tl 355 (ab_aload 2 356)) (ab_tl 356 (ab_aload 0 357)))) (ab_tn 359 (ab_tl 357 (ab_iload 5 359)) (ab_tn 360 (ab_tl 359 (ab_push (.int 1) 360)) (ab_tl 360 (ab_bin (fun x y => x + y) 361))))) (ab_tn 367 (ab_tn 362 (ab_tl 361 (ab_sld b Ls xs 362)) (ab_tn 365 (ab_tl 362 (ab_callV 12 2 1 (wp_X9_answers g) 0 0 603072 7207018 ab_NX 365)) (ab_tl 365 (ab_istore 7 367)))) (ab_tn 368 (ab_tl 367 (ab_aload 2 368)) (ab_tn 371 (ab_tl 368 (ab_callV 12 1 1 (wp_X9_thrown g) 0 0 603072 7207018 ab_NX 371)) (ab_tl 371 (ab_iload 6 373)))))) (ab_tn 385 (ab_tn 380 (ab_tn 376 (ab_tl 373 (ab_icmp (fun x y => x = y) 378 376)) (ab_tn 378 (ab_tl 376 (ab_push (.int 0) 377)) (ab_tl 378 (ab_iload 6 380)))) (ab_tn 383 (ab_tl 380 (ab_if (fun x => x = 0) 383 395)) (ab_tn 384 (ab_tl 383 (ab_aload 3 384)) (ab_tl 384 (ab_push (.int 0) 385))))) (ab_tn 389 (ab_tn 386 (ab_tl 385 (ab_lald 386)) (ab_tn 388 (ab_tl 386 (ab_iload 7 388)) (ab_tl 388 (ab_i2l 389)))) (ab_tn 390 (ab_tl 389 (ab_lcmp 390)) (ab_tn 393 (ab_tl 390 (ab_if (fun x => x = 0) 395 393)) (ab_tl 393 (ab_push (.int 0) 394))))))) (ab_tn 411 (ab_tn 404 (ab_tn 400 (ab_tn 398 (ab_tl 395 (ab_goto 2029)) (ab_tn 399 (ab_tl 398 (ab_aload 1 399)) (ab_tl 399 (ab_aload 0 400)))) (ab_tn 402 (ab_tl 400 (ab_iload 5 402)) (ab_tn 403 (ab_tl 402 (ab_push (.int 1) 403)) (ab_tl 403 (ab_bin (fun x y => x + y) 404))))) (ab_tn 408 (ab_tn 405 (ab_tl 404 (ab_sld b Ls xs 405)) (ab_tn 406 (ab_tl 405 (ab_aload 0 406)) (ab_tl 406 (ab_iload 5 408)))) (ab_tn 409 (ab_tl 408 (ab_push (.int 2) 409)) (ab_tn 410 (ab_tl 409 (ab_bin (fun x y => x + y) 410)) (ab_tl 410 (ab_sld b Ls xs 411)))))) (ab_tn 421 (ab_tn 417 (ab_tn 412 (ab_tl 411 (ab_aload 3 412)) (ab_tn 415 (ab_tl 412 (ab_callS 4 1 (wp_L_answer g) 4 19 603072 7207018 ab_NX 415)) (ab_tl 415 (ab_istore 6 417)))) (ab_tn 418 (ab_tl 417 (ab_aload 2 418)) (ab_tn 419 (ab_tl 418 (ab_aload 0 419)) (ab_tl 419 (ab_iload 5 421))))) (ab_tn 424 (ab_tn 422 (ab_tl 421 (ab_push (.int 1) 422)) (ab_tn 423 (ab_tl 422 (ab_bin (fun x y => x + y) 423)) (ab_tl 423 (ab_sld b Ls xs 424)))) (ab_tn 425 (ab_tl 424 (ab_aload 0 425)) (ab_tn 427 (ab_tl 425 (ab_iload 5 427)) (ab_tl 427 (ab_push (.int 2) 428)))))))
set_option maxRecDepth 100000 in
set_option maxHeartbeats 4000000 in
theorem st_L_law3 {p : Program} {l : Launch} {e : Env} {s : State} {m : MethodId} {below : List Frame} {meth : Method} {c : Code} {D : va_G} {C : Nat → ClassId} {g : Nat → Nat} {A : Nat → Prop} {nm : String} {b Ls : Nat} {xs : Nat → Int32} (Cx : ab_Cx l D C g R_law nm code 9 ret ab_T p s m #[Value.ref b] meth c A) (hl : l.stackTraces = false) (hlk : meth.locks = false) (hA : ∀ q, A q → s.heap.size ≤ q) (hX : va_X b Ls xs s s.heap) (hbl : b < s.heap.size) (hbA : ¬ A b) : ∀ pc, ab_Sn (ab_W p l e room_1 s m #[Value.ref b] below meth c (lw_Z below #[Value.ref b] s) D C A 9) pc (tb_L_law3 b Ls xs g pc) :=
  ab_tn_ok (ab_tn_ok (ab_tn_ok (ab_tn_ok (ab_tn_ok (ab_tl_ok (sn_istore Cx dL_law_353 (by decide))) (ab_tn_ok (ab_tl_ok (sn_aload_n Cx dL_law_355 rfl)) (ab_tl_ok (sn_aload_n Cx dL_law_356 rfl)))) (ab_tn_ok (ab_tl_ok (sn_iload Cx dL_law_357)) (ab_tn_ok (ab_tl_ok (sn_iconst Cx dL_law_359 (by decide))) (ab_tl_ok (sn_iadd Cx dL_law_360))))) (ab_tn_ok (ab_tn_ok (ab_tl_ok (sn_sld Cx hX hbl hbA dL_law_361)) (ab_tn_ok (ab_tl_ok (sn_callVG Cx (Cn := RX9) (T := TX9) (N := 36) rfl (ct_X9_answers hl) dL_law_362 wd_6_91 wd_6_92 wd_1_5 wd_6_94 wd_6_93 (hd := by decide +kernel) (by decide) rfl rfl)) (ab_tl_ok (sn_istore Cx dL_law_365 (by decide))))) (ab_tn_ok (ab_tl_ok (sn_aload_n Cx dL_law_367 rfl)) (ab_tn_ok (ab_tl_ok (sn_callVG Cx (Cn := RX9) (T := TX9) (N := 36) rfl (ct_X9_thrown hl) dL_law_368 wd_6_60 wd_6_61 wd_1_5 wd_6_63 wd_6_62 (hd := by decide +kernel) (by decide) rfl rfl)) (ab_tl_ok (sn_iload Cx dL_law_371)))))) (ab_tn_ok (ab_tn_ok (ab_tn_ok (ab_tl_ok (sn_icmp_eq Cx dL_law_373 (tgt := 378) (by decide))) (ab_tn_ok (ab_tl_ok (sn_iconst Cx dL_law_376 (by decide))) (ab_tl_ok (sn_iload Cx dL_law_378)))) (ab_tn_ok (ab_tl_ok (sn_if_ne Cx dL_law_380 (tgt := 395) (by decide))) (ab_tn_ok (ab_tl_ok (sn_aload_n Cx dL_law_383 rfl)) (ab_tl_ok (sn_iconst Cx dL_law_384 (by decide)))))) (ab_tn_ok (ab_tn_ok (ab_tl_ok (sn_lald Cx dL_law_385)) (ab_tn_ok (ab_tl_ok (sn_iload Cx dL_law_386)) (ab_tl_ok (sn_i2l Cx dL_law_388)))) (ab_tn_ok (ab_tl_ok (sn_lcmp Cx dL_law_389)) (ab_tn_ok (ab_tl_ok (sn_if_eq Cx dL_law_390 (tgt := 395) (by decide))) (ab_tl_ok (sn_iconst Cx dL_law_393 (by decide)))))))) (ab_tn_ok (ab_tn_ok (ab_tn_ok (ab_tn_ok (ab_tl_ok (sn_goto Cx dL_law_395 (tgt := 2029) (by decide))) (ab_tn_ok (ab_tl_ok (sn_aload_n Cx dL_law_398 rfl)) (ab_tl_ok (sn_aload_n Cx dL_law_399 rfl)))) (ab_tn_ok (ab_tl_ok (sn_iload Cx dL_law_400)) (ab_tn_ok (ab_tl_ok (sn_iconst Cx dL_law_402 (by decide))) (ab_tl_ok (sn_iadd Cx dL_law_403))))) (ab_tn_ok (ab_tn_ok (ab_tl_ok (sn_sld Cx hX hbl hbA dL_law_404)) (ab_tn_ok (ab_tl_ok (sn_aload_n Cx dL_law_405 rfl)) (ab_tl_ok (sn_iload Cx dL_law_406)))) (ab_tn_ok (ab_tl_ok (sn_iconst Cx dL_law_408 (by decide))) (ab_tn_ok (ab_tl_ok (sn_iadd Cx dL_law_409)) (ab_tl_ok (sn_sld Cx hX hbl hbA dL_law_410)))))) (ab_tn_ok (ab_tn_ok (ab_tn_ok (ab_tl_ok (sn_aload_n Cx dL_law_411 rfl)) (ab_tn_ok (ab_tl_ok (sn_callSG Cx (ct_L_answer hl) dL_law_412 wd_3_145 wd_3_146 wd_1_0 wd_3_147 (hd := by decide +kernel) (by decide) rfl rfl)) (ab_tl_ok (sn_istore Cx dL_law_415 (by decide))))) (ab_tn_ok (ab_tl_ok (sn_aload_n Cx dL_law_417 rfl)) (ab_tn_ok (ab_tl_ok (sn_aload_n Cx dL_law_418 rfl)) (ab_tl_ok (sn_iload Cx dL_law_419))))) (ab_tn_ok (ab_tn_ok (ab_tl_ok (sn_iconst Cx dL_law_421 (by decide))) (ab_tn_ok (ab_tl_ok (sn_iadd Cx dL_law_422)) (ab_tl_ok (sn_sld Cx hX hbl hbA dL_law_423)))) (ab_tn_ok (ab_tl_ok (sn_aload_n Cx dL_law_424 rfl)) (ab_tn_ok (ab_tl_ok (sn_iload Cx dL_law_425)) (ab_tl_ok (sn_iconst Cx dL_law_427 (by decide))))))))
def tb_L_law4 (b Ls : Nat) (xs : Nat → Int32) (g : Nat → Nat) : Nat → ab_I := ab_tn 471 (ab_tn 452 (ab_tn 439 (ab_tn 433 (ab_tn 429 (ab_tl 428 (ab_bin (fun x y => x + y) 429)) (ab_tn 430 (ab_tl 429 (ab_sld b Ls xs 430)) (ab_tl 430 (ab_callV 12 3 1 (wp_X9_answer g) 0 0 603072 7207018 ab_NX 433)))) (ab_tn 435 (ab_tl 433 (ab_istore 7 435)) (ab_tn 436 (ab_tl 435 (ab_aload 2 436)) (ab_tl 436 (ab_callV 12 1 1 (wp_X9_thrown g) 0 0 603072 7207018 ab_NX 439))))) (ab_tn 446 (ab_tn 441 (ab_tl 439 (ab_iload 6 441)) (ab_tn 444 (ab_tl 441 (ab_icmp (fun x y => x = y) 446 444)) (ab_tl 444 (ab_push (.int 0) 445)))) (ab_tn 448 (ab_tl 446 (ab_iload 6 448)) (ab_tn 451 (ab_tl 448 (ab_if (fun x => x = 0) 451 463)) (ab_tl 451 (ab_aload 3 452)))))) (ab_tn 461 (ab_tn 456 (ab_tn 453 (ab_tl 452 (ab_push (.int 0) 453)) (ab_tn 454 (ab_tl 453 (ab_lald 454)) (ab_tl 454 (ab_iload 7 456)))) (ab_tn 457 (ab_tl 456 (ab_i2l 457)) (ab_tn 458 (ab_tl 457 (ab_lcmp 458)) (ab_tl 458 (ab_if (fun x => x = 0) 463 461))))) (ab_tn 467 (ab_tn 463 (ab_tl 461 (ab_push (.int 0) 462)) (ab_tn 466 (ab_tl 463 (ab_goto 2029)) (ab_tl 466 (ab_aload 1 467)))) (ab_tn 468 (ab_tl 467 (ab_aload 0 468)) (ab_tn 470 (ab_tl 468 (ab_iload 5 470)) (ab_tl 470 (ab_push (.int 1) 471))))))) (ab_tn 489 (ab_tn 480 (ab_tn 474 (ab_tn 472 (ab_tl 471 (ab_bin (fun x y => x + y) 472)) (ab_tn 473 (ab_tl 472 (ab_sld b Ls xs 473)) (ab_tl 473 (ab_aload 3 474)))) (ab_tn 477 (ab_tl 474 (ab_callS 3 1 (wp_L_prove g) 2 12 603072 7207018 ab_NX 477)) (ab_tn 479 (ab_tl 477 (ab_istore 6 479)) (ab_tl 479 (ab_aload 2 480))))) (ab_tn 484 (ab_tn 481 (ab_tl 480 (ab_aload 0 481)) (ab_tn 483 (ab_tl 481 (ab_iload 5 483)) (ab_tl 483 (ab_push (.int 1) 484)))) (ab_tn 485 (ab_tl 484 (ab_bin (fun x y => x + y) 485)) (ab_tn 486 (ab_tl 485 (ab_sld b Ls xs 486)) (ab_tl 486 (ab_callV 12 2 1 (wp_X9_prove g) 0 0 603072 7207018 ab_NX 489)))))) (ab_tn 502 (ab_tn 495 (ab_tn 491 (ab_tl 489 (ab_istore 7 491)) (ab_tn 492 (ab_tl 491 (ab_aload 2 492)) (ab_tl 492 (ab_callV 12 1 1 (wp_X9_thrown g) 0 0 603072 7207018 ab_NX 495)))) (ab_tn 497 (ab_tl 495 (ab_iload 6 497)) (ab_tn 500 (ab_tl 497 (ab_icmp (fun x y => x = y) 502 500)) (ab_tl 500 (ab_push (.int 0) 501))))) (ab_tn 508 (ab_tn 504 (ab_tl 502 (ab_iload 6 504)) (ab_tn 507 (ab_tl 504 (ab_if (fun x => x = 0) 507 519)) (ab_tl 507 (ab_aload 3 508)))) (ab_tn 509 (ab_tl 508 (ab_push (.int 0) 509)) (ab_tn 510 (ab_tl 509 (ab_lald 510)) (ab_tl 510 (ab_iload 7 512)))))))
set_option maxRecDepth 100000 in
set_option maxHeartbeats 4000000 in
theorem st_L_law4 {p : Program} {l : Launch} {e : Env} {s : State} {m : MethodId} {below : List Frame} {meth : Method} {c : Code} {D : va_G} {C : Nat → ClassId} {g : Nat → Nat} {A : Nat → Prop} {nm : String} {b Ls : Nat} {xs : Nat → Int32} (Cx : ab_Cx l D C g R_law nm code 9 ret ab_T p s m #[Value.ref b] meth c A) (hl : l.stackTraces = false) (hlk : meth.locks = false) (hA : ∀ q, A q → s.heap.size ≤ q) (hX : va_X b Ls xs s s.heap) (hbl : b < s.heap.size) (hbA : ¬ A b) : ∀ pc, ab_Sn (ab_W p l e room_1 s m #[Value.ref b] below meth c (lw_Z below #[Value.ref b] s) D C A 9) pc (tb_L_law4 b Ls xs g pc) :=
  ab_tn_ok (ab_tn_ok (ab_tn_ok (ab_tn_ok (ab_tn_ok (ab_tl_ok (sn_iadd Cx dL_law_428)) (ab_tn_ok (ab_tl_ok (sn_sld Cx hX hbl hbA dL_law_429)) (ab_tl_ok (sn_callVG Cx (Cn := RX9) (T := TX9) (N := 36) rfl (ct_X9_answer hl) dL_law_430 wd_6_119 wd_6_120 wd_1_5 wd_6_122 wd_6_121 (hd := by decide +kernel) (by decide) rfl rfl)))) (ab_tn_ok (ab_tl_ok (sn_istore Cx dL_law_433 (by decide))) (ab_tn_ok (ab_tl_ok (sn_aload_n Cx dL_law_435 rfl)) (ab_tl_ok (sn_callVG Cx (Cn := RX9) (T := TX9) (N := 36) rfl (ct_X9_thrown hl) dL_law_436 wd_6_60 wd_6_61 wd_1_5 wd_6_63 wd_6_62 (hd := by decide +kernel) (by decide) rfl rfl))))) (ab_tn_ok (ab_tn_ok (ab_tl_ok (sn_iload Cx dL_law_439)) (ab_tn_ok (ab_tl_ok (sn_icmp_eq Cx dL_law_441 (tgt := 446) (by decide))) (ab_tl_ok (sn_iconst Cx dL_law_444 (by decide))))) (ab_tn_ok (ab_tl_ok (sn_iload Cx dL_law_446)) (ab_tn_ok (ab_tl_ok (sn_if_ne Cx dL_law_448 (tgt := 463) (by decide))) (ab_tl_ok (sn_aload_n Cx dL_law_451 rfl)))))) (ab_tn_ok (ab_tn_ok (ab_tn_ok (ab_tl_ok (sn_iconst Cx dL_law_452 (by decide))) (ab_tn_ok (ab_tl_ok (sn_lald Cx dL_law_453)) (ab_tl_ok (sn_iload Cx dL_law_454)))) (ab_tn_ok (ab_tl_ok (sn_i2l Cx dL_law_456)) (ab_tn_ok (ab_tl_ok (sn_lcmp Cx dL_law_457)) (ab_tl_ok (sn_if_eq Cx dL_law_458 (tgt := 463) (by decide)))))) (ab_tn_ok (ab_tn_ok (ab_tl_ok (sn_iconst Cx dL_law_461 (by decide))) (ab_tn_ok (ab_tl_ok (sn_goto Cx dL_law_463 (tgt := 2029) (by decide))) (ab_tl_ok (sn_aload_n Cx dL_law_466 rfl)))) (ab_tn_ok (ab_tl_ok (sn_aload_n Cx dL_law_467 rfl)) (ab_tn_ok (ab_tl_ok (sn_iload Cx dL_law_468)) (ab_tl_ok (sn_iconst Cx dL_law_470 (by decide)))))))) (ab_tn_ok (ab_tn_ok (ab_tn_ok (ab_tn_ok (ab_tl_ok (sn_iadd Cx dL_law_471)) (ab_tn_ok (ab_tl_ok (sn_sld Cx hX hbl hbA dL_law_472)) (ab_tl_ok (sn_aload_n Cx dL_law_473 rfl)))) (ab_tn_ok (ab_tl_ok (sn_callSG Cx (ct_L_prove hl) dL_law_474 wd_3_170 wd_3_171 wd_1_0 wd_3_172 (hd := by decide +kernel) (by decide) rfl rfl)) (ab_tn_ok (ab_tl_ok (sn_istore Cx dL_law_477 (by decide))) (ab_tl_ok (sn_aload_n Cx dL_law_479 rfl))))) (ab_tn_ok (ab_tn_ok (ab_tl_ok (sn_aload_n Cx dL_law_480 rfl)) (ab_tn_ok (ab_tl_ok (sn_iload Cx dL_law_481)) (ab_tl_ok (sn_iconst Cx dL_law_483 (by decide))))) (ab_tn_ok (ab_tl_ok (sn_iadd Cx dL_law_484)) (ab_tn_ok (ab_tl_ok (sn_sld Cx hX hbl hbA dL_law_485)) (ab_tl_ok (sn_callVG Cx (Cn := RX9) (T := TX9) (N := 36) rfl (ct_X9_prove hl) dL_law_486 wd_6_123 wd_6_124 wd_1_5 wd_6_126 wd_6_125 (hd := by decide +kernel) (by decide) rfl rfl)))))) (ab_tn_ok (ab_tn_ok (ab_tn_ok (ab_tl_ok (sn_istore Cx dL_law_489 (by decide))) (ab_tn_ok (ab_tl_ok (sn_aload_n Cx dL_law_491 rfl)) (ab_tl_ok (sn_callVG Cx (Cn := RX9) (T := TX9) (N := 36) rfl (ct_X9_thrown hl) dL_law_492 wd_6_60 wd_6_61 wd_1_5 wd_6_63 wd_6_62 (hd := by decide +kernel) (by decide) rfl rfl)))) (ab_tn_ok (ab_tl_ok (sn_iload Cx dL_law_495)) (ab_tn_ok (ab_tl_ok (sn_icmp_eq Cx dL_law_497 (tgt := 502) (by decide))) (ab_tl_ok (sn_iconst Cx dL_law_500 (by decide)))))) (ab_tn_ok (ab_tn_ok (ab_tl_ok (sn_iload Cx dL_law_502)) (ab_tn_ok (ab_tl_ok (sn_if_ne Cx dL_law_504 (tgt := 519) (by decide))) (ab_tl_ok (sn_aload_n Cx dL_law_507 rfl)))) (ab_tn_ok (ab_tl_ok (sn_iconst Cx dL_law_508 (by decide))) (ab_tn_ok (ab_tl_ok (sn_lald Cx dL_law_509)) (ab_tl_ok (sn_iload Cx dL_law_510)))))))
def tb_L_law5 (b Ls : Nat) (xs : Nat → Int32) (g : Nat → Nat) : Nat → ab_I := ab_tn 551 (ab_tn 530 (ab_tn 523 (ab_tn 517 (ab_tn 513 (ab_tl 512 (ab_i2l 513)) (ab_tn 514 (ab_tl 513 (ab_lcmp 514)) (ab_tl 514 (ab_if (fun x => x = 0) 519 517)))) (ab_tn 519 (ab_tl 517 (ab_push (.int 0) 518)) (ab_tn 522 (ab_tl 519 (ab_goto 2029)) (ab_tl 522 (ab_aload 1 523))))) (ab_tn 527 (ab_tn 524 (ab_tl 523 (ab_aload 0 524)) (ab_tn 526 (ab_tl 524 (ab_iload 5 526)) (ab_tl 526 (ab_push (.int 1) 527)))) (ab_tn 528 (ab_tl 527 (ab_bin (fun x y => x + y) 528)) (ab_tn 529 (ab_tl 528 (ab_sld b Ls xs 529)) (ab_tl 529 (ab_aload 3 530)))))) (ab_tn 540 (ab_tn 536 (ab_tn 533 (ab_tl 530 (ab_callS 3 1 (wp_L_steps g) 2 12 603072 7207018 ab_NX 533)) (ab_tn 535 (ab_tl 533 (ab_istore 6 535)) (ab_tl 535 (ab_aload 2 536)))) (ab_tn 537 (ab_tl 536 (ab_aload 0 537)) (ab_tn 539 (ab_tl 537 (ab_iload 5 539)) (ab_tl 539 (ab_push (.int 1) 540))))) (ab_tn 545 (ab_tn 541 (ab_tl 540 (ab_bin (fun x y => x + y) 541)) (ab_tn 542 (ab_tl 541 (ab_sld b Ls xs 542)) (ab_tl 542 (ab_callV 12 2 1 (wp_X9_steps g) 0 0 603072 7207018 ab_NX 545)))) (ab_tn 547 (ab_tl 545 (ab_istore 7 547)) (ab_tn 548 (ab_tl 547 (ab_aload 2 548)) (ab_tl 548 (ab_callV 12 1 1 (wp_X9_thrown g) 0 0 603072 7207018 ab_NX 551))))))) (ab_tn 573 (ab_tn 564 (ab_tn 558 (ab_tn 553 (ab_tl 551 (ab_iload 6 553)) (ab_tn 556 (ab_tl 553 (ab_icmp (fun x y => x = y) 558 556)) (ab_tl 556 (ab_push (.int 0) 557)))) (ab_tn 560 (ab_tl 558 (ab_iload 6 560)) (ab_tn 563 (ab_tl 560 (ab_if (fun x => x = 0) 563 575)) (ab_tl 563 (ab_aload 3 564))))) (ab_tn 568 (ab_tn 565 (ab_tl 564 (ab_push (.int 0) 565)) (ab_tn 566 (ab_tl 565 (ab_lald 566)) (ab_tl 566 (ab_iload 7 568)))) (ab_tn 569 (ab_tl 568 (ab_i2l 569)) (ab_tn 570 (ab_tl 569 (ab_lcmp 570)) (ab_tl 570 (ab_if (fun x => x = 0) 575 573)))))) (ab_tn 583 (ab_tn 579 (ab_tn 575 (ab_tl 573 (ab_push (.int 0) 574)) (ab_tn 578 (ab_tl 575 (ab_goto 2029)) (ab_tl 578 (ab_aload 1 579)))) (ab_tn 580 (ab_tl 579 (ab_aload 0 580)) (ab_tn 582 (ab_tl 580 (ab_iload 5 582)) (ab_tl 582 (ab_push (.int 1) 583))))) (ab_tn 586 (ab_tn 584 (ab_tl 583 (ab_bin (fun x y => x + y) 584)) (ab_tn 585 (ab_tl 584 (ab_sld b Ls xs 585)) (ab_tl 585 (ab_aload 0 586)))) (ab_tn 588 (ab_tl 586 (ab_iload 5 588)) (ab_tn 589 (ab_tl 588 (ab_push (.int 2) 589)) (ab_tl 589 (ab_bin (fun x y => x + y) 590)))))))
set_option maxRecDepth 100000 in
set_option maxHeartbeats 4000000 in
theorem st_L_law5 {p : Program} {l : Launch} {e : Env} {s : State} {m : MethodId} {below : List Frame} {meth : Method} {c : Code} {D : va_G} {C : Nat → ClassId} {g : Nat → Nat} {A : Nat → Prop} {nm : String} {b Ls : Nat} {xs : Nat → Int32} (Cx : ab_Cx l D C g R_law nm code 9 ret ab_T p s m #[Value.ref b] meth c A) (hl : l.stackTraces = false) (hlk : meth.locks = false) (hA : ∀ q, A q → s.heap.size ≤ q) (hX : va_X b Ls xs s s.heap) (hbl : b < s.heap.size) (hbA : ¬ A b) : ∀ pc, ab_Sn (ab_W p l e room_1 s m #[Value.ref b] below meth c (lw_Z below #[Value.ref b] s) D C A 9) pc (tb_L_law5 b Ls xs g pc) :=
  ab_tn_ok (ab_tn_ok (ab_tn_ok (ab_tn_ok (ab_tn_ok (ab_tl_ok (sn_i2l Cx dL_law_512)) (ab_tn_ok (ab_tl_ok (sn_lcmp Cx dL_law_513)) (ab_tl_ok (sn_if_eq Cx dL_law_514 (tgt := 519) (by decide))))) (ab_tn_ok (ab_tl_ok (sn_iconst Cx dL_law_517 (by decide))) (ab_tn_ok (ab_tl_ok (sn_goto Cx dL_law_519 (tgt := 2029) (by decide))) (ab_tl_ok (sn_aload_n Cx dL_law_522 rfl))))) (ab_tn_ok (ab_tn_ok (ab_tl_ok (sn_aload_n Cx dL_law_523 rfl)) (ab_tn_ok (ab_tl_ok (sn_iload Cx dL_law_524)) (ab_tl_ok (sn_iconst Cx dL_law_526 (by decide))))) (ab_tn_ok (ab_tl_ok (sn_iadd Cx dL_law_527)) (ab_tn_ok (ab_tl_ok (sn_sld Cx hX hbl hbA dL_law_528)) (ab_tl_ok (sn_aload_n Cx dL_law_529 rfl)))))) (ab_tn_ok (ab_tn_ok (ab_tn_ok (ab_tl_ok (sn_callSG Cx (ct_L_steps hl) dL_law_530 wd_4_62 wd_4_63 wd_1_0 wd_4_64 (hd := by decide +kernel) (by decide) rfl rfl)) (ab_tn_ok (ab_tl_ok (sn_istore Cx dL_law_533 (by decide))) (ab_tl_ok (sn_aload_n Cx dL_law_535 rfl)))) (ab_tn_ok (ab_tl_ok (sn_aload_n Cx dL_law_536 rfl)) (ab_tn_ok (ab_tl_ok (sn_iload Cx dL_law_537)) (ab_tl_ok (sn_iconst Cx dL_law_539 (by decide)))))) (ab_tn_ok (ab_tn_ok (ab_tl_ok (sn_iadd Cx dL_law_540)) (ab_tn_ok (ab_tl_ok (sn_sld Cx hX hbl hbA dL_law_541)) (ab_tl_ok (sn_callVG Cx (Cn := RX9) (T := TX9) (N := 36) rfl (ct_X9_steps hl) dL_law_542 wd_6_213 wd_6_214 wd_1_5 wd_6_216 wd_6_215 (hd := by decide +kernel) (by decide) rfl rfl)))) (ab_tn_ok (ab_tl_ok (sn_istore Cx dL_law_545 (by decide))) (ab_tn_ok (ab_tl_ok (sn_aload_n Cx dL_law_547 rfl)) (ab_tl_ok (sn_callVG Cx (Cn := RX9) (T := TX9) (N := 36) rfl (ct_X9_thrown hl) dL_law_548 wd_6_60 wd_6_61 wd_1_5 wd_6_63 wd_6_62 (hd := by decide +kernel) (by decide) rfl rfl))))))) (ab_tn_ok (ab_tn_ok (ab_tn_ok (ab_tn_ok (ab_tl_ok (sn_iload Cx dL_law_551)) (ab_tn_ok (ab_tl_ok (sn_icmp_eq Cx dL_law_553 (tgt := 558) (by decide))) (ab_tl_ok (sn_iconst Cx dL_law_556 (by decide))))) (ab_tn_ok (ab_tl_ok (sn_iload Cx dL_law_558)) (ab_tn_ok (ab_tl_ok (sn_if_ne Cx dL_law_560 (tgt := 575) (by decide))) (ab_tl_ok (sn_aload_n Cx dL_law_563 rfl))))) (ab_tn_ok (ab_tn_ok (ab_tl_ok (sn_iconst Cx dL_law_564 (by decide))) (ab_tn_ok (ab_tl_ok (sn_lald Cx dL_law_565)) (ab_tl_ok (sn_iload Cx dL_law_566)))) (ab_tn_ok (ab_tl_ok (sn_i2l Cx dL_law_568)) (ab_tn_ok (ab_tl_ok (sn_lcmp Cx dL_law_569)) (ab_tl_ok (sn_if_eq Cx dL_law_570 (tgt := 575) (by decide))))))) (ab_tn_ok (ab_tn_ok (ab_tn_ok (ab_tl_ok (sn_iconst Cx dL_law_573 (by decide))) (ab_tn_ok (ab_tl_ok (sn_goto Cx dL_law_575 (tgt := 2029) (by decide))) (ab_tl_ok (sn_aload_n Cx dL_law_578 rfl)))) (ab_tn_ok (ab_tl_ok (sn_aload_n Cx dL_law_579 rfl)) (ab_tn_ok (ab_tl_ok (sn_iload Cx dL_law_580)) (ab_tl_ok (sn_iconst Cx dL_law_582 (by decide)))))) (ab_tn_ok (ab_tn_ok (ab_tl_ok (sn_iadd Cx dL_law_583)) (ab_tn_ok (ab_tl_ok (sn_sld Cx hX hbl hbA dL_law_584)) (ab_tl_ok (sn_aload_n Cx dL_law_585 rfl)))) (ab_tn_ok (ab_tl_ok (sn_iload Cx dL_law_586)) (ab_tn_ok (ab_tl_ok (sn_iconst Cx dL_law_588 (by decide))) (ab_tl_ok (sn_iadd Cx dL_law_589)))))))
def tb_L_law6 (b Ls : Nat) (xs : Nat → Int32) (g : Nat → Nat) : Nat → ab_I := ab_tn 631 (ab_tn 607 (ab_tn 599 (ab_tn 595 (ab_tn 591 (ab_tl 590 (ab_sld b Ls xs 591)) (ab_tn 592 (ab_tl 591 (ab_aload 3 592)) (ab_tl 592 (ab_callS 4 1 (wp_L_ruleAt g) 2 12 603072 7207018 ab_NX 595)))) (ab_tn 597 (ab_tl 595 (ab_istore 6 597)) (ab_tn 598 (ab_tl 597 (ab_aload 2 598)) (ab_tl 598 (ab_aload 0 599))))) (ab_tn 603 (ab_tn 601 (ab_tl 599 (ab_iload 5 601)) (ab_tn 602 (ab_tl 601 (ab_push (.int 1) 602)) (ab_tl 602 (ab_bin (fun x y => x + y) 603)))) (ab_tn 604 (ab_tl 603 (ab_sld b Ls xs 604)) (ab_tn 605 (ab_tl 604 (ab_aload 0 605)) (ab_tl 605 (ab_iload 5 607)))))) (ab_tn 616 (ab_tn 610 (ab_tn 608 (ab_tl 607 (ab_push (.int 2) 608)) (ab_tn 609 (ab_tl 608 (ab_bin (fun x y => x + y) 609)) (ab_tl 609 (ab_sld b Ls xs 610)))) (ab_tn 613 (ab_tl 610 (ab_callV 12 3 1 (wp_X9_ruleAt g) 0 0 603072 7207018 ab_NX 613)) (ab_tn 615 (ab_tl 613 (ab_istore 7 615)) (ab_tl 615 (ab_aload 2 616))))) (ab_tn 624 (ab_tn 619 (ab_tl 616 (ab_callV 12 1 1 (wp_X9_thrown g) 0 0 603072 7207018 ab_NX 619)) (ab_tn 621 (ab_tl 619 (ab_iload 6 621)) (ab_tl 621 (ab_icmp (fun x y => x = y) 626 624)))) (ab_tn 626 (ab_tl 624 (ab_push (.int 0) 625)) (ab_tn 628 (ab_tl 626 (ab_iload 6 628)) (ab_tl 628 (ab_if (fun x => x = 0) 631 643))))))) (ab_tn 650 (ab_tn 638 (ab_tn 634 (ab_tn 632 (ab_tl 631 (ab_aload 3 632)) (ab_tn 633 (ab_tl 632 (ab_push (.int 0) 633)) (ab_tl 633 (ab_lald 634)))) (ab_tn 636 (ab_tl 634 (ab_iload 7 636)) (ab_tn 637 (ab_tl 636 (ab_i2l 637)) (ab_tl 637 (ab_lcmp 638))))) (ab_tn 646 (ab_tn 641 (ab_tl 638 (ab_if (fun x => x = 0) 643 641)) (ab_tn 643 (ab_tl 641 (ab_push (.int 0) 642)) (ab_tl 643 (ab_goto 2029)))) (ab_tn 647 (ab_tl 646 (ab_aload 1 647)) (ab_tn 648 (ab_tl 647 (ab_aload 0 648)) (ab_tl 648 (ab_iload 5 650)))))) (ab_tn 657 (ab_tn 653 (ab_tn 651 (ab_tl 650 (ab_push (.int 1) 651)) (ab_tn 652 (ab_tl 651 (ab_bin (fun x y => x + y) 652)) (ab_tl 652 (ab_sld b Ls xs 653)))) (ab_tn 654 (ab_tl 653 (ab_aload 0 654)) (ab_tn 656 (ab_tl 654 (ab_iload 5 656)) (ab_tl 656 (ab_push (.int 2) 657))))) (ab_tn 660 (ab_tn 658 (ab_tl 657 (ab_bin (fun x y => x + y) 658)) (ab_tn 659 (ab_tl 658 (ab_sld b Ls xs 659)) (ab_tl 659 (ab_aload 3 660)))) (ab_tn 663 (ab_tl 660 (ab_callS 4 1 (wp_L_causeAt g) 2 12 603072 7207018 ab_NX 663)) (ab_tn 665 (ab_tl 663 (ab_istore 6 665)) (ab_tl 665 (ab_aload 2 666)))))))
set_option maxRecDepth 100000 in
set_option maxHeartbeats 4000000 in
theorem st_L_law6 {p : Program} {l : Launch} {e : Env} {s : State} {m : MethodId} {below : List Frame} {meth : Method} {c : Code} {D : va_G} {C : Nat → ClassId} {g : Nat → Nat} {A : Nat → Prop} {nm : String} {b Ls : Nat} {xs : Nat → Int32} (Cx : ab_Cx l D C g R_law nm code 9 ret ab_T p s m #[Value.ref b] meth c A) (hl : l.stackTraces = false) (hlk : meth.locks = false) (hA : ∀ q, A q → s.heap.size ≤ q) (hX : va_X b Ls xs s s.heap) (hbl : b < s.heap.size) (hbA : ¬ A b) : ∀ pc, ab_Sn (ab_W p l e room_1 s m #[Value.ref b] below meth c (lw_Z below #[Value.ref b] s) D C A 9) pc (tb_L_law6 b Ls xs g pc) :=
  ab_tn_ok (ab_tn_ok (ab_tn_ok (ab_tn_ok (ab_tn_ok (ab_tl_ok (sn_sld Cx hX hbl hbA dL_law_590)) (ab_tn_ok (ab_tl_ok (sn_aload_n Cx dL_law_591 rfl)) (ab_tl_ok (sn_callSG Cx (ct_L_ruleAt hl) dL_law_592 wd_4_70 wd_4_71 wd_1_0 wd_4_72 (hd := by decide +kernel) (by decide) rfl rfl)))) (ab_tn_ok (ab_tl_ok (sn_istore Cx dL_law_595 (by decide))) (ab_tn_ok (ab_tl_ok (sn_aload_n Cx dL_law_597 rfl)) (ab_tl_ok (sn_aload_n Cx dL_law_598 rfl))))) (ab_tn_ok (ab_tn_ok (ab_tl_ok (sn_iload Cx dL_law_599)) (ab_tn_ok (ab_tl_ok (sn_iconst Cx dL_law_601 (by decide))) (ab_tl_ok (sn_iadd Cx dL_law_602)))) (ab_tn_ok (ab_tl_ok (sn_sld Cx hX hbl hbA dL_law_603)) (ab_tn_ok (ab_tl_ok (sn_aload_n Cx dL_law_604 rfl)) (ab_tl_ok (sn_iload Cx dL_law_605)))))) (ab_tn_ok (ab_tn_ok (ab_tn_ok (ab_tl_ok (sn_iconst Cx dL_law_607 (by decide))) (ab_tn_ok (ab_tl_ok (sn_iadd Cx dL_law_608)) (ab_tl_ok (sn_sld Cx hX hbl hbA dL_law_609)))) (ab_tn_ok (ab_tl_ok (sn_callVG Cx (Cn := RX9) (T := TX9) (N := 36) rfl (ct_X9_ruleAt hl) dL_law_610 wd_6_217 wd_6_218 wd_1_5 wd_6_220 wd_6_219 (hd := by decide +kernel) (by decide) rfl rfl)) (ab_tn_ok (ab_tl_ok (sn_istore Cx dL_law_613 (by decide))) (ab_tl_ok (sn_aload_n Cx dL_law_615 rfl))))) (ab_tn_ok (ab_tn_ok (ab_tl_ok (sn_callVG Cx (Cn := RX9) (T := TX9) (N := 36) rfl (ct_X9_thrown hl) dL_law_616 wd_6_60 wd_6_61 wd_1_5 wd_6_63 wd_6_62 (hd := by decide +kernel) (by decide) rfl rfl)) (ab_tn_ok (ab_tl_ok (sn_iload Cx dL_law_619)) (ab_tl_ok (sn_icmp_eq Cx dL_law_621 (tgt := 626) (by decide))))) (ab_tn_ok (ab_tl_ok (sn_iconst Cx dL_law_624 (by decide))) (ab_tn_ok (ab_tl_ok (sn_iload Cx dL_law_626)) (ab_tl_ok (sn_if_ne Cx dL_law_628 (tgt := 643) (by decide)))))))) (ab_tn_ok (ab_tn_ok (ab_tn_ok (ab_tn_ok (ab_tl_ok (sn_aload_n Cx dL_law_631 rfl)) (ab_tn_ok (ab_tl_ok (sn_iconst Cx dL_law_632 (by decide))) (ab_tl_ok (sn_lald Cx dL_law_633)))) (ab_tn_ok (ab_tl_ok (sn_iload Cx dL_law_634)) (ab_tn_ok (ab_tl_ok (sn_i2l Cx dL_law_636)) (ab_tl_ok (sn_lcmp Cx dL_law_637))))) (ab_tn_ok (ab_tn_ok (ab_tl_ok (sn_if_eq Cx dL_law_638 (tgt := 643) (by decide))) (ab_tn_ok (ab_tl_ok (sn_iconst Cx dL_law_641 (by decide))) (ab_tl_ok (sn_goto Cx dL_law_643 (tgt := 2029) (by decide))))) (ab_tn_ok (ab_tl_ok (sn_aload_n Cx dL_law_646 rfl)) (ab_tn_ok (ab_tl_ok (sn_aload_n Cx dL_law_647 rfl)) (ab_tl_ok (sn_iload Cx dL_law_648)))))) (ab_tn_ok (ab_tn_ok (ab_tn_ok (ab_tl_ok (sn_iconst Cx dL_law_650 (by decide))) (ab_tn_ok (ab_tl_ok (sn_iadd Cx dL_law_651)) (ab_tl_ok (sn_sld Cx hX hbl hbA dL_law_652)))) (ab_tn_ok (ab_tl_ok (sn_aload_n Cx dL_law_653 rfl)) (ab_tn_ok (ab_tl_ok (sn_iload Cx dL_law_654)) (ab_tl_ok (sn_iconst Cx dL_law_656 (by decide)))))) (ab_tn_ok (ab_tn_ok (ab_tl_ok (sn_iadd Cx dL_law_657)) (ab_tn_ok (ab_tl_ok (sn_sld Cx hX hbl hbA dL_law_658)) (ab_tl_ok (sn_aload_n Cx dL_law_659 rfl)))) (ab_tn_ok (ab_tl_ok (sn_callSG Cx (ct_L_causeAt hl) dL_law_660 wd_4_82 wd_4_83 wd_1_0 wd_4_84 (hd := by decide +kernel) (by decide) rfl rfl)) (ab_tn_ok (ab_tl_ok (sn_istore Cx dL_law_663 (by decide))) (ab_tl_ok (sn_aload_n Cx dL_law_665 rfl)))))))
def tb_L_law7 (b Ls : Nat) (xs : Nat → Int32) (g : Nat → Nat) : Nat → ab_I := ab_tn 705 (ab_tn 683 (ab_tn 673 (ab_tn 670 (ab_tn 667 (ab_tl 666 (ab_aload 0 667)) (ab_tn 669 (ab_tl 667 (ab_iload 5 669)) (ab_tl 669 (ab_push (.int 1) 670)))) (ab_tn 671 (ab_tl 670 (ab_bin (fun x y => x + y) 671)) (ab_tn 672 (ab_tl 671 (ab_sld b Ls xs 672)) (ab_tl 672 (ab_aload 0 673))))) (ab_tn 677 (ab_tn 675 (ab_tl 673 (ab_iload 5 675)) (ab_tn 676 (ab_tl 675 (ab_push (.int 2) 676)) (ab_tl 676 (ab_bin (fun x y => x + y) 677)))) (ab_tn 678 (ab_tl 677 (ab_sld b Ls xs 678)) (ab_tn 681 (ab_tl 678 (ab_callV 12 3 1 (wp_X9_causeAt g) 0 0 603072 7207018 ab_NX 681)) (ab_tl 681 (ab_istore 7 683)))))) (ab_tn 696 (ab_tn 689 (ab_tn 684 (ab_tl 683 (ab_aload 2 684)) (ab_tn 687 (ab_tl 684 (ab_callV 12 1 1 (wp_X9_thrown g) 0 0 603072 7207018 ab_NX 687)) (ab_tl 687 (ab_iload 6 689)))) (ab_tn 692 (ab_tl 689 (ab_icmp (fun x y => x = y) 694 692)) (ab_tn 694 (ab_tl 692 (ab_push (.int 0) 693)) (ab_tl 694 (ab_iload 6 696))))) (ab_tn 701 (ab_tn 699 (ab_tl 696 (ab_if (fun x => x = 0) 699 711)) (ab_tn 700 (ab_tl 699 (ab_aload 3 700)) (ab_tl 700 (ab_push (.int 0) 701)))) (ab_tn 702 (ab_tl 701 (ab_lald 702)) (ab_tn 704 (ab_tl 702 (ab_iload 7 704)) (ab_tl 704 (ab_i2l 705))))))) (ab_tn 724 (ab_tn 716 (ab_tn 711 (ab_tn 706 (ab_tl 705 (ab_lcmp 706)) (ab_tn 709 (ab_tl 706 (ab_if (fun x => x = 0) 711 709)) (ab_tl 709 (ab_push (.int 0) 710)))) (ab_tn 714 (ab_tl 711 (ab_goto 2029)) (ab_tn 715 (ab_tl 714 (ab_aload 1 715)) (ab_tl 715 (ab_aload 0 716))))) (ab_tn 720 (ab_tn 718 (ab_tl 716 (ab_iload 5 718)) (ab_tn 719 (ab_tl 718 (ab_push (.int 1) 719)) (ab_tl 719 (ab_bin (fun x y => x + y) 720)))) (ab_tn 721 (ab_tl 720 (ab_sld b Ls xs 721)) (ab_tn 722 (ab_tl 721 (ab_aload 0 722)) (ab_tl 722 (ab_iload 5 724)))))) (ab_tn 733 (ab_tn 727 (ab_tn 725 (ab_tl 724 (ab_push (.int 2) 725)) (ab_tn 726 (ab_tl 725 (ab_bin (fun x y => x + y) 726)) (ab_tl 726 (ab_sld b Ls xs 727)))) (ab_tn 728 (ab_tl 727 (ab_aload 3 728)) (ab_tn 731 (ab_tl 728 (ab_callS 4 1 (wp_L_takenAt g) 2 12 603072 7207018 ab_NX 731)) (ab_tl 731 (ab_istore 6 733))))) (ab_tn 737 (ab_tn 734 (ab_tl 733 (ab_aload 2 734)) (ab_tn 735 (ab_tl 734 (ab_aload 0 735)) (ab_tl 735 (ab_iload 5 737)))) (ab_tn 738 (ab_tl 737 (ab_push (.int 1) 738)) (ab_tn 739 (ab_tl 738 (ab_bin (fun x y => x + y) 739)) (ab_tl 739 (ab_sld b Ls xs 740)))))))
set_option maxRecDepth 100000 in
set_option maxHeartbeats 4000000 in
theorem st_L_law7 {p : Program} {l : Launch} {e : Env} {s : State} {m : MethodId} {below : List Frame} {meth : Method} {c : Code} {D : va_G} {C : Nat → ClassId} {g : Nat → Nat} {A : Nat → Prop} {nm : String} {b Ls : Nat} {xs : Nat → Int32} (Cx : ab_Cx l D C g R_law nm code 9 ret ab_T p s m #[Value.ref b] meth c A) (hl : l.stackTraces = false) (hlk : meth.locks = false) (hA : ∀ q, A q → s.heap.size ≤ q) (hX : va_X b Ls xs s s.heap) (hbl : b < s.heap.size) (hbA : ¬ A b) : ∀ pc, ab_Sn (ab_W p l e room_1 s m #[Value.ref b] below meth c (lw_Z below #[Value.ref b] s) D C A 9) pc (tb_L_law7 b Ls xs g pc) :=
  ab_tn_ok (ab_tn_ok (ab_tn_ok (ab_tn_ok (ab_tn_ok (ab_tl_ok (sn_aload_n Cx dL_law_666 rfl)) (ab_tn_ok (ab_tl_ok (sn_iload Cx dL_law_667)) (ab_tl_ok (sn_iconst Cx dL_law_669 (by decide))))) (ab_tn_ok (ab_tl_ok (sn_iadd Cx dL_law_670)) (ab_tn_ok (ab_tl_ok (sn_sld Cx hX hbl hbA dL_law_671)) (ab_tl_ok (sn_aload_n Cx dL_law_672 rfl))))) (ab_tn_ok (ab_tn_ok (ab_tl_ok (sn_iload Cx dL_law_673)) (ab_tn_ok (ab_tl_ok (sn_iconst Cx dL_law_675 (by decide))) (ab_tl_ok (sn_iadd Cx dL_law_676)))) (ab_tn_ok (ab_tl_ok (sn_sld Cx hX hbl hbA dL_law_677)) (ab_tn_ok (ab_tl_ok (sn_callVG Cx (Cn := RX9) (T := TX9) (N := 36) rfl (ct_X9_causeAt hl) dL_law_678 wd_6_225 wd_6_226 wd_1_5 wd_6_228 wd_6_227 (hd := by decide +kernel) (by decide) rfl rfl)) (ab_tl_ok (sn_istore Cx dL_law_681 (by decide))))))) (ab_tn_ok (ab_tn_ok (ab_tn_ok (ab_tl_ok (sn_aload_n Cx dL_law_683 rfl)) (ab_tn_ok (ab_tl_ok (sn_callVG Cx (Cn := RX9) (T := TX9) (N := 36) rfl (ct_X9_thrown hl) dL_law_684 wd_6_60 wd_6_61 wd_1_5 wd_6_63 wd_6_62 (hd := by decide +kernel) (by decide) rfl rfl)) (ab_tl_ok (sn_iload Cx dL_law_687)))) (ab_tn_ok (ab_tl_ok (sn_icmp_eq Cx dL_law_689 (tgt := 694) (by decide))) (ab_tn_ok (ab_tl_ok (sn_iconst Cx dL_law_692 (by decide))) (ab_tl_ok (sn_iload Cx dL_law_694))))) (ab_tn_ok (ab_tn_ok (ab_tl_ok (sn_if_ne Cx dL_law_696 (tgt := 711) (by decide))) (ab_tn_ok (ab_tl_ok (sn_aload_n Cx dL_law_699 rfl)) (ab_tl_ok (sn_iconst Cx dL_law_700 (by decide))))) (ab_tn_ok (ab_tl_ok (sn_lald Cx dL_law_701)) (ab_tn_ok (ab_tl_ok (sn_iload Cx dL_law_702)) (ab_tl_ok (sn_i2l Cx dL_law_704))))))) (ab_tn_ok (ab_tn_ok (ab_tn_ok (ab_tn_ok (ab_tl_ok (sn_lcmp Cx dL_law_705)) (ab_tn_ok (ab_tl_ok (sn_if_eq Cx dL_law_706 (tgt := 711) (by decide))) (ab_tl_ok (sn_iconst Cx dL_law_709 (by decide))))) (ab_tn_ok (ab_tl_ok (sn_goto Cx dL_law_711 (tgt := 2029) (by decide))) (ab_tn_ok (ab_tl_ok (sn_aload_n Cx dL_law_714 rfl)) (ab_tl_ok (sn_aload_n Cx dL_law_715 rfl))))) (ab_tn_ok (ab_tn_ok (ab_tl_ok (sn_iload Cx dL_law_716)) (ab_tn_ok (ab_tl_ok (sn_iconst Cx dL_law_718 (by decide))) (ab_tl_ok (sn_iadd Cx dL_law_719)))) (ab_tn_ok (ab_tl_ok (sn_sld Cx hX hbl hbA dL_law_720)) (ab_tn_ok (ab_tl_ok (sn_aload_n Cx dL_law_721 rfl)) (ab_tl_ok (sn_iload Cx dL_law_722)))))) (ab_tn_ok (ab_tn_ok (ab_tn_ok (ab_tl_ok (sn_iconst Cx dL_law_724 (by decide))) (ab_tn_ok (ab_tl_ok (sn_iadd Cx dL_law_725)) (ab_tl_ok (sn_sld Cx hX hbl hbA dL_law_726)))) (ab_tn_ok (ab_tl_ok (sn_aload_n Cx dL_law_727 rfl)) (ab_tn_ok (ab_tl_ok (sn_callSG Cx (ct_L_takenAt hl) dL_law_728 wd_4_89 wd_4_90 wd_1_0 wd_4_91 (hd := by decide +kernel) (by decide) rfl rfl)) (ab_tl_ok (sn_istore Cx dL_law_731 (by decide)))))) (ab_tn_ok (ab_tn_ok (ab_tl_ok (sn_aload_n Cx dL_law_733 rfl)) (ab_tn_ok (ab_tl_ok (sn_aload_n Cx dL_law_734 rfl)) (ab_tl_ok (sn_iload Cx dL_law_735)))) (ab_tn_ok (ab_tl_ok (sn_iconst Cx dL_law_737 (by decide))) (ab_tn_ok (ab_tl_ok (sn_iadd Cx dL_law_738)) (ab_tl_ok (sn_sld Cx hX hbl hbA dL_law_739)))))))
def tb_L_law8 (b Ls : Nat) (xs : Nat → Int32) (g : Nat → Nat) : Nat → ab_I := ab_tn 783 (ab_tn 762 (ab_tn 749 (ab_tn 744 (ab_tn 741 (ab_tl 740 (ab_aload 0 741)) (ab_tn 743 (ab_tl 741 (ab_iload 5 743)) (ab_tl 743 (ab_push (.int 2) 744)))) (ab_tn 745 (ab_tl 744 (ab_bin (fun x y => x + y) 745)) (ab_tn 746 (ab_tl 745 (ab_sld b Ls xs 746)) (ab_tl 746 (ab_callV 12 3 1 (wp_X9_takenAt g) 0 0 603072 7207018 ab_NX 749))))) (ab_tn 755 (ab_tn 751 (ab_tl 749 (ab_istore 7 751)) (ab_tn 752 (ab_tl 751 (ab_aload 2 752)) (ab_tl 752 (ab_callV 12 1 1 (wp_X9_thrown g) 0 0 603072 7207018 ab_NX 755)))) (ab_tn 757 (ab_tl 755 (ab_iload 6 757)) (ab_tn 760 (ab_tl 757 (ab_icmp (fun x y => x = y) 762 760)) (ab_tl 760 (ab_push (.int 0) 761)))))) (ab_tn 772 (ab_tn 768 (ab_tn 764 (ab_tl 762 (ab_iload 6 764)) (ab_tn 767 (ab_tl 764 (ab_if (fun x => x = 0) 767 779)) (ab_tl 767 (ab_aload 3 768)))) (ab_tn 769 (ab_tl 768 (ab_push (.int 0) 769)) (ab_tn 770 (ab_tl 769 (ab_lald 770)) (ab_tl 770 (ab_iload 7 772))))) (ab_tn 777 (ab_tn 773 (ab_tl 772 (ab_i2l 773)) (ab_tn 774 (ab_tl 773 (ab_lcmp 774)) (ab_tl 774 (ab_if (fun x => x = 0) 779 777)))) (ab_tn 779 (ab_tl 777 (ab_push (.int 0) 778)) (ab_tn 782 (ab_tl 779 (ab_goto 2029)) (ab_tl 782 (ab_aload 1 783))))))) (ab_tn 799 (ab_tn 790 (ab_tn 787 (ab_tn 784 (ab_tl 783 (ab_aload 0 784)) (ab_tn 786 (ab_tl 784 (ab_iload 5 786)) (ab_tl 786 (ab_push (.int 1) 787)))) (ab_tn 788 (ab_tl 787 (ab_bin (fun x y => x + y) 788)) (ab_tn 789 (ab_tl 788 (ab_sld b Ls xs 789)) (ab_tl 789 (ab_aload 0 790))))) (ab_tn 794 (ab_tn 792 (ab_tl 790 (ab_iload 5 792)) (ab_tn 793 (ab_tl 792 (ab_push (.int 2) 793)) (ab_tl 793 (ab_bin (fun x y => x + y) 794)))) (ab_tn 795 (ab_tl 794 (ab_sld b Ls xs 795)) (ab_tn 796 (ab_tl 795 (ab_aload 3 796)) (ab_tl 796 (ab_callS 4 1 (wp_L_leansOn g) 2 12 603072 7207018 ab_NX 799)))))) (ab_tn 807 (ab_tn 803 (ab_tn 801 (ab_tl 799 (ab_istore 6 801)) (ab_tn 802 (ab_tl 801 (ab_aload 2 802)) (ab_tl 802 (ab_aload 0 803)))) (ab_tn 805 (ab_tl 803 (ab_iload 5 805)) (ab_tn 806 (ab_tl 805 (ab_push (.int 1) 806)) (ab_tl 806 (ab_bin (fun x y => x + y) 807))))) (ab_tn 811 (ab_tn 808 (ab_tl 807 (ab_sld b Ls xs 808)) (ab_tn 809 (ab_tl 808 (ab_aload 0 809)) (ab_tl 809 (ab_iload 5 811)))) (ab_tn 812 (ab_tl 811 (ab_push (.int 2) 812)) (ab_tn 813 (ab_tl 812 (ab_bin (fun x y => x + y) 813)) (ab_tl 813 (ab_sld b Ls xs 814)))))))
set_option maxRecDepth 100000 in
set_option maxHeartbeats 4000000 in
theorem st_L_law8 {p : Program} {l : Launch} {e : Env} {s : State} {m : MethodId} {below : List Frame} {meth : Method} {c : Code} {D : va_G} {C : Nat → ClassId} {g : Nat → Nat} {A : Nat → Prop} {nm : String} {b Ls : Nat} {xs : Nat → Int32} (Cx : ab_Cx l D C g R_law nm code 9 ret ab_T p s m #[Value.ref b] meth c A) (hl : l.stackTraces = false) (hlk : meth.locks = false) (hA : ∀ q, A q → s.heap.size ≤ q) (hX : va_X b Ls xs s s.heap) (hbl : b < s.heap.size) (hbA : ¬ A b) : ∀ pc, ab_Sn (ab_W p l e room_1 s m #[Value.ref b] below meth c (lw_Z below #[Value.ref b] s) D C A 9) pc (tb_L_law8 b Ls xs g pc) :=
  ab_tn_ok (ab_tn_ok (ab_tn_ok (ab_tn_ok (ab_tn_ok (ab_tl_ok (sn_aload_n Cx dL_law_740 rfl)) (ab_tn_ok (ab_tl_ok (sn_iload Cx dL_law_741)) (ab_tl_ok (sn_iconst Cx dL_law_743 (by decide))))) (ab_tn_ok (ab_tl_ok (sn_iadd Cx dL_law_744)) (ab_tn_ok (ab_tl_ok (sn_sld Cx hX hbl hbA dL_law_745)) (ab_tl_ok (sn_callVG Cx (Cn := RX9) (T := TX9) (N := 36) rfl (ct_X9_takenAt hl) dL_law_746 wd_6_229 wd_6_230 wd_1_5 wd_6_232 wd_6_231 (hd := by decide +kernel) (by decide) rfl rfl))))) (ab_tn_ok (ab_tn_ok (ab_tl_ok (sn_istore Cx dL_law_749 (by decide))) (ab_tn_ok (ab_tl_ok (sn_aload_n Cx dL_law_751 rfl)) (ab_tl_ok (sn_callVG Cx (Cn := RX9) (T := TX9) (N := 36) rfl (ct_X9_thrown hl) dL_law_752 wd_6_60 wd_6_61 wd_1_5 wd_6_63 wd_6_62 (hd := by decide +kernel) (by decide) rfl rfl)))) (ab_tn_ok (ab_tl_ok (sn_iload Cx dL_law_755)) (ab_tn_ok (ab_tl_ok (sn_icmp_eq Cx dL_law_757 (tgt := 762) (by decide))) (ab_tl_ok (sn_iconst Cx dL_law_760 (by decide))))))) (ab_tn_ok (ab_tn_ok (ab_tn_ok (ab_tl_ok (sn_iload Cx dL_law_762)) (ab_tn_ok (ab_tl_ok (sn_if_ne Cx dL_law_764 (tgt := 779) (by decide))) (ab_tl_ok (sn_aload_n Cx dL_law_767 rfl)))) (ab_tn_ok (ab_tl_ok (sn_iconst Cx dL_law_768 (by decide))) (ab_tn_ok (ab_tl_ok (sn_lald Cx dL_law_769)) (ab_tl_ok (sn_iload Cx dL_law_770))))) (ab_tn_ok (ab_tn_ok (ab_tl_ok (sn_i2l Cx dL_law_772)) (ab_tn_ok (ab_tl_ok (sn_lcmp Cx dL_law_773)) (ab_tl_ok (sn_if_eq Cx dL_law_774 (tgt := 779) (by decide))))) (ab_tn_ok (ab_tl_ok (sn_iconst Cx dL_law_777 (by decide))) (ab_tn_ok (ab_tl_ok (sn_goto Cx dL_law_779 (tgt := 2029) (by decide))) (ab_tl_ok (sn_aload_n Cx dL_law_782 rfl))))))) (ab_tn_ok (ab_tn_ok (ab_tn_ok (ab_tn_ok (ab_tl_ok (sn_aload_n Cx dL_law_783 rfl)) (ab_tn_ok (ab_tl_ok (sn_iload Cx dL_law_784)) (ab_tl_ok (sn_iconst Cx dL_law_786 (by decide))))) (ab_tn_ok (ab_tl_ok (sn_iadd Cx dL_law_787)) (ab_tn_ok (ab_tl_ok (sn_sld Cx hX hbl hbA dL_law_788)) (ab_tl_ok (sn_aload_n Cx dL_law_789 rfl))))) (ab_tn_ok (ab_tn_ok (ab_tl_ok (sn_iload Cx dL_law_790)) (ab_tn_ok (ab_tl_ok (sn_iconst Cx dL_law_792 (by decide))) (ab_tl_ok (sn_iadd Cx dL_law_793)))) (ab_tn_ok (ab_tl_ok (sn_sld Cx hX hbl hbA dL_law_794)) (ab_tn_ok (ab_tl_ok (sn_aload_n Cx dL_law_795 rfl)) (ab_tl_ok (sn_callSG Cx (ct_L_leansOn hl) dL_law_796 wd_4_96 wd_4_97 wd_1_0 wd_4_98 (hd := by decide +kernel) (by decide) rfl rfl)))))) (ab_tn_ok (ab_tn_ok (ab_tn_ok (ab_tl_ok (sn_istore Cx dL_law_799 (by decide))) (ab_tn_ok (ab_tl_ok (sn_aload_n Cx dL_law_801 rfl)) (ab_tl_ok (sn_aload_n Cx dL_law_802 rfl)))) (ab_tn_ok (ab_tl_ok (sn_iload Cx dL_law_803)) (ab_tn_ok (ab_tl_ok (sn_iconst Cx dL_law_805 (by decide))) (ab_tl_ok (sn_iadd Cx dL_law_806))))) (ab_tn_ok (ab_tn_ok (ab_tl_ok (sn_sld Cx hX hbl hbA dL_law_807)) (ab_tn_ok (ab_tl_ok (sn_aload_n Cx dL_law_808 rfl)) (ab_tl_ok (sn_iload Cx dL_law_809)))) (ab_tn_ok (ab_tl_ok (sn_iconst Cx dL_law_811 (by decide))) (ab_tn_ok (ab_tl_ok (sn_iadd Cx dL_law_812)) (ab_tl_ok (sn_sld Cx hX hbl hbA dL_law_813)))))))
def tb_L_law9 (b Ls : Nat) (xs : Nat → Int32) (g : Nat → Nat) : Nat → ab_I := ab_tn 861 (ab_tn 838 (ab_tn 828 (ab_tn 820 (ab_tn 817 (ab_tl 814 (ab_callV 12 3 1 (wp_X9_leansOn g) 0 0 603072 7207018 ab_NX 817)) (ab_tn 819 (ab_tl 817 (ab_istore 7 819)) (ab_tl 819 (ab_aload 2 820)))) (ab_tn 823 (ab_tl 820 (ab_callV 12 1 1 (wp_X9_thrown g) 0 0 603072 7207018 ab_NX 823)) (ab_tn 825 (ab_tl 823 (ab_iload 6 825)) (ab_tl 825 (ab_icmp (fun x y => x = y) 830 828))))) (ab_tn 835 (ab_tn 830 (ab_tl 828 (ab_push (.int 0) 829)) (ab_tn 832 (ab_tl 830 (ab_iload 6 832)) (ab_tl 832 (ab_if (fun x => x = 0) 835 854)))) (ab_tn 836 (ab_tl 835 (ab_aload 3 836)) (ab_tn 837 (ab_tl 836 (ab_push (.int 0) 837)) (ab_tl 837 (ab_lald 838)))))) (ab_tn 849 (ab_tn 844 (ab_tn 840 (ab_tl 838 (ab_iload 7 840)) (ab_tn 843 (ab_tl 840 (ab_if (fun x => x = 0) 847 843)) (ab_tl 843 (ab_push (.long 1) 844)))) (ab_tn 847 (ab_tl 844 (ab_goto 848)) (ab_tn 848 (ab_tl 847 (ab_push (.long 0) 848)) (ab_tl 848 (ab_lcmp 849))))) (ab_tn 857 (ab_tn 852 (ab_tl 849 (ab_if (fun x => x = 0) 854 852)) (ab_tn 854 (ab_tl 852 (ab_push (.int 0) 853)) (ab_tl 854 (ab_goto 2029)))) (ab_tn 858 (ab_tl 857 (ab_aload 1 858)) (ab_tn 859 (ab_tl 858 (ab_aload 0 859)) (ab_tl 859 (ab_iload 5 861))))))) (ab_tn 877 (ab_tn 870 (ab_tn 864 (ab_tn 862 (ab_tl 861 (ab_push (.int 1) 862)) (ab_tn 863 (ab_tl 862 (ab_bin (fun x y => x + y) 863)) (ab_tl 863 (ab_sld b Ls xs 864)))) (ab_tn 865 (ab_tl 864 (ab_aload 3 865)) (ab_tn 868 (ab_tl 865 (ab_callS 3 1 (wp_L_state g) 1 6 603072 7207018 ab_NX 868)) (ab_tl 868 (ab_istore 6 870))))) (ab_tn 874 (ab_tn 871 (ab_tl 870 (ab_aload 2 871)) (ab_tn 872 (ab_tl 871 (ab_aload 0 872)) (ab_tl 872 (ab_iload 5 874)))) (ab_tn 875 (ab_tl 874 (ab_push (.int 1) 875)) (ab_tn 876 (ab_tl 875 (ab_bin (fun x y => x + y) 876)) (ab_tl 876 (ab_sld b Ls xs 877)))))) (ab_tn 891 (ab_tn 883 (ab_tn 880 (ab_tl 877 (ab_callV 12 2 1 (wp_X9_state g) 0 0 603072 7207018 ab_NX 880)) (ab_tn 882 (ab_tl 880 (ab_istore 7 882)) (ab_tl 882 (ab_aload 2 883)))) (ab_tn 886 (ab_tl 883 (ab_callV 12 1 1 (wp_X9_thrown g) 0 0 603072 7207018 ab_NX 886)) (ab_tn 888 (ab_tl 886 (ab_iload 6 888)) (ab_tl 888 (ab_icmp (fun x y => x = y) 893 891))))) (ab_tn 898 (ab_tn 893 (ab_tl 891 (ab_push (.int 0) 892)) (ab_tn 895 (ab_tl 893 (ab_iload 6 895)) (ab_tl 895 (ab_if (fun x => x = 0) 898 910)))) (ab_tn 899 (ab_tl 898 (ab_aload 3 899)) (ab_tn 900 (ab_tl 899 (ab_push (.int 0) 900)) (ab_tl 900 (ab_lald 901)))))))
set_option maxRecDepth 100000 in
set_option maxHeartbeats 4000000 in
theorem st_L_law9 {p : Program} {l : Launch} {e : Env} {s : State} {m : MethodId} {below : List Frame} {meth : Method} {c : Code} {D : va_G} {C : Nat → ClassId} {g : Nat → Nat} {A : Nat → Prop} {nm : String} {b Ls : Nat} {xs : Nat → Int32} (Cx : ab_Cx l D C g R_law nm code 9 ret ab_T p s m #[Value.ref b] meth c A) (hl : l.stackTraces = false) (hlk : meth.locks = false) (hA : ∀ q, A q → s.heap.size ≤ q) (hX : va_X b Ls xs s s.heap) (hbl : b < s.heap.size) (hbA : ¬ A b) : ∀ pc, ab_Sn (ab_W p l e room_1 s m #[Value.ref b] below meth c (lw_Z below #[Value.ref b] s) D C A 9) pc (tb_L_law9 b Ls xs g pc) :=
  ab_tn_ok (ab_tn_ok (ab_tn_ok (ab_tn_ok (ab_tn_ok (ab_tl_ok (sn_callVG Cx (Cn := RX9) (T := TX9) (N := 36) rfl (ct_X9_leansOn hl) dL_law_814 wd_6_233 wd_6_234 wd_1_5 wd_6_236 wd_6_235 (hd := by decide +kernel) (by decide) rfl rfl)) (ab_tn_ok (ab_tl_ok (sn_istore Cx dL_law_817 (by decide))) (ab_tl_ok (sn_aload_n Cx dL_law_819 rfl)))) (ab_tn_ok (ab_tl_ok (sn_callVG Cx (Cn := RX9) (T := TX9) (N := 36) rfl (ct_X9_thrown hl) dL_law_820 wd_6_60 wd_6_61 wd_1_5 wd_6_63 wd_6_62 (hd := by decide +kernel) (by decide) rfl rfl)) (ab_tn_ok (ab_tl_ok (sn_iload Cx dL_law_823)) (ab_tl_ok (sn_icmp_eq Cx dL_law_825 (tgt := 830) (by decide)))))) (ab_tn_ok (ab_tn_ok (ab_tl_ok (sn_iconst Cx dL_law_828 (by decide))) (ab_tn_ok (ab_tl_ok (sn_iload Cx dL_law_830)) (ab_tl_ok (sn_if_ne Cx dL_law_832 (tgt := 854) (by decide))))) (ab_tn_ok (ab_tl_ok (sn_aload_n Cx dL_law_835 rfl)) (ab_tn_ok (ab_tl_ok (sn_iconst Cx dL_law_836 (by decide))) (ab_tl_ok (sn_lald Cx dL_law_837)))))) (ab_tn_ok (ab_tn_ok (ab_tn_ok (ab_tl_ok (sn_iload Cx dL_law_838)) (ab_tn_ok (ab_tl_ok (sn_if_eq Cx dL_law_840 (tgt := 847) (by decide))) (ab_tl_ok (sn_lconst Cx dL_law_843 (by decide))))) (ab_tn_ok (ab_tl_ok (sn_goto Cx dL_law_844 (tgt := 848) (by decide))) (ab_tn_ok (ab_tl_ok (sn_lconst Cx dL_law_847 (by decide))) (ab_tl_ok (sn_lcmp Cx dL_law_848))))) (ab_tn_ok (ab_tn_ok (ab_tl_ok (sn_if_eq Cx dL_law_849 (tgt := 854) (by decide))) (ab_tn_ok (ab_tl_ok (sn_iconst Cx dL_law_852 (by decide))) (ab_tl_ok (sn_goto Cx dL_law_854 (tgt := 2029) (by decide))))) (ab_tn_ok (ab_tl_ok (sn_aload_n Cx dL_law_857 rfl)) (ab_tn_ok (ab_tl_ok (sn_aload_n Cx dL_law_858 rfl)) (ab_tl_ok (sn_iload Cx dL_law_859))))))) (ab_tn_ok (ab_tn_ok (ab_tn_ok (ab_tn_ok (ab_tl_ok (sn_iconst Cx dL_law_861 (by decide))) (ab_tn_ok (ab_tl_ok (sn_iadd Cx dL_law_862)) (ab_tl_ok (sn_sld Cx hX hbl hbA dL_law_863)))) (ab_tn_ok (ab_tl_ok (sn_aload_n Cx dL_law_864 rfl)) (ab_tn_ok (ab_tl_ok (sn_callSG Cx (ct_L_state hl) dL_law_865 wd_4_108 wd_4_109 wd_1_0 wd_4_110 (hd := by decide +kernel) (by decide) rfl rfl)) (ab_tl_ok (sn_istore Cx dL_law_868 (by decide)))))) (ab_tn_ok (ab_tn_ok (ab_tl_ok (sn_aload_n Cx dL_law_870 rfl)) (ab_tn_ok (ab_tl_ok (sn_aload_n Cx dL_law_871 rfl)) (ab_tl_ok (sn_iload Cx dL_law_872)))) (ab_tn_ok (ab_tl_ok (sn_iconst Cx dL_law_874 (by decide))) (ab_tn_ok (ab_tl_ok (sn_iadd Cx dL_law_875)) (ab_tl_ok (sn_sld Cx hX hbl hbA dL_law_876)))))) (ab_tn_ok (ab_tn_ok (ab_tn_ok (ab_tl_ok (sn_callVG Cx (Cn := RX9) (T := TX9) (N := 36) rfl (ct_X9_state hl) dL_law_877 wd_7_13 wd_7_14 wd_1_5 wd_7_16 wd_7_15 (hd := by decide +kernel) (by decide) rfl rfl)) (ab_tn_ok (ab_tl_ok (sn_istore Cx dL_law_880 (by decide))) (ab_tl_ok (sn_aload_n Cx dL_law_882 rfl)))) (ab_tn_ok (ab_tl_ok (sn_callVG Cx (Cn := RX9) (T := TX9) (N := 36) rfl (ct_X9_thrown hl) dL_law_883 wd_6_60 wd_6_61 wd_1_5 wd_6_63 wd_6_62 (hd := by decide +kernel) (by decide) rfl rfl)) (ab_tn_ok (ab_tl_ok (sn_iload Cx dL_law_886)) (ab_tl_ok (sn_icmp_eq Cx dL_law_888 (tgt := 893) (by decide)))))) (ab_tn_ok (ab_tn_ok (ab_tl_ok (sn_iconst Cx dL_law_891 (by decide))) (ab_tn_ok (ab_tl_ok (sn_iload Cx dL_law_893)) (ab_tl_ok (sn_if_ne Cx dL_law_895 (tgt := 910) (by decide))))) (ab_tn_ok (ab_tl_ok (sn_aload_n Cx dL_law_898 rfl)) (ab_tn_ok (ab_tl_ok (sn_iconst Cx dL_law_899 (by decide))) (ab_tl_ok (sn_lald Cx dL_law_900)))))))
def tb_L_law10 (b Ls : Nat) (xs : Nat → Int32) (g : Nat → Nat) : Nat → ab_I := ab_tn 934 (ab_tn 920 (ab_tn 913 (ab_tn 905 (ab_tn 903 (ab_tl 901 (ab_iload 7 903)) (ab_tn 904 (ab_tl 903 (ab_i2l 904)) (ab_tl 904 (ab_lcmp 905)))) (ab_tn 908 (ab_tl 905 (ab_if (fun x => x = 0) 910 908)) (ab_tn 910 (ab_tl 908 (ab_push (.int 0) 909)) (ab_tl 910 (ab_goto 2029))))) (ab_tn 917 (ab_tn 914 (ab_tl 913 (ab_aload 1 914)) (ab_tn 915 (ab_tl 914 (ab_aload 0 915)) (ab_tl 915 (ab_iload 5 917)))) (ab_tn 918 (ab_tl 917 (ab_push (.int 1) 918)) (ab_tn 919 (ab_tl 918 (ab_bin (fun x y => x + y) 919)) (ab_tl 919 (ab_sld b Ls xs 920)))))) (ab_tn 927 (ab_tn 924 (ab_tn 921 (ab_tl 920 (ab_i2c 921)) (ab_tn 922 (ab_tl 921 (ab_aload 0 922)) (ab_tl 922 (ab_iload 5 924)))) (ab_tn 925 (ab_tl 924 (ab_push (.int 2) 925)) (ab_tn 926 (ab_tl 925 (ab_bin (fun x y => x + y) 926)) (ab_tl 926 (ab_sld b Ls xs 927))))) (ab_tn 931 (ab_tn 928 (ab_tl 927 (ab_i2c 928)) (ab_tn 929 (ab_tl 928 (ab_aload 0 929)) (ab_tl 929 (ab_iload 5 931)))) (ab_tn 932 (ab_tl 931 (ab_push (.int 3) 932)) (ab_tn 933 (ab_tl 932 (ab_bin (fun x y => x + y) 933)) (ab_tl 933 (ab_sld b Ls xs 934))))))) (ab_tn 954 (ab_tn 945 (ab_tn 941 (ab_tn 937 (ab_tl 934 (ab_if (fun x => x = 0) 941 937)) (ab_tn 938 (ab_tl 937 (ab_push (.int 1) 938)) (ab_tl 938 (ab_goto 942)))) (ab_tn 942 (ab_tl 941 (ab_push (.int 0) 942)) (ab_tn 943 (ab_tl 942 (ab_aload 0 943)) (ab_tl 943 (ab_iload 5 945))))) (ab_tn 948 (ab_tn 946 (ab_tl 945 (ab_push (.int 4) 946)) (ab_tn 947 (ab_tl 946 (ab_bin (fun x y => x + y) 947)) (ab_tl 947 (ab_sld b Ls xs 948)))) (ab_tn 949 (ab_tl 948 (ab_aload 3 949)) (ab_tn 952 (ab_tl 949 (ab_callS 6 1 (wp_L_rule g) 13 124 603072 7207018 ab_NX 952)) (ab_tl 952 (ab_istore 6 954)))))) (ab_tn 961 (ab_tn 958 (ab_tn 955 (ab_tl 954 (ab_aload 2 955)) (ab_tn 956 (ab_tl 955 (ab_aload 0 956)) (ab_tl 956 (ab_iload 5 958)))) (ab_tn 959 (ab_tl 958 (ab_push (.int 1) 959)) (ab_tn 960 (ab_tl 959 (ab_bin (fun x y => x + y) 960)) (ab_tl 960 (ab_sld b Ls xs 961))))) (ab_tn 965 (ab_tn 962 (ab_tl 961 (ab_i2c 962)) (ab_tn 963 (ab_tl 962 (ab_aload 0 963)) (ab_tl 963 (ab_iload 5 965)))) (ab_tn 966 (ab_tl 965 (ab_push (.int 2) 966)) (ab_tn 967 (ab_tl 966 (ab_bin (fun x y => x + y) 967)) (ab_tl 967 (ab_sld b Ls xs 968)))))))
set_option maxRecDepth 100000 in
set_option maxHeartbeats 4000000 in
theorem st_L_law10 {p : Program} {l : Launch} {e : Env} {s : State} {m : MethodId} {below : List Frame} {meth : Method} {c : Code} {D : va_G} {C : Nat → ClassId} {g : Nat → Nat} {A : Nat → Prop} {nm : String} {b Ls : Nat} {xs : Nat → Int32} (Cx : ab_Cx l D C g R_law nm code 9 ret ab_T p s m #[Value.ref b] meth c A) (hl : l.stackTraces = false) (hlk : meth.locks = false) (hA : ∀ q, A q → s.heap.size ≤ q) (hX : va_X b Ls xs s s.heap) (hbl : b < s.heap.size) (hbA : ¬ A b) : ∀ pc, ab_Sn (ab_W p l e room_1 s m #[Value.ref b] below meth c (lw_Z below #[Value.ref b] s) D C A 9) pc (tb_L_law10 b Ls xs g pc) :=
  ab_tn_ok (ab_tn_ok (ab_tn_ok (ab_tn_ok (ab_tn_ok (ab_tl_ok (sn_iload Cx dL_law_901)) (ab_tn_ok (ab_tl_ok (sn_i2l Cx dL_law_903)) (ab_tl_ok (sn_lcmp Cx dL_law_904)))) (ab_tn_ok (ab_tl_ok (sn_if_eq Cx dL_law_905 (tgt := 910) (by decide))) (ab_tn_ok (ab_tl_ok (sn_iconst Cx dL_law_908 (by decide))) (ab_tl_ok (sn_goto Cx dL_law_910 (tgt := 2029) (by decide)))))) (ab_tn_ok (ab_tn_ok (ab_tl_ok (sn_aload_n Cx dL_law_913 rfl)) (ab_tn_ok (ab_tl_ok (sn_aload_n Cx dL_law_914 rfl)) (ab_tl_ok (sn_iload Cx dL_law_915)))) (ab_tn_ok (ab_tl_ok (sn_iconst Cx dL_law_917 (by decide))) (ab_tn_ok (ab_tl_ok (sn_iadd Cx dL_law_918)) (ab_tl_ok (sn_sld Cx hX hbl hbA dL_law_919)))))) (ab_tn_ok (ab_tn_ok (ab_tn_ok (ab_tl_ok (sn_i2c Cx dL_law_920)) (ab_tn_ok (ab_tl_ok (sn_aload_n Cx dL_law_921 rfl)) (ab_tl_ok (sn_iload Cx dL_law_922)))) (ab_tn_ok (ab_tl_ok (sn_iconst Cx dL_law_924 (by decide))) (ab_tn_ok (ab_tl_ok (sn_iadd Cx dL_law_925)) (ab_tl_ok (sn_sld Cx hX hbl hbA dL_law_926))))) (ab_tn_ok (ab_tn_ok (ab_tl_ok (sn_i2c Cx dL_law_927)) (ab_tn_ok (ab_tl_ok (sn_aload_n Cx dL_law_928 rfl)) (ab_tl_ok (sn_iload Cx dL_law_929)))) (ab_tn_ok (ab_tl_ok (sn_iconst Cx dL_law_931 (by decide))) (ab_tn_ok (ab_tl_ok (sn_iadd Cx dL_law_932)) (ab_tl_ok (sn_sld Cx hX hbl hbA dL_law_933))))))) (ab_tn_ok (ab_tn_ok (ab_tn_ok (ab_tn_ok (ab_tl_ok (sn_if_eq Cx dL_law_934 (tgt := 941) (by decide))) (ab_tn_ok (ab_tl_ok (sn_iconst Cx dL_law_937 (by decide))) (ab_tl_ok (sn_goto Cx dL_law_938 (tgt := 942) (by decide))))) (ab_tn_ok (ab_tl_ok (sn_iconst Cx dL_law_941 (by decide))) (ab_tn_ok (ab_tl_ok (sn_aload_n Cx dL_law_942 rfl)) (ab_tl_ok (sn_iload Cx dL_law_943))))) (ab_tn_ok (ab_tn_ok (ab_tl_ok (sn_iconst Cx dL_law_945 (by decide))) (ab_tn_ok (ab_tl_ok (sn_iadd Cx dL_law_946)) (ab_tl_ok (sn_sld Cx hX hbl hbA dL_law_947)))) (ab_tn_ok (ab_tl_ok (sn_aload_n Cx dL_law_948 rfl)) (ab_tn_ok (ab_tl_ok (sn_callSG Cx (ct_L_rule hl) dL_law_949 wd_4_115 wd_4_116 wd_1_0 wd_4_117 (hd := by decide +kernel) (by decide) rfl rfl)) (ab_tl_ok (sn_istore Cx dL_law_952 (by decide))))))) (ab_tn_ok (ab_tn_ok (ab_tn_ok (ab_tl_ok (sn_aload_n Cx dL_law_954 rfl)) (ab_tn_ok (ab_tl_ok (sn_aload_n Cx dL_law_955 rfl)) (ab_tl_ok (sn_iload Cx dL_law_956)))) (ab_tn_ok (ab_tl_ok (sn_iconst Cx dL_law_958 (by decide))) (ab_tn_ok (ab_tl_ok (sn_iadd Cx dL_law_959)) (ab_tl_ok (sn_sld Cx hX hbl hbA dL_law_960))))) (ab_tn_ok (ab_tn_ok (ab_tl_ok (sn_i2c Cx dL_law_961)) (ab_tn_ok (ab_tl_ok (sn_aload_n Cx dL_law_962 rfl)) (ab_tl_ok (sn_iload Cx dL_law_963)))) (ab_tn_ok (ab_tl_ok (sn_iconst Cx dL_law_965 (by decide))) (ab_tn_ok (ab_tl_ok (sn_iadd Cx dL_law_966)) (ab_tl_ok (sn_sld Cx hX hbl hbA dL_law_967)))))))
def tb_L_law11 (b Ls : Nat) (xs : Nat → Int32) (g : Nat → Nat) : Nat → ab_I := ab_tn 1010 (ab_tn 986 (ab_tn 975 (ab_tn 972 (ab_tn 969 (ab_tl 968 (ab_i2c 969)) (ab_tn 970 (ab_tl 969 (ab_aload 0 970)) (ab_tl 970 (ab_iload 5 972)))) (ab_tn 973 (ab_tl 972 (ab_push (.int 3) 973)) (ab_tn 974 (ab_tl 973 (ab_bin (fun x y => x + y) 974)) (ab_tl 974 (ab_sld b Ls xs 975))))) (ab_tn 982 (ab_tn 978 (ab_tl 975 (ab_if (fun x => x = 0) 982 978)) (ab_tn 979 (ab_tl 978 (ab_push (.int 1) 979)) (ab_tl 979 (ab_goto 983)))) (ab_tn 983 (ab_tl 982 (ab_push (.int 0) 983)) (ab_tn 984 (ab_tl 983 (ab_aload 0 984)) (ab_tl 984 (ab_iload 5 986)))))) (ab_tn 995 (ab_tn 989 (ab_tn 987 (ab_tl 986 (ab_push (.int 4) 987)) (ab_tn 988 (ab_tl 987 (ab_bin (fun x y => x + y) 988)) (ab_tl 988 (ab_sld b Ls xs 989)))) (ab_tn 992 (ab_tl 989 (ab_callV 12 5 1 (wp_X9_rule g) 0 0 603072 7207018 ab_NX 992)) (ab_tn 994 (ab_tl 992 (ab_istore 7 994)) (ab_tl 994 (ab_aload 2 995))))) (ab_tn 1003 (ab_tn 998 (ab_tl 995 (ab_callV 12 1 1 (wp_X9_thrown g) 0 0 603072 7207018 ab_NX 998)) (ab_tn 1000 (ab_tl 998 (ab_iload 6 1000)) (ab_tl 1000 (ab_icmp (fun x y => x = y) 1005 1003)))) (ab_tn 1005 (ab_tl 1003 (ab_push (.int 0) 1004)) (ab_tn 1007 (ab_tl 1005 (ab_iload 6 1007)) (ab_tl 1007 (ab_if (fun x => x = 0) 1010 1022))))))) (ab_tn 1029 (ab_tn 1017 (ab_tn 1013 (ab_tn 1011 (ab_tl 1010 (ab_aload 3 1011)) (ab_tn 1012 (ab_tl 1011 (ab_push (.int 0) 1012)) (ab_tl 1012 (ab_lald 1013)))) (ab_tn 1015 (ab_tl 1013 (ab_iload 7 1015)) (ab_tn 1016 (ab_tl 1015 (ab_i2l 1016)) (ab_tl 1016 (ab_lcmp 1017))))) (ab_tn 1025 (ab_tn 1020 (ab_tl 1017 (ab_if (fun x => x = 0) 1022 1020)) (ab_tn 1022 (ab_tl 1020 (ab_push (.int 0) 1021)) (ab_tl 1022 (ab_goto 2029)))) (ab_tn 1026 (ab_tl 1025 (ab_aload 1 1026)) (ab_tn 1027 (ab_tl 1026 (ab_aload 0 1027)) (ab_tl 1027 (ab_iload 5 1029)))))) (ab_tn 1038 (ab_tn 1032 (ab_tn 1030 (ab_tl 1029 (ab_push (.int 1) 1030)) (ab_tn 1031 (ab_tl 1030 (ab_bin (fun x y => x + y) 1031)) (ab_tl 1031 (ab_sld b Ls xs 1032)))) (ab_tn 1033 (ab_tl 1032 (ab_aload 3 1033)) (ab_tn 1036 (ab_tl 1033 (ab_callS 3 1 (wp_L_stands g) 2 12 603072 7207018 ab_NX 1036)) (ab_tl 1036 (ab_istore 6 1038))))) (ab_tn 1042 (ab_tn 1039 (ab_tl 1038 (ab_aload 2 1039)) (ab_tn 1040 (ab_tl 1039 (ab_aload 0 1040)) (ab_tl 1040 (ab_iload 5 1042)))) (ab_tn 1043 (ab_tl 1042 (ab_push (.int 1) 1043)) (ab_tn 1044 (ab_tl 1043 (ab_bin (fun x y => x + y) 1044)) (ab_tl 1044 (ab_sld b Ls xs 1045)))))))
set_option maxRecDepth 100000 in
set_option maxHeartbeats 4000000 in
theorem st_L_law11 {p : Program} {l : Launch} {e : Env} {s : State} {m : MethodId} {below : List Frame} {meth : Method} {c : Code} {D : va_G} {C : Nat → ClassId} {g : Nat → Nat} {A : Nat → Prop} {nm : String} {b Ls : Nat} {xs : Nat → Int32} (Cx : ab_Cx l D C g R_law nm code 9 ret ab_T p s m #[Value.ref b] meth c A) (hl : l.stackTraces = false) (hlk : meth.locks = false) (hA : ∀ q, A q → s.heap.size ≤ q) (hX : va_X b Ls xs s s.heap) (hbl : b < s.heap.size) (hbA : ¬ A b) : ∀ pc, ab_Sn (ab_W p l e room_1 s m #[Value.ref b] below meth c (lw_Z below #[Value.ref b] s) D C A 9) pc (tb_L_law11 b Ls xs g pc) :=
  ab_tn_ok (ab_tn_ok (ab_tn_ok (ab_tn_ok (ab_tn_ok (ab_tl_ok (sn_i2c Cx dL_law_968)) (ab_tn_ok (ab_tl_ok (sn_aload_n Cx dL_law_969 rfl)) (ab_tl_ok (sn_iload Cx dL_law_970)))) (ab_tn_ok (ab_tl_ok (sn_iconst Cx dL_law_972 (by decide))) (ab_tn_ok (ab_tl_ok (sn_iadd Cx dL_law_973)) (ab_tl_ok (sn_sld Cx hX hbl hbA dL_law_974))))) (ab_tn_ok (ab_tn_ok (ab_tl_ok (sn_if_eq Cx dL_law_975 (tgt := 982) (by decide))) (ab_tn_ok (ab_tl_ok (sn_iconst Cx dL_law_978 (by decide))) (ab_tl_ok (sn_goto Cx dL_law_979 (tgt := 983) (by decide))))) (ab_tn_ok (ab_tl_ok (sn_iconst Cx dL_law_982 (by decide))) (ab_tn_ok (ab_tl_ok (sn_aload_n Cx dL_law_983 rfl)) (ab_tl_ok (sn_iload Cx dL_law_984)))))) (ab_tn_ok (ab_tn_ok (ab_tn_ok (ab_tl_ok (sn_iconst Cx dL_law_986 (by decide))) (ab_tn_ok (ab_tl_ok (sn_iadd Cx dL_law_987)) (ab_tl_ok (sn_sld Cx hX hbl hbA dL_law_988)))) (ab_tn_ok (ab_tl_ok (sn_callVG Cx (Cn := RX9) (T := TX9) (N := 36) rfl (ct_X9_rule hl) dL_law_989 wd_7_17 wd_7_18 wd_1_5 wd_7_20 wd_7_19 (hd := by decide +kernel) (by decide) rfl rfl)) (ab_tn_ok (ab_tl_ok (sn_istore Cx dL_law_992 (by decide))) (ab_tl_ok (sn_aload_n Cx dL_law_994 rfl))))) (ab_tn_ok (ab_tn_ok (ab_tl_ok (sn_callVG Cx (Cn := RX9) (T := TX9) (N := 36) rfl (ct_X9_thrown hl) dL_law_995 wd_6_60 wd_6_61 wd_1_5 wd_6_63 wd_6_62 (hd := by decide +kernel) (by decide) rfl rfl)) (ab_tn_ok (ab_tl_ok (sn_iload Cx dL_law_998)) (ab_tl_ok (sn_icmp_eq Cx dL_law_1000 (tgt := 1005) (by decide))))) (ab_tn_ok (ab_tl_ok (sn_iconst Cx dL_law_1003 (by decide))) (ab_tn_ok (ab_tl_ok (sn_iload Cx dL_law_1005)) (ab_tl_ok (sn_if_ne Cx dL_law_1007 (tgt := 1022) (by decide)))))))) (ab_tn_ok (ab_tn_ok (ab_tn_ok (ab_tn_ok (ab_tl_ok (sn_aload_n Cx dL_law_1010 rfl)) (ab_tn_ok (ab_tl_ok (sn_iconst Cx dL_law_1011 (by decide))) (ab_tl_ok (sn_lald Cx dL_law_1012)))) (ab_tn_ok (ab_tl_ok (sn_iload Cx dL_law_1013)) (ab_tn_ok (ab_tl_ok (sn_i2l Cx dL_law_1015)) (ab_tl_ok (sn_lcmp Cx dL_law_1016))))) (ab_tn_ok (ab_tn_ok (ab_tl_ok (sn_if_eq Cx dL_law_1017 (tgt := 1022) (by decide))) (ab_tn_ok (ab_tl_ok (sn_iconst Cx dL_law_1020 (by decide))) (ab_tl_ok (sn_goto Cx dL_law_1022 (tgt := 2029) (by decide))))) (ab_tn_ok (ab_tl_ok (sn_aload_n Cx dL_law_1025 rfl)) (ab_tn_ok (ab_tl_ok (sn_aload_n Cx dL_law_1026 rfl)) (ab_tl_ok (sn_iload Cx dL_law_1027)))))) (ab_tn_ok (ab_tn_ok (ab_tn_ok (ab_tl_ok (sn_iconst Cx dL_law_1029 (by decide))) (ab_tn_ok (ab_tl_ok (sn_iadd Cx dL_law_1030)) (ab_tl_ok (sn_sld Cx hX hbl hbA dL_law_1031)))) (ab_tn_ok (ab_tl_ok (sn_aload_n Cx dL_law_1032 rfl)) (ab_tn_ok (ab_tl_ok (sn_callSG Cx (ct_L_stands hl) dL_law_1033 wd_4_178 wd_4_179 wd_1_0 wd_4_180 (hd := by decide +kernel) (by decide) rfl rfl)) (ab_tl_ok (sn_istore Cx dL_law_1036 (by decide)))))) (ab_tn_ok (ab_tn_ok (ab_tl_ok (sn_aload_n Cx dL_law_1038 rfl)) (ab_tn_ok (ab_tl_ok (sn_aload_n Cx dL_law_1039 rfl)) (ab_tl_ok (sn_iload Cx dL_law_1040)))) (ab_tn_ok (ab_tl_ok (sn_iconst Cx dL_law_1042 (by decide))) (ab_tn_ok (ab_tl_ok (sn_iadd Cx dL_law_1043)) (ab_tl_ok (sn_sld Cx hX hbl hbA dL_law_1044)))))))
def tb_L_law12 (b Ls : Nat) (xs : Nat → Int32) (g : Nat → Nat) : Nat → ab_I := ab_tn 1092 (ab_tn 1069 (ab_tn 1059 (ab_tn 1051 (ab_tn 1048 (ab_tl 1045 (ab_callV 12 2 1 (wp_X9_stands g) 0 0 603072 7207018 ab_NX 1048)) (ab_tn 1050 (ab_tl 1048 (ab_istore 7 1050)) (ab_tl 1050 (ab_aload 2 1051)))) (ab_tn 1054 (ab_tl 1051 (ab_callV 12 1 1 (wp_X9_thrown g) 0 0 603072 7207018 ab_NX 1054)) (ab_tn 1056 (ab_tl 1054 (ab_iload 6 1056)) (ab_tl 1056 (ab_icmp (fun x y => x = y) 1061 1059))))) (ab_tn 1066 (ab_tn 1061 (ab_tl 1059 (ab_push (.int 0) 1060)) (ab_tn 1063 (ab_tl 1061 (ab_iload 6 1063)) (ab_tl 1063 (ab_if (fun x => x = 0) 1066 1085)))) (ab_tn 1067 (ab_tl 1066 (ab_aload 3 1067)) (ab_tn 1068 (ab_tl 1067 (ab_push (.int 0) 1068)) (ab_tl 1068 (ab_lald 1069)))))) (ab_tn 1080 (ab_tn 1075 (ab_tn 1071 (ab_tl 1069 (ab_iload 7 1071)) (ab_tn 1074 (ab_tl 1071 (ab_if (fun x => x = 0) 1078 1074)) (ab_tl 1074 (ab_push (.long 1) 1075)))) (ab_tn 1078 (ab_tl 1075 (ab_goto 1079)) (ab_tn 1079 (ab_tl 1078 (ab_push (.long 0) 1079)) (ab_tl 1079 (ab_lcmp 1080))))) (ab_tn 1088 (ab_tn 1083 (ab_tl 1080 (ab_if (fun x => x = 0) 1085 1083)) (ab_tn 1085 (ab_tl 1083 (ab_push (.int 0) 1084)) (ab_tl 1085 (ab_goto 2029)))) (ab_tn 1089 (ab_tl 1088 (ab_aload 1 1089)) (ab_tn 1090 (ab_tl 1089 (ab_aload 0 1090)) (ab_tl 1090 (ab_iload 5 1092))))))) (ab_tn 1108 (ab_tn 1101 (ab_tn 1095 (ab_tn 1093 (ab_tl 1092 (ab_push (.int 1) 1093)) (ab_tn 1094 (ab_tl 1093 (ab_bin (fun x y => x + y) 1094)) (ab_tl 1094 (ab_sld b Ls xs 1095)))) (ab_tn 1096 (ab_tl 1095 (ab_aload 3 1096)) (ab_tn 1099 (ab_tl 1096 (ab_callS 3 1 (wp_L_counterexample g) 2 12 603072 7207018 ab_NX 1099)) (ab_tl 1099 (ab_istore 6 1101))))) (ab_tn 1105 (ab_tn 1102 (ab_tl 1101 (ab_aload 2 1102)) (ab_tn 1103 (ab_tl 1102 (ab_aload 0 1103)) (ab_tl 1103 (ab_iload 5 1105)))) (ab_tn 1106 (ab_tl 1105 (ab_push (.int 1) 1106)) (ab_tn 1107 (ab_tl 1106 (ab_bin (fun x y => x + y) 1107)) (ab_tl 1107 (ab_sld b Ls xs 1108)))))) (ab_tn 1122 (ab_tn 1114 (ab_tn 1111 (ab_tl 1108 (ab_callV 12 2 1 (wp_X9_counterexample g) 0 0 603072 7207018 ab_NX 1111)) (ab_tn 1113 (ab_tl 1111 (ab_istore 7 1113)) (ab_tl 1113 (ab_aload 2 1114)))) (ab_tn 1117 (ab_tl 1114 (ab_callV 12 1 1 (wp_X9_thrown g) 0 0 603072 7207018 ab_NX 1117)) (ab_tn 1119 (ab_tl 1117 (ab_iload 6 1119)) (ab_tl 1119 (ab_icmp (fun x y => x = y) 1124 1122))))) (ab_tn 1129 (ab_tn 1124 (ab_tl 1122 (ab_push (.int 0) 1123)) (ab_tn 1126 (ab_tl 1124 (ab_iload 6 1126)) (ab_tl 1126 (ab_if (fun x => x = 0) 1129 1141)))) (ab_tn 1130 (ab_tl 1129 (ab_aload 3 1130)) (ab_tn 1131 (ab_tl 1130 (ab_push (.int 0) 1131)) (ab_tl 1131 (ab_lald 1132)))))))
set_option maxRecDepth 100000 in
set_option maxHeartbeats 4000000 in
theorem st_L_law12 {p : Program} {l : Launch} {e : Env} {s : State} {m : MethodId} {below : List Frame} {meth : Method} {c : Code} {D : va_G} {C : Nat → ClassId} {g : Nat → Nat} {A : Nat → Prop} {nm : String} {b Ls : Nat} {xs : Nat → Int32} (Cx : ab_Cx l D C g R_law nm code 9 ret ab_T p s m #[Value.ref b] meth c A) (hl : l.stackTraces = false) (hlk : meth.locks = false) (hA : ∀ q, A q → s.heap.size ≤ q) (hX : va_X b Ls xs s s.heap) (hbl : b < s.heap.size) (hbA : ¬ A b) : ∀ pc, ab_Sn (ab_W p l e room_1 s m #[Value.ref b] below meth c (lw_Z below #[Value.ref b] s) D C A 9) pc (tb_L_law12 b Ls xs g pc) :=
  ab_tn_ok (ab_tn_ok (ab_tn_ok (ab_tn_ok (ab_tn_ok (ab_tl_ok (sn_callVG Cx (Cn := RX9) (T := TX9) (N := 36) rfl (ct_X9_stands hl) dL_law_1045 wd_7_21 wd_7_22 wd_1_5 wd_7_24 wd_7_23 (hd := by decide +kernel) (by decide) rfl rfl)) (ab_tn_ok (ab_tl_ok (sn_istore Cx dL_law_1048 (by decide))) (ab_tl_ok (sn_aload_n Cx dL_law_1050 rfl)))) (ab_tn_ok (ab_tl_ok (sn_callVG Cx (Cn := RX9) (T := TX9) (N := 36) rfl (ct_X9_thrown hl) dL_law_1051 wd_6_60 wd_6_61 wd_1_5 wd_6_63 wd_6_62 (hd := by decide +kernel) (by decide) rfl rfl)) (ab_tn_ok (ab_tl_ok (sn_iload Cx dL_law_1054)) (ab_tl_ok (sn_icmp_eq Cx dL_law_1056 (tgt := 1061) (by decide)))))) (ab_tn_ok (ab_tn_ok (ab_tl_ok (sn_iconst Cx dL_law_1059 (by decide))) (ab_tn_ok (ab_tl_ok (sn_iload Cx dL_law_1061)) (ab_tl_ok (sn_if_ne Cx dL_law_1063 (tgt := 1085) (by decide))))) (ab_tn_ok (ab_tl_ok (sn_aload_n Cx dL_law_1066 rfl)) (ab_tn_ok (ab_tl_ok (sn_iconst Cx dL_law_1067 (by decide))) (ab_tl_ok (sn_lald Cx dL_law_1068)))))) (ab_tn_ok (ab_tn_ok (ab_tn_ok (ab_tl_ok (sn_iload Cx dL_law_1069)) (ab_tn_ok (ab_tl_ok (sn_if_eq Cx dL_law_1071 (tgt := 1078) (by decide))) (ab_tl_ok (sn_lconst Cx dL_law_1074 (by decide))))) (ab_tn_ok (ab_tl_ok (sn_goto Cx dL_law_1075 (tgt := 1079) (by decide))) (ab_tn_ok (ab_tl_ok (sn_lconst Cx dL_law_1078 (by decide))) (ab_tl_ok (sn_lcmp Cx dL_law_1079))))) (ab_tn_ok (ab_tn_ok (ab_tl_ok (sn_if_eq Cx dL_law_1080 (tgt := 1085) (by decide))) (ab_tn_ok (ab_tl_ok (sn_iconst Cx dL_law_1083 (by decide))) (ab_tl_ok (sn_goto Cx dL_law_1085 (tgt := 2029) (by decide))))) (ab_tn_ok (ab_tl_ok (sn_aload_n Cx dL_law_1088 rfl)) (ab_tn_ok (ab_tl_ok (sn_aload_n Cx dL_law_1089 rfl)) (ab_tl_ok (sn_iload Cx dL_law_1090))))))) (ab_tn_ok (ab_tn_ok (ab_tn_ok (ab_tn_ok (ab_tl_ok (sn_iconst Cx dL_law_1092 (by decide))) (ab_tn_ok (ab_tl_ok (sn_iadd Cx dL_law_1093)) (ab_tl_ok (sn_sld Cx hX hbl hbA dL_law_1094)))) (ab_tn_ok (ab_tl_ok (sn_aload_n Cx dL_law_1095 rfl)) (ab_tn_ok (ab_tl_ok (sn_callSG Cx (ct_L_counterexample hl) dL_law_1096 wd_4_190 wd_4_191 wd_1_0 wd_4_192 (hd := by decide +kernel) (by decide) rfl rfl)) (ab_tl_ok (sn_istore Cx dL_law_1099 (by decide)))))) (ab_tn_ok (ab_tn_ok (ab_tl_ok (sn_aload_n Cx dL_law_1101 rfl)) (ab_tn_ok (ab_tl_ok (sn_aload_n Cx dL_law_1102 rfl)) (ab_tl_ok (sn_iload Cx dL_law_1103)))) (ab_tn_ok (ab_tl_ok (sn_iconst Cx dL_law_1105 (by decide))) (ab_tn_ok (ab_tl_ok (sn_iadd Cx dL_law_1106)) (ab_tl_ok (sn_sld Cx hX hbl hbA dL_law_1107)))))) (ab_tn_ok (ab_tn_ok (ab_tn_ok (ab_tl_ok (sn_callVG Cx (Cn := RX9) (T := TX9) (N := 36) rfl (ct_X9_counterexample hl) dL_law_1108 wd_7_25 wd_7_26 wd_1_5 wd_7_28 wd_7_27 (hd := by decide +kernel) (by decide) rfl rfl)) (ab_tn_ok (ab_tl_ok (sn_istore Cx dL_law_1111 (by decide))) (ab_tl_ok (sn_aload_n Cx dL_law_1113 rfl)))) (ab_tn_ok (ab_tl_ok (sn_callVG Cx (Cn := RX9) (T := TX9) (N := 36) rfl (ct_X9_thrown hl) dL_law_1114 wd_6_60 wd_6_61 wd_1_5 wd_6_63 wd_6_62 (hd := by decide +kernel) (by decide) rfl rfl)) (ab_tn_ok (ab_tl_ok (sn_iload Cx dL_law_1117)) (ab_tl_ok (sn_icmp_eq Cx dL_law_1119 (tgt := 1124) (by decide)))))) (ab_tn_ok (ab_tn_ok (ab_tl_ok (sn_iconst Cx dL_law_1122 (by decide))) (ab_tn_ok (ab_tl_ok (sn_iload Cx dL_law_1124)) (ab_tl_ok (sn_if_ne Cx dL_law_1126 (tgt := 1141) (by decide))))) (ab_tn_ok (ab_tl_ok (sn_aload_n Cx dL_law_1129 rfl)) (ab_tn_ok (ab_tl_ok (sn_iconst Cx dL_law_1130 (by decide))) (ab_tl_ok (sn_lald Cx dL_law_1131)))))))
def tb_L_law13 (b Ls : Nat) (xs : Nat → Int32) (g : Nat → Nat) : Nat → ab_I := ab_tn 1170 (ab_tn 1151 (ab_tn 1144 (ab_tn 1136 (ab_tn 1134 (ab_tl 1132 (ab_iload 7 1134)) (ab_tn 1135 (ab_tl 1134 (ab_i2l 1135)) (ab_tl 1135 (ab_lcmp 1136)))) (ab_tn 1139 (ab_tl 1136 (ab_if (fun x => x = 0) 1141 1139)) (ab_tn 1141 (ab_tl 1139 (ab_push (.int 0) 1140)) (ab_tl 1141 (ab_goto 2029))))) (ab_tn 1148 (ab_tn 1145 (ab_tl 1144 (ab_aload 1 1145)) (ab_tn 1146 (ab_tl 1145 (ab_aload 0 1146)) (ab_tl 1146 (ab_iload 5 1148)))) (ab_tn 1149 (ab_tl 1148 (ab_push (.int 1) 1149)) (ab_tn 1150 (ab_tl 1149 (ab_bin (fun x y => x + y) 1150)) (ab_tl 1150 (ab_sld b Ls xs 1151)))))) (ab_tn 1161 (ab_tn 1157 (ab_tn 1152 (ab_tl 1151 (ab_aload 3 1152)) (ab_tn 1155 (ab_tl 1152 (ab_callS 3 1 (wp_L_fall g) 2 12 603072 7207018 ab_NX 1155)) (ab_tl 1155 (ab_istore 6 1157)))) (ab_tn 1158 (ab_tl 1157 (ab_aload 2 1158)) (ab_tn 1159 (ab_tl 1158 (ab_aload 0 1159)) (ab_tl 1159 (ab_iload 5 1161))))) (ab_tn 1164 (ab_tn 1162 (ab_tl 1161 (ab_push (.int 1) 1162)) (ab_tn 1163 (ab_tl 1162 (ab_bin (fun x y => x + y) 1163)) (ab_tl 1163 (ab_sld b Ls xs 1164)))) (ab_tn 1167 (ab_tl 1164 (ab_callV 12 2 1 (wp_X9_fall g) 0 0 603072 7207018 ab_NX 1167)) (ab_tn 1169 (ab_tl 1167 (ab_istore 7 1169)) (ab_tl 1169 (ab_aload 2 1170))))))) (ab_tn 1192 (ab_tn 1185 (ab_tn 1178 (ab_tn 1173 (ab_tl 1170 (ab_callV 12 1 1 (wp_X9_thrown g) 0 0 603072 7207018 ab_NX 1173)) (ab_tn 1175 (ab_tl 1173 (ab_iload 6 1175)) (ab_tl 1175 (ab_icmp (fun x y => x = y) 1180 1178)))) (ab_tn 1180 (ab_tl 1178 (ab_push (.int 0) 1179)) (ab_tn 1182 (ab_tl 1180 (ab_iload 6 1182)) (ab_tl 1182 (ab_if (fun x => x = 0) 1185 1197))))) (ab_tn 1188 (ab_tn 1186 (ab_tl 1185 (ab_aload 3 1186)) (ab_tn 1187 (ab_tl 1186 (ab_push (.int 0) 1187)) (ab_tl 1187 (ab_lald 1188)))) (ab_tn 1190 (ab_tl 1188 (ab_iload 7 1190)) (ab_tn 1191 (ab_tl 1190 (ab_i2l 1191)) (ab_tl 1191 (ab_lcmp 1192)))))) (ab_tn 1205 (ab_tn 1200 (ab_tn 1195 (ab_tl 1192 (ab_if (fun x => x = 0) 1197 1195)) (ab_tn 1197 (ab_tl 1195 (ab_push (.int 0) 1196)) (ab_tl 1197 (ab_goto 2029)))) (ab_tn 1201 (ab_tl 1200 (ab_aload 1 1201)) (ab_tn 1202 (ab_tl 1201 (ab_aload 3 1202)) (ab_tl 1202 (ab_callS 2 1 (wp_L_issue g) 4 88 603072 7207018 ab_NX 1205))))) (ab_tn 1211 (ab_tn 1207 (ab_tl 1205 (ab_istore 6 1207)) (ab_tn 1208 (ab_tl 1207 (ab_aload 2 1208)) (ab_tl 1208 (ab_callV 12 1 1 (wp_X9_issue g) 0 0 603072 7207018 ab_NX 1211)))) (ab_tn 1213 (ab_tl 1211 (ab_istore 7 1213)) (ab_tn 1214 (ab_tl 1213 (ab_aload 2 1214)) (ab_tl 1214 (ab_callV 12 1 1 (wp_X9_thrown g) 0 0 603072 7207018 ab_NX 1217)))))))
set_option maxRecDepth 100000 in
set_option maxHeartbeats 4000000 in
theorem st_L_law13 {p : Program} {l : Launch} {e : Env} {s : State} {m : MethodId} {below : List Frame} {meth : Method} {c : Code} {D : va_G} {C : Nat → ClassId} {g : Nat → Nat} {A : Nat → Prop} {nm : String} {b Ls : Nat} {xs : Nat → Int32} (Cx : ab_Cx l D C g R_law nm code 9 ret ab_T p s m #[Value.ref b] meth c A) (hl : l.stackTraces = false) (hlk : meth.locks = false) (hA : ∀ q, A q → s.heap.size ≤ q) (hX : va_X b Ls xs s s.heap) (hbl : b < s.heap.size) (hbA : ¬ A b) : ∀ pc, ab_Sn (ab_W p l e room_1 s m #[Value.ref b] below meth c (lw_Z below #[Value.ref b] s) D C A 9) pc (tb_L_law13 b Ls xs g pc) :=
  ab_tn_ok (ab_tn_ok (ab_tn_ok (ab_tn_ok (ab_tn_ok (ab_tl_ok (sn_iload Cx dL_law_1132)) (ab_tn_ok (ab_tl_ok (sn_i2l Cx dL_law_1134)) (ab_tl_ok (sn_lcmp Cx dL_law_1135)))) (ab_tn_ok (ab_tl_ok (sn_if_eq Cx dL_law_1136 (tgt := 1141) (by decide))) (ab_tn_ok (ab_tl_ok (sn_iconst Cx dL_law_1139 (by decide))) (ab_tl_ok (sn_goto Cx dL_law_1141 (tgt := 2029) (by decide)))))) (ab_tn_ok (ab_tn_ok (ab_tl_ok (sn_aload_n Cx dL_law_1144 rfl)) (ab_tn_ok (ab_tl_ok (sn_aload_n Cx dL_law_1145 rfl)) (ab_tl_ok (sn_iload Cx dL_law_1146)))) (ab_tn_ok (ab_tl_ok (sn_iconst Cx dL_law_1148 (by decide))) (ab_tn_ok (ab_tl_ok (sn_iadd Cx dL_law_1149)) (ab_tl_ok (sn_sld Cx hX hbl hbA dL_law_1150)))))) (ab_tn_ok (ab_tn_ok (ab_tn_ok (ab_tl_ok (sn_aload_n Cx dL_law_1151 rfl)) (ab_tn_ok (ab_tl_ok (sn_callSG Cx (ct_L_fall hl) dL_law_1152 wd_4_198 wd_4_199 wd_1_0 wd_4_200 (hd := by decide +kernel) (by decide) rfl rfl)) (ab_tl_ok (sn_istore Cx dL_law_1155 (by decide))))) (ab_tn_ok (ab_tl_ok (sn_aload_n Cx dL_law_1157 rfl)) (ab_tn_ok (ab_tl_ok (sn_aload_n Cx dL_law_1158 rfl)) (ab_tl_ok (sn_iload Cx dL_law_1159))))) (ab_tn_ok (ab_tn_ok (ab_tl_ok (sn_iconst Cx dL_law_1161 (by decide))) (ab_tn_ok (ab_tl_ok (sn_iadd Cx dL_law_1162)) (ab_tl_ok (sn_sld Cx hX hbl hbA dL_law_1163)))) (ab_tn_ok (ab_tl_ok (sn_callVG Cx (Cn := RX9) (T := TX9) (N := 36) rfl (ct_X9_fall hl) dL_law_1164 wd_7_45 wd_7_46 wd_1_5 wd_7_48 wd_7_47 (hd := by decide +kernel) (by decide) rfl rfl)) (ab_tn_ok (ab_tl_ok (sn_istore Cx dL_law_1167 (by decide))) (ab_tl_ok (sn_aload_n Cx dL_law_1169 rfl))))))) (ab_tn_ok (ab_tn_ok (ab_tn_ok (ab_tn_ok (ab_tl_ok (sn_callVG Cx (Cn := RX9) (T := TX9) (N := 36) rfl (ct_X9_thrown hl) dL_law_1170 wd_6_60 wd_6_61 wd_1_5 wd_6_63 wd_6_62 (hd := by decide +kernel) (by decide) rfl rfl)) (ab_tn_ok (ab_tl_ok (sn_iload Cx dL_law_1173)) (ab_tl_ok (sn_icmp_eq Cx dL_law_1175 (tgt := 1180) (by decide))))) (ab_tn_ok (ab_tl_ok (sn_iconst Cx dL_law_1178 (by decide))) (ab_tn_ok (ab_tl_ok (sn_iload Cx dL_law_1180)) (ab_tl_ok (sn_if_ne Cx dL_law_1182 (tgt := 1197) (by decide)))))) (ab_tn_ok (ab_tn_ok (ab_tl_ok (sn_aload_n Cx dL_law_1185 rfl)) (ab_tn_ok (ab_tl_ok (sn_iconst Cx dL_law_1186 (by decide))) (ab_tl_ok (sn_lald Cx dL_law_1187)))) (ab_tn_ok (ab_tl_ok (sn_iload Cx dL_law_1188)) (ab_tn_ok (ab_tl_ok (sn_i2l Cx dL_law_1190)) (ab_tl_ok (sn_lcmp Cx dL_law_1191)))))) (ab_tn_ok (ab_tn_ok (ab_tn_ok (ab_tl_ok (sn_if_eq Cx dL_law_1192 (tgt := 1197) (by decide))) (ab_tn_ok (ab_tl_ok (sn_iconst Cx dL_law_1195 (by decide))) (ab_tl_ok (sn_goto Cx dL_law_1197 (tgt := 2029) (by decide))))) (ab_tn_ok (ab_tl_ok (sn_aload_n Cx dL_law_1200 rfl)) (ab_tn_ok (ab_tl_ok (sn_aload_n Cx dL_law_1201 rfl)) (ab_tl_ok (sn_callSG Cx (ct_L_issue hl) dL_law_1202 wd_4_231 wd_4_232 wd_1_0 wd_4_233 (hd := by decide +kernel) (by decide) rfl rfl))))) (ab_tn_ok (ab_tn_ok (ab_tl_ok (sn_istore Cx dL_law_1205 (by decide))) (ab_tn_ok (ab_tl_ok (sn_aload_n Cx dL_law_1207 rfl)) (ab_tl_ok (sn_callVG Cx (Cn := RX9) (T := TX9) (N := 36) rfl (ct_X9_issue hl) dL_law_1208 wd_7_63 wd_7_64 wd_1_5 wd_7_66 wd_7_65 (hd := by decide +kernel) (by decide) rfl rfl)))) (ab_tn_ok (ab_tl_ok (sn_istore Cx dL_law_1211 (by decide))) (ab_tn_ok (ab_tl_ok (sn_aload_n Cx dL_law_1213 rfl)) (ab_tl_ok (sn_callVG Cx (Cn := RX9) (T := TX9) (N := 36) rfl (ct_X9_thrown hl) dL_law_1214 wd_6_60 wd_6_61 wd_1_5 wd_6_63 wd_6_62 (hd := by decide +kernel) (by decide) rfl rfl)))))))
def tb_L_law14 (b Ls : Nat) (xs : Nat → Int32) (g : Nat → Nat) : Nat → ab_I := ab_tn 1256 (ab_tn 1239 (ab_tn 1230 (ab_tn 1224 (ab_tn 1219 (ab_tl 1217 (ab_iload 6 1219)) (ab_tn 1222 (ab_tl 1219 (ab_icmp (fun x y => x = y) 1224 1222)) (ab_tl 1222 (ab_push (.int 0) 1223)))) (ab_tn 1226 (ab_tl 1224 (ab_iload 6 1226)) (ab_tn 1229 (ab_tl 1226 (ab_if (fun x => x = 0) 1229 1241)) (ab_tl 1229 (ab_aload 3 1230))))) (ab_tn 1234 (ab_tn 1231 (ab_tl 1230 (ab_push (.int 0) 1231)) (ab_tn 1232 (ab_tl 1231 (ab_lald 1232)) (ab_tl 1232 (ab_iload 7 1234)))) (ab_tn 1235 (ab_tl 1234 (ab_i2l 1235)) (ab_tn 1236 (ab_tl 1235 (ab_lcmp 1236)) (ab_tl 1236 (ab_if (fun x => x = 0) 1241 1239)))))) (ab_tn 1249 (ab_tn 1245 (ab_tn 1241 (ab_tl 1239 (ab_push (.int 0) 1240)) (ab_tn 1244 (ab_tl 1241 (ab_goto 2029)) (ab_tl 1244 (ab_aload 1 1245)))) (ab_tn 1246 (ab_tl 1245 (ab_aload 0 1246)) (ab_tn 1248 (ab_tl 1246 (ab_iload 5 1248)) (ab_tl 1248 (ab_push (.int 1) 1249))))) (ab_tn 1252 (ab_tn 1250 (ab_tl 1249 (ab_bin (fun x y => x + y) 1250)) (ab_tn 1251 (ab_tl 1250 (ab_sld b Ls xs 1251)) (ab_tl 1251 (ab_aload 0 1252)))) (ab_tn 1254 (ab_tl 1252 (ab_iload 5 1254)) (ab_tn 1255 (ab_tl 1254 (ab_push (.int 2) 1255)) (ab_tl 1255 (ab_bin (fun x y => x + y) 1256))))))) (ab_tn 1273 (ab_tn 1265 (ab_tn 1261 (ab_tn 1257 (ab_tl 1256 (ab_sld b Ls xs 1257)) (ab_tn 1258 (ab_tl 1257 (ab_aload 3 1258)) (ab_tl 1258 (ab_callS 4 1 (wp_L_put g) 3 18 603072 7207018 ab_NX 1261)))) (ab_tn 1263 (ab_tl 1261 (ab_istore 6 1263)) (ab_tn 1264 (ab_tl 1263 (ab_aload 2 1264)) (ab_tl 1264 (ab_aload 0 1265))))) (ab_tn 1269 (ab_tn 1267 (ab_tl 1265 (ab_iload 5 1267)) (ab_tn 1268 (ab_tl 1267 (ab_push (.int 1) 1268)) (ab_tl 1268 (ab_bin (fun x y => x + y) 1269)))) (ab_tn 1270 (ab_tl 1269 (ab_sld b Ls xs 1270)) (ab_tn 1271 (ab_tl 1270 (ab_aload 0 1271)) (ab_tl 1271 (ab_iload 5 1273)))))) (ab_tn 1282 (ab_tn 1276 (ab_tn 1274 (ab_tl 1273 (ab_push (.int 2) 1274)) (ab_tn 1275 (ab_tl 1274 (ab_bin (fun x y => x + y) 1275)) (ab_tl 1275 (ab_sld b Ls xs 1276)))) (ab_tn 1279 (ab_tl 1276 (ab_callV 12 3 1 (wp_X9_put g) 0 0 603072 7207018 ab_NX 1279)) (ab_tn 1281 (ab_tl 1279 (ab_istore 7 1281)) (ab_tl 1281 (ab_aload 2 1282))))) (ab_tn 1290 (ab_tn 1285 (ab_tl 1282 (ab_callV 12 1 1 (wp_X9_thrown g) 0 0 603072 7207018 ab_NX 1285)) (ab_tn 1287 (ab_tl 1285 (ab_iload 6 1287)) (ab_tl 1287 (ab_icmp (fun x y => x = y) 1292 1290)))) (ab_tn 1292 (ab_tl 1290 (ab_push (.int 0) 1291)) (ab_tn 1294 (ab_tl 1292 (ab_iload 6 1294)) (ab_tl 1294 (ab_if (fun x => x = 0) 1297 1309)))))))
set_option maxRecDepth 100000 in
set_option maxHeartbeats 4000000 in
theorem st_L_law14 {p : Program} {l : Launch} {e : Env} {s : State} {m : MethodId} {below : List Frame} {meth : Method} {c : Code} {D : va_G} {C : Nat → ClassId} {g : Nat → Nat} {A : Nat → Prop} {nm : String} {b Ls : Nat} {xs : Nat → Int32} (Cx : ab_Cx l D C g R_law nm code 9 ret ab_T p s m #[Value.ref b] meth c A) (hl : l.stackTraces = false) (hlk : meth.locks = false) (hA : ∀ q, A q → s.heap.size ≤ q) (hX : va_X b Ls xs s s.heap) (hbl : b < s.heap.size) (hbA : ¬ A b) : ∀ pc, ab_Sn (ab_W p l e room_1 s m #[Value.ref b] below meth c (lw_Z below #[Value.ref b] s) D C A 9) pc (tb_L_law14 b Ls xs g pc) :=
  ab_tn_ok (ab_tn_ok (ab_tn_ok (ab_tn_ok (ab_tn_ok (ab_tl_ok (sn_iload Cx dL_law_1217)) (ab_tn_ok (ab_tl_ok (sn_icmp_eq Cx dL_law_1219 (tgt := 1224) (by decide))) (ab_tl_ok (sn_iconst Cx dL_law_1222 (by decide))))) (ab_tn_ok (ab_tl_ok (sn_iload Cx dL_law_1224)) (ab_tn_ok (ab_tl_ok (sn_if_ne Cx dL_law_1226 (tgt := 1241) (by decide))) (ab_tl_ok (sn_aload_n Cx dL_law_1229 rfl))))) (ab_tn_ok (ab_tn_ok (ab_tl_ok (sn_iconst Cx dL_law_1230 (by decide))) (ab_tn_ok (ab_tl_ok (sn_lald Cx dL_law_1231)) (ab_tl_ok (sn_iload Cx dL_law_1232)))) (ab_tn_ok (ab_tl_ok (sn_i2l Cx dL_law_1234)) (ab_tn_ok (ab_tl_ok (sn_lcmp Cx dL_law_1235)) (ab_tl_ok (sn_if_eq Cx dL_law_1236 (tgt := 1241) (by decide))))))) (ab_tn_ok (ab_tn_ok (ab_tn_ok (ab_tl_ok (sn_iconst Cx dL_law_1239 (by decide))) (ab_tn_ok (ab_tl_ok (sn_goto Cx dL_law_1241 (tgt := 2029) (by decide))) (ab_tl_ok (sn_aload_n Cx dL_law_1244 rfl)))) (ab_tn_ok (ab_tl_ok (sn_aload_n Cx dL_law_1245 rfl)) (ab_tn_ok (ab_tl_ok (sn_iload Cx dL_law_1246)) (ab_tl_ok (sn_iconst Cx dL_law_1248 (by decide)))))) (ab_tn_ok (ab_tn_ok (ab_tl_ok (sn_iadd Cx dL_law_1249)) (ab_tn_ok (ab_tl_ok (sn_sld Cx hX hbl hbA dL_law_1250)) (ab_tl_ok (sn_aload_n Cx dL_law_1251 rfl)))) (ab_tn_ok (ab_tl_ok (sn_iload Cx dL_law_1252)) (ab_tn_ok (ab_tl_ok (sn_iconst Cx dL_law_1254 (by decide))) (ab_tl_ok (sn_iadd Cx dL_law_1255))))))) (ab_tn_ok (ab_tn_ok (ab_tn_ok (ab_tn_ok (ab_tl_ok (sn_sld Cx hX hbl hbA dL_law_1256)) (ab_tn_ok (ab_tl_ok (sn_aload_n Cx dL_law_1257 rfl)) (ab_tl_ok (sn_callSG Cx (ct_L_put hl) dL_law_1258 wd_5_13 wd_5_14 wd_1_0 wd_5_15 (hd := by decide +kernel) (by decide) rfl rfl)))) (ab_tn_ok (ab_tl_ok (sn_istore Cx dL_law_1261 (by decide))) (ab_tn_ok (ab_tl_ok (sn_aload_n Cx dL_law_1263 rfl)) (ab_tl_ok (sn_aload_n Cx dL_law_1264 rfl))))) (ab_tn_ok (ab_tn_ok (ab_tl_ok (sn_iload Cx dL_law_1265)) (ab_tn_ok (ab_tl_ok (sn_iconst Cx dL_law_1267 (by decide))) (ab_tl_ok (sn_iadd Cx dL_law_1268)))) (ab_tn_ok (ab_tl_ok (sn_sld Cx hX hbl hbA dL_law_1269)) (ab_tn_ok (ab_tl_ok (sn_aload_n Cx dL_law_1270 rfl)) (ab_tl_ok (sn_iload Cx dL_law_1271)))))) (ab_tn_ok (ab_tn_ok (ab_tn_ok (ab_tl_ok (sn_iconst Cx dL_law_1273 (by decide))) (ab_tn_ok (ab_tl_ok (sn_iadd Cx dL_law_1274)) (ab_tl_ok (sn_sld Cx hX hbl hbA dL_law_1275)))) (ab_tn_ok (ab_tl_ok (sn_callVG Cx (Cn := RX9) (T := TX9) (N := 36) rfl (ct_X9_put hl) dL_law_1276 wd_7_67 wd_7_68 wd_1_5 wd_7_70 wd_7_69 (hd := by decide +kernel) (by decide) rfl rfl)) (ab_tn_ok (ab_tl_ok (sn_istore Cx dL_law_1279 (by decide))) (ab_tl_ok (sn_aload_n Cx dL_law_1281 rfl))))) (ab_tn_ok (ab_tn_ok (ab_tl_ok (sn_callVG Cx (Cn := RX9) (T := TX9) (N := 36) rfl (ct_X9_thrown hl) dL_law_1282 wd_6_60 wd_6_61 wd_1_5 wd_6_63 wd_6_62 (hd := by decide +kernel) (by decide) rfl rfl)) (ab_tn_ok (ab_tl_ok (sn_iload Cx dL_law_1285)) (ab_tl_ok (sn_icmp_eq Cx dL_law_1287 (tgt := 1292) (by decide))))) (ab_tn_ok (ab_tl_ok (sn_iconst Cx dL_law_1290 (by decide))) (ab_tn_ok (ab_tl_ok (sn_iload Cx dL_law_1292)) (ab_tl_ok (sn_if_ne Cx dL_law_1294 (tgt := 1309) (by decide))))))))
def tb_L_law15 (b Ls : Nat) (xs : Nat → Int32) (g : Nat → Nat) : Nat → ab_I := ab_tn 1332 (ab_tn 1316 (ab_tn 1304 (ab_tn 1300 (ab_tn 1298 (ab_tl 1297 (ab_aload 3 1298)) (ab_tn 1299 (ab_tl 1298 (ab_push (.int 0) 1299)) (ab_tl 1299 (ab_lald 1300)))) (ab_tn 1302 (ab_tl 1300 (ab_iload 7 1302)) (ab_tn 1303 (ab_tl 1302 (ab_i2l 1303)) (ab_tl 1303 (ab_lcmp 1304))))) (ab_tn 1312 (ab_tn 1307 (ab_tl 1304 (ab_if (fun x => x = 0) 1309 1307)) (ab_tn 1309 (ab_tl 1307 (ab_push (.int 0) 1308)) (ab_tl 1309 (ab_goto 2029)))) (ab_tn 1313 (ab_tl 1312 (ab_aload 1 1313)) (ab_tn 1314 (ab_tl 1313 (ab_aload 0 1314)) (ab_tl 1314 (ab_iload 5 1316)))))) (ab_tn 1323 (ab_tn 1319 (ab_tn 1317 (ab_tl 1316 (ab_push (.int 1) 1317)) (ab_tn 1318 (ab_tl 1317 (ab_bin (fun x y => x + y) 1318)) (ab_tl 1318 (ab_sld b Ls xs 1319)))) (ab_tn 1320 (ab_tl 1319 (ab_aload 0 1320)) (ab_tn 1322 (ab_tl 1320 (ab_iload 5 1322)) (ab_tl 1322 (ab_push (.int 2) 1323))))) (ab_tn 1326 (ab_tn 1324 (ab_tl 1323 (ab_bin (fun x y => x + y) 1324)) (ab_tn 1325 (ab_tl 1324 (ab_sld b Ls xs 1325)) (ab_tl 1325 (ab_aload 3 1326)))) (ab_tn 1329 (ab_tl 1326 (ab_callS 4 1 (wp_L_publish g) 2 12 603072 7207018 ab_NX 1329)) (ab_tn 1331 (ab_tl 1329 (ab_istore 6 1331)) (ab_tl 1331 (ab_aload 2 1332))))))) (ab_tn 1349 (ab_tn 1339 (ab_tn 1336 (ab_tn 1333 (ab_tl 1332 (ab_aload 0 1333)) (ab_tn 1335 (ab_tl 1333 (ab_iload 5 1335)) (ab_tl 1335 (ab_push (.int 1) 1336)))) (ab_tn 1337 (ab_tl 1336 (ab_bin (fun x y => x + y) 1337)) (ab_tn 1338 (ab_tl 1337 (ab_sld b Ls xs 1338)) (ab_tl 1338 (ab_aload 0 1339))))) (ab_tn 1343 (ab_tn 1341 (ab_tl 1339 (ab_iload 5 1341)) (ab_tn 1342 (ab_tl 1341 (ab_push (.int 2) 1342)) (ab_tl 1342 (ab_bin (fun x y => x + y) 1343)))) (ab_tn 1344 (ab_tl 1343 (ab_sld b Ls xs 1344)) (ab_tn 1347 (ab_tl 1344 (ab_callV 12 3 1 (wp_X9_publish g) 0 0 603072 7207018 ab_NX 1347)) (ab_tl 1347 (ab_istore 7 1349)))))) (ab_tn 1362 (ab_tn 1355 (ab_tn 1350 (ab_tl 1349 (ab_aload 2 1350)) (ab_tn 1353 (ab_tl 1350 (ab_callV 12 1 1 (wp_X9_thrown g) 0 0 603072 7207018 ab_NX 1353)) (ab_tl 1353 (ab_iload 6 1355)))) (ab_tn 1358 (ab_tl 1355 (ab_icmp (fun x y => x = y) 1360 1358)) (ab_tn 1360 (ab_tl 1358 (ab_push (.int 0) 1359)) (ab_tl 1360 (ab_iload 6 1362))))) (ab_tn 1367 (ab_tn 1365 (ab_tl 1362 (ab_if (fun x => x = 0) 1365 1377)) (ab_tn 1366 (ab_tl 1365 (ab_aload 3 1366)) (ab_tl 1366 (ab_push (.int 0) 1367)))) (ab_tn 1368 (ab_tl 1367 (ab_lald 1368)) (ab_tn 1370 (ab_tl 1368 (ab_iload 7 1370)) (ab_tl 1370 (ab_i2l 1371)))))))
set_option maxRecDepth 100000 in
set_option maxHeartbeats 4000000 in
theorem st_L_law15 {p : Program} {l : Launch} {e : Env} {s : State} {m : MethodId} {below : List Frame} {meth : Method} {c : Code} {D : va_G} {C : Nat → ClassId} {g : Nat → Nat} {A : Nat → Prop} {nm : String} {b Ls : Nat} {xs : Nat → Int32} (Cx : ab_Cx l D C g R_law nm code 9 ret ab_T p s m #[Value.ref b] meth c A) (hl : l.stackTraces = false) (hlk : meth.locks = false) (hA : ∀ q, A q → s.heap.size ≤ q) (hX : va_X b Ls xs s s.heap) (hbl : b < s.heap.size) (hbA : ¬ A b) : ∀ pc, ab_Sn (ab_W p l e room_1 s m #[Value.ref b] below meth c (lw_Z below #[Value.ref b] s) D C A 9) pc (tb_L_law15 b Ls xs g pc) :=
  ab_tn_ok (ab_tn_ok (ab_tn_ok (ab_tn_ok (ab_tn_ok (ab_tl_ok (sn_aload_n Cx dL_law_1297 rfl)) (ab_tn_ok (ab_tl_ok (sn_iconst Cx dL_law_1298 (by decide))) (ab_tl_ok (sn_lald Cx dL_law_1299)))) (ab_tn_ok (ab_tl_ok (sn_iload Cx dL_law_1300)) (ab_tn_ok (ab_tl_ok (sn_i2l Cx dL_law_1302)) (ab_tl_ok (sn_lcmp Cx dL_law_1303))))) (ab_tn_ok (ab_tn_ok (ab_tl_ok (sn_if_eq Cx dL_law_1304 (tgt := 1309) (by decide))) (ab_tn_ok (ab_tl_ok (sn_iconst Cx dL_law_1307 (by decide))) (ab_tl_ok (sn_goto Cx dL_law_1309 (tgt := 2029) (by decide))))) (ab_tn_ok (ab_tl_ok (sn_aload_n Cx dL_law_1312 rfl)) (ab_tn_ok (ab_tl_ok (sn_aload_n Cx dL_law_1313 rfl)) (ab_tl_ok (sn_iload Cx dL_law_1314)))))) (ab_tn_ok (ab_tn_ok (ab_tn_ok (ab_tl_ok (sn_iconst Cx dL_law_1316 (by decide))) (ab_tn_ok (ab_tl_ok (sn_iadd Cx dL_law_1317)) (ab_tl_ok (sn_sld Cx hX hbl hbA dL_law_1318)))) (ab_tn_ok (ab_tl_ok (sn_aload_n Cx dL_law_1319 rfl)) (ab_tn_ok (ab_tl_ok (sn_iload Cx dL_law_1320)) (ab_tl_ok (sn_iconst Cx dL_law_1322 (by decide)))))) (ab_tn_ok (ab_tn_ok (ab_tl_ok (sn_iadd Cx dL_law_1323)) (ab_tn_ok (ab_tl_ok (sn_sld Cx hX hbl hbA dL_law_1324)) (ab_tl_ok (sn_aload_n Cx dL_law_1325 rfl)))) (ab_tn_ok (ab_tl_ok (sn_callSG Cx (ct_L_publish hl) dL_law_1326 wd_5_34 wd_5_35 wd_1_0 wd_5_36 (hd := by decide +kernel) (by decide) rfl rfl)) (ab_tn_ok (ab_tl_ok (sn_istore Cx dL_law_1329 (by decide))) (ab_tl_ok (sn_aload_n Cx dL_law_1331 rfl))))))) (ab_tn_ok (ab_tn_ok (ab_tn_ok (ab_tn_ok (ab_tl_ok (sn_aload_n Cx dL_law_1332 rfl)) (ab_tn_ok (ab_tl_ok (sn_iload Cx dL_law_1333)) (ab_tl_ok (sn_iconst Cx dL_law_1335 (by decide))))) (ab_tn_ok (ab_tl_ok (sn_iadd Cx dL_law_1336)) (ab_tn_ok (ab_tl_ok (sn_sld Cx hX hbl hbA dL_law_1337)) (ab_tl_ok (sn_aload_n Cx dL_law_1338 rfl))))) (ab_tn_ok (ab_tn_ok (ab_tl_ok (sn_iload Cx dL_law_1339)) (ab_tn_ok (ab_tl_ok (sn_iconst Cx dL_law_1341 (by decide))) (ab_tl_ok (sn_iadd Cx dL_law_1342)))) (ab_tn_ok (ab_tl_ok (sn_sld Cx hX hbl hbA dL_law_1343)) (ab_tn_ok (ab_tl_ok (sn_callVG Cx (Cn := RX9) (T := TX9) (N := 36) rfl (ct_X9_publish hl) dL_law_1344 wd_7_75 wd_7_76 wd_1_5 wd_7_78 wd_7_77 (hd := by decide +kernel) (by decide) rfl rfl)) (ab_tl_ok (sn_istore Cx dL_law_1347 (by decide))))))) (ab_tn_ok (ab_tn_ok (ab_tn_ok (ab_tl_ok (sn_aload_n Cx dL_law_1349 rfl)) (ab_tn_ok (ab_tl_ok (sn_callVG Cx (Cn := RX9) (T := TX9) (N := 36) rfl (ct_X9_thrown hl) dL_law_1350 wd_6_60 wd_6_61 wd_1_5 wd_6_63 wd_6_62 (hd := by decide +kernel) (by decide) rfl rfl)) (ab_tl_ok (sn_iload Cx dL_law_1353)))) (ab_tn_ok (ab_tl_ok (sn_icmp_eq Cx dL_law_1355 (tgt := 1360) (by decide))) (ab_tn_ok (ab_tl_ok (sn_iconst Cx dL_law_1358 (by decide))) (ab_tl_ok (sn_iload Cx dL_law_1360))))) (ab_tn_ok (ab_tn_ok (ab_tl_ok (sn_if_ne Cx dL_law_1362 (tgt := 1377) (by decide))) (ab_tn_ok (ab_tl_ok (sn_aload_n Cx dL_law_1365 rfl)) (ab_tl_ok (sn_iconst Cx dL_law_1366 (by decide))))) (ab_tn_ok (ab_tl_ok (sn_lald Cx dL_law_1367)) (ab_tn_ok (ab_tl_ok (sn_iload Cx dL_law_1368)) (ab_tl_ok (sn_i2l Cx dL_law_1370)))))))
def tb_L_law16 (b Ls : Nat) (xs : Nat → Int32) (g : Nat → Nat) : Nat → ab_I := ab_tn 1411 (ab_tn 1391 (ab_tn 1382 (ab_tn 1377 (ab_tn 1372 (ab_tl 1371 (ab_lcmp 1372)) (ab_tn 1375 (ab_tl 1372 (ab_if (fun x => x = 0) 1377 1375)) (ab_tl 1375 (ab_push (.int 0) 1376)))) (ab_tn 1380 (ab_tl 1377 (ab_goto 2029)) (ab_tn 1381 (ab_tl 1380 (ab_aload 1 1381)) (ab_tl 1381 (ab_aload 0 1382))))) (ab_tn 1386 (ab_tn 1384 (ab_tl 1382 (ab_iload 5 1384)) (ab_tn 1385 (ab_tl 1384 (ab_push (.int 1) 1385)) (ab_tl 1385 (ab_bin (fun x y => x + y) 1386)))) (ab_tn 1387 (ab_tl 1386 (ab_sld b Ls xs 1387)) (ab_tn 1388 (ab_tl 1387 (ab_aload 3 1388)) (ab_tl 1388 (ab_callS 3 1 (wp_L_issueState g) 1 6 603072 7207018 ab_NX 1391)))))) (ab_tn 1399 (ab_tn 1395 (ab_tn 1393 (ab_tl 1391 (ab_istore 6 1393)) (ab_tn 1394 (ab_tl 1393 (ab_aload 2 1394)) (ab_tl 1394 (ab_aload 0 1395)))) (ab_tn 1397 (ab_tl 1395 (ab_iload 5 1397)) (ab_tn 1398 (ab_tl 1397 (ab_push (.int 1) 1398)) (ab_tl 1398 (ab_bin (fun x y => x + y) 1399))))) (ab_tn 1405 (ab_tn 1400 (ab_tl 1399 (ab_sld b Ls xs 1400)) (ab_tn 1403 (ab_tl 1400 (ab_callV 12 2 1 (wp_X9_issueState g) 0 0 603072 7207018 ab_NX 1403)) (ab_tl 1403 (ab_istore 7 1405)))) (ab_tn 1406 (ab_tl 1405 (ab_aload 2 1406)) (ab_tn 1409 (ab_tl 1406 (ab_callV 12 1 1 (wp_X9_thrown g) 0 0 603072 7207018 ab_NX 1409)) (ab_tl 1409 (ab_iload 6 1411))))))) (ab_tn 1433 (ab_tn 1423 (ab_tn 1418 (ab_tn 1414 (ab_tl 1411 (ab_icmp (fun x y => x = y) 1416 1414)) (ab_tn 1416 (ab_tl 1414 (ab_push (.int 0) 1415)) (ab_tl 1416 (ab_iload 6 1418)))) (ab_tn 1421 (ab_tl 1418 (ab_if (fun x => x = 0) 1421 1433)) (ab_tn 1422 (ab_tl 1421 (ab_aload 3 1422)) (ab_tl 1422 (ab_push (.int 0) 1423))))) (ab_tn 1427 (ab_tn 1424 (ab_tl 1423 (ab_lald 1424)) (ab_tn 1426 (ab_tl 1424 (ab_iload 7 1426)) (ab_tl 1426 (ab_i2l 1427)))) (ab_tn 1428 (ab_tl 1427 (ab_lcmp 1428)) (ab_tn 1431 (ab_tl 1428 (ab_if (fun x => x = 0) 1433 1431)) (ab_tl 1431 (ab_push (.int 0) 1432)))))) (ab_tn 1442 (ab_tn 1438 (ab_tn 1436 (ab_tl 1433 (ab_goto 2029)) (ab_tn 1437 (ab_tl 1436 (ab_aload 1 1437)) (ab_tl 1437 (ab_aload 0 1438)))) (ab_tn 1440 (ab_tl 1438 (ab_iload 5 1440)) (ab_tn 1441 (ab_tl 1440 (ab_push (.int 1) 1441)) (ab_tl 1441 (ab_bin (fun x y => x + y) 1442))))) (ab_tn 1447 (ab_tn 1443 (ab_tl 1442 (ab_sld b Ls xs 1443)) (ab_tn 1444 (ab_tl 1443 (ab_aload 3 1444)) (ab_tl 1444 (ab_callS 3 1 (wp_L_indexed g) 1 6 603072 7207018 ab_NX 1447)))) (ab_tn 1449 (ab_tl 1447 (ab_istore 6 1449)) (ab_tn 1450 (ab_tl 1449 (ab_aload 2 1450)) (ab_tl 1450 (ab_aload 0 1451)))))))
set_option maxRecDepth 100000 in
set_option maxHeartbeats 4000000 in
theorem st_L_law16 {p : Program} {l : Launch} {e : Env} {s : State} {m : MethodId} {below : List Frame} {meth : Method} {c : Code} {D : va_G} {C : Nat → ClassId} {g : Nat → Nat} {A : Nat → Prop} {nm : String} {b Ls : Nat} {xs : Nat → Int32} (Cx : ab_Cx l D C g R_law nm code 9 ret ab_T p s m #[Value.ref b] meth c A) (hl : l.stackTraces = false) (hlk : meth.locks = false) (hA : ∀ q, A q → s.heap.size ≤ q) (hX : va_X b Ls xs s s.heap) (hbl : b < s.heap.size) (hbA : ¬ A b) : ∀ pc, ab_Sn (ab_W p l e room_1 s m #[Value.ref b] below meth c (lw_Z below #[Value.ref b] s) D C A 9) pc (tb_L_law16 b Ls xs g pc) :=
  ab_tn_ok (ab_tn_ok (ab_tn_ok (ab_tn_ok (ab_tn_ok (ab_tl_ok (sn_lcmp Cx dL_law_1371)) (ab_tn_ok (ab_tl_ok (sn_if_eq Cx dL_law_1372 (tgt := 1377) (by decide))) (ab_tl_ok (sn_iconst Cx dL_law_1375 (by decide))))) (ab_tn_ok (ab_tl_ok (sn_goto Cx dL_law_1377 (tgt := 2029) (by decide))) (ab_tn_ok (ab_tl_ok (sn_aload_n Cx dL_law_1380 rfl)) (ab_tl_ok (sn_aload_n Cx dL_law_1381 rfl))))) (ab_tn_ok (ab_tn_ok (ab_tl_ok (sn_iload Cx dL_law_1382)) (ab_tn_ok (ab_tl_ok (sn_iconst Cx dL_law_1384 (by decide))) (ab_tl_ok (sn_iadd Cx dL_law_1385)))) (ab_tn_ok (ab_tl_ok (sn_sld Cx hX hbl hbA dL_law_1386)) (ab_tn_ok (ab_tl_ok (sn_aload_n Cx dL_law_1387 rfl)) (ab_tl_ok (sn_callSG Cx (ct_L_issueState hl) dL_law_1388 wd_5_55 wd_5_56 wd_1_0 wd_5_57 (hd := by decide +kernel) (by decide) rfl rfl)))))) (ab_tn_ok (ab_tn_ok (ab_tn_ok (ab_tl_ok (sn_istore Cx dL_law_1391 (by decide))) (ab_tn_ok (ab_tl_ok (sn_aload_n Cx dL_law_1393 rfl)) (ab_tl_ok (sn_aload_n Cx dL_law_1394 rfl)))) (ab_tn_ok (ab_tl_ok (sn_iload Cx dL_law_1395)) (ab_tn_ok (ab_tl_ok (sn_iconst Cx dL_law_1397 (by decide))) (ab_tl_ok (sn_iadd Cx dL_law_1398))))) (ab_tn_ok (ab_tn_ok (ab_tl_ok (sn_sld Cx hX hbl hbA dL_law_1399)) (ab_tn_ok (ab_tl_ok (sn_callVG Cx (Cn := RX9) (T := TX9) (N := 36) rfl (ct_X9_issueState hl) dL_law_1400 wd_7_83 wd_7_84 wd_1_5 wd_7_86 wd_7_85 (hd := by decide +kernel) (by decide) rfl rfl)) (ab_tl_ok (sn_istore Cx dL_law_1403 (by decide))))) (ab_tn_ok (ab_tl_ok (sn_aload_n Cx dL_law_1405 rfl)) (ab_tn_ok (ab_tl_ok (sn_callVG Cx (Cn := RX9) (T := TX9) (N := 36) rfl (ct_X9_thrown hl) dL_law_1406 wd_6_60 wd_6_61 wd_1_5 wd_6_63 wd_6_62 (hd := by decide +kernel) (by decide) rfl rfl)) (ab_tl_ok (sn_iload Cx dL_law_1409))))))) (ab_tn_ok (ab_tn_ok (ab_tn_ok (ab_tn_ok (ab_tl_ok (sn_icmp_eq Cx dL_law_1411 (tgt := 1416) (by decide))) (ab_tn_ok (ab_tl_ok (sn_iconst Cx dL_law_1414 (by decide))) (ab_tl_ok (sn_iload Cx dL_law_1416)))) (ab_tn_ok (ab_tl_ok (sn_if_ne Cx dL_law_1418 (tgt := 1433) (by decide))) (ab_tn_ok (ab_tl_ok (sn_aload_n Cx dL_law_1421 rfl)) (ab_tl_ok (sn_iconst Cx dL_law_1422 (by decide)))))) (ab_tn_ok (ab_tn_ok (ab_tl_ok (sn_lald Cx dL_law_1423)) (ab_tn_ok (ab_tl_ok (sn_iload Cx dL_law_1424)) (ab_tl_ok (sn_i2l Cx dL_law_1426)))) (ab_tn_ok (ab_tl_ok (sn_lcmp Cx dL_law_1427)) (ab_tn_ok (ab_tl_ok (sn_if_eq Cx dL_law_1428 (tgt := 1433) (by decide))) (ab_tl_ok (sn_iconst Cx dL_law_1431 (by decide))))))) (ab_tn_ok (ab_tn_ok (ab_tn_ok (ab_tl_ok (sn_goto Cx dL_law_1433 (tgt := 2029) (by decide))) (ab_tn_ok (ab_tl_ok (sn_aload_n Cx dL_law_1436 rfl)) (ab_tl_ok (sn_aload_n Cx dL_law_1437 rfl)))) (ab_tn_ok (ab_tl_ok (sn_iload Cx dL_law_1438)) (ab_tn_ok (ab_tl_ok (sn_iconst Cx dL_law_1440 (by decide))) (ab_tl_ok (sn_iadd Cx dL_law_1441))))) (ab_tn_ok (ab_tn_ok (ab_tl_ok (sn_sld Cx hX hbl hbA dL_law_1442)) (ab_tn_ok (ab_tl_ok (sn_aload_n Cx dL_law_1443 rfl)) (ab_tl_ok (sn_callSG Cx (ct_L_indexed hl) dL_law_1444 wd_5_62 wd_5_63 wd_1_0 wd_5_64 (hd := by decide +kernel) (by decide) rfl rfl)))) (ab_tn_ok (ab_tl_ok (sn_istore Cx dL_law_1447 (by decide))) (ab_tn_ok (ab_tl_ok (sn_aload_n Cx dL_law_1449 rfl)) (ab_tl_ok (sn_aload_n Cx dL_law_1450 rfl)))))))
def tb_L_law17 (b Ls : Nat) (xs : Nat → Int32) (g : Nat → Nat) : Nat → ab_I := ab_tn 1494 (ab_tn 1474 (ab_tn 1461 (ab_tn 1455 (ab_tn 1453 (ab_tl 1451 (ab_iload 5 1453)) (ab_tn 1454 (ab_tl 1453 (ab_push (.int 1) 1454)) (ab_tl 1454 (ab_bin (fun x y => x + y) 1455)))) (ab_tn 1456 (ab_tl 1455 (ab_sld b Ls xs 1456)) (ab_tn 1459 (ab_tl 1456 (ab_callV 12 2 1 (wp_X9_indexed g) 0 0 603072 7207018 ab_NX 1459)) (ab_tl 1459 (ab_istore 7 1461))))) (ab_tn 1467 (ab_tn 1462 (ab_tl 1461 (ab_aload 2 1462)) (ab_tn 1465 (ab_tl 1462 (ab_callV 12 1 1 (wp_X9_thrown g) 0 0 603072 7207018 ab_NX 1465)) (ab_tl 1465 (ab_iload 6 1467)))) (ab_tn 1470 (ab_tl 1467 (ab_icmp (fun x y => x = y) 1472 1470)) (ab_tn 1472 (ab_tl 1470 (ab_push (.int 0) 1471)) (ab_tl 1472 (ab_iload 6 1474)))))) (ab_tn 1483 (ab_tn 1479 (ab_tn 1477 (ab_tl 1474 (ab_if (fun x => x = 0) 1477 1489)) (ab_tn 1478 (ab_tl 1477 (ab_aload 3 1478)) (ab_tl 1478 (ab_push (.int 0) 1479)))) (ab_tn 1480 (ab_tl 1479 (ab_lald 1480)) (ab_tn 1482 (ab_tl 1480 (ab_iload 7 1482)) (ab_tl 1482 (ab_i2l 1483))))) (ab_tn 1489 (ab_tn 1484 (ab_tl 1483 (ab_lcmp 1484)) (ab_tn 1487 (ab_tl 1484 (ab_if (fun x => x = 0) 1489 1487)) (ab_tl 1487 (ab_push (.int 0) 1488)))) (ab_tn 1492 (ab_tl 1489 (ab_goto 2029)) (ab_tn 1493 (ab_tl 1492 (ab_aload 1 1493)) (ab_tl 1493 (ab_aload 3 1494))))))) (ab_tn 1521 (ab_tn 1506 (ab_tn 1500 (ab_tn 1497 (ab_tl 1494 (ab_callS 2 1 (wp_L_customer g) 5 101 603072 7207018 ab_NX 1497)) (ab_tn 1499 (ab_tl 1497 (ab_istore 6 1499)) (ab_tl 1499 (ab_aload 2 1500)))) (ab_tn 1503 (ab_tl 1500 (ab_callV 12 1 1 (wp_X9_customer g) 0 0 603072 7207018 ab_NX 1503)) (ab_tn 1505 (ab_tl 1503 (ab_istore 7 1505)) (ab_tl 1505 (ab_aload 2 1506))))) (ab_tn 1514 (ab_tn 1509 (ab_tl 1506 (ab_callV 12 1 1 (wp_X9_thrown g) 0 0 603072 7207018 ab_NX 1509)) (ab_tn 1511 (ab_tl 1509 (ab_iload 6 1511)) (ab_tl 1511 (ab_icmp (fun x y => x = y) 1516 1514)))) (ab_tn 1516 (ab_tl 1514 (ab_push (.int 0) 1515)) (ab_tn 1518 (ab_tl 1516 (ab_iload 6 1518)) (ab_tl 1518 (ab_if (fun x => x = 0) 1521 1533)))))) (ab_tn 1528 (ab_tn 1524 (ab_tn 1522 (ab_tl 1521 (ab_aload 3 1522)) (ab_tn 1523 (ab_tl 1522 (ab_push (.int 0) 1523)) (ab_tl 1523 (ab_lald 1524)))) (ab_tn 1526 (ab_tl 1524 (ab_iload 7 1526)) (ab_tn 1527 (ab_tl 1526 (ab_i2l 1527)) (ab_tl 1527 (ab_lcmp 1528))))) (ab_tn 1536 (ab_tn 1531 (ab_tl 1528 (ab_if (fun x => x = 0) 1533 1531)) (ab_tn 1533 (ab_tl 1531 (ab_push (.int 0) 1532)) (ab_tl 1533 (ab_goto 2029)))) (ab_tn 1537 (ab_tl 1536 (ab_aload 1 1537)) (ab_tn 1538 (ab_tl 1537 (ab_aload 0 1538)) (ab_tl 1538 (ab_iload 5 1540)))))))
set_option maxRecDepth 100000 in
set_option maxHeartbeats 4000000 in
theorem st_L_law17 {p : Program} {l : Launch} {e : Env} {s : State} {m : MethodId} {below : List Frame} {meth : Method} {c : Code} {D : va_G} {C : Nat → ClassId} {g : Nat → Nat} {A : Nat → Prop} {nm : String} {b Ls : Nat} {xs : Nat → Int32} (Cx : ab_Cx l D C g R_law nm code 9 ret ab_T p s m #[Value.ref b] meth c A) (hl : l.stackTraces = false) (hlk : meth.locks = false) (hA : ∀ q, A q → s.heap.size ≤ q) (hX : va_X b Ls xs s s.heap) (hbl : b < s.heap.size) (hbA : ¬ A b) : ∀ pc, ab_Sn (ab_W p l e room_1 s m #[Value.ref b] below meth c (lw_Z below #[Value.ref b] s) D C A 9) pc (tb_L_law17 b Ls xs g pc) :=
  ab_tn_ok (ab_tn_ok (ab_tn_ok (ab_tn_ok (ab_tn_ok (ab_tl_ok (sn_iload Cx dL_law_1451)) (ab_tn_ok (ab_tl_ok (sn_iconst Cx dL_law_1453 (by decide))) (ab_tl_ok (sn_iadd Cx dL_law_1454)))) (ab_tn_ok (ab_tl_ok (sn_sld Cx hX hbl hbA dL_law_1455)) (ab_tn_ok (ab_tl_ok (sn_callVG Cx (Cn := RX9) (T := TX9) (N := 36) rfl (ct_X9_indexed hl) dL_law_1456 wd_7_87 wd_7_88 wd_1_5 wd_7_90 wd_7_89 (hd := by decide +kernel) (by decide) rfl rfl)) (ab_tl_ok (sn_istore Cx dL_law_1459 (by decide)))))) (ab_tn_ok (ab_tn_ok (ab_tl_ok (sn_aload_n Cx dL_law_1461 rfl)) (ab_tn_ok (ab_tl_ok (sn_callVG Cx (Cn := RX9) (T := TX9) (N := 36) rfl (ct_X9_thrown hl) dL_law_1462 wd_6_60 wd_6_61 wd_1_5 wd_6_63 wd_6_62 (hd := by decide +kernel) (by decide) rfl rfl)) (ab_tl_ok (sn_iload Cx dL_law_1465)))) (ab_tn_ok (ab_tl_ok (sn_icmp_eq Cx dL_law_1467 (tgt := 1472) (by decide))) (ab_tn_ok (ab_tl_ok (sn_iconst Cx dL_law_1470 (by decide))) (ab_tl_ok (sn_iload Cx dL_law_1472)))))) (ab_tn_ok (ab_tn_ok (ab_tn_ok (ab_tl_ok (sn_if_ne Cx dL_law_1474 (tgt := 1489) (by decide))) (ab_tn_ok (ab_tl_ok (sn_aload_n Cx dL_law_1477 rfl)) (ab_tl_ok (sn_iconst Cx dL_law_1478 (by decide))))) (ab_tn_ok (ab_tl_ok (sn_lald Cx dL_law_1479)) (ab_tn_ok (ab_tl_ok (sn_iload Cx dL_law_1480)) (ab_tl_ok (sn_i2l Cx dL_law_1482))))) (ab_tn_ok (ab_tn_ok (ab_tl_ok (sn_lcmp Cx dL_law_1483)) (ab_tn_ok (ab_tl_ok (sn_if_eq Cx dL_law_1484 (tgt := 1489) (by decide))) (ab_tl_ok (sn_iconst Cx dL_law_1487 (by decide))))) (ab_tn_ok (ab_tl_ok (sn_goto Cx dL_law_1489 (tgt := 2029) (by decide))) (ab_tn_ok (ab_tl_ok (sn_aload_n Cx dL_law_1492 rfl)) (ab_tl_ok (sn_aload_n Cx dL_law_1493 rfl))))))) (ab_tn_ok (ab_tn_ok (ab_tn_ok (ab_tn_ok (ab_tl_ok (sn_callSG Cx (ct_L_customer hl) dL_law_1494 wd_5_69 wd_5_70 wd_1_0 wd_5_71 (hd := by decide +kernel) (by decide) rfl rfl)) (ab_tn_ok (ab_tl_ok (sn_istore Cx dL_law_1497 (by decide))) (ab_tl_ok (sn_aload_n Cx dL_law_1499 rfl)))) (ab_tn_ok (ab_tl_ok (sn_callVG Cx (Cn := RX9) (T := TX9) (N := 36) rfl (ct_X9_customer hl) dL_law_1500 wd_7_91 wd_7_92 wd_1_5 wd_7_94 wd_7_93 (hd := by decide +kernel) (by decide) rfl rfl)) (ab_tn_ok (ab_tl_ok (sn_istore Cx dL_law_1503 (by decide))) (ab_tl_ok (sn_aload_n Cx dL_law_1505 rfl))))) (ab_tn_ok (ab_tn_ok (ab_tl_ok (sn_callVG Cx (Cn := RX9) (T := TX9) (N := 36) rfl (ct_X9_thrown hl) dL_law_1506 wd_6_60 wd_6_61 wd_1_5 wd_6_63 wd_6_62 (hd := by decide +kernel) (by decide) rfl rfl)) (ab_tn_ok (ab_tl_ok (sn_iload Cx dL_law_1509)) (ab_tl_ok (sn_icmp_eq Cx dL_law_1511 (tgt := 1516) (by decide))))) (ab_tn_ok (ab_tl_ok (sn_iconst Cx dL_law_1514 (by decide))) (ab_tn_ok (ab_tl_ok (sn_iload Cx dL_law_1516)) (ab_tl_ok (sn_if_ne Cx dL_law_1518 (tgt := 1533) (by decide))))))) (ab_tn_ok (ab_tn_ok (ab_tn_ok (ab_tl_ok (sn_aload_n Cx dL_law_1521 rfl)) (ab_tn_ok (ab_tl_ok (sn_iconst Cx dL_law_1522 (by decide))) (ab_tl_ok (sn_lald Cx dL_law_1523)))) (ab_tn_ok (ab_tl_ok (sn_iload Cx dL_law_1524)) (ab_tn_ok (ab_tl_ok (sn_i2l Cx dL_law_1526)) (ab_tl_ok (sn_lcmp Cx dL_law_1527))))) (ab_tn_ok (ab_tn_ok (ab_tl_ok (sn_if_eq Cx dL_law_1528 (tgt := 1533) (by decide))) (ab_tn_ok (ab_tl_ok (sn_iconst Cx dL_law_1531 (by decide))) (ab_tl_ok (sn_goto Cx dL_law_1533 (tgt := 2029) (by decide))))) (ab_tn_ok (ab_tl_ok (sn_aload_n Cx dL_law_1536 rfl)) (ab_tn_ok (ab_tl_ok (sn_aload_n Cx dL_law_1537 rfl)) (ab_tl_ok (sn_iload Cx dL_law_1538)))))))
def tb_L_law18 (b Ls : Nat) (xs : Nat → Int32) (g : Nat → Nat) : Nat → ab_I := ab_tn 1573 (ab_tn 1556 (ab_tn 1547 (ab_tn 1543 (ab_tn 1541 (ab_tl 1540 (ab_push (.int 1) 1541)) (ab_tn 1542 (ab_tl 1541 (ab_bin (fun x y => x + y) 1542)) (ab_tl 1542 (ab_sld b Ls xs 1543)))) (ab_tn 1544 (ab_tl 1543 (ab_aload 0 1544)) (ab_tn 1546 (ab_tl 1544 (ab_iload 5 1546)) (ab_tl 1546 (ab_push (.int 2) 1547))))) (ab_tn 1550 (ab_tn 1548 (ab_tl 1547 (ab_bin (fun x y => x + y) 1548)) (ab_tn 1549 (ab_tl 1548 (ab_sld b Ls xs 1549)) (ab_tl 1549 (ab_aload 3 1550)))) (ab_tn 1553 (ab_tl 1550 (ab_callS 4 1 (wp_L_deposit g) 2 12 603072 7207018 ab_NX 1553)) (ab_tn 1555 (ab_tl 1553 (ab_istore 6 1555)) (ab_tl 1555 (ab_aload 2 1556)))))) (ab_tn 1563 (ab_tn 1560 (ab_tn 1557 (ab_tl 1556 (ab_aload 0 1557)) (ab_tn 1559 (ab_tl 1557 (ab_iload 5 1559)) (ab_tl 1559 (ab_push (.int 1) 1560)))) (ab_tn 1561 (ab_tl 1560 (ab_bin (fun x y => x + y) 1561)) (ab_tn 1562 (ab_tl 1561 (ab_sld b Ls xs 1562)) (ab_tl 1562 (ab_aload 0 1563))))) (ab_tn 1567 (ab_tn 1565 (ab_tl 1563 (ab_iload 5 1565)) (ab_tn 1566 (ab_tl 1565 (ab_push (.int 2) 1566)) (ab_tl 1566 (ab_bin (fun x y => x + y) 1567)))) (ab_tn 1568 (ab_tl 1567 (ab_sld b Ls xs 1568)) (ab_tn 1571 (ab_tl 1568 (ab_callV 12 3 1 (wp_X9_deposit g) 0 0 603072 7207018 ab_NX 1571)) (ab_tl 1571 (ab_istore 7 1573))))))) (ab_tn 1595 (ab_tn 1586 (ab_tn 1579 (ab_tn 1574 (ab_tl 1573 (ab_aload 2 1574)) (ab_tn 1577 (ab_tl 1574 (ab_callV 12 1 1 (wp_X9_thrown g) 0 0 603072 7207018 ab_NX 1577)) (ab_tl 1577 (ab_iload 6 1579)))) (ab_tn 1582 (ab_tl 1579 (ab_icmp (fun x y => x = y) 1584 1582)) (ab_tn 1584 (ab_tl 1582 (ab_push (.int 0) 1583)) (ab_tl 1584 (ab_iload 6 1586))))) (ab_tn 1591 (ab_tn 1589 (ab_tl 1586 (ab_if (fun x => x = 0) 1589 1601)) (ab_tn 1590 (ab_tl 1589 (ab_aload 3 1590)) (ab_tl 1590 (ab_push (.int 0) 1591)))) (ab_tn 1592 (ab_tl 1591 (ab_lald 1592)) (ab_tn 1594 (ab_tl 1592 (ab_iload 7 1594)) (ab_tl 1594 (ab_i2l 1595)))))) (ab_tn 1606 (ab_tn 1601 (ab_tn 1596 (ab_tl 1595 (ab_lcmp 1596)) (ab_tn 1599 (ab_tl 1596 (ab_if (fun x => x = 0) 1601 1599)) (ab_tl 1599 (ab_push (.int 0) 1600)))) (ab_tn 1604 (ab_tl 1601 (ab_goto 2029)) (ab_tn 1605 (ab_tl 1604 (ab_aload 1 1605)) (ab_tl 1605 (ab_aload 0 1606))))) (ab_tn 1610 (ab_tn 1608 (ab_tl 1606 (ab_iload 5 1608)) (ab_tn 1609 (ab_tl 1608 (ab_push (.int 1) 1609)) (ab_tl 1609 (ab_bin (fun x y => x + y) 1610)))) (ab_tn 1611 (ab_tl 1610 (ab_sld b Ls xs 1611)) (ab_tn 1612 (ab_tl 1611 (ab_aload 0 1612)) (ab_tl 1612 (ab_iload 5 1614)))))))
set_option maxRecDepth 100000 in
set_option maxHeartbeats 4000000 in
theorem st_L_law18 {p : Program} {l : Launch} {e : Env} {s : State} {m : MethodId} {below : List Frame} {meth : Method} {c : Code} {D : va_G} {C : Nat → ClassId} {g : Nat → Nat} {A : Nat → Prop} {nm : String} {b Ls : Nat} {xs : Nat → Int32} (Cx : ab_Cx l D C g R_law nm code 9 ret ab_T p s m #[Value.ref b] meth c A) (hl : l.stackTraces = false) (hlk : meth.locks = false) (hA : ∀ q, A q → s.heap.size ≤ q) (hX : va_X b Ls xs s s.heap) (hbl : b < s.heap.size) (hbA : ¬ A b) : ∀ pc, ab_Sn (ab_W p l e room_1 s m #[Value.ref b] below meth c (lw_Z below #[Value.ref b] s) D C A 9) pc (tb_L_law18 b Ls xs g pc) :=
  ab_tn_ok (ab_tn_ok (ab_tn_ok (ab_tn_ok (ab_tn_ok (ab_tl_ok (sn_iconst Cx dL_law_1540 (by decide))) (ab_tn_ok (ab_tl_ok (sn_iadd Cx dL_law_1541)) (ab_tl_ok (sn_sld Cx hX hbl hbA dL_law_1542)))) (ab_tn_ok (ab_tl_ok (sn_aload_n Cx dL_law_1543 rfl)) (ab_tn_ok (ab_tl_ok (sn_iload Cx dL_law_1544)) (ab_tl_ok (sn_iconst Cx dL_law_1546 (by decide)))))) (ab_tn_ok (ab_tn_ok (ab_tl_ok (sn_iadd Cx dL_law_1547)) (ab_tn_ok (ab_tl_ok (sn_sld Cx hX hbl hbA dL_law_1548)) (ab_tl_ok (sn_aload_n Cx dL_law_1549 rfl)))) (ab_tn_ok (ab_tl_ok (sn_callSG Cx (ct_L_deposit hl) dL_law_1550 wd_5_95 wd_5_96 wd_1_0 wd_5_97 (hd := by decide +kernel) (by decide) rfl rfl)) (ab_tn_ok (ab_tl_ok (sn_istore Cx dL_law_1553 (by decide))) (ab_tl_ok (sn_aload_n Cx dL_law_1555 rfl)))))) (ab_tn_ok (ab_tn_ok (ab_tn_ok (ab_tl_ok (sn_aload_n Cx dL_law_1556 rfl)) (ab_tn_ok (ab_tl_ok (sn_iload Cx dL_law_1557)) (ab_tl_ok (sn_iconst Cx dL_law_1559 (by decide))))) (ab_tn_ok (ab_tl_ok (sn_iadd Cx dL_law_1560)) (ab_tn_ok (ab_tl_ok (sn_sld Cx hX hbl hbA dL_law_1561)) (ab_tl_ok (sn_aload_n Cx dL_law_1562 rfl))))) (ab_tn_ok (ab_tn_ok (ab_tl_ok (sn_iload Cx dL_law_1563)) (ab_tn_ok (ab_tl_ok (sn_iconst Cx dL_law_1565 (by decide))) (ab_tl_ok (sn_iadd Cx dL_law_1566)))) (ab_tn_ok (ab_tl_ok (sn_sld Cx hX hbl hbA dL_law_1567)) (ab_tn_ok (ab_tl_ok (sn_callVG Cx (Cn := RX9) (T := TX9) (N := 36) rfl (ct_X9_deposit hl) dL_law_1568 wd_7_95 wd_7_96 wd_1_5 wd_7_98 wd_7_97 (hd := by decide +kernel) (by decide) rfl rfl)) (ab_tl_ok (sn_istore Cx dL_law_1571 (by decide)))))))) (ab_tn_ok (ab_tn_ok (ab_tn_ok (ab_tn_ok (ab_tl_ok (sn_aload_n Cx dL_law_1573 rfl)) (ab_tn_ok (ab_tl_ok (sn_callVG Cx (Cn := RX9) (T := TX9) (N := 36) rfl (ct_X9_thrown hl) dL_law_1574 wd_6_60 wd_6_61 wd_1_5 wd_6_63 wd_6_62 (hd := by decide +kernel) (by decide) rfl rfl)) (ab_tl_ok (sn_iload Cx dL_law_1577)))) (ab_tn_ok (ab_tl_ok (sn_icmp_eq Cx dL_law_1579 (tgt := 1584) (by decide))) (ab_tn_ok (ab_tl_ok (sn_iconst Cx dL_law_1582 (by decide))) (ab_tl_ok (sn_iload Cx dL_law_1584))))) (ab_tn_ok (ab_tn_ok (ab_tl_ok (sn_if_ne Cx dL_law_1586 (tgt := 1601) (by decide))) (ab_tn_ok (ab_tl_ok (sn_aload_n Cx dL_law_1589 rfl)) (ab_tl_ok (sn_iconst Cx dL_law_1590 (by decide))))) (ab_tn_ok (ab_tl_ok (sn_lald Cx dL_law_1591)) (ab_tn_ok (ab_tl_ok (sn_iload Cx dL_law_1592)) (ab_tl_ok (sn_i2l Cx dL_law_1594)))))) (ab_tn_ok (ab_tn_ok (ab_tn_ok (ab_tl_ok (sn_lcmp Cx dL_law_1595)) (ab_tn_ok (ab_tl_ok (sn_if_eq Cx dL_law_1596 (tgt := 1601) (by decide))) (ab_tl_ok (sn_iconst Cx dL_law_1599 (by decide))))) (ab_tn_ok (ab_tl_ok (sn_goto Cx dL_law_1601 (tgt := 2029) (by decide))) (ab_tn_ok (ab_tl_ok (sn_aload_n Cx dL_law_1604 rfl)) (ab_tl_ok (sn_aload_n Cx dL_law_1605 rfl))))) (ab_tn_ok (ab_tn_ok (ab_tl_ok (sn_iload Cx dL_law_1606)) (ab_tn_ok (ab_tl_ok (sn_iconst Cx dL_law_1608 (by decide))) (ab_tl_ok (sn_iadd Cx dL_law_1609)))) (ab_tn_ok (ab_tl_ok (sn_sld Cx hX hbl hbA dL_law_1610)) (ab_tn_ok (ab_tl_ok (sn_aload_n Cx dL_law_1611 rfl)) (ab_tl_ok (sn_iload Cx dL_law_1612)))))))
def tb_L_law19 (b Ls : Nat) (xs : Nat → Int32) (g : Nat → Nat) : Nat → ab_I := ab_tn 1652 (ab_tn 1630 (ab_tn 1623 (ab_tn 1617 (ab_tn 1615 (ab_tl 1614 (ab_push (.int 2) 1615)) (ab_tn 1616 (ab_tl 1615 (ab_bin (fun x y => x + y) 1616)) (ab_tl 1616 (ab_sld b Ls xs 1617)))) (ab_tn 1618 (ab_tl 1617 (ab_aload 3 1618)) (ab_tn 1621 (ab_tl 1618 (ab_callS 4 1 (wp_L_subscribe g) 2 12 603072 7207018 ab_NX 1621)) (ab_tl 1621 (ab_istore 6 1623))))) (ab_tn 1627 (ab_tn 1624 (ab_tl 1623 (ab_aload 2 1624)) (ab_tn 1625 (ab_tl 1624 (ab_aload 0 1625)) (ab_tl 1625 (ab_iload 5 1627)))) (ab_tn 1628 (ab_tl 1627 (ab_push (.int 1) 1628)) (ab_tn 1629 (ab_tl 1628 (ab_bin (fun x y => x + y) 1629)) (ab_tl 1629 (ab_sld b Ls xs 1630)))))) (ab_tn 1639 (ab_tn 1634 (ab_tn 1631 (ab_tl 1630 (ab_aload 0 1631)) (ab_tn 1633 (ab_tl 1631 (ab_iload 5 1633)) (ab_tl 1633 (ab_push (.int 2) 1634)))) (ab_tn 1635 (ab_tl 1634 (ab_bin (fun x y => x + y) 1635)) (ab_tn 1636 (ab_tl 1635 (ab_sld b Ls xs 1636)) (ab_tl 1636 (ab_callV 12 3 1 (wp_X9_subscribe g) 0 0 603072 7207018 ab_NX 1639))))) (ab_tn 1645 (ab_tn 1641 (ab_tl 1639 (ab_istore 7 1641)) (ab_tn 1642 (ab_tl 1641 (ab_aload 2 1642)) (ab_tl 1642 (ab_callV 12 1 1 (wp_X9_thrown g) 0 0 603072 7207018 ab_NX 1645)))) (ab_tn 1647 (ab_tl 1645 (ab_iload 6 1647)) (ab_tn 1650 (ab_tl 1647 (ab_icmp (fun x y => x = y) 1652 1650)) (ab_tl 1650 (ab_push (.int 0) 1651))))))) (ab_tn 1673 (ab_tn 1662 (ab_tn 1658 (ab_tn 1654 (ab_tl 1652 (ab_iload 6 1654)) (ab_tn 1657 (ab_tl 1654 (ab_if (fun x => x = 0) 1657 1669)) (ab_tl 1657 (ab_aload 3 1658)))) (ab_tn 1659 (ab_tl 1658 (ab_push (.int 0) 1659)) (ab_tn 1660 (ab_tl 1659 (ab_lald 1660)) (ab_tl 1660 (ab_iload 7 1662))))) (ab_tn 1667 (ab_tn 1663 (ab_tl 1662 (ab_i2l 1663)) (ab_tn 1664 (ab_tl 1663 (ab_lcmp 1664)) (ab_tl 1664 (ab_if (fun x => x = 0) 1669 1667)))) (ab_tn 1669 (ab_tl 1667 (ab_push (.int 0) 1668)) (ab_tn 1672 (ab_tl 1669 (ab_goto 2029)) (ab_tl 1672 (ab_aload 1 1673)))))) (ab_tn 1680 (ab_tn 1677 (ab_tn 1674 (ab_tl 1673 (ab_aload 0 1674)) (ab_tn 1676 (ab_tl 1674 (ab_iload 5 1676)) (ab_tl 1676 (ab_push (.int 1) 1677)))) (ab_tn 1678 (ab_tl 1677 (ab_bin (fun x y => x + y) 1678)) (ab_tn 1679 (ab_tl 1678 (ab_sld b Ls xs 1679)) (ab_tl 1679 (ab_aload 0 1680))))) (ab_tn 1684 (ab_tn 1682 (ab_tl 1680 (ab_iload 5 1682)) (ab_tn 1683 (ab_tl 1682 (ab_push (.int 2) 1683)) (ab_tl 1683 (ab_bin (fun x y => x + y) 1684)))) (ab_tn 1685 (ab_tl 1684 (ab_sld b Ls xs 1685)) (ab_tn 1686 (ab_tl 1685 (ab_aload 3 1686)) (ab_tl 1686 (ab_callS 4 1 (wp_L_buy g) 3 18 603072 7207018 ab_NX 1689)))))))
set_option maxRecDepth 100000 in
set_option maxHeartbeats 4000000 in
theorem st_L_law19 {p : Program} {l : Launch} {e : Env} {s : State} {m : MethodId} {below : List Frame} {meth : Method} {c : Code} {D : va_G} {C : Nat → ClassId} {g : Nat → Nat} {A : Nat → Prop} {nm : String} {b Ls : Nat} {xs : Nat → Int32} (Cx : ab_Cx l D C g R_law nm code 9 ret ab_T p s m #[Value.ref b] meth c A) (hl : l.stackTraces = false) (hlk : meth.locks = false) (hA : ∀ q, A q → s.heap.size ≤ q) (hX : va_X b Ls xs s s.heap) (hbl : b < s.heap.size) (hbA : ¬ A b) : ∀ pc, ab_Sn (ab_W p l e room_1 s m #[Value.ref b] below meth c (lw_Z below #[Value.ref b] s) D C A 9) pc (tb_L_law19 b Ls xs g pc) :=
  ab_tn_ok (ab_tn_ok (ab_tn_ok (ab_tn_ok (ab_tn_ok (ab_tl_ok (sn_iconst Cx dL_law_1614 (by decide))) (ab_tn_ok (ab_tl_ok (sn_iadd Cx dL_law_1615)) (ab_tl_ok (sn_sld Cx hX hbl hbA dL_law_1616)))) (ab_tn_ok (ab_tl_ok (sn_aload_n Cx dL_law_1617 rfl)) (ab_tn_ok (ab_tl_ok (sn_callSG Cx (ct_L_subscribe hl) dL_law_1618 wd_5_126 wd_5_127 wd_1_0 wd_5_128 (hd := by decide +kernel) (by decide) rfl rfl)) (ab_tl_ok (sn_istore Cx dL_law_1621 (by decide)))))) (ab_tn_ok (ab_tn_ok (ab_tl_ok (sn_aload_n Cx dL_law_1623 rfl)) (ab_tn_ok (ab_tl_ok (sn_aload_n Cx dL_law_1624 rfl)) (ab_tl_ok (sn_iload Cx dL_law_1625)))) (ab_tn_ok (ab_tl_ok (sn_iconst Cx dL_law_1627 (by decide))) (ab_tn_ok (ab_tl_ok (sn_iadd Cx dL_law_1628)) (ab_tl_ok (sn_sld Cx hX hbl hbA dL_law_1629)))))) (ab_tn_ok (ab_tn_ok (ab_tn_ok (ab_tl_ok (sn_aload_n Cx dL_law_1630 rfl)) (ab_tn_ok (ab_tl_ok (sn_iload Cx dL_law_1631)) (ab_tl_ok (sn_iconst Cx dL_law_1633 (by decide))))) (ab_tn_ok (ab_tl_ok (sn_iadd Cx dL_law_1634)) (ab_tn_ok (ab_tl_ok (sn_sld Cx hX hbl hbA dL_law_1635)) (ab_tl_ok (sn_callVG Cx (Cn := RX9) (T := TX9) (N := 36) rfl (ct_X9_subscribe hl) dL_law_1636 wd_7_104 wd_7_105 wd_1_5 wd_7_107 wd_7_106 (hd := by decide +kernel) (by decide) rfl rfl))))) (ab_tn_ok (ab_tn_ok (ab_tl_ok (sn_istore Cx dL_law_1639 (by decide))) (ab_tn_ok (ab_tl_ok (sn_aload_n Cx dL_law_1641 rfl)) (ab_tl_ok (sn_callVG Cx (Cn := RX9) (T := TX9) (N := 36) rfl (ct_X9_thrown hl) dL_law_1642 wd_6_60 wd_6_61 wd_1_5 wd_6_63 wd_6_62 (hd := by decide +kernel) (by decide) rfl rfl)))) (ab_tn_ok (ab_tl_ok (sn_iload Cx dL_law_1645)) (ab_tn_ok (ab_tl_ok (sn_icmp_eq Cx dL_law_1647 (tgt := 1652) (by decide))) (ab_tl_ok (sn_iconst Cx dL_law_1650 (by decide)))))))) (ab_tn_ok (ab_tn_ok (ab_tn_ok (ab_tn_ok (ab_tl_ok (sn_iload Cx dL_law_1652)) (ab_tn_ok (ab_tl_ok (sn_if_ne Cx dL_law_1654 (tgt := 1669) (by decide))) (ab_tl_ok (sn_aload_n Cx dL_law_1657 rfl)))) (ab_tn_ok (ab_tl_ok (sn_iconst Cx dL_law_1658 (by decide))) (ab_tn_ok (ab_tl_ok (sn_lald Cx dL_law_1659)) (ab_tl_ok (sn_iload Cx dL_law_1660))))) (ab_tn_ok (ab_tn_ok (ab_tl_ok (sn_i2l Cx dL_law_1662)) (ab_tn_ok (ab_tl_ok (sn_lcmp Cx dL_law_1663)) (ab_tl_ok (sn_if_eq Cx dL_law_1664 (tgt := 1669) (by decide))))) (ab_tn_ok (ab_tl_ok (sn_iconst Cx dL_law_1667 (by decide))) (ab_tn_ok (ab_tl_ok (sn_goto Cx dL_law_1669 (tgt := 2029) (by decide))) (ab_tl_ok (sn_aload_n Cx dL_law_1672 rfl)))))) (ab_tn_ok (ab_tn_ok (ab_tn_ok (ab_tl_ok (sn_aload_n Cx dL_law_1673 rfl)) (ab_tn_ok (ab_tl_ok (sn_iload Cx dL_law_1674)) (ab_tl_ok (sn_iconst Cx dL_law_1676 (by decide))))) (ab_tn_ok (ab_tl_ok (sn_iadd Cx dL_law_1677)) (ab_tn_ok (ab_tl_ok (sn_sld Cx hX hbl hbA dL_law_1678)) (ab_tl_ok (sn_aload_n Cx dL_law_1679 rfl))))) (ab_tn_ok (ab_tn_ok (ab_tl_ok (sn_iload Cx dL_law_1680)) (ab_tn_ok (ab_tl_ok (sn_iconst Cx dL_law_1682 (by decide))) (ab_tl_ok (sn_iadd Cx dL_law_1683)))) (ab_tn_ok (ab_tl_ok (sn_sld Cx hX hbl hbA dL_law_1684)) (ab_tn_ok (ab_tl_ok (sn_aload_n Cx dL_law_1685 rfl)) (ab_tl_ok (sn_callSG Cx (ct_L_buy hl) dL_law_1686 wd_5_134 wd_5_135 wd_1_0 wd_5_136 (hd := by decide +kernel) (by decide) rfl rfl)))))))
def tb_L_law20 (b Ls : Nat) (xs : Nat → Int32) (g : Nat → Nat) : Nat → ab_I := ab_tn 1728 (ab_tn 1704 (ab_tn 1697 (ab_tn 1693 (ab_tn 1691 (ab_tl 1689 (ab_istore 6 1691)) (ab_tn 1692 (ab_tl 1691 (ab_aload 2 1692)) (ab_tl 1692 (ab_aload 0 1693)))) (ab_tn 1695 (ab_tl 1693 (ab_iload 5 1695)) (ab_tn 1696 (ab_tl 1695 (ab_push (.int 1) 1696)) (ab_tl 1696 (ab_bin (fun x y => x + y) 1697))))) (ab_tn 1701 (ab_tn 1698 (ab_tl 1697 (ab_sld b Ls xs 1698)) (ab_tn 1699 (ab_tl 1698 (ab_aload 0 1699)) (ab_tl 1699 (ab_iload 5 1701)))) (ab_tn 1702 (ab_tl 1701 (ab_push (.int 2) 1702)) (ab_tn 1703 (ab_tl 1702 (ab_bin (fun x y => x + y) 1703)) (ab_tl 1703 (ab_sld b Ls xs 1704)))))) (ab_tn 1718 (ab_tn 1710 (ab_tn 1707 (ab_tl 1704 (ab_callV 12 3 1 (wp_X9_buy g) 0 0 603072 7207018 ab_NX 1707)) (ab_tn 1709 (ab_tl 1707 (ab_istore 7 1709)) (ab_tl 1709 (ab_aload 2 1710)))) (ab_tn 1713 (ab_tl 1710 (ab_callV 12 1 1 (wp_X9_thrown g) 0 0 603072 7207018 ab_NX 1713)) (ab_tn 1715 (ab_tl 1713 (ab_iload 6 1715)) (ab_tl 1715 (ab_icmp (fun x y => x = y) 1720 1718))))) (ab_tn 1725 (ab_tn 1720 (ab_tl 1718 (ab_push (.int 0) 1719)) (ab_tn 1722 (ab_tl 1720 (ab_iload 6 1722)) (ab_tl 1722 (ab_if (fun x => x = 0) 1725 1737)))) (ab_tn 1726 (ab_tl 1725 (ab_aload 3 1726)) (ab_tn 1727 (ab_tl 1726 (ab_push (.int 0) 1727)) (ab_tl 1727 (ab_lald 1728))))))) (ab_tn 1747 (ab_tn 1740 (ab_tn 1732 (ab_tn 1730 (ab_tl 1728 (ab_iload 7 1730)) (ab_tn 1731 (ab_tl 1730 (ab_i2l 1731)) (ab_tl 1731 (ab_lcmp 1732)))) (ab_tn 1735 (ab_tl 1732 (ab_if (fun x => x = 0) 1737 1735)) (ab_tn 1737 (ab_tl 1735 (ab_push (.int 0) 1736)) (ab_tl 1737 (ab_goto 2029))))) (ab_tn 1744 (ab_tn 1741 (ab_tl 1740 (ab_aload 1 1741)) (ab_tn 1742 (ab_tl 1741 (ab_aload 0 1742)) (ab_tl 1742 (ab_iload 5 1744)))) (ab_tn 1745 (ab_tl 1744 (ab_push (.int 1) 1745)) (ab_tn 1746 (ab_tl 1745 (ab_bin (fun x y => x + y) 1746)) (ab_tl 1746 (ab_sld b Ls xs 1747)))))) (ab_tn 1757 (ab_tn 1753 (ab_tn 1748 (ab_tl 1747 (ab_aload 3 1748)) (ab_tn 1751 (ab_tl 1748 (ab_callS 3 1 (wp_L_credits g) 1 6 603072 7207018 ab_NX 1751)) (ab_tl 1751 (ab_istore 6 1753)))) (ab_tn 1754 (ab_tl 1753 (ab_aload 2 1754)) (ab_tn 1755 (ab_tl 1754 (ab_aload 0 1755)) (ab_tl 1755 (ab_iload 5 1757))))) (ab_tn 1760 (ab_tn 1758 (ab_tl 1757 (ab_push (.int 1) 1758)) (ab_tn 1759 (ab_tl 1758 (ab_bin (fun x y => x + y) 1759)) (ab_tl 1759 (ab_sld b Ls xs 1760)))) (ab_tn 1763 (ab_tl 1760 (ab_callV 12 2 1 (wp_X9_credits g) 0 0 603072 7207018 ab_NX 1763)) (ab_tn 1765 (ab_tl 1763 (ab_istore 7 1765)) (ab_tl 1765 (ab_aload 2 1766)))))))
set_option maxRecDepth 100000 in
set_option maxHeartbeats 4000000 in
theorem st_L_law20 {p : Program} {l : Launch} {e : Env} {s : State} {m : MethodId} {below : List Frame} {meth : Method} {c : Code} {D : va_G} {C : Nat → ClassId} {g : Nat → Nat} {A : Nat → Prop} {nm : String} {b Ls : Nat} {xs : Nat → Int32} (Cx : ab_Cx l D C g R_law nm code 9 ret ab_T p s m #[Value.ref b] meth c A) (hl : l.stackTraces = false) (hlk : meth.locks = false) (hA : ∀ q, A q → s.heap.size ≤ q) (hX : va_X b Ls xs s s.heap) (hbl : b < s.heap.size) (hbA : ¬ A b) : ∀ pc, ab_Sn (ab_W p l e room_1 s m #[Value.ref b] below meth c (lw_Z below #[Value.ref b] s) D C A 9) pc (tb_L_law20 b Ls xs g pc) :=
  ab_tn_ok (ab_tn_ok (ab_tn_ok (ab_tn_ok (ab_tn_ok (ab_tl_ok (sn_istore Cx dL_law_1689 (by decide))) (ab_tn_ok (ab_tl_ok (sn_aload_n Cx dL_law_1691 rfl)) (ab_tl_ok (sn_aload_n Cx dL_law_1692 rfl)))) (ab_tn_ok (ab_tl_ok (sn_iload Cx dL_law_1693)) (ab_tn_ok (ab_tl_ok (sn_iconst Cx dL_law_1695 (by decide))) (ab_tl_ok (sn_iadd Cx dL_law_1696))))) (ab_tn_ok (ab_tn_ok (ab_tl_ok (sn_sld Cx hX hbl hbA dL_law_1697)) (ab_tn_ok (ab_tl_ok (sn_aload_n Cx dL_law_1698 rfl)) (ab_tl_ok (sn_iload Cx dL_law_1699)))) (ab_tn_ok (ab_tl_ok (sn_iconst Cx dL_law_1701 (by decide))) (ab_tn_ok (ab_tl_ok (sn_iadd Cx dL_law_1702)) (ab_tl_ok (sn_sld Cx hX hbl hbA dL_law_1703)))))) (ab_tn_ok (ab_tn_ok (ab_tn_ok (ab_tl_ok (sn_callVG Cx (Cn := RX9) (T := TX9) (N := 36) rfl (ct_X9_buy hl) dL_law_1704 wd_7_108 wd_7_109 wd_1_5 wd_7_111 wd_7_110 (hd := by decide +kernel) (by decide) rfl rfl)) (ab_tn_ok (ab_tl_ok (sn_istore Cx dL_law_1707 (by decide))) (ab_tl_ok (sn_aload_n Cx dL_law_1709 rfl)))) (ab_tn_ok (ab_tl_ok (sn_callVG Cx (Cn := RX9) (T := TX9) (N := 36) rfl (ct_X9_thrown hl) dL_law_1710 wd_6_60 wd_6_61 wd_1_5 wd_6_63 wd_6_62 (hd := by decide +kernel) (by decide) rfl rfl)) (ab_tn_ok (ab_tl_ok (sn_iload Cx dL_law_1713)) (ab_tl_ok (sn_icmp_eq Cx dL_law_1715 (tgt := 1720) (by decide)))))) (ab_tn_ok (ab_tn_ok (ab_tl_ok (sn_iconst Cx dL_law_1718 (by decide))) (ab_tn_ok (ab_tl_ok (sn_iload Cx dL_law_1720)) (ab_tl_ok (sn_if_ne Cx dL_law_1722 (tgt := 1737) (by decide))))) (ab_tn_ok (ab_tl_ok (sn_aload_n Cx dL_law_1725 rfl)) (ab_tn_ok (ab_tl_ok (sn_iconst Cx dL_law_1726 (by decide))) (ab_tl_ok (sn_lald Cx dL_law_1727))))))) (ab_tn_ok (ab_tn_ok (ab_tn_ok (ab_tn_ok (ab_tl_ok (sn_iload Cx dL_law_1728)) (ab_tn_ok (ab_tl_ok (sn_i2l Cx dL_law_1730)) (ab_tl_ok (sn_lcmp Cx dL_law_1731)))) (ab_tn_ok (ab_tl_ok (sn_if_eq Cx dL_law_1732 (tgt := 1737) (by decide))) (ab_tn_ok (ab_tl_ok (sn_iconst Cx dL_law_1735 (by decide))) (ab_tl_ok (sn_goto Cx dL_law_1737 (tgt := 2029) (by decide)))))) (ab_tn_ok (ab_tn_ok (ab_tl_ok (sn_aload_n Cx dL_law_1740 rfl)) (ab_tn_ok (ab_tl_ok (sn_aload_n Cx dL_law_1741 rfl)) (ab_tl_ok (sn_iload Cx dL_law_1742)))) (ab_tn_ok (ab_tl_ok (sn_iconst Cx dL_law_1744 (by decide))) (ab_tn_ok (ab_tl_ok (sn_iadd Cx dL_law_1745)) (ab_tl_ok (sn_sld Cx hX hbl hbA dL_law_1746)))))) (ab_tn_ok (ab_tn_ok (ab_tn_ok (ab_tl_ok (sn_aload_n Cx dL_law_1747 rfl)) (ab_tn_ok (ab_tl_ok (sn_callSG Cx (ct_L_credits hl) dL_law_1748 wd_5_142 wd_5_143 wd_1_0 wd_5_144 (hd := by decide +kernel) (by decide) rfl rfl)) (ab_tl_ok (sn_istore Cx dL_law_1751 (by decide))))) (ab_tn_ok (ab_tl_ok (sn_aload_n Cx dL_law_1753 rfl)) (ab_tn_ok (ab_tl_ok (sn_aload_n Cx dL_law_1754 rfl)) (ab_tl_ok (sn_iload Cx dL_law_1755))))) (ab_tn_ok (ab_tn_ok (ab_tl_ok (sn_iconst Cx dL_law_1757 (by decide))) (ab_tn_ok (ab_tl_ok (sn_iadd Cx dL_law_1758)) (ab_tl_ok (sn_sld Cx hX hbl hbA dL_law_1759)))) (ab_tn_ok (ab_tl_ok (sn_callVG Cx (Cn := RX9) (T := TX9) (N := 36) rfl (ct_X9_credits hl) dL_law_1760 wd_7_112 wd_7_113 wd_1_5 wd_7_115 wd_7_114 (hd := by decide +kernel) (by decide) rfl rfl)) (ab_tn_ok (ab_tl_ok (sn_istore Cx dL_law_1763 (by decide))) (ab_tl_ok (sn_aload_n Cx dL_law_1765 rfl)))))))
def tb_L_law21 (b Ls : Nat) (xs : Nat → Int32) (g : Nat → Nat) : Nat → ab_I := ab_tn 1807 (ab_tn 1788 (ab_tn 1781 (ab_tn 1774 (ab_tn 1769 (ab_tl 1766 (ab_callV 12 1 1 (wp_X9_thrown g) 0 0 603072 7207018 ab_NX 1769)) (ab_tn 1771 (ab_tl 1769 (ab_iload 6 1771)) (ab_tl 1771 (ab_icmp (fun x y => x = y) 1776 1774)))) (ab_tn 1776 (ab_tl 1774 (ab_push (.int 0) 1775)) (ab_tn 1778 (ab_tl 1776 (ab_iload 6 1778)) (ab_tl 1778 (ab_if (fun x => x = 0) 1781 1793))))) (ab_tn 1784 (ab_tn 1782 (ab_tl 1781 (ab_aload 3 1782)) (ab_tn 1783 (ab_tl 1782 (ab_push (.int 0) 1783)) (ab_tl 1783 (ab_lald 1784)))) (ab_tn 1786 (ab_tl 1784 (ab_iload 7 1786)) (ab_tn 1787 (ab_tl 1786 (ab_i2l 1787)) (ab_tl 1787 (ab_lcmp 1788)))))) (ab_tn 1800 (ab_tn 1796 (ab_tn 1791 (ab_tl 1788 (ab_if (fun x => x = 0) 1793 1791)) (ab_tn 1793 (ab_tl 1791 (ab_push (.int 0) 1792)) (ab_tl 1793 (ab_goto 2029)))) (ab_tn 1797 (ab_tl 1796 (ab_aload 1 1797)) (ab_tn 1798 (ab_tl 1797 (ab_aload 0 1798)) (ab_tl 1798 (ab_iload 5 1800))))) (ab_tn 1803 (ab_tn 1801 (ab_tl 1800 (ab_push (.int 1) 1801)) (ab_tn 1802 (ab_tl 1801 (ab_bin (fun x y => x + y) 1802)) (ab_tl 1802 (ab_sld b Ls xs 1803)))) (ab_tn 1804 (ab_tl 1803 (ab_aload 0 1804)) (ab_tn 1806 (ab_tl 1804 (ab_iload 5 1806)) (ab_tl 1806 (ab_push (.int 2) 1807))))))) (ab_tn 1823 (ab_tn 1816 (ab_tn 1810 (ab_tn 1808 (ab_tl 1807 (ab_bin (fun x y => x + y) 1808)) (ab_tn 1809 (ab_tl 1808 (ab_sld b Ls xs 1809)) (ab_tl 1809 (ab_aload 3 1810)))) (ab_tn 1813 (ab_tl 1810 (ab_callS 4 1 (wp_L_has g) 2 12 603072 7207018 ab_NX 1813)) (ab_tn 1815 (ab_tl 1813 (ab_istore 6 1815)) (ab_tl 1815 (ab_aload 2 1816))))) (ab_tn 1820 (ab_tn 1817 (ab_tl 1816 (ab_aload 0 1817)) (ab_tn 1819 (ab_tl 1817 (ab_iload 5 1819)) (ab_tl 1819 (ab_push (.int 1) 1820)))) (ab_tn 1821 (ab_tl 1820 (ab_bin (fun x y => x + y) 1821)) (ab_tn 1822 (ab_tl 1821 (ab_sld b Ls xs 1822)) (ab_tl 1822 (ab_aload 0 1823)))))) (ab_tn 1833 (ab_tn 1827 (ab_tn 1825 (ab_tl 1823 (ab_iload 5 1825)) (ab_tn 1826 (ab_tl 1825 (ab_push (.int 2) 1826)) (ab_tl 1826 (ab_bin (fun x y => x + y) 1827)))) (ab_tn 1828 (ab_tl 1827 (ab_sld b Ls xs 1828)) (ab_tn 1831 (ab_tl 1828 (ab_callV 12 3 1 (wp_X9_has g) 0 0 603072 7207018 ab_NX 1831)) (ab_tl 1831 (ab_istore 7 1833))))) (ab_tn 1839 (ab_tn 1834 (ab_tl 1833 (ab_aload 2 1834)) (ab_tn 1837 (ab_tl 1834 (ab_callV 12 1 1 (wp_X9_thrown g) 0 0 603072 7207018 ab_NX 1837)) (ab_tl 1837 (ab_iload 6 1839)))) (ab_tn 1842 (ab_tl 1839 (ab_icmp (fun x y => x = y) 1844 1842)) (ab_tn 1844 (ab_tl 1842 (ab_push (.int 0) 1843)) (ab_tl 1844 (ab_iload 6 1846)))))))
set_option maxRecDepth 100000 in
set_option maxHeartbeats 4000000 in
theorem st_L_law21 {p : Program} {l : Launch} {e : Env} {s : State} {m : MethodId} {below : List Frame} {meth : Method} {c : Code} {D : va_G} {C : Nat → ClassId} {g : Nat → Nat} {A : Nat → Prop} {nm : String} {b Ls : Nat} {xs : Nat → Int32} (Cx : ab_Cx l D C g R_law nm code 9 ret ab_T p s m #[Value.ref b] meth c A) (hl : l.stackTraces = false) (hlk : meth.locks = false) (hA : ∀ q, A q → s.heap.size ≤ q) (hX : va_X b Ls xs s s.heap) (hbl : b < s.heap.size) (hbA : ¬ A b) : ∀ pc, ab_Sn (ab_W p l e room_1 s m #[Value.ref b] below meth c (lw_Z below #[Value.ref b] s) D C A 9) pc (tb_L_law21 b Ls xs g pc) :=
  ab_tn_ok (ab_tn_ok (ab_tn_ok (ab_tn_ok (ab_tn_ok (ab_tl_ok (sn_callVG Cx (Cn := RX9) (T := TX9) (N := 36) rfl (ct_X9_thrown hl) dL_law_1766 wd_6_60 wd_6_61 wd_1_5 wd_6_63 wd_6_62 (hd := by decide +kernel) (by decide) rfl rfl)) (ab_tn_ok (ab_tl_ok (sn_iload Cx dL_law_1769)) (ab_tl_ok (sn_icmp_eq Cx dL_law_1771 (tgt := 1776) (by decide))))) (ab_tn_ok (ab_tl_ok (sn_iconst Cx dL_law_1774 (by decide))) (ab_tn_ok (ab_tl_ok (sn_iload Cx dL_law_1776)) (ab_tl_ok (sn_if_ne Cx dL_law_1778 (tgt := 1793) (by decide)))))) (ab_tn_ok (ab_tn_ok (ab_tl_ok (sn_aload_n Cx dL_law_1781 rfl)) (ab_tn_ok (ab_tl_ok (sn_iconst Cx dL_law_1782 (by decide))) (ab_tl_ok (sn_lald Cx dL_law_1783)))) (ab_tn_ok (ab_tl_ok (sn_iload Cx dL_law_1784)) (ab_tn_ok (ab_tl_ok (sn_i2l Cx dL_law_1786)) (ab_tl_ok (sn_lcmp Cx dL_law_1787)))))) (ab_tn_ok (ab_tn_ok (ab_tn_ok (ab_tl_ok (sn_if_eq Cx dL_law_1788 (tgt := 1793) (by decide))) (ab_tn_ok (ab_tl_ok (sn_iconst Cx dL_law_1791 (by decide))) (ab_tl_ok (sn_goto Cx dL_law_1793 (tgt := 2029) (by decide))))) (ab_tn_ok (ab_tl_ok (sn_aload_n Cx dL_law_1796 rfl)) (ab_tn_ok (ab_tl_ok (sn_aload_n Cx dL_law_1797 rfl)) (ab_tl_ok (sn_iload Cx dL_law_1798))))) (ab_tn_ok (ab_tn_ok (ab_tl_ok (sn_iconst Cx dL_law_1800 (by decide))) (ab_tn_ok (ab_tl_ok (sn_iadd Cx dL_law_1801)) (ab_tl_ok (sn_sld Cx hX hbl hbA dL_law_1802)))) (ab_tn_ok (ab_tl_ok (sn_aload_n Cx dL_law_1803 rfl)) (ab_tn_ok (ab_tl_ok (sn_iload Cx dL_law_1804)) (ab_tl_ok (sn_iconst Cx dL_law_1806 (by decide)))))))) (ab_tn_ok (ab_tn_ok (ab_tn_ok (ab_tn_ok (ab_tl_ok (sn_iadd Cx dL_law_1807)) (ab_tn_ok (ab_tl_ok (sn_sld Cx hX hbl hbA dL_law_1808)) (ab_tl_ok (sn_aload_n Cx dL_law_1809 rfl)))) (ab_tn_ok (ab_tl_ok (sn_callSG Cx (ct_L_has hl) dL_law_1810 wd_5_149 wd_5_150 wd_1_0 wd_5_151 (hd := by decide +kernel) (by decide) rfl rfl)) (ab_tn_ok (ab_tl_ok (sn_istore Cx dL_law_1813 (by decide))) (ab_tl_ok (sn_aload_n Cx dL_law_1815 rfl))))) (ab_tn_ok (ab_tn_ok (ab_tl_ok (sn_aload_n Cx dL_law_1816 rfl)) (ab_tn_ok (ab_tl_ok (sn_iload Cx dL_law_1817)) (ab_tl_ok (sn_iconst Cx dL_law_1819 (by decide))))) (ab_tn_ok (ab_tl_ok (sn_iadd Cx dL_law_1820)) (ab_tn_ok (ab_tl_ok (sn_sld Cx hX hbl hbA dL_law_1821)) (ab_tl_ok (sn_aload_n Cx dL_law_1822 rfl)))))) (ab_tn_ok (ab_tn_ok (ab_tn_ok (ab_tl_ok (sn_iload Cx dL_law_1823)) (ab_tn_ok (ab_tl_ok (sn_iconst Cx dL_law_1825 (by decide))) (ab_tl_ok (sn_iadd Cx dL_law_1826)))) (ab_tn_ok (ab_tl_ok (sn_sld Cx hX hbl hbA dL_law_1827)) (ab_tn_ok (ab_tl_ok (sn_callVG Cx (Cn := RX9) (T := TX9) (N := 36) rfl (ct_X9_has hl) dL_law_1828 wd_7_116 wd_7_117 wd_1_5 wd_7_119 wd_7_118 (hd := by decide +kernel) (by decide) rfl rfl)) (ab_tl_ok (sn_istore Cx dL_law_1831 (by decide)))))) (ab_tn_ok (ab_tn_ok (ab_tl_ok (sn_aload_n Cx dL_law_1833 rfl)) (ab_tn_ok (ab_tl_ok (sn_callVG Cx (Cn := RX9) (T := TX9) (N := 36) rfl (ct_X9_thrown hl) dL_law_1834 wd_6_60 wd_6_61 wd_1_5 wd_6_63 wd_6_62 (hd := by decide +kernel) (by decide) rfl rfl)) (ab_tl_ok (sn_iload Cx dL_law_1837)))) (ab_tn_ok (ab_tl_ok (sn_icmp_eq Cx dL_law_1839 (tgt := 1844) (by decide))) (ab_tn_ok (ab_tl_ok (sn_iconst Cx dL_law_1842 (by decide))) (ab_tl_ok (sn_iload Cx dL_law_1844)))))))
def tb_L_law22 (b Ls : Nat) (xs : Nat → Int32) (g : Nat → Nat) : Nat → ab_I := ab_tn 1893 (ab_tn 1868 (ab_tn 1857 (ab_tn 1851 (ab_tn 1849 (ab_tl 1846 (ab_if (fun x => x = 0) 1849 1868)) (ab_tn 1850 (ab_tl 1849 (ab_aload 3 1850)) (ab_tl 1850 (ab_push (.int 0) 1851)))) (ab_tn 1852 (ab_tl 1851 (ab_lald 1852)) (ab_tn 1854 (ab_tl 1852 (ab_iload 7 1854)) (ab_tl 1854 (ab_if (fun x => x = 0) 1861 1857))))) (ab_tn 1862 (ab_tn 1858 (ab_tl 1857 (ab_push (.long 1) 1858)) (ab_tn 1861 (ab_tl 1858 (ab_goto 1862)) (ab_tl 1861 (ab_push (.long 0) 1862)))) (ab_tn 1863 (ab_tl 1862 (ab_lcmp 1863)) (ab_tn 1866 (ab_tl 1863 (ab_if (fun x => x = 0) 1868 1866)) (ab_tl 1866 (ab_push (.int 0) 1867)))))) (ab_tn 1880 (ab_tn 1875 (ab_tn 1871 (ab_tl 1868 (ab_goto 2029)) (ab_tn 1872 (ab_tl 1871 (ab_aload 1 1872)) (ab_tl 1872 (ab_callV 11 1 3 (wp_X8_press g) 0 0 603072 7207018 ab_NX 1875)))) (ab_tn 1876 (ab_tl 1875 (ab_aload 2 1876)) (ab_tn 1879 (ab_tl 1876 (ab_callV 12 1 3 (wp_X9_press g) 0 0 603072 7207018 ab_NX 1879)) (ab_tl 1879 (ab_lcmp 1880))))) (ab_tn 1886 (ab_tn 1883 (ab_tl 1880 (ab_if (fun x => x = 0) 2029 1883)) (ab_tn 1885 (ab_tl 1883 (ab_push (.int 0) 1884)) (ab_tl 1885 (ab_aload 1 1886)))) (ab_tn 1889 (ab_tl 1886 (ab_callV 11 1 1 (wp_X8_isClean g) 40 140 603072 7207018 ab_NX 1889)) (ab_tn 1890 (ab_tl 1889 (ab_aload 2 1890)) (ab_tl 1890 (ab_callV 12 1 1 (wp_X9_isClean g) 0 0 603072 7207018 ab_NX 1893))))))) (ab_tn 1918 (ab_tn 1906 (ab_tn 1899 (ab_tn 1896 (ab_tl 1893 (ab_icmp (fun x y => x = y) 2029 1896)) (ab_tn 1898 (ab_tl 1896 (ab_push (.int 0) 1897)) (ab_tl 1898 (ab_aload 1 1899)))) (ab_tn 1901 (ab_tl 1899 (ab_aload 4 1901)) (ab_tn 1904 (ab_tl 1901 (ab_callS 2 1 (wp_L_provedShare g) 1 6 603072 7207018 ab_NX 1904)) (ab_tl 1904 (ab_istore 6 1906))))) (ab_tn 1912 (ab_tn 1907 (ab_tl 1906 (ab_aload 2 1907)) (ab_tn 1910 (ab_tl 1907 (ab_callV 12 1 4 (wp_X9_provedShare g) 0 0 603072 7207018 ab_NX 1910)) (ab_tl 1910 (ab_fstore 7 1912)))) (ab_tn 1913 (ab_tl 1912 (ab_aload 2 1913)) (ab_tn 1916 (ab_tl 1913 (ab_callV 12 1 1 (wp_X9_thrown g) 0 0 603072 7207018 ab_NX 1916)) (ab_tl 1916 (ab_iload 6 1918)))))) (ab_tn 1931 (ab_tn 1925 (ab_tn 1921 (ab_tl 1918 (ab_icmp (fun x y => x = y) 1923 1921)) (ab_tn 1923 (ab_tl 1921 (ab_push (.int 0) 1922)) (ab_tl 1923 (ab_iload 6 1925)))) (ab_tn 1928 (ab_tl 1925 (ab_if (fun x => x = 0) 1928 1961)) (ab_tn 1930 (ab_tl 1928 (ab_aload 4 1930)) (ab_tl 1930 (ab_push (.int 0) 1931))))) (ab_tn 1935 (ab_tn 1932 (ab_tl 1931 (ab_dald 1932)) (ab_tn 1934 (ab_tl 1932 (ab_fload 7 1934)) (ab_tl 1934 (ab_f2d 1935)))) (ab_tn 1936 (ab_tl 1935 (ab_dcmp .l 1936)) (ab_tn 1939 (ab_tl 1936 (ab_if (fun x => x = 0) 1961 1939)) (ab_tl 1939 (ab_aload 4 1941)))))))
set_option maxRecDepth 100000 in
set_option maxHeartbeats 4000000 in
theorem st_L_law22 {p : Program} {l : Launch} {e : Env} {s : State} {m : MethodId} {below : List Frame} {meth : Method} {c : Code} {D : va_G} {C : Nat → ClassId} {g : Nat → Nat} {A : Nat → Prop} {nm : String} {b Ls : Nat} {xs : Nat → Int32} (Cx : ab_Cx l D C g R_law nm code 9 ret ab_T p s m #[Value.ref b] meth c A) (hl : l.stackTraces = false) (hlk : meth.locks = false) (hA : ∀ q, A q → s.heap.size ≤ q) (hX : va_X b Ls xs s s.heap) (hbl : b < s.heap.size) (hbA : ¬ A b) : ∀ pc, ab_Sn (ab_W p l e room_1 s m #[Value.ref b] below meth c (lw_Z below #[Value.ref b] s) D C A 9) pc (tb_L_law22 b Ls xs g pc) :=
  ab_tn_ok (ab_tn_ok (ab_tn_ok (ab_tn_ok (ab_tn_ok (ab_tl_ok (sn_if_ne Cx dL_law_1846 (tgt := 1868) (by decide))) (ab_tn_ok (ab_tl_ok (sn_aload_n Cx dL_law_1849 rfl)) (ab_tl_ok (sn_iconst Cx dL_law_1850 (by decide))))) (ab_tn_ok (ab_tl_ok (sn_lald Cx dL_law_1851)) (ab_tn_ok (ab_tl_ok (sn_iload Cx dL_law_1852)) (ab_tl_ok (sn_if_eq Cx dL_law_1854 (tgt := 1861) (by decide)))))) (ab_tn_ok (ab_tn_ok (ab_tl_ok (sn_lconst Cx dL_law_1857 (by decide))) (ab_tn_ok (ab_tl_ok (sn_goto Cx dL_law_1858 (tgt := 1862) (by decide))) (ab_tl_ok (sn_lconst Cx dL_law_1861 (by decide))))) (ab_tn_ok (ab_tl_ok (sn_lcmp Cx dL_law_1862)) (ab_tn_ok (ab_tl_ok (sn_if_eq Cx dL_law_1863 (tgt := 1868) (by decide))) (ab_tl_ok (sn_iconst Cx dL_law_1866 (by decide))))))) (ab_tn_ok (ab_tn_ok (ab_tn_ok (ab_tl_ok (sn_goto Cx dL_law_1868 (tgt := 2029) (by decide))) (ab_tn_ok (ab_tl_ok (sn_aload_n Cx dL_law_1871 rfl)) (ab_tl_ok (sn_callVG Cx (Cn := RX8) (T := TX8) (N := 5) rfl (ct_X8_press hl) dL_law_1872 wd_1_85 wd_1_86 wd_1_1 wd_1_88 wd_1_87 (hd := by decide +kernel) (by decide) rfl rfl)))) (ab_tn_ok (ab_tl_ok (sn_aload_n Cx dL_law_1875 rfl)) (ab_tn_ok (ab_tl_ok (sn_callVG Cx (Cn := RX9) (T := TX9) (N := 36) rfl (ct_X9_press hl) dL_law_1876 wd_7_120 wd_7_121 wd_1_5 wd_7_123 wd_7_122 (hd := by decide +kernel) (by decide) rfl rfl)) (ab_tl_ok (sn_lcmp Cx dL_law_1879))))) (ab_tn_ok (ab_tn_ok (ab_tl_ok (sn_if_eq Cx dL_law_1880 (tgt := 2029) (by decide))) (ab_tn_ok (ab_tl_ok (sn_iconst Cx dL_law_1883 (by decide))) (ab_tl_ok (sn_aload_n Cx dL_law_1885 rfl)))) (ab_tn_ok (ab_tl_ok (sn_callVG Cx (Cn := RX8) (T := TX8) (N := 5) rfl (ct_X8_isClean hl) dL_law_1886 wd_1_89 wd_1_90 wd_1_1 wd_1_92 wd_1_91 (hd := by decide +kernel) (by decide) rfl rfl)) (ab_tn_ok (ab_tl_ok (sn_aload_n Cx dL_law_1889 rfl)) (ab_tl_ok (sn_callVG Cx (Cn := RX9) (T := TX9) (N := 36) rfl (ct_X9_isClean hl) dL_law_1890 wd_7_124 wd_7_125 wd_1_5 wd_7_127 wd_7_126 (hd := by decide +kernel) (by decide) rfl rfl))))))) (ab_tn_ok (ab_tn_ok (ab_tn_ok (ab_tn_ok (ab_tl_ok (sn_icmp_eq Cx dL_law_1893 (tgt := 2029) (by decide))) (ab_tn_ok (ab_tl_ok (sn_iconst Cx dL_law_1896 (by decide))) (ab_tl_ok (sn_aload_n Cx dL_law_1898 rfl)))) (ab_tn_ok (ab_tl_ok (sn_aload Cx dL_law_1899)) (ab_tn_ok (ab_tl_ok (sn_callSG Cx (ct_L_provedShare hl) dL_law_1901 wd_5_156 wd_5_157 wd_1_0 wd_5_158 (hd := by decide +kernel) (by decide) rfl rfl)) (ab_tl_ok (sn_istore Cx dL_law_1904 (by decide)))))) (ab_tn_ok (ab_tn_ok (ab_tl_ok (sn_aload_n Cx dL_law_1906 rfl)) (ab_tn_ok (ab_tl_ok (sn_callVG Cx (Cn := RX9) (T := TX9) (N := 36) rfl (ct_X9_provedShare hl) dL_law_1907 wd_7_132 wd_7_133 wd_1_5 wd_7_135 wd_7_134 (hd := by decide +kernel) (by decide) rfl rfl)) (ab_tl_ok (sn_fstore Cx dL_law_1910 (by decide))))) (ab_tn_ok (ab_tl_ok (sn_aload_n Cx dL_law_1912 rfl)) (ab_tn_ok (ab_tl_ok (sn_callVG Cx (Cn := RX9) (T := TX9) (N := 36) rfl (ct_X9_thrown hl) dL_law_1913 wd_6_60 wd_6_61 wd_1_5 wd_6_63 wd_6_62 (hd := by decide +kernel) (by decide) rfl rfl)) (ab_tl_ok (sn_iload Cx dL_law_1916)))))) (ab_tn_ok (ab_tn_ok (ab_tn_ok (ab_tl_ok (sn_icmp_eq Cx dL_law_1918 (tgt := 1923) (by decide))) (ab_tn_ok (ab_tl_ok (sn_iconst Cx dL_law_1921 (by decide))) (ab_tl_ok (sn_iload Cx dL_law_1923)))) (ab_tn_ok (ab_tl_ok (sn_if_ne Cx dL_law_1925 (tgt := 1961) (by decide))) (ab_tn_ok (ab_tl_ok (sn_aload Cx dL_law_1928)) (ab_tl_ok (sn_iconst Cx dL_law_1930 (by decide)))))) (ab_tn_ok (ab_tn_ok (ab_tl_ok (sn_dald Cx dL_law_1931)) (ab_tn_ok (ab_tl_ok (sn_fload Cx dL_law_1932)) (ab_tl_ok (sn_f2d Cx dL_law_1934)))) (ab_tn_ok (ab_tl_ok (sn_dcmp Cx dL_law_1935)) (ab_tn_ok (ab_tl_ok (sn_if_eq Cx dL_law_1936 (tgt := 1961) (by decide))) (ab_tl_ok (sn_aload Cx dL_law_1939)))))))
def tb_L_law23 (b Ls : Nat) (xs : Nat → Int32) (g : Nat → Nat) : Nat → ab_I := ab_tn 1987 (ab_tn 1961 (ab_tn 1948 (ab_tn 1945 (ab_tn 1942 (ab_tl 1941 (ab_push (.int 0) 1942)) (ab_tn 1943 (ab_tl 1942 (ab_dald 1943)) (ab_tl 1943 (ab_aload 4 1945)))) (ab_tn 1946 (ab_tl 1945 (ab_push (.int 0) 1946)) (ab_tn 1947 (ab_tl 1946 (ab_dald 1947)) (ab_tl 1947 (ab_dcmp .l 1948))))) (ab_tn 1955 (ab_tn 1951 (ab_tl 1948 (ab_if (fun x => x = 0) 1959 1951)) (ab_tn 1953 (ab_tl 1951 (ab_fload 7 1953)) (ab_tl 1953 (ab_fload 7 1955)))) (ab_tn 1956 (ab_tl 1955 (ab_fcmp .l 1956)) (ab_tn 1959 (ab_tl 1956 (ab_if (fun x => x = 0) 1959 1961)) (ab_tl 1959 (ab_push (.int 0) 1960)))))) (ab_tn 1973 (ab_tn 1967 (ab_tn 1964 (ab_tl 1961 (ab_goto 2029)) (ab_tn 1965 (ab_tl 1964 (ab_aload 1 1965)) (ab_tl 1965 (ab_aload 4 1967)))) (ab_tn 1970 (ab_tl 1967 (ab_callS 2 1 (wp_L_meanSteps g) 1 6 603072 7207018 ab_NX 1970)) (ab_tn 1972 (ab_tl 1970 (ab_istore 6 1972)) (ab_tl 1972 (ab_aload 2 1973))))) (ab_tn 1979 (ab_tn 1976 (ab_tl 1973 (ab_callV 12 1 5 (wp_X9_meanSteps g) 0 0 603072 7207018 ab_NX 1976)) (ab_tn 1978 (ab_tl 1976 (ab_dstore 7 1978)) (ab_tl 1978 (ab_aload 2 1979)))) (ab_tn 1982 (ab_tl 1979 (ab_callV 12 1 1 (wp_X9_thrown g) 0 0 603072 7207018 ab_NX 1982)) (ab_tn 1984 (ab_tl 1982 (ab_iload 6 1984)) (ab_tl 1984 (ab_icmp (fun x y => x = y) 1989 1987))))))) (ab_tn 2008 (ab_tn 1998 (ab_tn 1994 (ab_tn 1989 (ab_tl 1987 (ab_push (.int 0) 1988)) (ab_tn 1991 (ab_tl 1989 (ab_iload 6 1991)) (ab_tl 1991 (ab_if (fun x => x = 0) 1994 2026)))) (ab_tn 1996 (ab_tl 1994 (ab_aload 4 1996)) (ab_tn 1997 (ab_tl 1996 (ab_push (.int 0) 1997)) (ab_tl 1997 (ab_dald 1998))))) (ab_tn 2004 (ab_tn 2000 (ab_tl 1998 (ab_dload 7 2000)) (ab_tn 2001 (ab_tl 2000 (ab_dcmp .l 2001)) (ab_tl 2001 (ab_if (fun x => x = 0) 2026 2004)))) (ab_tn 2006 (ab_tl 2004 (ab_aload 4 2006)) (ab_tn 2007 (ab_tl 2006 (ab_push (.int 0) 2007)) (ab_tl 2007 (ab_dald 2008)))))) (ab_tn 2018 (ab_tn 2012 (ab_tn 2010 (ab_tl 2008 (ab_aload 4 2010)) (ab_tn 2011 (ab_tl 2010 (ab_push (.int 0) 2011)) (ab_tl 2011 (ab_dald 2012)))) (ab_tn 2013 (ab_tl 2012 (ab_dcmp .l 2013)) (ab_tn 2016 (ab_tl 2013 (ab_if (fun x => x = 0) 2024 2016)) (ab_tl 2016 (ab_dload 7 2018))))) (ab_tn 2024 (ab_tn 2020 (ab_tl 2018 (ab_dload 7 2020)) (ab_tn 2021 (ab_tl 2020 (ab_dcmp .l 2021)) (ab_tl 2021 (ab_if (fun x => x = 0) 2024 2026)))) (ab_tn 2026 (ab_tl 2024 (ab_push (.int 0) 2025)) (ab_tn 2029 (ab_tl 2026 (ab_goto 2029)) (ab_tl 2029 (ab_iinc 5 (6) 2032)))))))
set_option maxRecDepth 100000 in
set_option maxHeartbeats 4000000 in
theorem st_L_law23 {p : Program} {l : Launch} {e : Env} {s : State} {m : MethodId} {below : List Frame} {meth : Method} {c : Code} {D : va_G} {C : Nat → ClassId} {g : Nat → Nat} {A : Nat → Prop} {nm : String} {b Ls : Nat} {xs : Nat → Int32} (Cx : ab_Cx l D C g R_law nm code 9 ret ab_T p s m #[Value.ref b] meth c A) (hl : l.stackTraces = false) (hlk : meth.locks = false) (hA : ∀ q, A q → s.heap.size ≤ q) (hX : va_X b Ls xs s s.heap) (hbl : b < s.heap.size) (hbA : ¬ A b) : ∀ pc, ab_Sn (ab_W p l e room_1 s m #[Value.ref b] below meth c (lw_Z below #[Value.ref b] s) D C A 9) pc (tb_L_law23 b Ls xs g pc) :=
  ab_tn_ok (ab_tn_ok (ab_tn_ok (ab_tn_ok (ab_tn_ok (ab_tl_ok (sn_iconst Cx dL_law_1941 (by decide))) (ab_tn_ok (ab_tl_ok (sn_dald Cx dL_law_1942)) (ab_tl_ok (sn_aload Cx dL_law_1943)))) (ab_tn_ok (ab_tl_ok (sn_iconst Cx dL_law_1945 (by decide))) (ab_tn_ok (ab_tl_ok (sn_dald Cx dL_law_1946)) (ab_tl_ok (sn_dcmp Cx dL_law_1947))))) (ab_tn_ok (ab_tn_ok (ab_tl_ok (sn_if_eq Cx dL_law_1948 (tgt := 1959) (by decide))) (ab_tn_ok (ab_tl_ok (sn_fload Cx dL_law_1951)) (ab_tl_ok (sn_fload Cx dL_law_1953)))) (ab_tn_ok (ab_tl_ok (sn_fcmp Cx dL_law_1955)) (ab_tn_ok (ab_tl_ok (sn_if_ne Cx dL_law_1956 (tgt := 1961) (by decide))) (ab_tl_ok (sn_iconst Cx dL_law_1959 (by decide))))))) (ab_tn_ok (ab_tn_ok (ab_tn_ok (ab_tl_ok (sn_goto Cx dL_law_1961 (tgt := 2029) (by decide))) (ab_tn_ok (ab_tl_ok (sn_aload_n Cx dL_law_1964 rfl)) (ab_tl_ok (sn_aload Cx dL_law_1965)))) (ab_tn_ok (ab_tl_ok (sn_callSG Cx (ct_L_meanSteps hl) dL_law_1967 wd_5_177 wd_5_178 wd_1_0 wd_5_179 (hd := by decide +kernel) (by decide) rfl rfl)) (ab_tn_ok (ab_tl_ok (sn_istore Cx dL_law_1970 (by decide))) (ab_tl_ok (sn_aload_n Cx dL_law_1972 rfl))))) (ab_tn_ok (ab_tn_ok (ab_tl_ok (sn_callVG Cx (Cn := RX9) (T := TX9) (N := 36) rfl (ct_X9_meanSteps hl) dL_law_1973 wd_7_136 wd_7_137 wd_1_5 wd_7_139 wd_7_138 (hd := by decide +kernel) (by decide) rfl rfl)) (ab_tn_ok (ab_tl_ok (sn_dstore Cx dL_law_1976 (by decide))) (ab_tl_ok (sn_aload_n Cx dL_law_1978 rfl)))) (ab_tn_ok (ab_tl_ok (sn_callVG Cx (Cn := RX9) (T := TX9) (N := 36) rfl (ct_X9_thrown hl) dL_law_1979 wd_6_60 wd_6_61 wd_1_5 wd_6_63 wd_6_62 (hd := by decide +kernel) (by decide) rfl rfl)) (ab_tn_ok (ab_tl_ok (sn_iload Cx dL_law_1982)) (ab_tl_ok (sn_icmp_eq Cx dL_law_1984 (tgt := 1989) (by decide)))))))) (ab_tn_ok (ab_tn_ok (ab_tn_ok (ab_tn_ok (ab_tl_ok (sn_iconst Cx dL_law_1987 (by decide))) (ab_tn_ok (ab_tl_ok (sn_iload Cx dL_law_1989)) (ab_tl_ok (sn_if_ne Cx dL_law_1991 (tgt := 2026) (by decide))))) (ab_tn_ok (ab_tl_ok (sn_aload Cx dL_law_1994)) (ab_tn_ok (ab_tl_ok (sn_iconst Cx dL_law_1996 (by decide))) (ab_tl_ok (sn_dald Cx dL_law_1997))))) (ab_tn_ok (ab_tn_ok (ab_tl_ok (sn_dload Cx dL_law_1998)) (ab_tn_ok (ab_tl_ok (sn_dcmp Cx dL_law_2000)) (ab_tl_ok (sn_if_eq Cx dL_law_2001 (tgt := 2026) (by decide))))) (ab_tn_ok (ab_tl_ok (sn_aload Cx dL_law_2004)) (ab_tn_ok (ab_tl_ok (sn_iconst Cx dL_law_2006 (by decide))) (ab_tl_ok (sn_dald Cx dL_law_2007)))))) (ab_tn_ok (ab_tn_ok (ab_tn_ok (ab_tl_ok (sn_aload Cx dL_law_2008)) (ab_tn_ok (ab_tl_ok (sn_iconst Cx dL_law_2010 (by decide))) (ab_tl_ok (sn_dald Cx dL_law_2011)))) (ab_tn_ok (ab_tl_ok (sn_dcmp Cx dL_law_2012)) (ab_tn_ok (ab_tl_ok (sn_if_eq Cx dL_law_2013 (tgt := 2024) (by decide))) (ab_tl_ok (sn_dload Cx dL_law_2016))))) (ab_tn_ok (ab_tn_ok (ab_tl_ok (sn_dload Cx dL_law_2018)) (ab_tn_ok (ab_tl_ok (sn_dcmp Cx dL_law_2020)) (ab_tl_ok (sn_if_ne Cx dL_law_2021 (tgt := 2026) (by decide))))) (ab_tn_ok (ab_tl_ok (sn_iconst Cx dL_law_2024 (by decide))) (ab_tn_ok (ab_tl_ok (sn_goto Cx dL_law_2026 (tgt := 2029) (by decide))) (ab_tl_ok (sn_iinc Cx dL_law_2029 (by decide) (by decide))))))))
def tb_L_law24 (b Ls : Nat) (xs : Nat → Int32) (g : Nat → Nat) : Nat → ab_I := ab_tn 2035 (ab_tl 2032 (ab_goto 28)) (ab_tn 2036 (ab_tl 2035 (ab_push (.int 1) 2036)) (ab_tl 2036 (ab_end 603072 7207018)))
set_option maxRecDepth 100000 in
set_option maxHeartbeats 4000000 in
theorem st_L_law24 {p : Program} {l : Launch} {e : Env} {s : State} {m : MethodId} {below : List Frame} {meth : Method} {c : Code} {D : va_G} {C : Nat → ClassId} {g : Nat → Nat} {A : Nat → Prop} {nm : String} {b Ls : Nat} {xs : Nat → Int32} (Cx : ab_Cx l D C g R_law nm code 9 ret ab_T p s m #[Value.ref b] meth c A) (hl : l.stackTraces = false) (hlk : meth.locks = false) (hA : ∀ q, A q → s.heap.size ≤ q) (hX : va_X b Ls xs s s.heap) (hbl : b < s.heap.size) (hbA : ¬ A b) : ∀ pc, ab_Sn (ab_W p l e room_1 s m #[Value.ref b] below meth c (lw_Z below #[Value.ref b] s) D C A 9) pc (tb_L_law24 b Ls xs g pc) :=
  ab_tn_ok (ab_tl_ok (sn_goto Cx dL_law_2032 (tgt := 28) (by decide))) (ab_tn_ok (ab_tl_ok (sn_iconst Cx dL_law_2035 (by decide))) (ab_tl_ok (sn_end Cx hlk hA dL_law_2036)))
def tb_L_law (b Ls : Nat) (xs : Nat → Int32) (g : Nat → Nat) (R2 : ab_R) (XP : ab_XP) : Nat → ab_I := ab_tn 1045 (ab_tn 590 (ab_tn 353 (ab_tn 211 (tb_L_law0 b Ls xs g) (ab_tn 280 (tb_L_law1 b Ls xs g) (tb_L_law2 b Ls xs g))) (ab_tn 428 (tb_L_law3 b Ls xs g) (ab_tn 512 (tb_L_law4 b Ls xs g) (tb_L_law5 b Ls xs g)))) (ab_tn 814 (ab_tn 666 (tb_L_law6 b Ls xs g) (ab_tn 740 (tb_L_law7 b Ls xs g) (tb_L_law8 b Ls xs g))) (ab_tn 901 (tb_L_law9 b Ls xs g) (ab_tn 968 (tb_L_law10 b Ls xs g) (tb_L_law11 b Ls xs g))))) (ab_tn 1540 (ab_tn 1297 (ab_tn 1132 (tb_L_law12 b Ls xs g) (ab_tn 1217 (tb_L_law13 b Ls xs g) (tb_L_law14 b Ls xs g))) (ab_tn 1371 (tb_L_law15 b Ls xs g) (ab_tn 1451 (tb_L_law16 b Ls xs g) (tb_L_law17 b Ls xs g)))) (ab_tn 1766 (ab_tn 1614 (tb_L_law18 b Ls xs g) (ab_tn 1689 (tb_L_law19 b Ls xs g) (tb_L_law20 b Ls xs g))) (ab_tn 1941 (ab_tn 1846 (tb_L_law21 b Ls xs g) (tb_L_law22 b Ls xs g)) (ab_tn 2032 (tb_L_law23 b Ls xs g) (tb_L_law24 b Ls xs g)))))
theorem st_L_law {p : Program} {l : Launch} {e : Env} {s : State} {m : MethodId} {below : List Frame} {meth : Method} {c : Code} {D : va_G} {C : Nat → ClassId} {g : Nat → Nat} {A : Nat → Prop} {nm : String} {b Ls : Nat} {xs : Nat → Int32} (Cx : ab_Cx l D C g R_law nm code 9 ret ab_T p s m #[Value.ref b] meth c A) (hl : l.stackTraces = false) (hlk : meth.locks = false) (hA : ∀ q, A q → s.heap.size ≤ q) (hX : va_X b Ls xs s s.heap) (hbl : b < s.heap.size) (hbA : ¬ A b) (R2 : ab_R) (XP : ab_XP) : ∀ pc, ab_Sn (ab_W p l e room_1 s m #[Value.ref b] below meth c (lw_Z below #[Value.ref b] s) D C A 9) pc (tb_L_law b Ls xs g R2 XP pc) :=
  ab_tn_ok (ab_tn_ok (ab_tn_ok (ab_tn_ok (st_L_law0 Cx hl hlk hA hX hbl hbA) (ab_tn_ok (st_L_law1 Cx hl hlk hA hX hbl hbA) (st_L_law2 Cx hl hlk hA hX hbl hbA))) (ab_tn_ok (st_L_law3 Cx hl hlk hA hX hbl hbA) (ab_tn_ok (st_L_law4 Cx hl hlk hA hX hbl hbA) (st_L_law5 Cx hl hlk hA hX hbl hbA)))) (ab_tn_ok (ab_tn_ok (st_L_law6 Cx hl hlk hA hX hbl hbA) (ab_tn_ok (st_L_law7 Cx hl hlk hA hX hbl hbA) (st_L_law8 Cx hl hlk hA hX hbl hbA))) (ab_tn_ok (st_L_law9 Cx hl hlk hA hX hbl hbA) (ab_tn_ok (st_L_law10 Cx hl hlk hA hX hbl hbA) (st_L_law11 Cx hl hlk hA hX hbl hbA))))) (ab_tn_ok (ab_tn_ok (ab_tn_ok (st_L_law12 Cx hl hlk hA hX hbl hbA) (ab_tn_ok (st_L_law13 Cx hl hlk hA hX hbl hbA) (st_L_law14 Cx hl hlk hA hX hbl hbA))) (ab_tn_ok (st_L_law15 Cx hl hlk hA hX hbl hbA) (ab_tn_ok (st_L_law16 Cx hl hlk hA hX hbl hbA) (st_L_law17 Cx hl hlk hA hX hbl hbA)))) (ab_tn_ok (ab_tn_ok (st_L_law18 Cx hl hlk hA hX hbl hbA) (ab_tn_ok (st_L_law19 Cx hl hlk hA hX hbl hbA) (st_L_law20 Cx hl hlk hA hX hbl hbA))) (ab_tn_ok (ab_tn_ok (st_L_law21 Cx hl hlk hA hX hbl hbA) (st_L_law22 Cx hl hlk hA hX hbl hbA)) (ab_tn_ok (st_L_law23 Cx hl hlk hA hX hbl hbA) (st_L_law24 Cx hl hlk hA hX hbl hbA)))))
