/-! the law's own instructions -/
theorem aL_0 : decode code 0 = .ok (.new 8, 3) := by decide +kernel
theorem aL_3 : decode code 3 = .ok (.dup, 1) := by decide +kernel
theorem aL_4 : decode code 4 = .ok (.invokespecial 25, 3) := by decide +kernel
theorem aL_7 : decode code 7 = .ok (.astore_n 1, 1) := by decide +kernel
theorem aL_8 : decode code 8 = .ok (.new 26, 3) := by decide +kernel
theorem aL_11 : decode code 11 = .ok (.dup, 1) := by decide +kernel
theorem aL_12 : decode code 12 = .ok (.invokespecial 28, 3) := by decide +kernel
theorem aL_15 : decode code 15 = .ok (.astore_n 2, 1) := by decide +kernel
theorem aL_16 : decode code 16 = .ok (.iconst 1, 1) := by decide +kernel
theorem aL_17 : decode code 17 = .ok (.newarray .long, 2) := by decide +kernel
theorem aL_19 : decode code 19 = .ok (.astore_n 3, 1) := by decide +kernel
theorem aL_20 : decode code 20 = .ok (.iconst 0, 1) := by decide +kernel
theorem aL_21 : decode code 21 = .ok (.istore 4, 2) := by decide +kernel
theorem aL_23 : decode code 23 = .ok (.iload 4, 2) := by decide +kernel
theorem aL_25 : decode code 25 = .ok (.aload_n 0, 1) := by decide +kernel
theorem aL_26 : decode code 26 = .ok (.arraylength, 1) := by decide +kernel
theorem aL_27 : decode code 27 = .ok (.bipush 6, 2) := by decide +kernel
theorem aL_29 : decode code 29 = .ok (.isub, 1) := by decide +kernel
theorem aL_30 : decode code 30 = .ok (.if_icmp .gt 1354, 3) := by decide +kernel
theorem aL_33 : decode code 33 = .ok (.aload_n 0, 1) := by decide +kernel
theorem aL_34 : decode code 34 = .ok (.iload 4, 2) := by decide +kernel
theorem aL_36 : decode code 36 = .ok (.iaload, 1) := by decide +kernel
theorem aL_37 : decode code 37 = .ok (.bipush 31, 2) := by decide +kernel
theorem aL_39 : decode code 39 = .ok (.iand, 1) := by decide +kernel
theorem aL_40 : decode code 40 = .ok (.tableswitch 1338 0 30 #[140, 213, 238, 251, 264, 332, 400, 437, 486, 499, 524, 549, 617, 666, 691, 728, 831, 904, 953, 1002, 1039, 1064, 1089, 1114, 1139, 1200, 1237, 1250, 1263, 1288, 1313], 140) := by decide +kernel
theorem aL_180 : decode code 180 = .ok (.aload_n 1, 1) := by decide +kernel
theorem aL_181 : decode code 181 = .ok (.aload_n 0, 1) := by decide +kernel
theorem aL_182 : decode code 182 = .ok (.iload 4, 2) := by decide +kernel
theorem aL_184 : decode code 184 = .ok (.iconst 1, 1) := by decide +kernel
theorem aL_185 : decode code 185 = .ok (.iadd, 1) := by decide +kernel
theorem aL_186 : decode code 186 = .ok (.iaload, 1) := by decide +kernel
theorem aL_187 : decode code 187 = .ok (.aload_n 0, 1) := by decide +kernel
theorem aL_188 : decode code 188 = .ok (.iload 4, 2) := by decide +kernel
theorem aL_190 : decode code 190 = .ok (.iconst 2, 1) := by decide +kernel
theorem aL_191 : decode code 191 = .ok (.iadd, 1) := by decide +kernel
theorem aL_192 : decode code 192 = .ok (.iaload, 1) := by decide +kernel
theorem aL_193 : decode code 193 = .ok (.aload_n 0, 1) := by decide +kernel
theorem aL_194 : decode code 194 = .ok (.iload 4, 2) := by decide +kernel
theorem aL_196 : decode code 196 = .ok (.iconst 3, 1) := by decide +kernel
theorem aL_197 : decode code 197 = .ok (.iadd, 1) := by decide +kernel
theorem aL_198 : decode code 198 = .ok (.iaload, 1) := by decide +kernel
theorem aL_199 : decode code 199 = .ok (.aload_n 0, 1) := by decide +kernel
theorem aL_200 : decode code 200 = .ok (.iload 4, 2) := by decide +kernel
theorem aL_202 : decode code 202 = .ok (.iconst 4, 1) := by decide +kernel
theorem aL_203 : decode code 203 = .ok (.iadd, 1) := by decide +kernel
theorem aL_204 : decode code 204 = .ok (.iaload, 1) := by decide +kernel
theorem aL_205 : decode code 205 = .ok (.aload_n 0, 1) := by decide +kernel
theorem aL_206 : decode code 206 = .ok (.iload 4, 2) := by decide +kernel
theorem aL_208 : decode code 208 = .ok (.iconst 5, 1) := by decide +kernel
theorem aL_209 : decode code 209 = .ok (.iadd, 1) := by decide +kernel
theorem aL_210 : decode code 210 = .ok (.iaload, 1) := by decide +kernel
theorem aL_211 : decode code 211 = .ok (.invokevirtual 29, 3) := by decide +kernel
theorem aL_214 : decode code 214 = .ok (.aload_n 2, 1) := by decide +kernel
theorem aL_215 : decode code 215 = .ok (.aload_n 0, 1) := by decide +kernel
theorem aL_216 : decode code 216 = .ok (.iload 4, 2) := by decide +kernel
theorem aL_218 : decode code 218 = .ok (.iconst 1, 1) := by decide +kernel
theorem aL_219 : decode code 219 = .ok (.iadd, 1) := by decide +kernel
theorem aL_220 : decode code 220 = .ok (.iaload, 1) := by decide +kernel
theorem aL_221 : decode code 221 = .ok (.aload_n 0, 1) := by decide +kernel
theorem aL_222 : decode code 222 = .ok (.iload 4, 2) := by decide +kernel
theorem aL_224 : decode code 224 = .ok (.iconst 2, 1) := by decide +kernel
theorem aL_225 : decode code 225 = .ok (.iadd, 1) := by decide +kernel
theorem aL_226 : decode code 226 = .ok (.iaload, 1) := by decide +kernel
theorem aL_227 : decode code 227 = .ok (.aload_n 0, 1) := by decide +kernel
theorem aL_228 : decode code 228 = .ok (.iload 4, 2) := by decide +kernel
theorem aL_230 : decode code 230 = .ok (.iconst 3, 1) := by decide +kernel
theorem aL_231 : decode code 231 = .ok (.iadd, 1) := by decide +kernel
theorem aL_232 : decode code 232 = .ok (.iaload, 1) := by decide +kernel
theorem aL_233 : decode code 233 = .ok (.aload_n 0, 1) := by decide +kernel
theorem aL_234 : decode code 234 = .ok (.iload 4, 2) := by decide +kernel
theorem aL_236 : decode code 236 = .ok (.iconst 4, 1) := by decide +kernel
theorem aL_237 : decode code 237 = .ok (.iadd, 1) := by decide +kernel
theorem aL_238 : decode code 238 = .ok (.iaload, 1) := by decide +kernel
theorem aL_239 : decode code 239 = .ok (.aload_n 0, 1) := by decide +kernel
theorem aL_240 : decode code 240 = .ok (.iload 4, 2) := by decide +kernel
theorem aL_242 : decode code 242 = .ok (.iconst 5, 1) := by decide +kernel
theorem aL_243 : decode code 243 = .ok (.iadd, 1) := by decide +kernel
theorem aL_244 : decode code 244 = .ok (.iaload, 1) := by decide +kernel
theorem aL_245 : decode code 245 = .ok (.invokevirtual 33, 3) := by decide +kernel
theorem aL_248 : decode code 248 = .ok (.if_icmp .eq 1130, 3) := by decide +kernel
theorem aL_251 : decode code 251 = .ok (.iconst 0, 1) := by decide +kernel
theorem aL_252 : decode code 252 = .ok (.ireturn, 1) := by decide +kernel
theorem aL_253 : decode code 253 = .ok (.aload_n 1, 1) := by decide +kernel
theorem aL_254 : decode code 254 = .ok (.aload_n 0, 1) := by decide +kernel
theorem aL_255 : decode code 255 = .ok (.iload 4, 2) := by decide +kernel
theorem aL_257 : decode code 257 = .ok (.iconst 1, 1) := by decide +kernel
theorem aL_258 : decode code 258 = .ok (.iadd, 1) := by decide +kernel
theorem aL_259 : decode code 259 = .ok (.iaload, 1) := by decide +kernel
theorem aL_260 : decode code 260 = .ok (.invokevirtual 34, 3) := by decide +kernel
theorem aL_263 : decode code 263 = .ok (.aload_n 2, 1) := by decide +kernel
theorem aL_264 : decode code 264 = .ok (.aload_n 0, 1) := by decide +kernel
theorem aL_265 : decode code 265 = .ok (.iload 4, 2) := by decide +kernel
theorem aL_267 : decode code 267 = .ok (.iconst 1, 1) := by decide +kernel
theorem aL_268 : decode code 268 = .ok (.iadd, 1) := by decide +kernel
theorem aL_269 : decode code 269 = .ok (.iaload, 1) := by decide +kernel
theorem aL_270 : decode code 270 = .ok (.invokevirtual 38, 3) := by decide +kernel
theorem aL_273 : decode code 273 = .ok (.if_icmp .eq 1105, 3) := by decide +kernel
theorem aL_276 : decode code 276 = .ok (.iconst 0, 1) := by decide +kernel
theorem aL_277 : decode code 277 = .ok (.ireturn, 1) := by decide +kernel
theorem aL_278 : decode code 278 = .ok (.aload_n 1, 1) := by decide +kernel
theorem aL_279 : decode code 279 = .ok (.invokevirtual 39, 3) := by decide +kernel
theorem aL_282 : decode code 282 = .ok (.aload_n 2, 1) := by decide +kernel
theorem aL_283 : decode code 283 = .ok (.invokevirtual 43, 3) := by decide +kernel
theorem aL_286 : decode code 286 = .ok (.if_icmp .eq 1092, 3) := by decide +kernel
theorem aL_289 : decode code 289 = .ok (.iconst 0, 1) := by decide +kernel
theorem aL_290 : decode code 290 = .ok (.ireturn, 1) := by decide +kernel
theorem aL_291 : decode code 291 = .ok (.aload_n 1, 1) := by decide +kernel
theorem aL_292 : decode code 292 = .ok (.invokevirtual 44, 3) := by decide +kernel
theorem aL_295 : decode code 295 = .ok (.aload_n 2, 1) := by decide +kernel
theorem aL_296 : decode code 296 = .ok (.invokevirtual 47, 3) := by decide +kernel
theorem aL_299 : decode code 299 = .ok (.if_icmp .eq 1079, 3) := by decide +kernel
theorem aL_302 : decode code 302 = .ok (.iconst 0, 1) := by decide +kernel
theorem aL_303 : decode code 303 = .ok (.ireturn, 1) := by decide +kernel
theorem aL_304 : decode code 304 = .ok (.aload_n 1, 1) := by decide +kernel
theorem aL_305 : decode code 305 = .ok (.aload_n 0, 1) := by decide +kernel
theorem aL_306 : decode code 306 = .ok (.iload 4, 2) := by decide +kernel
theorem aL_308 : decode code 308 = .ok (.iconst 1, 1) := by decide +kernel
theorem aL_309 : decode code 309 = .ok (.iadd, 1) := by decide +kernel
theorem aL_310 : decode code 310 = .ok (.iaload, 1) := by decide +kernel
theorem aL_311 : decode code 311 = .ok (.aload_n 0, 1) := by decide +kernel
theorem aL_312 : decode code 312 = .ok (.iload 4, 2) := by decide +kernel
theorem aL_314 : decode code 314 = .ok (.iconst 2, 1) := by decide +kernel
theorem aL_315 : decode code 315 = .ok (.iadd, 1) := by decide +kernel
theorem aL_316 : decode code 316 = .ok (.iaload, 1) := by decide +kernel
theorem aL_317 : decode code 317 = .ok (.aload_n 3, 1) := by decide +kernel
theorem aL_318 : decode code 318 = .ok (.invokestatic 48, 3) := by decide +kernel
theorem aL_321 : decode code 321 = .ok (.istore 5, 2) := by decide +kernel
theorem aL_323 : decode code 323 = .ok (.aload_n 2, 1) := by decide +kernel
theorem aL_324 : decode code 324 = .ok (.aload_n 0, 1) := by decide +kernel
theorem aL_325 : decode code 325 = .ok (.iload 4, 2) := by decide +kernel
theorem aL_327 : decode code 327 = .ok (.iconst 1, 1) := by decide +kernel
theorem aL_328 : decode code 328 = .ok (.iadd, 1) := by decide +kernel
theorem aL_329 : decode code 329 = .ok (.iaload, 1) := by decide +kernel
theorem aL_330 : decode code 330 = .ok (.aload_n 0, 1) := by decide +kernel
theorem aL_331 : decode code 331 = .ok (.iload 4, 2) := by decide +kernel
theorem aL_333 : decode code 333 = .ok (.iconst 2, 1) := by decide +kernel
theorem aL_334 : decode code 334 = .ok (.iadd, 1) := by decide +kernel
theorem aL_335 : decode code 335 = .ok (.iaload, 1) := by decide +kernel
theorem aL_336 : decode code 336 = .ok (.invokevirtual 53, 3) := by decide +kernel
theorem aL_339 : decode code 339 = .ok (.istore 6, 2) := by decide +kernel
theorem aL_341 : decode code 341 = .ok (.aload_n 2, 1) := by decide +kernel
theorem aL_342 : decode code 342 = .ok (.invokevirtual 54, 3) := by decide +kernel
theorem aL_345 : decode code 345 = .ok (.iload 5, 2) := by decide +kernel
theorem aL_347 : decode code 347 = .ok (.if_icmp .eq 5, 3) := by decide +kernel
theorem aL_350 : decode code 350 = .ok (.iconst 0, 1) := by decide +kernel
theorem aL_351 : decode code 351 = .ok (.ireturn, 1) := by decide +kernel
theorem aL_352 : decode code 352 = .ok (.iload 5, 2) := by decide +kernel
theorem aL_354 : decode code 354 = .ok (.ifCond .ne 15, 3) := by decide +kernel
theorem aL_357 : decode code 357 = .ok (.aload_n 3, 1) := by decide +kernel
theorem aL_358 : decode code 358 = .ok (.iconst 0, 1) := by decide +kernel
theorem aL_359 : decode code 359 = .ok (.laload, 1) := by decide +kernel
theorem aL_360 : decode code 360 = .ok (.iload 6, 2) := by decide +kernel
theorem aL_362 : decode code 362 = .ok (.i2l, 1) := by decide +kernel
theorem aL_363 : decode code 363 = .ok (.lcmp, 1) := by decide +kernel
theorem aL_364 : decode code 364 = .ok (.ifCond .eq 5, 3) := by decide +kernel
theorem aL_367 : decode code 367 = .ok (.iconst 0, 1) := by decide +kernel
theorem aL_368 : decode code 368 = .ok (.ireturn, 1) := by decide +kernel
theorem aL_369 : decode code 369 = .ok (.goto 1009, 3) := by decide +kernel
theorem aL_372 : decode code 372 = .ok (.aload_n 1, 1) := by decide +kernel
theorem aL_373 : decode code 373 = .ok (.aload_n 0, 1) := by decide +kernel
theorem aL_374 : decode code 374 = .ok (.iload 4, 2) := by decide +kernel
theorem aL_376 : decode code 376 = .ok (.iconst 1, 1) := by decide +kernel
theorem aL_377 : decode code 377 = .ok (.iadd, 1) := by decide +kernel
theorem aL_378 : decode code 378 = .ok (.iaload, 1) := by decide +kernel
theorem aL_379 : decode code 379 = .ok (.aload_n 0, 1) := by decide +kernel
theorem aL_380 : decode code 380 = .ok (.iload 4, 2) := by decide +kernel
theorem aL_382 : decode code 382 = .ok (.iconst 2, 1) := by decide +kernel
theorem aL_383 : decode code 383 = .ok (.iadd, 1) := by decide +kernel
theorem aL_384 : decode code 384 = .ok (.iaload, 1) := by decide +kernel
theorem aL_385 : decode code 385 = .ok (.aload_n 3, 1) := by decide +kernel
theorem aL_386 : decode code 386 = .ok (.invokestatic 57, 3) := by decide +kernel
theorem aL_389 : decode code 389 = .ok (.istore 5, 2) := by decide +kernel
theorem aL_391 : decode code 391 = .ok (.aload_n 2, 1) := by decide +kernel
theorem aL_392 : decode code 392 = .ok (.aload_n 0, 1) := by decide +kernel
theorem aL_393 : decode code 393 = .ok (.iload 4, 2) := by decide +kernel
theorem aL_395 : decode code 395 = .ok (.iconst 1, 1) := by decide +kernel
theorem aL_396 : decode code 396 = .ok (.iadd, 1) := by decide +kernel
theorem aL_397 : decode code 397 = .ok (.iaload, 1) := by decide +kernel
theorem aL_398 : decode code 398 = .ok (.aload_n 0, 1) := by decide +kernel
theorem aL_399 : decode code 399 = .ok (.iload 4, 2) := by decide +kernel
theorem aL_401 : decode code 401 = .ok (.iconst 2, 1) := by decide +kernel
theorem aL_402 : decode code 402 = .ok (.iadd, 1) := by decide +kernel
theorem aL_403 : decode code 403 = .ok (.iaload, 1) := by decide +kernel
theorem aL_404 : decode code 404 = .ok (.invokevirtual 59, 3) := by decide +kernel
theorem aL_407 : decode code 407 = .ok (.istore 6, 2) := by decide +kernel
theorem aL_409 : decode code 409 = .ok (.aload_n 2, 1) := by decide +kernel
theorem aL_410 : decode code 410 = .ok (.invokevirtual 54, 3) := by decide +kernel
theorem aL_413 : decode code 413 = .ok (.iload 5, 2) := by decide +kernel
theorem aL_415 : decode code 415 = .ok (.if_icmp .eq 5, 3) := by decide +kernel
theorem aL_418 : decode code 418 = .ok (.iconst 0, 1) := by decide +kernel
theorem aL_419 : decode code 419 = .ok (.ireturn, 1) := by decide +kernel
theorem aL_420 : decode code 420 = .ok (.iload 5, 2) := by decide +kernel
theorem aL_422 : decode code 422 = .ok (.ifCond .ne 15, 3) := by decide +kernel
theorem aL_425 : decode code 425 = .ok (.aload_n 3, 1) := by decide +kernel
theorem aL_426 : decode code 426 = .ok (.iconst 0, 1) := by decide +kernel
theorem aL_427 : decode code 427 = .ok (.laload, 1) := by decide +kernel
theorem aL_428 : decode code 428 = .ok (.iload 6, 2) := by decide +kernel
theorem aL_430 : decode code 430 = .ok (.i2l, 1) := by decide +kernel
theorem aL_431 : decode code 431 = .ok (.lcmp, 1) := by decide +kernel
theorem aL_432 : decode code 432 = .ok (.ifCond .eq 5, 3) := by decide +kernel
theorem aL_435 : decode code 435 = .ok (.iconst 0, 1) := by decide +kernel
theorem aL_436 : decode code 436 = .ok (.ireturn, 1) := by decide +kernel
theorem aL_437 : decode code 437 = .ok (.goto 941, 3) := by decide +kernel
theorem aL_440 : decode code 440 = .ok (.aload_n 1, 1) := by decide +kernel
theorem aL_441 : decode code 441 = .ok (.aload_n 0, 1) := by decide +kernel
theorem aL_442 : decode code 442 = .ok (.iload 4, 2) := by decide +kernel
theorem aL_444 : decode code 444 = .ok (.iconst 1, 1) := by decide +kernel
theorem aL_445 : decode code 445 = .ok (.iadd, 1) := by decide +kernel
theorem aL_446 : decode code 446 = .ok (.iaload, 1) := by decide +kernel
theorem aL_447 : decode code 447 = .ok (.aload_n 0, 1) := by decide +kernel
theorem aL_448 : decode code 448 = .ok (.iload 4, 2) := by decide +kernel
theorem aL_450 : decode code 450 = .ok (.iconst 2, 1) := by decide +kernel
theorem aL_451 : decode code 451 = .ok (.iadd, 1) := by decide +kernel
theorem aL_452 : decode code 452 = .ok (.iaload, 1) := by decide +kernel
theorem aL_453 : decode code 453 = .ok (.invokevirtual 60, 3) := by decide +kernel
theorem aL_456 : decode code 456 = .ok (.aload_n 2, 1) := by decide +kernel
theorem aL_457 : decode code 457 = .ok (.aload_n 0, 1) := by decide +kernel
theorem aL_458 : decode code 458 = .ok (.iload 4, 2) := by decide +kernel
theorem aL_460 : decode code 460 = .ok (.iconst 1, 1) := by decide +kernel
theorem aL_461 : decode code 461 = .ok (.iadd, 1) := by decide +kernel
theorem aL_462 : decode code 462 = .ok (.iaload, 1) := by decide +kernel
theorem aL_463 : decode code 463 = .ok (.aload_n 0, 1) := by decide +kernel
theorem aL_464 : decode code 464 = .ok (.iload 4, 2) := by decide +kernel
theorem aL_466 : decode code 466 = .ok (.iconst 2, 1) := by decide +kernel
theorem aL_467 : decode code 467 = .ok (.iadd, 1) := by decide +kernel
theorem aL_468 : decode code 468 = .ok (.iaload, 1) := by decide +kernel
theorem aL_469 : decode code 469 = .ok (.invokevirtual 63, 3) := by decide +kernel
theorem aL_472 : decode code 472 = .ok (.if_icmp .eq 906, 3) := by decide +kernel
theorem aL_475 : decode code 475 = .ok (.iconst 0, 1) := by decide +kernel
theorem aL_476 : decode code 476 = .ok (.ireturn, 1) := by decide +kernel
theorem aL_477 : decode code 477 = .ok (.aload_n 1, 1) := by decide +kernel
theorem aL_478 : decode code 478 = .ok (.aload_n 0, 1) := by decide +kernel
theorem aL_479 : decode code 479 = .ok (.iload 4, 2) := by decide +kernel
theorem aL_481 : decode code 481 = .ok (.iconst 1, 1) := by decide +kernel
theorem aL_482 : decode code 482 = .ok (.iadd, 1) := by decide +kernel
theorem aL_483 : decode code 483 = .ok (.iaload, 1) := by decide +kernel
theorem aL_484 : decode code 484 = .ok (.aload_n 0, 1) := by decide +kernel
theorem aL_485 : decode code 485 = .ok (.iload 4, 2) := by decide +kernel
theorem aL_487 : decode code 487 = .ok (.iconst 2, 1) := by decide +kernel
theorem aL_488 : decode code 488 = .ok (.iadd, 1) := by decide +kernel
theorem aL_489 : decode code 489 = .ok (.iaload, 1) := by decide +kernel
theorem aL_490 : decode code 490 = .ok (.aload_n 0, 1) := by decide +kernel
theorem aL_491 : decode code 491 = .ok (.iload 4, 2) := by decide +kernel
theorem aL_493 : decode code 493 = .ok (.iconst 3, 1) := by decide +kernel
theorem aL_494 : decode code 494 = .ok (.iadd, 1) := by decide +kernel
theorem aL_495 : decode code 495 = .ok (.iaload, 1) := by decide +kernel
theorem aL_496 : decode code 496 = .ok (.invokevirtual 64, 3) := by decide +kernel
theorem aL_499 : decode code 499 = .ok (.aload_n 2, 1) := by decide +kernel
theorem aL_500 : decode code 500 = .ok (.aload_n 0, 1) := by decide +kernel
theorem aL_501 : decode code 501 = .ok (.iload 4, 2) := by decide +kernel
theorem aL_503 : decode code 503 = .ok (.iconst 1, 1) := by decide +kernel
theorem aL_504 : decode code 504 = .ok (.iadd, 1) := by decide +kernel
theorem aL_505 : decode code 505 = .ok (.iaload, 1) := by decide +kernel
theorem aL_506 : decode code 506 = .ok (.aload_n 0, 1) := by decide +kernel
theorem aL_507 : decode code 507 = .ok (.iload 4, 2) := by decide +kernel
theorem aL_509 : decode code 509 = .ok (.iconst 2, 1) := by decide +kernel
theorem aL_510 : decode code 510 = .ok (.iadd, 1) := by decide +kernel
theorem aL_511 : decode code 511 = .ok (.iaload, 1) := by decide +kernel
theorem aL_512 : decode code 512 = .ok (.aload_n 0, 1) := by decide +kernel
theorem aL_513 : decode code 513 = .ok (.iload 4, 2) := by decide +kernel
theorem aL_515 : decode code 515 = .ok (.iconst 3, 1) := by decide +kernel
theorem aL_516 : decode code 516 = .ok (.iadd, 1) := by decide +kernel
theorem aL_517 : decode code 517 = .ok (.iaload, 1) := by decide +kernel
theorem aL_518 : decode code 518 = .ok (.invokevirtual 68, 3) := by decide +kernel
theorem aL_521 : decode code 521 = .ok (.if_icmp .eq 857, 3) := by decide +kernel
theorem aL_524 : decode code 524 = .ok (.iconst 0, 1) := by decide +kernel
theorem aL_525 : decode code 525 = .ok (.ireturn, 1) := by decide +kernel
theorem aL_526 : decode code 526 = .ok (.aload_n 1, 1) := by decide +kernel
theorem aL_527 : decode code 527 = .ok (.invokevirtual 69, 3) := by decide +kernel
theorem aL_530 : decode code 530 = .ok (.aload_n 2, 1) := by decide +kernel
theorem aL_531 : decode code 531 = .ok (.invokevirtual 72, 3) := by decide +kernel
theorem aL_534 : decode code 534 = .ok (.if_icmp .eq 844, 3) := by decide +kernel
theorem aL_537 : decode code 537 = .ok (.iconst 0, 1) := by decide +kernel
theorem aL_538 : decode code 538 = .ok (.ireturn, 1) := by decide +kernel
theorem aL_539 : decode code 539 = .ok (.aload_n 1, 1) := by decide +kernel
theorem aL_540 : decode code 540 = .ok (.aload_n 0, 1) := by decide +kernel
theorem aL_541 : decode code 541 = .ok (.iload 4, 2) := by decide +kernel
theorem aL_543 : decode code 543 = .ok (.iconst 1, 1) := by decide +kernel
theorem aL_544 : decode code 544 = .ok (.iadd, 1) := by decide +kernel
theorem aL_545 : decode code 545 = .ok (.iaload, 1) := by decide +kernel
theorem aL_546 : decode code 546 = .ok (.invokevirtual 73, 3) := by decide +kernel
theorem aL_549 : decode code 549 = .ok (.aload_n 2, 1) := by decide +kernel
theorem aL_550 : decode code 550 = .ok (.aload_n 0, 1) := by decide +kernel
theorem aL_551 : decode code 551 = .ok (.iload 4, 2) := by decide +kernel
theorem aL_553 : decode code 553 = .ok (.iconst 1, 1) := by decide +kernel
theorem aL_554 : decode code 554 = .ok (.iadd, 1) := by decide +kernel
theorem aL_555 : decode code 555 = .ok (.iaload, 1) := by decide +kernel
theorem aL_556 : decode code 556 = .ok (.invokevirtual 77, 3) := by decide +kernel
theorem aL_559 : decode code 559 = .ok (.if_icmp .eq 819, 3) := by decide +kernel
theorem aL_562 : decode code 562 = .ok (.iconst 0, 1) := by decide +kernel
theorem aL_563 : decode code 563 = .ok (.ireturn, 1) := by decide +kernel
theorem aL_564 : decode code 564 = .ok (.aload_n 1, 1) := by decide +kernel
theorem aL_565 : decode code 565 = .ok (.aload_n 0, 1) := by decide +kernel
theorem aL_566 : decode code 566 = .ok (.iload 4, 2) := by decide +kernel
theorem aL_568 : decode code 568 = .ok (.iconst 1, 1) := by decide +kernel
theorem aL_569 : decode code 569 = .ok (.iadd, 1) := by decide +kernel
theorem aL_570 : decode code 570 = .ok (.iaload, 1) := by decide +kernel
theorem aL_571 : decode code 571 = .ok (.invokevirtual 78, 3) := by decide +kernel
theorem aL_574 : decode code 574 = .ok (.aload_n 2, 1) := by decide +kernel
theorem aL_575 : decode code 575 = .ok (.aload_n 0, 1) := by decide +kernel
theorem aL_576 : decode code 576 = .ok (.iload 4, 2) := by decide +kernel
theorem aL_578 : decode code 578 = .ok (.iconst 1, 1) := by decide +kernel
theorem aL_579 : decode code 579 = .ok (.iadd, 1) := by decide +kernel
theorem aL_580 : decode code 580 = .ok (.iaload, 1) := by decide +kernel
theorem aL_581 : decode code 581 = .ok (.invokevirtual 81, 3) := by decide +kernel
theorem aL_584 : decode code 584 = .ok (.if_icmp .eq 794, 3) := by decide +kernel
theorem aL_587 : decode code 587 = .ok (.iconst 0, 1) := by decide +kernel
theorem aL_588 : decode code 588 = .ok (.ireturn, 1) := by decide +kernel
theorem aL_589 : decode code 589 = .ok (.aload_n 1, 1) := by decide +kernel
theorem aL_590 : decode code 590 = .ok (.aload_n 0, 1) := by decide +kernel
theorem aL_591 : decode code 591 = .ok (.iload 4, 2) := by decide +kernel
theorem aL_593 : decode code 593 = .ok (.iconst 1, 1) := by decide +kernel
theorem aL_594 : decode code 594 = .ok (.iadd, 1) := by decide +kernel
theorem aL_595 : decode code 595 = .ok (.iaload, 1) := by decide +kernel
theorem aL_596 : decode code 596 = .ok (.aload_n 0, 1) := by decide +kernel
theorem aL_597 : decode code 597 = .ok (.iload 4, 2) := by decide +kernel
theorem aL_599 : decode code 599 = .ok (.iconst 2, 1) := by decide +kernel
theorem aL_600 : decode code 600 = .ok (.iadd, 1) := by decide +kernel
theorem aL_601 : decode code 601 = .ok (.iaload, 1) := by decide +kernel
theorem aL_602 : decode code 602 = .ok (.aload_n 3, 1) := by decide +kernel
theorem aL_603 : decode code 603 = .ok (.invokestatic 82, 3) := by decide +kernel
theorem aL_606 : decode code 606 = .ok (.istore 5, 2) := by decide +kernel
theorem aL_608 : decode code 608 = .ok (.aload_n 2, 1) := by decide +kernel
theorem aL_609 : decode code 609 = .ok (.aload_n 0, 1) := by decide +kernel
theorem aL_610 : decode code 610 = .ok (.iload 4, 2) := by decide +kernel
theorem aL_612 : decode code 612 = .ok (.iconst 1, 1) := by decide +kernel
theorem aL_613 : decode code 613 = .ok (.iadd, 1) := by decide +kernel
theorem aL_614 : decode code 614 = .ok (.iaload, 1) := by decide +kernel
theorem aL_615 : decode code 615 = .ok (.aload_n 0, 1) := by decide +kernel
theorem aL_616 : decode code 616 = .ok (.iload 4, 2) := by decide +kernel
theorem aL_618 : decode code 618 = .ok (.iconst 2, 1) := by decide +kernel
theorem aL_619 : decode code 619 = .ok (.iadd, 1) := by decide +kernel
theorem aL_620 : decode code 620 = .ok (.iaload, 1) := by decide +kernel
theorem aL_621 : decode code 621 = .ok (.invokevirtual 84, 3) := by decide +kernel
theorem aL_624 : decode code 624 = .ok (.istore 6, 2) := by decide +kernel
theorem aL_626 : decode code 626 = .ok (.aload_n 2, 1) := by decide +kernel
theorem aL_627 : decode code 627 = .ok (.invokevirtual 54, 3) := by decide +kernel
theorem aL_630 : decode code 630 = .ok (.iload 5, 2) := by decide +kernel
theorem aL_632 : decode code 632 = .ok (.if_icmp .eq 5, 3) := by decide +kernel
theorem aL_635 : decode code 635 = .ok (.iconst 0, 1) := by decide +kernel
theorem aL_636 : decode code 636 = .ok (.ireturn, 1) := by decide +kernel
theorem aL_637 : decode code 637 = .ok (.iload 5, 2) := by decide +kernel
theorem aL_639 : decode code 639 = .ok (.ifCond .ne 15, 3) := by decide +kernel
theorem aL_642 : decode code 642 = .ok (.aload_n 3, 1) := by decide +kernel
theorem aL_643 : decode code 643 = .ok (.iconst 0, 1) := by decide +kernel
theorem aL_644 : decode code 644 = .ok (.laload, 1) := by decide +kernel
theorem aL_645 : decode code 645 = .ok (.iload 6, 2) := by decide +kernel
theorem aL_647 : decode code 647 = .ok (.i2l, 1) := by decide +kernel
theorem aL_648 : decode code 648 = .ok (.lcmp, 1) := by decide +kernel
theorem aL_649 : decode code 649 = .ok (.ifCond .eq 5, 3) := by decide +kernel
theorem aL_652 : decode code 652 = .ok (.iconst 0, 1) := by decide +kernel
theorem aL_653 : decode code 653 = .ok (.ireturn, 1) := by decide +kernel
theorem aL_654 : decode code 654 = .ok (.goto 724, 3) := by decide +kernel
theorem aL_657 : decode code 657 = .ok (.aload_n 1, 1) := by decide +kernel
theorem aL_658 : decode code 658 = .ok (.aload_n 0, 1) := by decide +kernel
theorem aL_659 : decode code 659 = .ok (.iload 4, 2) := by decide +kernel
theorem aL_661 : decode code 661 = .ok (.iconst 1, 1) := by decide +kernel
theorem aL_662 : decode code 662 = .ok (.iadd, 1) := by decide +kernel
theorem aL_663 : decode code 663 = .ok (.iaload, 1) := by decide +kernel
theorem aL_664 : decode code 664 = .ok (.aload_n 0, 1) := by decide +kernel
theorem aL_665 : decode code 665 = .ok (.iload 4, 2) := by decide +kernel
theorem aL_667 : decode code 667 = .ok (.iconst 2, 1) := by decide +kernel
theorem aL_668 : decode code 668 = .ok (.iadd, 1) := by decide +kernel
theorem aL_669 : decode code 669 = .ok (.iaload, 1) := by decide +kernel
theorem aL_670 : decode code 670 = .ok (.aload_n 0, 1) := by decide +kernel
theorem aL_671 : decode code 671 = .ok (.iload 4, 2) := by decide +kernel
theorem aL_673 : decode code 673 = .ok (.iconst 3, 1) := by decide +kernel
theorem aL_674 : decode code 674 = .ok (.iadd, 1) := by decide +kernel
theorem aL_675 : decode code 675 = .ok (.iaload, 1) := by decide +kernel
theorem aL_676 : decode code 676 = .ok (.invokevirtual 85, 3) := by decide +kernel
theorem aL_679 : decode code 679 = .ok (.aload_n 2, 1) := by decide +kernel
theorem aL_680 : decode code 680 = .ok (.aload_n 0, 1) := by decide +kernel
theorem aL_681 : decode code 681 = .ok (.iload 4, 2) := by decide +kernel
theorem aL_683 : decode code 683 = .ok (.iconst 1, 1) := by decide +kernel
theorem aL_684 : decode code 684 = .ok (.iadd, 1) := by decide +kernel
theorem aL_685 : decode code 685 = .ok (.iaload, 1) := by decide +kernel
theorem aL_686 : decode code 686 = .ok (.aload_n 0, 1) := by decide +kernel
theorem aL_687 : decode code 687 = .ok (.iload 4, 2) := by decide +kernel
theorem aL_689 : decode code 689 = .ok (.iconst 2, 1) := by decide +kernel
theorem aL_690 : decode code 690 = .ok (.iadd, 1) := by decide +kernel
theorem aL_691 : decode code 691 = .ok (.iaload, 1) := by decide +kernel
theorem aL_692 : decode code 692 = .ok (.aload_n 0, 1) := by decide +kernel
theorem aL_693 : decode code 693 = .ok (.iload 4, 2) := by decide +kernel
theorem aL_695 : decode code 695 = .ok (.iconst 3, 1) := by decide +kernel
theorem aL_696 : decode code 696 = .ok (.iadd, 1) := by decide +kernel
theorem aL_697 : decode code 697 = .ok (.iaload, 1) := by decide +kernel
theorem aL_698 : decode code 698 = .ok (.invokevirtual 88, 3) := by decide +kernel
theorem aL_701 : decode code 701 = .ok (.if_icmp .eq 677, 3) := by decide +kernel
theorem aL_704 : decode code 704 = .ok (.iconst 0, 1) := by decide +kernel
theorem aL_705 : decode code 705 = .ok (.ireturn, 1) := by decide +kernel
theorem aL_706 : decode code 706 = .ok (.aload_n 1, 1) := by decide +kernel
theorem aL_707 : decode code 707 = .ok (.aload_n 0, 1) := by decide +kernel
theorem aL_708 : decode code 708 = .ok (.iload 4, 2) := by decide +kernel
theorem aL_710 : decode code 710 = .ok (.iconst 1, 1) := by decide +kernel
theorem aL_711 : decode code 711 = .ok (.iadd, 1) := by decide +kernel
theorem aL_712 : decode code 712 = .ok (.iaload, 1) := by decide +kernel
theorem aL_713 : decode code 713 = .ok (.invokevirtual 89, 3) := by decide +kernel
theorem aL_716 : decode code 716 = .ok (.aload_n 2, 1) := by decide +kernel
theorem aL_717 : decode code 717 = .ok (.aload_n 0, 1) := by decide +kernel
theorem aL_718 : decode code 718 = .ok (.iload 4, 2) := by decide +kernel
theorem aL_720 : decode code 720 = .ok (.iconst 1, 1) := by decide +kernel
theorem aL_721 : decode code 721 = .ok (.iadd, 1) := by decide +kernel
theorem aL_722 : decode code 722 = .ok (.iaload, 1) := by decide +kernel
theorem aL_723 : decode code 723 = .ok (.invokevirtual 92, 3) := by decide +kernel
theorem aL_726 : decode code 726 = .ok (.if_icmp .eq 652, 3) := by decide +kernel
theorem aL_729 : decode code 729 = .ok (.iconst 0, 1) := by decide +kernel
theorem aL_730 : decode code 730 = .ok (.ireturn, 1) := by decide +kernel
theorem aL_731 : decode code 731 = .ok (.aload_n 1, 1) := by decide +kernel
theorem aL_732 : decode code 732 = .ok (.aload_n 0, 1) := by decide +kernel
theorem aL_733 : decode code 733 = .ok (.iload 4, 2) := by decide +kernel
theorem aL_735 : decode code 735 = .ok (.iconst 1, 1) := by decide +kernel
theorem aL_736 : decode code 736 = .ok (.iadd, 1) := by decide +kernel
theorem aL_737 : decode code 737 = .ok (.iaload, 1) := by decide +kernel
theorem aL_738 : decode code 738 = .ok (.aload_n 0, 1) := by decide +kernel
theorem aL_739 : decode code 739 = .ok (.iload 4, 2) := by decide +kernel
theorem aL_741 : decode code 741 = .ok (.iconst 2, 1) := by decide +kernel
theorem aL_742 : decode code 742 = .ok (.iadd, 1) := by decide +kernel
theorem aL_743 : decode code 743 = .ok (.iaload, 1) := by decide +kernel
theorem aL_744 : decode code 744 = .ok (.invokevirtual 93, 3) := by decide +kernel
theorem aL_747 : decode code 747 = .ok (.aload_n 2, 1) := by decide +kernel
theorem aL_748 : decode code 748 = .ok (.aload_n 0, 1) := by decide +kernel
theorem aL_749 : decode code 749 = .ok (.iload 4, 2) := by decide +kernel
theorem aL_751 : decode code 751 = .ok (.iconst 1, 1) := by decide +kernel
theorem aL_752 : decode code 752 = .ok (.iadd, 1) := by decide +kernel
theorem aL_753 : decode code 753 = .ok (.iaload, 1) := by decide +kernel
theorem aL_754 : decode code 754 = .ok (.aload_n 0, 1) := by decide +kernel
theorem aL_755 : decode code 755 = .ok (.iload 4, 2) := by decide +kernel
theorem aL_757 : decode code 757 = .ok (.iconst 2, 1) := by decide +kernel
theorem aL_758 : decode code 758 = .ok (.iadd, 1) := by decide +kernel
theorem aL_759 : decode code 759 = .ok (.iaload, 1) := by decide +kernel
theorem aL_760 : decode code 760 = .ok (.invokevirtual 96, 3) := by decide +kernel
theorem aL_763 : decode code 763 = .ok (.if_icmp .eq 615, 3) := by decide +kernel
theorem aL_766 : decode code 766 = .ok (.iconst 0, 1) := by decide +kernel
theorem aL_767 : decode code 767 = .ok (.ireturn, 1) := by decide +kernel
theorem aL_768 : decode code 768 = .ok (.aload_n 1, 1) := by decide +kernel
theorem aL_769 : decode code 769 = .ok (.aload_n 0, 1) := by decide +kernel
theorem aL_770 : decode code 770 = .ok (.iload 4, 2) := by decide +kernel
theorem aL_772 : decode code 772 = .ok (.iconst 1, 1) := by decide +kernel
theorem aL_773 : decode code 773 = .ok (.iadd, 1) := by decide +kernel
theorem aL_774 : decode code 774 = .ok (.iaload, 1) := by decide +kernel
theorem aL_775 : decode code 775 = .ok (.aload_n 0, 1) := by decide +kernel
theorem aL_776 : decode code 776 = .ok (.iload 4, 2) := by decide +kernel
theorem aL_778 : decode code 778 = .ok (.iconst 2, 1) := by decide +kernel
theorem aL_779 : decode code 779 = .ok (.iadd, 1) := by decide +kernel
theorem aL_780 : decode code 780 = .ok (.iaload, 1) := by decide +kernel
theorem aL_781 : decode code 781 = .ok (.aload_n 0, 1) := by decide +kernel
theorem aL_782 : decode code 782 = .ok (.iload 4, 2) := by decide +kernel
theorem aL_784 : decode code 784 = .ok (.iconst 3, 1) := by decide +kernel
theorem aL_785 : decode code 785 = .ok (.iadd, 1) := by decide +kernel
theorem aL_786 : decode code 786 = .ok (.iaload, 1) := by decide +kernel
theorem aL_787 : decode code 787 = .ok (.aload_n 0, 1) := by decide +kernel
theorem aL_788 : decode code 788 = .ok (.iload 4, 2) := by decide +kernel
theorem aL_790 : decode code 790 = .ok (.iconst 4, 1) := by decide +kernel
theorem aL_791 : decode code 791 = .ok (.iadd, 1) := by decide +kernel
theorem aL_792 : decode code 792 = .ok (.iaload, 1) := by decide +kernel
theorem aL_793 : decode code 793 = .ok (.aload_n 0, 1) := by decide +kernel
theorem aL_794 : decode code 794 = .ok (.iload 4, 2) := by decide +kernel
theorem aL_796 : decode code 796 = .ok (.iconst 5, 1) := by decide +kernel
theorem aL_797 : decode code 797 = .ok (.iadd, 1) := by decide +kernel
theorem aL_798 : decode code 798 = .ok (.iaload, 1) := by decide +kernel
theorem aL_799 : decode code 799 = .ok (.aload_n 3, 1) := by decide +kernel
theorem aL_800 : decode code 800 = .ok (.invokestatic 97, 3) := by decide +kernel
theorem aL_803 : decode code 803 = .ok (.istore 5, 2) := by decide +kernel
theorem aL_805 : decode code 805 = .ok (.aload_n 2, 1) := by decide +kernel
theorem aL_806 : decode code 806 = .ok (.aload_n 0, 1) := by decide +kernel
theorem aL_807 : decode code 807 = .ok (.iload 4, 2) := by decide +kernel
theorem aL_809 : decode code 809 = .ok (.iconst 1, 1) := by decide +kernel
theorem aL_810 : decode code 810 = .ok (.iadd, 1) := by decide +kernel
theorem aL_811 : decode code 811 = .ok (.iaload, 1) := by decide +kernel
theorem aL_812 : decode code 812 = .ok (.aload_n 0, 1) := by decide +kernel
theorem aL_813 : decode code 813 = .ok (.iload 4, 2) := by decide +kernel
theorem aL_815 : decode code 815 = .ok (.iconst 2, 1) := by decide +kernel
theorem aL_816 : decode code 816 = .ok (.iadd, 1) := by decide +kernel
theorem aL_817 : decode code 817 = .ok (.iaload, 1) := by decide +kernel
theorem aL_818 : decode code 818 = .ok (.aload_n 0, 1) := by decide +kernel
theorem aL_819 : decode code 819 = .ok (.iload 4, 2) := by decide +kernel
theorem aL_821 : decode code 821 = .ok (.iconst 3, 1) := by decide +kernel
theorem aL_822 : decode code 822 = .ok (.iadd, 1) := by decide +kernel
theorem aL_823 : decode code 823 = .ok (.iaload, 1) := by decide +kernel
theorem aL_824 : decode code 824 = .ok (.aload_n 0, 1) := by decide +kernel
theorem aL_825 : decode code 825 = .ok (.iload 4, 2) := by decide +kernel
theorem aL_827 : decode code 827 = .ok (.iconst 4, 1) := by decide +kernel
theorem aL_828 : decode code 828 = .ok (.iadd, 1) := by decide +kernel
theorem aL_829 : decode code 829 = .ok (.iaload, 1) := by decide +kernel
theorem aL_830 : decode code 830 = .ok (.aload_n 0, 1) := by decide +kernel
theorem aL_831 : decode code 831 = .ok (.iload 4, 2) := by decide +kernel
theorem aL_833 : decode code 833 = .ok (.iconst 5, 1) := by decide +kernel
theorem aL_834 : decode code 834 = .ok (.iadd, 1) := by decide +kernel
theorem aL_835 : decode code 835 = .ok (.iaload, 1) := by decide +kernel
theorem aL_836 : decode code 836 = .ok (.invokevirtual 100, 3) := by decide +kernel
theorem aL_839 : decode code 839 = .ok (.lstore 6, 2) := by decide +kernel
theorem aL_841 : decode code 841 = .ok (.aload_n 2, 1) := by decide +kernel
theorem aL_842 : decode code 842 = .ok (.invokevirtual 54, 3) := by decide +kernel
theorem aL_845 : decode code 845 = .ok (.iload 5, 2) := by decide +kernel
theorem aL_847 : decode code 847 = .ok (.if_icmp .eq 5, 3) := by decide +kernel
theorem aL_850 : decode code 850 = .ok (.iconst 0, 1) := by decide +kernel
theorem aL_851 : decode code 851 = .ok (.ireturn, 1) := by decide +kernel
theorem aL_852 : decode code 852 = .ok (.iload 5, 2) := by decide +kernel
theorem aL_854 : decode code 854 = .ok (.ifCond .ne 14, 3) := by decide +kernel
theorem aL_857 : decode code 857 = .ok (.aload_n 3, 1) := by decide +kernel
theorem aL_858 : decode code 858 = .ok (.iconst 0, 1) := by decide +kernel
theorem aL_859 : decode code 859 = .ok (.laload, 1) := by decide +kernel
theorem aL_860 : decode code 860 = .ok (.lload 6, 2) := by decide +kernel
theorem aL_862 : decode code 862 = .ok (.lcmp, 1) := by decide +kernel
theorem aL_863 : decode code 863 = .ok (.ifCond .eq 5, 3) := by decide +kernel
theorem aL_866 : decode code 866 = .ok (.iconst 0, 1) := by decide +kernel
theorem aL_867 : decode code 867 = .ok (.ireturn, 1) := by decide +kernel
theorem aL_868 : decode code 868 = .ok (.goto 510, 3) := by decide +kernel
theorem aL_871 : decode code 871 = .ok (.aload_n 1, 1) := by decide +kernel
theorem aL_872 : decode code 872 = .ok (.aload_n 0, 1) := by decide +kernel
theorem aL_873 : decode code 873 = .ok (.iload 4, 2) := by decide +kernel
theorem aL_875 : decode code 875 = .ok (.iconst 1, 1) := by decide +kernel
theorem aL_876 : decode code 876 = .ok (.iadd, 1) := by decide +kernel
theorem aL_877 : decode code 877 = .ok (.iaload, 1) := by decide +kernel
theorem aL_878 : decode code 878 = .ok (.aload_n 0, 1) := by decide +kernel
theorem aL_879 : decode code 879 = .ok (.iload 4, 2) := by decide +kernel
theorem aL_881 : decode code 881 = .ok (.iconst 2, 1) := by decide +kernel
theorem aL_882 : decode code 882 = .ok (.iadd, 1) := by decide +kernel
theorem aL_883 : decode code 883 = .ok (.iaload, 1) := by decide +kernel
theorem aL_884 : decode code 884 = .ok (.aload_n 0, 1) := by decide +kernel
theorem aL_885 : decode code 885 = .ok (.iload 4, 2) := by decide +kernel
theorem aL_887 : decode code 887 = .ok (.iconst 3, 1) := by decide +kernel
theorem aL_888 : decode code 888 = .ok (.iadd, 1) := by decide +kernel
theorem aL_889 : decode code 889 = .ok (.iaload, 1) := by decide +kernel
theorem aL_890 : decode code 890 = .ok (.aload_n 0, 1) := by decide +kernel
theorem aL_891 : decode code 891 = .ok (.iload 4, 2) := by decide +kernel
theorem aL_893 : decode code 893 = .ok (.iconst 4, 1) := by decide +kernel
theorem aL_894 : decode code 894 = .ok (.iadd, 1) := by decide +kernel
theorem aL_895 : decode code 895 = .ok (.iaload, 1) := by decide +kernel
theorem aL_896 : decode code 896 = .ok (.aload_n 0, 1) := by decide +kernel
theorem aL_897 : decode code 897 = .ok (.iload 4, 2) := by decide +kernel
theorem aL_899 : decode code 899 = .ok (.iconst 5, 1) := by decide +kernel
theorem aL_900 : decode code 900 = .ok (.iadd, 1) := by decide +kernel
theorem aL_901 : decode code 901 = .ok (.iaload, 1) := by decide +kernel
theorem aL_902 : decode code 902 = .ok (.invokevirtual 101, 3) := by decide +kernel
theorem aL_905 : decode code 905 = .ok (.aload_n 2, 1) := by decide +kernel
theorem aL_906 : decode code 906 = .ok (.aload_n 0, 1) := by decide +kernel
theorem aL_907 : decode code 907 = .ok (.iload 4, 2) := by decide +kernel
theorem aL_909 : decode code 909 = .ok (.iconst 1, 1) := by decide +kernel
theorem aL_910 : decode code 910 = .ok (.iadd, 1) := by decide +kernel
theorem aL_911 : decode code 911 = .ok (.iaload, 1) := by decide +kernel
theorem aL_912 : decode code 912 = .ok (.aload_n 0, 1) := by decide +kernel
theorem aL_913 : decode code 913 = .ok (.iload 4, 2) := by decide +kernel
theorem aL_915 : decode code 915 = .ok (.iconst 2, 1) := by decide +kernel
theorem aL_916 : decode code 916 = .ok (.iadd, 1) := by decide +kernel
theorem aL_917 : decode code 917 = .ok (.iaload, 1) := by decide +kernel
theorem aL_918 : decode code 918 = .ok (.aload_n 0, 1) := by decide +kernel
theorem aL_919 : decode code 919 = .ok (.iload 4, 2) := by decide +kernel
theorem aL_921 : decode code 921 = .ok (.iconst 3, 1) := by decide +kernel
theorem aL_922 : decode code 922 = .ok (.iadd, 1) := by decide +kernel
theorem aL_923 : decode code 923 = .ok (.iaload, 1) := by decide +kernel
theorem aL_924 : decode code 924 = .ok (.aload_n 0, 1) := by decide +kernel
theorem aL_925 : decode code 925 = .ok (.iload 4, 2) := by decide +kernel
theorem aL_927 : decode code 927 = .ok (.iconst 4, 1) := by decide +kernel
theorem aL_928 : decode code 928 = .ok (.iadd, 1) := by decide +kernel
theorem aL_929 : decode code 929 = .ok (.iaload, 1) := by decide +kernel
theorem aL_930 : decode code 930 = .ok (.aload_n 0, 1) := by decide +kernel
theorem aL_931 : decode code 931 = .ok (.iload 4, 2) := by decide +kernel
theorem aL_933 : decode code 933 = .ok (.iconst 5, 1) := by decide +kernel
theorem aL_934 : decode code 934 = .ok (.iadd, 1) := by decide +kernel
theorem aL_935 : decode code 935 = .ok (.iaload, 1) := by decide +kernel
theorem aL_936 : decode code 936 = .ok (.invokevirtual 104, 3) := by decide +kernel
theorem aL_939 : decode code 939 = .ok (.if_icmp .eq 439, 3) := by decide +kernel
theorem aL_942 : decode code 942 = .ok (.iconst 0, 1) := by decide +kernel
theorem aL_943 : decode code 943 = .ok (.ireturn, 1) := by decide +kernel
theorem aL_944 : decode code 944 = .ok (.aload_n 1, 1) := by decide +kernel
theorem aL_945 : decode code 945 = .ok (.aload_n 0, 1) := by decide +kernel
theorem aL_946 : decode code 946 = .ok (.iload 4, 2) := by decide +kernel
theorem aL_948 : decode code 948 = .ok (.iconst 1, 1) := by decide +kernel
theorem aL_949 : decode code 949 = .ok (.iadd, 1) := by decide +kernel
theorem aL_950 : decode code 950 = .ok (.iaload, 1) := by decide +kernel
theorem aL_951 : decode code 951 = .ok (.aload_n 0, 1) := by decide +kernel
theorem aL_952 : decode code 952 = .ok (.iload 4, 2) := by decide +kernel
theorem aL_954 : decode code 954 = .ok (.iconst 2, 1) := by decide +kernel
theorem aL_955 : decode code 955 = .ok (.iadd, 1) := by decide +kernel
theorem aL_956 : decode code 956 = .ok (.iaload, 1) := by decide +kernel
theorem aL_957 : decode code 957 = .ok (.aload_n 0, 1) := by decide +kernel
theorem aL_958 : decode code 958 = .ok (.iload 4, 2) := by decide +kernel
theorem aL_960 : decode code 960 = .ok (.iconst 3, 1) := by decide +kernel
theorem aL_961 : decode code 961 = .ok (.iadd, 1) := by decide +kernel
theorem aL_962 : decode code 962 = .ok (.iaload, 1) := by decide +kernel
theorem aL_963 : decode code 963 = .ok (.invokevirtual 105, 3) := by decide +kernel
theorem aL_966 : decode code 966 = .ok (.aload_n 2, 1) := by decide +kernel
theorem aL_967 : decode code 967 = .ok (.aload_n 0, 1) := by decide +kernel
theorem aL_968 : decode code 968 = .ok (.iload 4, 2) := by decide +kernel
theorem aL_970 : decode code 970 = .ok (.iconst 1, 1) := by decide +kernel
theorem aL_971 : decode code 971 = .ok (.iadd, 1) := by decide +kernel
theorem aL_972 : decode code 972 = .ok (.iaload, 1) := by decide +kernel
theorem aL_973 : decode code 973 = .ok (.aload_n 0, 1) := by decide +kernel
theorem aL_974 : decode code 974 = .ok (.iload 4, 2) := by decide +kernel
theorem aL_976 : decode code 976 = .ok (.iconst 2, 1) := by decide +kernel
theorem aL_977 : decode code 977 = .ok (.iadd, 1) := by decide +kernel
theorem aL_978 : decode code 978 = .ok (.iaload, 1) := by decide +kernel
theorem aL_979 : decode code 979 = .ok (.aload_n 0, 1) := by decide +kernel
theorem aL_980 : decode code 980 = .ok (.iload 4, 2) := by decide +kernel
theorem aL_982 : decode code 982 = .ok (.iconst 3, 1) := by decide +kernel
theorem aL_983 : decode code 983 = .ok (.iadd, 1) := by decide +kernel
theorem aL_984 : decode code 984 = .ok (.iaload, 1) := by decide +kernel
theorem aL_985 : decode code 985 = .ok (.invokevirtual 108, 3) := by decide +kernel
theorem aL_988 : decode code 988 = .ok (.if_icmp .eq 390, 3) := by decide +kernel
theorem aL_991 : decode code 991 = .ok (.iconst 0, 1) := by decide +kernel
theorem aL_992 : decode code 992 = .ok (.ireturn, 1) := by decide +kernel
theorem aL_993 : decode code 993 = .ok (.aload_n 1, 1) := by decide +kernel
theorem aL_994 : decode code 994 = .ok (.aload_n 0, 1) := by decide +kernel
theorem aL_995 : decode code 995 = .ok (.iload 4, 2) := by decide +kernel
theorem aL_997 : decode code 997 = .ok (.iconst 1, 1) := by decide +kernel
theorem aL_998 : decode code 998 = .ok (.iadd, 1) := by decide +kernel
theorem aL_999 : decode code 999 = .ok (.iaload, 1) := by decide +kernel
theorem aL_1000 : decode code 1000 = .ok (.aload_n 0, 1) := by decide +kernel
theorem aL_1001 : decode code 1001 = .ok (.iload 4, 2) := by decide +kernel
theorem aL_1003 : decode code 1003 = .ok (.iconst 2, 1) := by decide +kernel
theorem aL_1004 : decode code 1004 = .ok (.iadd, 1) := by decide +kernel
theorem aL_1005 : decode code 1005 = .ok (.iaload, 1) := by decide +kernel
theorem aL_1006 : decode code 1006 = .ok (.aload_n 0, 1) := by decide +kernel
theorem aL_1007 : decode code 1007 = .ok (.iload 4, 2) := by decide +kernel
theorem aL_1009 : decode code 1009 = .ok (.iconst 3, 1) := by decide +kernel
theorem aL_1010 : decode code 1010 = .ok (.iadd, 1) := by decide +kernel
theorem aL_1011 : decode code 1011 = .ok (.iaload, 1) := by decide +kernel
theorem aL_1012 : decode code 1012 = .ok (.invokevirtual 109, 3) := by decide +kernel
theorem aL_1015 : decode code 1015 = .ok (.aload_n 2, 1) := by decide +kernel
theorem aL_1016 : decode code 1016 = .ok (.aload_n 0, 1) := by decide +kernel
theorem aL_1017 : decode code 1017 = .ok (.iload 4, 2) := by decide +kernel
theorem aL_1019 : decode code 1019 = .ok (.iconst 1, 1) := by decide +kernel
theorem aL_1020 : decode code 1020 = .ok (.iadd, 1) := by decide +kernel
theorem aL_1021 : decode code 1021 = .ok (.iaload, 1) := by decide +kernel
theorem aL_1022 : decode code 1022 = .ok (.aload_n 0, 1) := by decide +kernel
theorem aL_1023 : decode code 1023 = .ok (.iload 4, 2) := by decide +kernel
theorem aL_1025 : decode code 1025 = .ok (.iconst 2, 1) := by decide +kernel
theorem aL_1026 : decode code 1026 = .ok (.iadd, 1) := by decide +kernel
theorem aL_1027 : decode code 1027 = .ok (.iaload, 1) := by decide +kernel
theorem aL_1028 : decode code 1028 = .ok (.aload_n 0, 1) := by decide +kernel
theorem aL_1029 : decode code 1029 = .ok (.iload 4, 2) := by decide +kernel
theorem aL_1031 : decode code 1031 = .ok (.iconst 3, 1) := by decide +kernel
theorem aL_1032 : decode code 1032 = .ok (.iadd, 1) := by decide +kernel
theorem aL_1033 : decode code 1033 = .ok (.iaload, 1) := by decide +kernel
theorem aL_1034 : decode code 1034 = .ok (.invokevirtual 113, 3) := by decide +kernel
theorem aL_1037 : decode code 1037 = .ok (.if_icmp .eq 341, 3) := by decide +kernel
theorem aL_1040 : decode code 1040 = .ok (.iconst 0, 1) := by decide +kernel
theorem aL_1041 : decode code 1041 = .ok (.ireturn, 1) := by decide +kernel
theorem aL_1042 : decode code 1042 = .ok (.aload_n 1, 1) := by decide +kernel
theorem aL_1043 : decode code 1043 = .ok (.aload_n 0, 1) := by decide +kernel
theorem aL_1044 : decode code 1044 = .ok (.iload 4, 2) := by decide +kernel
theorem aL_1046 : decode code 1046 = .ok (.iconst 1, 1) := by decide +kernel
theorem aL_1047 : decode code 1047 = .ok (.iadd, 1) := by decide +kernel
theorem aL_1048 : decode code 1048 = .ok (.iaload, 1) := by decide +kernel
theorem aL_1049 : decode code 1049 = .ok (.aload_n 0, 1) := by decide +kernel
theorem aL_1050 : decode code 1050 = .ok (.iload 4, 2) := by decide +kernel
theorem aL_1052 : decode code 1052 = .ok (.iconst 2, 1) := by decide +kernel
theorem aL_1053 : decode code 1053 = .ok (.iadd, 1) := by decide +kernel
theorem aL_1054 : decode code 1054 = .ok (.iaload, 1) := by decide +kernel
theorem aL_1055 : decode code 1055 = .ok (.invokevirtual 114, 3) := by decide +kernel
theorem aL_1058 : decode code 1058 = .ok (.aload_n 2, 1) := by decide +kernel
theorem aL_1059 : decode code 1059 = .ok (.aload_n 0, 1) := by decide +kernel
theorem aL_1060 : decode code 1060 = .ok (.iload 4, 2) := by decide +kernel
theorem aL_1062 : decode code 1062 = .ok (.iconst 1, 1) := by decide +kernel
theorem aL_1063 : decode code 1063 = .ok (.iadd, 1) := by decide +kernel
theorem aL_1064 : decode code 1064 = .ok (.iaload, 1) := by decide +kernel
theorem aL_1065 : decode code 1065 = .ok (.aload_n 0, 1) := by decide +kernel
theorem aL_1066 : decode code 1066 = .ok (.iload 4, 2) := by decide +kernel
theorem aL_1068 : decode code 1068 = .ok (.iconst 2, 1) := by decide +kernel
theorem aL_1069 : decode code 1069 = .ok (.iadd, 1) := by decide +kernel
theorem aL_1070 : decode code 1070 = .ok (.iaload, 1) := by decide +kernel
theorem aL_1071 : decode code 1071 = .ok (.invokevirtual 117, 3) := by decide +kernel
theorem aL_1074 : decode code 1074 = .ok (.if_icmp .eq 304, 3) := by decide +kernel
theorem aL_1077 : decode code 1077 = .ok (.iconst 0, 1) := by decide +kernel
theorem aL_1078 : decode code 1078 = .ok (.ireturn, 1) := by decide +kernel
theorem aL_1079 : decode code 1079 = .ok (.aload_n 1, 1) := by decide +kernel
theorem aL_1080 : decode code 1080 = .ok (.aload_n 0, 1) := by decide +kernel
theorem aL_1081 : decode code 1081 = .ok (.iload 4, 2) := by decide +kernel
theorem aL_1083 : decode code 1083 = .ok (.iconst 1, 1) := by decide +kernel
theorem aL_1084 : decode code 1084 = .ok (.iadd, 1) := by decide +kernel
theorem aL_1085 : decode code 1085 = .ok (.iaload, 1) := by decide +kernel
theorem aL_1086 : decode code 1086 = .ok (.invokevirtual 118, 3) := by decide +kernel
theorem aL_1089 : decode code 1089 = .ok (.aload_n 2, 1) := by decide +kernel
theorem aL_1090 : decode code 1090 = .ok (.aload_n 0, 1) := by decide +kernel
theorem aL_1091 : decode code 1091 = .ok (.iload 4, 2) := by decide +kernel
theorem aL_1093 : decode code 1093 = .ok (.iconst 1, 1) := by decide +kernel
theorem aL_1094 : decode code 1094 = .ok (.iadd, 1) := by decide +kernel
theorem aL_1095 : decode code 1095 = .ok (.iaload, 1) := by decide +kernel
theorem aL_1096 : decode code 1096 = .ok (.invokevirtual 121, 3) := by decide +kernel
theorem aL_1099 : decode code 1099 = .ok (.if_icmp .eq 279, 3) := by decide +kernel
theorem aL_1102 : decode code 1102 = .ok (.iconst 0, 1) := by decide +kernel
theorem aL_1103 : decode code 1103 = .ok (.ireturn, 1) := by decide +kernel
theorem aL_1104 : decode code 1104 = .ok (.aload_n 1, 1) := by decide +kernel
theorem aL_1105 : decode code 1105 = .ok (.aload_n 0, 1) := by decide +kernel
theorem aL_1106 : decode code 1106 = .ok (.iload 4, 2) := by decide +kernel
theorem aL_1108 : decode code 1108 = .ok (.iconst 1, 1) := by decide +kernel
theorem aL_1109 : decode code 1109 = .ok (.iadd, 1) := by decide +kernel
theorem aL_1110 : decode code 1110 = .ok (.iaload, 1) := by decide +kernel
theorem aL_1111 : decode code 1111 = .ok (.invokevirtual 122, 3) := by decide +kernel
theorem aL_1114 : decode code 1114 = .ok (.aload_n 2, 1) := by decide +kernel
theorem aL_1115 : decode code 1115 = .ok (.aload_n 0, 1) := by decide +kernel
theorem aL_1116 : decode code 1116 = .ok (.iload 4, 2) := by decide +kernel
theorem aL_1118 : decode code 1118 = .ok (.iconst 1, 1) := by decide +kernel
theorem aL_1119 : decode code 1119 = .ok (.iadd, 1) := by decide +kernel
theorem aL_1120 : decode code 1120 = .ok (.iaload, 1) := by decide +kernel
theorem aL_1121 : decode code 1121 = .ok (.invokevirtual 125, 3) := by decide +kernel
theorem aL_1124 : decode code 1124 = .ok (.if_icmp .eq 254, 3) := by decide +kernel
theorem aL_1127 : decode code 1127 = .ok (.iconst 0, 1) := by decide +kernel
theorem aL_1128 : decode code 1128 = .ok (.ireturn, 1) := by decide +kernel
theorem aL_1129 : decode code 1129 = .ok (.aload_n 1, 1) := by decide +kernel
theorem aL_1130 : decode code 1130 = .ok (.aload_n 0, 1) := by decide +kernel
theorem aL_1131 : decode code 1131 = .ok (.iload 4, 2) := by decide +kernel
theorem aL_1133 : decode code 1133 = .ok (.iconst 1, 1) := by decide +kernel
theorem aL_1134 : decode code 1134 = .ok (.iadd, 1) := by decide +kernel
theorem aL_1135 : decode code 1135 = .ok (.iaload, 1) := by decide +kernel
theorem aL_1136 : decode code 1136 = .ok (.invokevirtual 126, 3) := by decide +kernel
theorem aL_1139 : decode code 1139 = .ok (.aload_n 2, 1) := by decide +kernel
theorem aL_1140 : decode code 1140 = .ok (.aload_n 0, 1) := by decide +kernel
theorem aL_1141 : decode code 1141 = .ok (.iload 4, 2) := by decide +kernel
theorem aL_1143 : decode code 1143 = .ok (.iconst 1, 1) := by decide +kernel
theorem aL_1144 : decode code 1144 = .ok (.iadd, 1) := by decide +kernel
theorem aL_1145 : decode code 1145 = .ok (.iaload, 1) := by decide +kernel
theorem aL_1146 : decode code 1146 = .ok (.invokevirtual 129, 3) := by decide +kernel
theorem aL_1149 : decode code 1149 = .ok (.if_icmp .eq 229, 3) := by decide +kernel
theorem aL_1152 : decode code 1152 = .ok (.iconst 0, 1) := by decide +kernel
theorem aL_1153 : decode code 1153 = .ok (.ireturn, 1) := by decide +kernel
theorem aL_1154 : decode code 1154 = .ok (.aload_n 1, 1) := by decide +kernel
theorem aL_1155 : decode code 1155 = .ok (.aload_n 0, 1) := by decide +kernel
theorem aL_1156 : decode code 1156 = .ok (.iload 4, 2) := by decide +kernel
theorem aL_1158 : decode code 1158 = .ok (.iconst 1, 1) := by decide +kernel
theorem aL_1159 : decode code 1159 = .ok (.iadd, 1) := by decide +kernel
theorem aL_1160 : decode code 1160 = .ok (.iaload, 1) := by decide +kernel
theorem aL_1161 : decode code 1161 = .ok (.invokevirtual 130, 3) := by decide +kernel
theorem aL_1164 : decode code 1164 = .ok (.aload_n 2, 1) := by decide +kernel
theorem aL_1165 : decode code 1165 = .ok (.aload_n 0, 1) := by decide +kernel
theorem aL_1166 : decode code 1166 = .ok (.iload 4, 2) := by decide +kernel
theorem aL_1168 : decode code 1168 = .ok (.iconst 1, 1) := by decide +kernel
theorem aL_1169 : decode code 1169 = .ok (.iadd, 1) := by decide +kernel
theorem aL_1170 : decode code 1170 = .ok (.iaload, 1) := by decide +kernel
theorem aL_1171 : decode code 1171 = .ok (.invokevirtual 133, 3) := by decide +kernel
theorem aL_1174 : decode code 1174 = .ok (.if_icmp .eq 204, 3) := by decide +kernel
theorem aL_1177 : decode code 1177 = .ok (.iconst 0, 1) := by decide +kernel
theorem aL_1178 : decode code 1178 = .ok (.ireturn, 1) := by decide +kernel
theorem aL_1179 : decode code 1179 = .ok (.aload_n 1, 1) := by decide +kernel
theorem aL_1180 : decode code 1180 = .ok (.aload_n 0, 1) := by decide +kernel
theorem aL_1181 : decode code 1181 = .ok (.iload 4, 2) := by decide +kernel
theorem aL_1183 : decode code 1183 = .ok (.iconst 1, 1) := by decide +kernel
theorem aL_1184 : decode code 1184 = .ok (.iadd, 1) := by decide +kernel
theorem aL_1185 : decode code 1185 = .ok (.iaload, 1) := by decide +kernel
theorem aL_1186 : decode code 1186 = .ok (.aload_n 0, 1) := by decide +kernel
theorem aL_1187 : decode code 1187 = .ok (.iload 4, 2) := by decide +kernel
theorem aL_1189 : decode code 1189 = .ok (.iconst 2, 1) := by decide +kernel
theorem aL_1190 : decode code 1190 = .ok (.iadd, 1) := by decide +kernel
theorem aL_1191 : decode code 1191 = .ok (.iaload, 1) := by decide +kernel
theorem aL_1192 : decode code 1192 = .ok (.aload_n 0, 1) := by decide +kernel
theorem aL_1193 : decode code 1193 = .ok (.iload 4, 2) := by decide +kernel
theorem aL_1195 : decode code 1195 = .ok (.iconst 3, 1) := by decide +kernel
theorem aL_1196 : decode code 1196 = .ok (.iadd, 1) := by decide +kernel
theorem aL_1197 : decode code 1197 = .ok (.iaload, 1) := by decide +kernel
theorem aL_1198 : decode code 1198 = .ok (.aload_n 0, 1) := by decide +kernel
theorem aL_1199 : decode code 1199 = .ok (.iload 4, 2) := by decide +kernel
theorem aL_1201 : decode code 1201 = .ok (.iconst 4, 1) := by decide +kernel
theorem aL_1202 : decode code 1202 = .ok (.iadd, 1) := by decide +kernel
theorem aL_1203 : decode code 1203 = .ok (.iaload, 1) := by decide +kernel
theorem aL_1204 : decode code 1204 = .ok (.invokevirtual 134, 3) := by decide +kernel
theorem aL_1207 : decode code 1207 = .ok (.aload_n 2, 1) := by decide +kernel
theorem aL_1208 : decode code 1208 = .ok (.aload_n 0, 1) := by decide +kernel
theorem aL_1209 : decode code 1209 = .ok (.iload 4, 2) := by decide +kernel
theorem aL_1211 : decode code 1211 = .ok (.iconst 1, 1) := by decide +kernel
theorem aL_1212 : decode code 1212 = .ok (.iadd, 1) := by decide +kernel
theorem aL_1213 : decode code 1213 = .ok (.iaload, 1) := by decide +kernel
theorem aL_1214 : decode code 1214 = .ok (.aload_n 0, 1) := by decide +kernel
theorem aL_1215 : decode code 1215 = .ok (.iload 4, 2) := by decide +kernel
theorem aL_1217 : decode code 1217 = .ok (.iconst 2, 1) := by decide +kernel
theorem aL_1218 : decode code 1218 = .ok (.iadd, 1) := by decide +kernel
theorem aL_1219 : decode code 1219 = .ok (.iaload, 1) := by decide +kernel
theorem aL_1220 : decode code 1220 = .ok (.aload_n 0, 1) := by decide +kernel
theorem aL_1221 : decode code 1221 = .ok (.iload 4, 2) := by decide +kernel
theorem aL_1223 : decode code 1223 = .ok (.iconst 3, 1) := by decide +kernel
theorem aL_1224 : decode code 1224 = .ok (.iadd, 1) := by decide +kernel
theorem aL_1225 : decode code 1225 = .ok (.iaload, 1) := by decide +kernel
theorem aL_1226 : decode code 1226 = .ok (.aload_n 0, 1) := by decide +kernel
theorem aL_1227 : decode code 1227 = .ok (.iload 4, 2) := by decide +kernel
theorem aL_1229 : decode code 1229 = .ok (.iconst 4, 1) := by decide +kernel
theorem aL_1230 : decode code 1230 = .ok (.iadd, 1) := by decide +kernel
theorem aL_1231 : decode code 1231 = .ok (.iaload, 1) := by decide +kernel
theorem aL_1232 : decode code 1232 = .ok (.invokevirtual 138, 3) := by decide +kernel
theorem aL_1235 : decode code 1235 = .ok (.if_icmp .eq 143, 3) := by decide +kernel
theorem aL_1238 : decode code 1238 = .ok (.iconst 0, 1) := by decide +kernel
theorem aL_1239 : decode code 1239 = .ok (.ireturn, 1) := by decide +kernel
theorem aL_1240 : decode code 1240 = .ok (.aload_n 1, 1) := by decide +kernel
theorem aL_1241 : decode code 1241 = .ok (.aload_n 0, 1) := by decide +kernel
theorem aL_1242 : decode code 1242 = .ok (.iload 4, 2) := by decide +kernel
theorem aL_1244 : decode code 1244 = .ok (.iconst 1, 1) := by decide +kernel
theorem aL_1245 : decode code 1245 = .ok (.iadd, 1) := by decide +kernel
theorem aL_1246 : decode code 1246 = .ok (.iaload, 1) := by decide +kernel
theorem aL_1247 : decode code 1247 = .ok (.aload_n 0, 1) := by decide +kernel
theorem aL_1248 : decode code 1248 = .ok (.iload 4, 2) := by decide +kernel
theorem aL_1250 : decode code 1250 = .ok (.iconst 2, 1) := by decide +kernel
theorem aL_1251 : decode code 1251 = .ok (.iadd, 1) := by decide +kernel
theorem aL_1252 : decode code 1252 = .ok (.iaload, 1) := by decide +kernel
theorem aL_1253 : decode code 1253 = .ok (.invokevirtual 139, 3) := by decide +kernel
theorem aL_1256 : decode code 1256 = .ok (.aload_n 2, 1) := by decide +kernel
theorem aL_1257 : decode code 1257 = .ok (.aload_n 0, 1) := by decide +kernel
theorem aL_1258 : decode code 1258 = .ok (.iload 4, 2) := by decide +kernel
theorem aL_1260 : decode code 1260 = .ok (.iconst 1, 1) := by decide +kernel
theorem aL_1261 : decode code 1261 = .ok (.iadd, 1) := by decide +kernel
theorem aL_1262 : decode code 1262 = .ok (.iaload, 1) := by decide +kernel
theorem aL_1263 : decode code 1263 = .ok (.aload_n 0, 1) := by decide +kernel
theorem aL_1264 : decode code 1264 = .ok (.iload 4, 2) := by decide +kernel
theorem aL_1266 : decode code 1266 = .ok (.iconst 2, 1) := by decide +kernel
theorem aL_1267 : decode code 1267 = .ok (.iadd, 1) := by decide +kernel
theorem aL_1268 : decode code 1268 = .ok (.iaload, 1) := by decide +kernel
theorem aL_1269 : decode code 1269 = .ok (.invokevirtual 142, 3) := by decide +kernel
theorem aL_1272 : decode code 1272 = .ok (.if_icmp .eq 106, 3) := by decide +kernel
theorem aL_1275 : decode code 1275 = .ok (.iconst 0, 1) := by decide +kernel
theorem aL_1276 : decode code 1276 = .ok (.ireturn, 1) := by decide +kernel
theorem aL_1277 : decode code 1277 = .ok (.aload_n 1, 1) := by decide +kernel
theorem aL_1278 : decode code 1278 = .ok (.invokevirtual 143, 3) := by decide +kernel
theorem aL_1281 : decode code 1281 = .ok (.aload_n 2, 1) := by decide +kernel
theorem aL_1282 : decode code 1282 = .ok (.invokevirtual 146, 3) := by decide +kernel
theorem aL_1285 : decode code 1285 = .ok (.if_icmp .eq 93, 3) := by decide +kernel
theorem aL_1288 : decode code 1288 = .ok (.iconst 0, 1) := by decide +kernel
theorem aL_1289 : decode code 1289 = .ok (.ireturn, 1) := by decide +kernel
theorem aL_1290 : decode code 1290 = .ok (.aload_n 1, 1) := by decide +kernel
theorem aL_1291 : decode code 1291 = .ok (.invokevirtual 147, 3) := by decide +kernel
theorem aL_1294 : decode code 1294 = .ok (.aload_n 2, 1) := by decide +kernel
theorem aL_1295 : decode code 1295 = .ok (.invokevirtual 150, 3) := by decide +kernel
theorem aL_1298 : decode code 1298 = .ok (.if_icmp .eq 80, 3) := by decide +kernel
theorem aL_1301 : decode code 1301 = .ok (.iconst 0, 1) := by decide +kernel
theorem aL_1302 : decode code 1302 = .ok (.ireturn, 1) := by decide +kernel
theorem aL_1303 : decode code 1303 = .ok (.aload_n 1, 1) := by decide +kernel
theorem aL_1304 : decode code 1304 = .ok (.aload_n 0, 1) := by decide +kernel
theorem aL_1305 : decode code 1305 = .ok (.iload 4, 2) := by decide +kernel
theorem aL_1307 : decode code 1307 = .ok (.iconst 1, 1) := by decide +kernel
theorem aL_1308 : decode code 1308 = .ok (.iadd, 1) := by decide +kernel
theorem aL_1309 : decode code 1309 = .ok (.iaload, 1) := by decide +kernel
theorem aL_1310 : decode code 1310 = .ok (.invokevirtual 151, 3) := by decide +kernel
theorem aL_1313 : decode code 1313 = .ok (.aload_n 2, 1) := by decide +kernel
theorem aL_1314 : decode code 1314 = .ok (.aload_n 0, 1) := by decide +kernel
theorem aL_1315 : decode code 1315 = .ok (.iload 4, 2) := by decide +kernel
theorem aL_1317 : decode code 1317 = .ok (.iconst 1, 1) := by decide +kernel
theorem aL_1318 : decode code 1318 = .ok (.iadd, 1) := by decide +kernel
theorem aL_1319 : decode code 1319 = .ok (.iaload, 1) := by decide +kernel
theorem aL_1320 : decode code 1320 = .ok (.invokevirtual 154, 3) := by decide +kernel
theorem aL_1323 : decode code 1323 = .ok (.if_icmp .eq 55, 3) := by decide +kernel
theorem aL_1326 : decode code 1326 = .ok (.iconst 0, 1) := by decide +kernel
theorem aL_1327 : decode code 1327 = .ok (.ireturn, 1) := by decide +kernel
theorem aL_1328 : decode code 1328 = .ok (.aload_n 1, 1) := by decide +kernel
theorem aL_1329 : decode code 1329 = .ok (.aload_n 0, 1) := by decide +kernel
theorem aL_1330 : decode code 1330 = .ok (.iload 4, 2) := by decide +kernel
theorem aL_1332 : decode code 1332 = .ok (.iconst 1, 1) := by decide +kernel
theorem aL_1333 : decode code 1333 = .ok (.iadd, 1) := by decide +kernel
theorem aL_1334 : decode code 1334 = .ok (.iaload, 1) := by decide +kernel
theorem aL_1335 : decode code 1335 = .ok (.invokevirtual 155, 3) := by decide +kernel
theorem aL_1338 : decode code 1338 = .ok (.aload_n 2, 1) := by decide +kernel
theorem aL_1339 : decode code 1339 = .ok (.aload_n 0, 1) := by decide +kernel
theorem aL_1340 : decode code 1340 = .ok (.iload 4, 2) := by decide +kernel
theorem aL_1342 : decode code 1342 = .ok (.iconst 1, 1) := by decide +kernel
theorem aL_1343 : decode code 1343 = .ok (.iadd, 1) := by decide +kernel
theorem aL_1344 : decode code 1344 = .ok (.iaload, 1) := by decide +kernel
theorem aL_1345 : decode code 1345 = .ok (.invokevirtual 158, 3) := by decide +kernel
theorem aL_1348 : decode code 1348 = .ok (.if_icmp .eq 30, 3) := by decide +kernel
theorem aL_1351 : decode code 1351 = .ok (.iconst 0, 1) := by decide +kernel
theorem aL_1352 : decode code 1352 = .ok (.ireturn, 1) := by decide +kernel
theorem aL_1353 : decode code 1353 = .ok (.aload_n 1, 1) := by decide +kernel
theorem aL_1354 : decode code 1354 = .ok (.aload_n 0, 1) := by decide +kernel
theorem aL_1355 : decode code 1355 = .ok (.iload 4, 2) := by decide +kernel
theorem aL_1357 : decode code 1357 = .ok (.iconst 1, 1) := by decide +kernel
theorem aL_1358 : decode code 1358 = .ok (.iadd, 1) := by decide +kernel
theorem aL_1359 : decode code 1359 = .ok (.iaload, 1) := by decide +kernel
theorem aL_1360 : decode code 1360 = .ok (.invokevirtual 159, 3) := by decide +kernel
theorem aL_1363 : decode code 1363 = .ok (.aload_n 2, 1) := by decide +kernel
theorem aL_1364 : decode code 1364 = .ok (.aload_n 0, 1) := by decide +kernel
theorem aL_1365 : decode code 1365 = .ok (.iload 4, 2) := by decide +kernel
theorem aL_1367 : decode code 1367 = .ok (.iconst 1, 1) := by decide +kernel
theorem aL_1368 : decode code 1368 = .ok (.iadd, 1) := by decide +kernel
theorem aL_1369 : decode code 1369 = .ok (.iaload, 1) := by decide +kernel
theorem aL_1370 : decode code 1370 = .ok (.invokevirtual 162, 3) := by decide +kernel
theorem aL_1373 : decode code 1373 = .ok (.if_icmp .eq 5, 3) := by decide +kernel
theorem aL_1376 : decode code 1376 = .ok (.iconst 0, 1) := by decide +kernel
theorem aL_1377 : decode code 1377 = .ok (.ireturn, 1) := by decide +kernel
theorem aL_1378 : decode code 1378 = .ok (.iinc 4 6, 3) := by decide +kernel
theorem aL_1381 : decode code 1381 = .ok (.goto (-1358), 3) := by decide +kernel
theorem aL_1384 : decode code 1384 = .ok (.iconst 1, 1) := by decide +kernel
theorem aL_1385 : decode code 1385 = .ok (.ireturn, 1) := by decide +kernel
