theorem d_LAW_0 : decode m_LAW.2.1 0 = .ok (.new 8, 3) := by decide +kernel
theorem d_LAW_3 : decode m_LAW.2.1 3 = .ok (.dup, 1) := by decide +kernel
theorem d_LAW_4 : decode m_LAW.2.1 4 = .ok (.invokespecial 154, 3) := by decide +kernel
theorem d_LAW_7 : decode m_LAW.2.1 7 = .ok (.astore_n 1, 1) := by decide +kernel
theorem d_LAW_8 : decode m_LAW.2.1 8 = .ok (.new 155, 3) := by decide +kernel
theorem d_LAW_11 : decode m_LAW.2.1 11 = .ok (.dup, 1) := by decide +kernel
theorem d_LAW_12 : decode m_LAW.2.1 12 = .ok (.invokespecial 157, 3) := by decide +kernel
theorem d_LAW_15 : decode m_LAW.2.1 15 = .ok (.astore_n 2, 1) := by decide +kernel
theorem d_LAW_16 : decode m_LAW.2.1 16 = .ok (.iconst 1, 1) := by decide +kernel
theorem d_LAW_17 : decode m_LAW.2.1 17 = .ok (.newarray .long, 2) := by decide +kernel
theorem d_LAW_19 : decode m_LAW.2.1 19 = .ok (.astore_n 3, 1) := by decide +kernel
theorem d_LAW_20 : decode m_LAW.2.1 20 = .ok (.iconst 0, 1) := by decide +kernel
theorem d_LAW_21 : decode m_LAW.2.1 21 = .ok (.istore 4, 2) := by decide +kernel
theorem d_LAW_23 : decode m_LAW.2.1 23 = .ok (.iload 4, 2) := by decide +kernel
theorem d_LAW_25 : decode m_LAW.2.1 25 = .ok (.aload_n 0, 1) := by decide +kernel
theorem d_LAW_26 : decode m_LAW.2.1 26 = .ok (.arraylength, 1) := by decide +kernel
theorem d_LAW_27 : decode m_LAW.2.1 27 = .ok (.bipush 7, 2) := by decide +kernel
theorem d_LAW_29 : decode m_LAW.2.1 29 = .ok (.isub, 1) := by decide +kernel
theorem d_LAW_30 : decode m_LAW.2.1 30 = .ok (.if_icmp .gt 3539, 3) := by decide +kernel
theorem d_LAW_33 : decode m_LAW.2.1 33 = .ok (.aload_n 0, 1) := by decide +kernel
theorem d_LAW_34 : decode m_LAW.2.1 34 = .ok (.iload 4, 2) := by decide +kernel
theorem d_LAW_36 : decode m_LAW.2.1 36 = .ok (.iaload, 1) := by decide +kernel
theorem d_LAW_37 : decode m_LAW.2.1 37 = .ok (.bipush 63, 2) := by decide +kernel
theorem d_LAW_39 : decode m_LAW.2.1 39 = .ok (.iand, 1) := by decide +kernel
theorem d_LAW_40 : decode m_LAW.2.1 40 = .ok (.tableswitch 3523 0 48 #[212, 256, 336, 416, 520, 645, 748, 851, 943, 1042, 1110, 1185, 1265, 1369, 1405, 1461, 1474, 1487, 1500, 1513, 1526, 1594, 1607, 1663, 1762, 1837, 1885, 1953, 2045, 2125, 2200, 2256, 2324, 2428, 2508, 2600, 2656, 2712, 2792, 2860, 2940, 3039, 3083, 3175, 3243, 3323, 3403, 3466, 3479], 212) := by decide +kernel
theorem d_LAW_252 : decode m_LAW.2.1 252 = .ok (.aload_n 1, 1) := by decide +kernel
theorem d_LAW_253 : decode m_LAW.2.1 253 = .ok (.aload_n 3, 1) := by decide +kernel
theorem d_LAW_254 : decode m_LAW.2.1 254 = .ok (.invokestatic 158, 3) := by decide +kernel
theorem d_LAW_257 : decode m_LAW.2.1 257 = .ok (.istore 5, 2) := by decide +kernel
theorem d_LAW_259 : decode m_LAW.2.1 259 = .ok (.aload_n 2, 1) := by decide +kernel
theorem d_LAW_260 : decode m_LAW.2.1 260 = .ok (.invokevirtual 163, 3) := by decide +kernel
theorem d_LAW_263 : decode m_LAW.2.1 263 = .ok (.istore 6, 2) := by decide +kernel
theorem d_LAW_265 : decode m_LAW.2.1 265 = .ok (.aload_n 2, 1) := by decide +kernel
theorem d_LAW_266 : decode m_LAW.2.1 266 = .ok (.invokevirtual 164, 3) := by decide +kernel
theorem d_LAW_269 : decode m_LAW.2.1 269 = .ok (.iload 5, 2) := by decide +kernel
theorem d_LAW_271 : decode m_LAW.2.1 271 = .ok (.if_icmp .eq 5, 3) := by decide +kernel
theorem d_LAW_274 : decode m_LAW.2.1 274 = .ok (.iconst 0, 1) := by decide +kernel
theorem d_LAW_275 : decode m_LAW.2.1 275 = .ok (.ireturn, 1) := by decide +kernel
theorem d_LAW_276 : decode m_LAW.2.1 276 = .ok (.iload 5, 2) := by decide +kernel
theorem d_LAW_278 : decode m_LAW.2.1 278 = .ok (.ifCond .ne 15, 3) := by decide +kernel
theorem d_LAW_281 : decode m_LAW.2.1 281 = .ok (.aload_n 3, 1) := by decide +kernel
theorem d_LAW_282 : decode m_LAW.2.1 282 = .ok (.iconst 0, 1) := by decide +kernel
theorem d_LAW_283 : decode m_LAW.2.1 283 = .ok (.laload, 1) := by decide +kernel
theorem d_LAW_284 : decode m_LAW.2.1 284 = .ok (.iload 6, 2) := by decide +kernel
theorem d_LAW_286 : decode m_LAW.2.1 286 = .ok (.i2l, 1) := by decide +kernel
theorem d_LAW_287 : decode m_LAW.2.1 287 = .ok (.lcmp, 1) := by decide +kernel
theorem d_LAW_288 : decode m_LAW.2.1 288 = .ok (.ifCond .eq 5, 3) := by decide +kernel
theorem d_LAW_291 : decode m_LAW.2.1 291 = .ok (.iconst 0, 1) := by decide +kernel
theorem d_LAW_292 : decode m_LAW.2.1 292 = .ok (.ireturn, 1) := by decide +kernel
theorem d_LAW_293 : decode m_LAW.2.1 293 = .ok (.goto 3270, 3) := by decide +kernel
theorem d_LAW_296 : decode m_LAW.2.1 296 = .ok (.aload_n 1, 1) := by decide +kernel
theorem d_LAW_297 : decode m_LAW.2.1 297 = .ok (.aload_n 0, 1) := by decide +kernel
theorem d_LAW_298 : decode m_LAW.2.1 298 = .ok (.iload 4, 2) := by decide +kernel
theorem d_LAW_300 : decode m_LAW.2.1 300 = .ok (.iconst 1, 1) := by decide +kernel
theorem d_LAW_301 : decode m_LAW.2.1 301 = .ok (.iadd, 1) := by decide +kernel
theorem d_LAW_302 : decode m_LAW.2.1 302 = .ok (.iaload, 1) := by decide +kernel
theorem d_LAW_303 : decode m_LAW.2.1 303 = .ok (.aload_n 0, 1) := by decide +kernel
theorem d_LAW_304 : decode m_LAW.2.1 304 = .ok (.iload 4, 2) := by decide +kernel
theorem d_LAW_306 : decode m_LAW.2.1 306 = .ok (.iconst 2, 1) := by decide +kernel
theorem d_LAW_307 : decode m_LAW.2.1 307 = .ok (.iadd, 1) := by decide +kernel
theorem d_LAW_308 : decode m_LAW.2.1 308 = .ok (.iaload, 1) := by decide +kernel
theorem d_LAW_309 : decode m_LAW.2.1 309 = .ok (.aload_n 0, 1) := by decide +kernel
theorem d_LAW_310 : decode m_LAW.2.1 310 = .ok (.iload 4, 2) := by decide +kernel
theorem d_LAW_312 : decode m_LAW.2.1 312 = .ok (.iconst 3, 1) := by decide +kernel
theorem d_LAW_313 : decode m_LAW.2.1 313 = .ok (.iadd, 1) := by decide +kernel
theorem d_LAW_314 : decode m_LAW.2.1 314 = .ok (.iaload, 1) := by decide +kernel
theorem d_LAW_315 : decode m_LAW.2.1 315 = .ok (.aload_n 3, 1) := by decide +kernel
theorem d_LAW_316 : decode m_LAW.2.1 316 = .ok (.invokestatic 167, 3) := by decide +kernel
theorem d_LAW_319 : decode m_LAW.2.1 319 = .ok (.istore 5, 2) := by decide +kernel
theorem d_LAW_321 : decode m_LAW.2.1 321 = .ok (.aload_n 2, 1) := by decide +kernel
theorem d_LAW_322 : decode m_LAW.2.1 322 = .ok (.aload_n 0, 1) := by decide +kernel
theorem d_LAW_323 : decode m_LAW.2.1 323 = .ok (.iload 4, 2) := by decide +kernel
theorem d_LAW_325 : decode m_LAW.2.1 325 = .ok (.iconst 1, 1) := by decide +kernel
theorem d_LAW_326 : decode m_LAW.2.1 326 = .ok (.iadd, 1) := by decide +kernel
theorem d_LAW_327 : decode m_LAW.2.1 327 = .ok (.iaload, 1) := by decide +kernel
theorem d_LAW_328 : decode m_LAW.2.1 328 = .ok (.aload_n 0, 1) := by decide +kernel
theorem d_LAW_329 : decode m_LAW.2.1 329 = .ok (.iload 4, 2) := by decide +kernel
theorem d_LAW_331 : decode m_LAW.2.1 331 = .ok (.iconst 2, 1) := by decide +kernel
theorem d_LAW_332 : decode m_LAW.2.1 332 = .ok (.iadd, 1) := by decide +kernel
theorem d_LAW_333 : decode m_LAW.2.1 333 = .ok (.iaload, 1) := by decide +kernel
theorem d_LAW_334 : decode m_LAW.2.1 334 = .ok (.aload_n 0, 1) := by decide +kernel
theorem d_LAW_335 : decode m_LAW.2.1 335 = .ok (.iload 4, 2) := by decide +kernel
theorem d_LAW_337 : decode m_LAW.2.1 337 = .ok (.iconst 3, 1) := by decide +kernel
theorem d_LAW_338 : decode m_LAW.2.1 338 = .ok (.iadd, 1) := by decide +kernel
theorem d_LAW_339 : decode m_LAW.2.1 339 = .ok (.iaload, 1) := by decide +kernel
theorem d_LAW_340 : decode m_LAW.2.1 340 = .ok (.invokevirtual 170, 3) := by decide +kernel
theorem d_LAW_343 : decode m_LAW.2.1 343 = .ok (.istore 6, 2) := by decide +kernel
theorem d_LAW_345 : decode m_LAW.2.1 345 = .ok (.aload_n 2, 1) := by decide +kernel
theorem d_LAW_346 : decode m_LAW.2.1 346 = .ok (.invokevirtual 164, 3) := by decide +kernel
theorem d_LAW_349 : decode m_LAW.2.1 349 = .ok (.iload 5, 2) := by decide +kernel
theorem d_LAW_351 : decode m_LAW.2.1 351 = .ok (.if_icmp .eq 5, 3) := by decide +kernel
theorem d_LAW_354 : decode m_LAW.2.1 354 = .ok (.iconst 0, 1) := by decide +kernel
theorem d_LAW_355 : decode m_LAW.2.1 355 = .ok (.ireturn, 1) := by decide +kernel
theorem d_LAW_356 : decode m_LAW.2.1 356 = .ok (.iload 5, 2) := by decide +kernel
theorem d_LAW_358 : decode m_LAW.2.1 358 = .ok (.ifCond .ne 15, 3) := by decide +kernel
theorem d_LAW_361 : decode m_LAW.2.1 361 = .ok (.aload_n 3, 1) := by decide +kernel
theorem d_LAW_362 : decode m_LAW.2.1 362 = .ok (.iconst 0, 1) := by decide +kernel
theorem d_LAW_363 : decode m_LAW.2.1 363 = .ok (.laload, 1) := by decide +kernel
theorem d_LAW_364 : decode m_LAW.2.1 364 = .ok (.iload 6, 2) := by decide +kernel
theorem d_LAW_366 : decode m_LAW.2.1 366 = .ok (.i2l, 1) := by decide +kernel
theorem d_LAW_367 : decode m_LAW.2.1 367 = .ok (.lcmp, 1) := by decide +kernel
theorem d_LAW_368 : decode m_LAW.2.1 368 = .ok (.ifCond .eq 5, 3) := by decide +kernel
theorem d_LAW_371 : decode m_LAW.2.1 371 = .ok (.iconst 0, 1) := by decide +kernel
theorem d_LAW_372 : decode m_LAW.2.1 372 = .ok (.ireturn, 1) := by decide +kernel
theorem d_LAW_373 : decode m_LAW.2.1 373 = .ok (.goto 3190, 3) := by decide +kernel
theorem d_LAW_376 : decode m_LAW.2.1 376 = .ok (.aload_n 1, 1) := by decide +kernel
theorem d_LAW_377 : decode m_LAW.2.1 377 = .ok (.aload_n 0, 1) := by decide +kernel
theorem d_LAW_378 : decode m_LAW.2.1 378 = .ok (.iload 4, 2) := by decide +kernel
theorem d_LAW_380 : decode m_LAW.2.1 380 = .ok (.iconst 1, 1) := by decide +kernel
theorem d_LAW_381 : decode m_LAW.2.1 381 = .ok (.iadd, 1) := by decide +kernel
theorem d_LAW_382 : decode m_LAW.2.1 382 = .ok (.iaload, 1) := by decide +kernel
theorem d_LAW_383 : decode m_LAW.2.1 383 = .ok (.aload_n 0, 1) := by decide +kernel
theorem d_LAW_384 : decode m_LAW.2.1 384 = .ok (.iload 4, 2) := by decide +kernel
theorem d_LAW_386 : decode m_LAW.2.1 386 = .ok (.iconst 2, 1) := by decide +kernel
theorem d_LAW_387 : decode m_LAW.2.1 387 = .ok (.iadd, 1) := by decide +kernel
theorem d_LAW_388 : decode m_LAW.2.1 388 = .ok (.iaload, 1) := by decide +kernel
theorem d_LAW_389 : decode m_LAW.2.1 389 = .ok (.aload_n 0, 1) := by decide +kernel
theorem d_LAW_390 : decode m_LAW.2.1 390 = .ok (.iload 4, 2) := by decide +kernel
theorem d_LAW_392 : decode m_LAW.2.1 392 = .ok (.iconst 3, 1) := by decide +kernel
theorem d_LAW_393 : decode m_LAW.2.1 393 = .ok (.iadd, 1) := by decide +kernel
theorem d_LAW_394 : decode m_LAW.2.1 394 = .ok (.iaload, 1) := by decide +kernel
theorem d_LAW_395 : decode m_LAW.2.1 395 = .ok (.aload_n 3, 1) := by decide +kernel
theorem d_LAW_396 : decode m_LAW.2.1 396 = .ok (.invokestatic 171, 3) := by decide +kernel
theorem d_LAW_399 : decode m_LAW.2.1 399 = .ok (.istore 5, 2) := by decide +kernel
theorem d_LAW_401 : decode m_LAW.2.1 401 = .ok (.aload_n 2, 1) := by decide +kernel
theorem d_LAW_402 : decode m_LAW.2.1 402 = .ok (.aload_n 0, 1) := by decide +kernel
theorem d_LAW_403 : decode m_LAW.2.1 403 = .ok (.iload 4, 2) := by decide +kernel
theorem d_LAW_405 : decode m_LAW.2.1 405 = .ok (.iconst 1, 1) := by decide +kernel
theorem d_LAW_406 : decode m_LAW.2.1 406 = .ok (.iadd, 1) := by decide +kernel
theorem d_LAW_407 : decode m_LAW.2.1 407 = .ok (.iaload, 1) := by decide +kernel
theorem d_LAW_408 : decode m_LAW.2.1 408 = .ok (.aload_n 0, 1) := by decide +kernel
theorem d_LAW_409 : decode m_LAW.2.1 409 = .ok (.iload 4, 2) := by decide +kernel
theorem d_LAW_411 : decode m_LAW.2.1 411 = .ok (.iconst 2, 1) := by decide +kernel
theorem d_LAW_412 : decode m_LAW.2.1 412 = .ok (.iadd, 1) := by decide +kernel
theorem d_LAW_413 : decode m_LAW.2.1 413 = .ok (.iaload, 1) := by decide +kernel
theorem d_LAW_414 : decode m_LAW.2.1 414 = .ok (.aload_n 0, 1) := by decide +kernel
theorem d_LAW_415 : decode m_LAW.2.1 415 = .ok (.iload 4, 2) := by decide +kernel
theorem d_LAW_417 : decode m_LAW.2.1 417 = .ok (.iconst 3, 1) := by decide +kernel
theorem d_LAW_418 : decode m_LAW.2.1 418 = .ok (.iadd, 1) := by decide +kernel
theorem d_LAW_419 : decode m_LAW.2.1 419 = .ok (.iaload, 1) := by decide +kernel
theorem d_LAW_420 : decode m_LAW.2.1 420 = .ok (.invokevirtual 173, 3) := by decide +kernel
theorem d_LAW_423 : decode m_LAW.2.1 423 = .ok (.istore 6, 2) := by decide +kernel
theorem d_LAW_425 : decode m_LAW.2.1 425 = .ok (.aload_n 2, 1) := by decide +kernel
theorem d_LAW_426 : decode m_LAW.2.1 426 = .ok (.invokevirtual 164, 3) := by decide +kernel
theorem d_LAW_429 : decode m_LAW.2.1 429 = .ok (.iload 5, 2) := by decide +kernel
theorem d_LAW_431 : decode m_LAW.2.1 431 = .ok (.if_icmp .eq 5, 3) := by decide +kernel
theorem d_LAW_434 : decode m_LAW.2.1 434 = .ok (.iconst 0, 1) := by decide +kernel
theorem d_LAW_435 : decode m_LAW.2.1 435 = .ok (.ireturn, 1) := by decide +kernel
theorem d_LAW_436 : decode m_LAW.2.1 436 = .ok (.iload 5, 2) := by decide +kernel
theorem d_LAW_438 : decode m_LAW.2.1 438 = .ok (.ifCond .ne 15, 3) := by decide +kernel
theorem d_LAW_441 : decode m_LAW.2.1 441 = .ok (.aload_n 3, 1) := by decide +kernel
theorem d_LAW_442 : decode m_LAW.2.1 442 = .ok (.iconst 0, 1) := by decide +kernel
theorem d_LAW_443 : decode m_LAW.2.1 443 = .ok (.laload, 1) := by decide +kernel
theorem d_LAW_444 : decode m_LAW.2.1 444 = .ok (.iload 6, 2) := by decide +kernel
theorem d_LAW_446 : decode m_LAW.2.1 446 = .ok (.i2l, 1) := by decide +kernel
theorem d_LAW_447 : decode m_LAW.2.1 447 = .ok (.lcmp, 1) := by decide +kernel
theorem d_LAW_448 : decode m_LAW.2.1 448 = .ok (.ifCond .eq 5, 3) := by decide +kernel
theorem d_LAW_451 : decode m_LAW.2.1 451 = .ok (.iconst 0, 1) := by decide +kernel
theorem d_LAW_452 : decode m_LAW.2.1 452 = .ok (.ireturn, 1) := by decide +kernel
theorem d_LAW_453 : decode m_LAW.2.1 453 = .ok (.goto 3110, 3) := by decide +kernel
theorem d_LAW_456 : decode m_LAW.2.1 456 = .ok (.aload_n 1, 1) := by decide +kernel
theorem d_LAW_457 : decode m_LAW.2.1 457 = .ok (.aload_n 0, 1) := by decide +kernel
theorem d_LAW_458 : decode m_LAW.2.1 458 = .ok (.iload 4, 2) := by decide +kernel
theorem d_LAW_460 : decode m_LAW.2.1 460 = .ok (.iconst 1, 1) := by decide +kernel
theorem d_LAW_461 : decode m_LAW.2.1 461 = .ok (.iadd, 1) := by decide +kernel
theorem d_LAW_462 : decode m_LAW.2.1 462 = .ok (.iaload, 1) := by decide +kernel
theorem d_LAW_463 : decode m_LAW.2.1 463 = .ok (.aload_n 0, 1) := by decide +kernel
theorem d_LAW_464 : decode m_LAW.2.1 464 = .ok (.iload 4, 2) := by decide +kernel
theorem d_LAW_466 : decode m_LAW.2.1 466 = .ok (.iconst 2, 1) := by decide +kernel
theorem d_LAW_467 : decode m_LAW.2.1 467 = .ok (.iadd, 1) := by decide +kernel
theorem d_LAW_468 : decode m_LAW.2.1 468 = .ok (.iaload, 1) := by decide +kernel
theorem d_LAW_469 : decode m_LAW.2.1 469 = .ok (.aload_n 0, 1) := by decide +kernel
theorem d_LAW_470 : decode m_LAW.2.1 470 = .ok (.iload 4, 2) := by decide +kernel
theorem d_LAW_472 : decode m_LAW.2.1 472 = .ok (.iconst 3, 1) := by decide +kernel
theorem d_LAW_473 : decode m_LAW.2.1 473 = .ok (.iadd, 1) := by decide +kernel
theorem d_LAW_474 : decode m_LAW.2.1 474 = .ok (.iaload, 1) := by decide +kernel
theorem d_LAW_475 : decode m_LAW.2.1 475 = .ok (.aload_n 0, 1) := by decide +kernel
theorem d_LAW_476 : decode m_LAW.2.1 476 = .ok (.iload 4, 2) := by decide +kernel
theorem d_LAW_478 : decode m_LAW.2.1 478 = .ok (.iconst 4, 1) := by decide +kernel
theorem d_LAW_479 : decode m_LAW.2.1 479 = .ok (.iadd, 1) := by decide +kernel
theorem d_LAW_480 : decode m_LAW.2.1 480 = .ok (.iaload, 1) := by decide +kernel
theorem d_LAW_481 : decode m_LAW.2.1 481 = .ok (.aload_n 0, 1) := by decide +kernel
theorem d_LAW_482 : decode m_LAW.2.1 482 = .ok (.iload 4, 2) := by decide +kernel
theorem d_LAW_484 : decode m_LAW.2.1 484 = .ok (.iconst 5, 1) := by decide +kernel
theorem d_LAW_485 : decode m_LAW.2.1 485 = .ok (.iadd, 1) := by decide +kernel
theorem d_LAW_486 : decode m_LAW.2.1 486 = .ok (.iaload, 1) := by decide +kernel
theorem d_LAW_487 : decode m_LAW.2.1 487 = .ok (.aload_n 3, 1) := by decide +kernel
theorem d_LAW_488 : decode m_LAW.2.1 488 = .ok (.invokestatic 174, 3) := by decide +kernel
theorem d_LAW_491 : decode m_LAW.2.1 491 = .ok (.istore 5, 2) := by decide +kernel
theorem d_LAW_493 : decode m_LAW.2.1 493 = .ok (.aload_n 2, 1) := by decide +kernel
theorem d_LAW_494 : decode m_LAW.2.1 494 = .ok (.aload_n 0, 1) := by decide +kernel
theorem d_LAW_495 : decode m_LAW.2.1 495 = .ok (.iload 4, 2) := by decide +kernel
theorem d_LAW_497 : decode m_LAW.2.1 497 = .ok (.iconst 1, 1) := by decide +kernel
theorem d_LAW_498 : decode m_LAW.2.1 498 = .ok (.iadd, 1) := by decide +kernel
theorem d_LAW_499 : decode m_LAW.2.1 499 = .ok (.iaload, 1) := by decide +kernel
theorem d_LAW_500 : decode m_LAW.2.1 500 = .ok (.aload_n 0, 1) := by decide +kernel
theorem d_LAW_501 : decode m_LAW.2.1 501 = .ok (.iload 4, 2) := by decide +kernel
theorem d_LAW_503 : decode m_LAW.2.1 503 = .ok (.iconst 2, 1) := by decide +kernel
theorem d_LAW_504 : decode m_LAW.2.1 504 = .ok (.iadd, 1) := by decide +kernel
theorem d_LAW_505 : decode m_LAW.2.1 505 = .ok (.iaload, 1) := by decide +kernel
theorem d_LAW_506 : decode m_LAW.2.1 506 = .ok (.aload_n 0, 1) := by decide +kernel
theorem d_LAW_507 : decode m_LAW.2.1 507 = .ok (.iload 4, 2) := by decide +kernel
theorem d_LAW_509 : decode m_LAW.2.1 509 = .ok (.iconst 3, 1) := by decide +kernel
theorem d_LAW_510 : decode m_LAW.2.1 510 = .ok (.iadd, 1) := by decide +kernel
theorem d_LAW_511 : decode m_LAW.2.1 511 = .ok (.iaload, 1) := by decide +kernel
theorem d_LAW_512 : decode m_LAW.2.1 512 = .ok (.aload_n 0, 1) := by decide +kernel
theorem d_LAW_513 : decode m_LAW.2.1 513 = .ok (.iload 4, 2) := by decide +kernel
theorem d_LAW_515 : decode m_LAW.2.1 515 = .ok (.iconst 4, 1) := by decide +kernel
theorem d_LAW_516 : decode m_LAW.2.1 516 = .ok (.iadd, 1) := by decide +kernel
theorem d_LAW_517 : decode m_LAW.2.1 517 = .ok (.iaload, 1) := by decide +kernel
theorem d_LAW_518 : decode m_LAW.2.1 518 = .ok (.aload_n 0, 1) := by decide +kernel
theorem d_LAW_519 : decode m_LAW.2.1 519 = .ok (.iload 4, 2) := by decide +kernel
theorem d_LAW_521 : decode m_LAW.2.1 521 = .ok (.iconst 5, 1) := by decide +kernel
theorem d_LAW_522 : decode m_LAW.2.1 522 = .ok (.iadd, 1) := by decide +kernel
theorem d_LAW_523 : decode m_LAW.2.1 523 = .ok (.iaload, 1) := by decide +kernel
theorem d_LAW_524 : decode m_LAW.2.1 524 = .ok (.invokevirtual 177, 3) := by decide +kernel
theorem d_LAW_527 : decode m_LAW.2.1 527 = .ok (.istore 6, 2) := by decide +kernel
theorem d_LAW_529 : decode m_LAW.2.1 529 = .ok (.aload_n 2, 1) := by decide +kernel
theorem d_LAW_530 : decode m_LAW.2.1 530 = .ok (.invokevirtual 164, 3) := by decide +kernel
theorem d_LAW_533 : decode m_LAW.2.1 533 = .ok (.iload 5, 2) := by decide +kernel
theorem d_LAW_535 : decode m_LAW.2.1 535 = .ok (.if_icmp .eq 5, 3) := by decide +kernel
theorem d_LAW_538 : decode m_LAW.2.1 538 = .ok (.iconst 0, 1) := by decide +kernel
theorem d_LAW_539 : decode m_LAW.2.1 539 = .ok (.ireturn, 1) := by decide +kernel
theorem d_LAW_540 : decode m_LAW.2.1 540 = .ok (.iload 5, 2) := by decide +kernel
theorem d_LAW_542 : decode m_LAW.2.1 542 = .ok (.ifCond .ne 15, 3) := by decide +kernel
theorem d_LAW_545 : decode m_LAW.2.1 545 = .ok (.aload_n 3, 1) := by decide +kernel
theorem d_LAW_546 : decode m_LAW.2.1 546 = .ok (.iconst 0, 1) := by decide +kernel
theorem d_LAW_547 : decode m_LAW.2.1 547 = .ok (.laload, 1) := by decide +kernel
theorem d_LAW_548 : decode m_LAW.2.1 548 = .ok (.iload 6, 2) := by decide +kernel
theorem d_LAW_550 : decode m_LAW.2.1 550 = .ok (.i2l, 1) := by decide +kernel
theorem d_LAW_551 : decode m_LAW.2.1 551 = .ok (.lcmp, 1) := by decide +kernel
theorem d_LAW_552 : decode m_LAW.2.1 552 = .ok (.ifCond .eq 5, 3) := by decide +kernel
theorem d_LAW_555 : decode m_LAW.2.1 555 = .ok (.iconst 0, 1) := by decide +kernel
theorem d_LAW_556 : decode m_LAW.2.1 556 = .ok (.ireturn, 1) := by decide +kernel
theorem d_LAW_557 : decode m_LAW.2.1 557 = .ok (.goto 3006, 3) := by decide +kernel
theorem d_LAW_560 : decode m_LAW.2.1 560 = .ok (.aload_n 1, 1) := by decide +kernel
theorem d_LAW_561 : decode m_LAW.2.1 561 = .ok (.aload_n 0, 1) := by decide +kernel
theorem d_LAW_562 : decode m_LAW.2.1 562 = .ok (.iload 4, 2) := by decide +kernel
theorem d_LAW_564 : decode m_LAW.2.1 564 = .ok (.iconst 1, 1) := by decide +kernel
theorem d_LAW_565 : decode m_LAW.2.1 565 = .ok (.iadd, 1) := by decide +kernel
theorem d_LAW_566 : decode m_LAW.2.1 566 = .ok (.iaload, 1) := by decide +kernel
theorem d_LAW_567 : decode m_LAW.2.1 567 = .ok (.aload_n 0, 1) := by decide +kernel
theorem d_LAW_568 : decode m_LAW.2.1 568 = .ok (.iload 4, 2) := by decide +kernel
theorem d_LAW_570 : decode m_LAW.2.1 570 = .ok (.iconst 2, 1) := by decide +kernel
theorem d_LAW_571 : decode m_LAW.2.1 571 = .ok (.iadd, 1) := by decide +kernel
theorem d_LAW_572 : decode m_LAW.2.1 572 = .ok (.iaload, 1) := by decide +kernel
theorem d_LAW_573 : decode m_LAW.2.1 573 = .ok (.aload_n 0, 1) := by decide +kernel
theorem d_LAW_574 : decode m_LAW.2.1 574 = .ok (.iload 4, 2) := by decide +kernel
theorem d_LAW_576 : decode m_LAW.2.1 576 = .ok (.iconst 3, 1) := by decide +kernel
theorem d_LAW_577 : decode m_LAW.2.1 577 = .ok (.iadd, 1) := by decide +kernel
theorem d_LAW_578 : decode m_LAW.2.1 578 = .ok (.iaload, 1) := by decide +kernel
theorem d_LAW_579 : decode m_LAW.2.1 579 = .ok (.aload_n 0, 1) := by decide +kernel
theorem d_LAW_580 : decode m_LAW.2.1 580 = .ok (.iload 4, 2) := by decide +kernel
theorem d_LAW_582 : decode m_LAW.2.1 582 = .ok (.iconst 4, 1) := by decide +kernel
theorem d_LAW_583 : decode m_LAW.2.1 583 = .ok (.iadd, 1) := by decide +kernel
theorem d_LAW_584 : decode m_LAW.2.1 584 = .ok (.iaload, 1) := by decide +kernel
theorem d_LAW_585 : decode m_LAW.2.1 585 = .ok (.aload_n 0, 1) := by decide +kernel
theorem d_LAW_586 : decode m_LAW.2.1 586 = .ok (.iload 4, 2) := by decide +kernel
theorem d_LAW_588 : decode m_LAW.2.1 588 = .ok (.iconst 5, 1) := by decide +kernel
theorem d_LAW_589 : decode m_LAW.2.1 589 = .ok (.iadd, 1) := by decide +kernel
theorem d_LAW_590 : decode m_LAW.2.1 590 = .ok (.iaload, 1) := by decide +kernel
theorem d_LAW_591 : decode m_LAW.2.1 591 = .ok (.aload_n 0, 1) := by decide +kernel
theorem d_LAW_592 : decode m_LAW.2.1 592 = .ok (.iload 4, 2) := by decide +kernel
theorem d_LAW_594 : decode m_LAW.2.1 594 = .ok (.bipush 6, 2) := by decide +kernel
theorem d_LAW_596 : decode m_LAW.2.1 596 = .ok (.iadd, 1) := by decide +kernel
theorem d_LAW_597 : decode m_LAW.2.1 597 = .ok (.iaload, 1) := by decide +kernel
theorem d_LAW_598 : decode m_LAW.2.1 598 = .ok (.aload_n 3, 1) := by decide +kernel
theorem d_LAW_599 : decode m_LAW.2.1 599 = .ok (.invokestatic 178, 3) := by decide +kernel
theorem d_LAW_602 : decode m_LAW.2.1 602 = .ok (.istore 5, 2) := by decide +kernel
theorem d_LAW_604 : decode m_LAW.2.1 604 = .ok (.aload_n 2, 1) := by decide +kernel
theorem d_LAW_605 : decode m_LAW.2.1 605 = .ok (.aload_n 0, 1) := by decide +kernel
theorem d_LAW_606 : decode m_LAW.2.1 606 = .ok (.iload 4, 2) := by decide +kernel
theorem d_LAW_608 : decode m_LAW.2.1 608 = .ok (.iconst 1, 1) := by decide +kernel
theorem d_LAW_609 : decode m_LAW.2.1 609 = .ok (.iadd, 1) := by decide +kernel
theorem d_LAW_610 : decode m_LAW.2.1 610 = .ok (.iaload, 1) := by decide +kernel
theorem d_LAW_611 : decode m_LAW.2.1 611 = .ok (.aload_n 0, 1) := by decide +kernel
theorem d_LAW_612 : decode m_LAW.2.1 612 = .ok (.iload 4, 2) := by decide +kernel
theorem d_LAW_614 : decode m_LAW.2.1 614 = .ok (.iconst 2, 1) := by decide +kernel
theorem d_LAW_615 : decode m_LAW.2.1 615 = .ok (.iadd, 1) := by decide +kernel
theorem d_LAW_616 : decode m_LAW.2.1 616 = .ok (.iaload, 1) := by decide +kernel
theorem d_LAW_617 : decode m_LAW.2.1 617 = .ok (.aload_n 0, 1) := by decide +kernel
theorem d_LAW_618 : decode m_LAW.2.1 618 = .ok (.iload 4, 2) := by decide +kernel
theorem d_LAW_620 : decode m_LAW.2.1 620 = .ok (.iconst 3, 1) := by decide +kernel
theorem d_LAW_621 : decode m_LAW.2.1 621 = .ok (.iadd, 1) := by decide +kernel
theorem d_LAW_622 : decode m_LAW.2.1 622 = .ok (.iaload, 1) := by decide +kernel
theorem d_LAW_623 : decode m_LAW.2.1 623 = .ok (.aload_n 0, 1) := by decide +kernel
theorem d_LAW_624 : decode m_LAW.2.1 624 = .ok (.iload 4, 2) := by decide +kernel
theorem d_LAW_626 : decode m_LAW.2.1 626 = .ok (.iconst 4, 1) := by decide +kernel
theorem d_LAW_627 : decode m_LAW.2.1 627 = .ok (.iadd, 1) := by decide +kernel
theorem d_LAW_628 : decode m_LAW.2.1 628 = .ok (.iaload, 1) := by decide +kernel
theorem d_LAW_629 : decode m_LAW.2.1 629 = .ok (.aload_n 0, 1) := by decide +kernel
theorem d_LAW_630 : decode m_LAW.2.1 630 = .ok (.iload 4, 2) := by decide +kernel
theorem d_LAW_632 : decode m_LAW.2.1 632 = .ok (.iconst 5, 1) := by decide +kernel
theorem d_LAW_633 : decode m_LAW.2.1 633 = .ok (.iadd, 1) := by decide +kernel
theorem d_LAW_634 : decode m_LAW.2.1 634 = .ok (.iaload, 1) := by decide +kernel
theorem d_LAW_635 : decode m_LAW.2.1 635 = .ok (.aload_n 0, 1) := by decide +kernel
theorem d_LAW_636 : decode m_LAW.2.1 636 = .ok (.iload 4, 2) := by decide +kernel
theorem d_LAW_638 : decode m_LAW.2.1 638 = .ok (.bipush 6, 2) := by decide +kernel
theorem d_LAW_640 : decode m_LAW.2.1 640 = .ok (.iadd, 1) := by decide +kernel
theorem d_LAW_641 : decode m_LAW.2.1 641 = .ok (.iaload, 1) := by decide +kernel
theorem d_LAW_642 : decode m_LAW.2.1 642 = .ok (.invokevirtual 181, 3) := by decide +kernel
theorem d_LAW_645 : decode m_LAW.2.1 645 = .ok (.istore 6, 2) := by decide +kernel
theorem d_LAW_647 : decode m_LAW.2.1 647 = .ok (.aload_n 2, 1) := by decide +kernel
theorem d_LAW_648 : decode m_LAW.2.1 648 = .ok (.invokevirtual 164, 3) := by decide +kernel
theorem d_LAW_651 : decode m_LAW.2.1 651 = .ok (.iload 5, 2) := by decide +kernel
theorem d_LAW_653 : decode m_LAW.2.1 653 = .ok (.if_icmp .eq 5, 3) := by decide +kernel
theorem d_LAW_656 : decode m_LAW.2.1 656 = .ok (.iconst 0, 1) := by decide +kernel
theorem d_LAW_657 : decode m_LAW.2.1 657 = .ok (.ireturn, 1) := by decide +kernel
theorem d_LAW_658 : decode m_LAW.2.1 658 = .ok (.iload 5, 2) := by decide +kernel
theorem d_LAW_660 : decode m_LAW.2.1 660 = .ok (.ifCond .ne 22, 3) := by decide +kernel
theorem d_LAW_663 : decode m_LAW.2.1 663 = .ok (.aload_n 3, 1) := by decide +kernel
theorem d_LAW_664 : decode m_LAW.2.1 664 = .ok (.iconst 0, 1) := by decide +kernel
theorem d_LAW_665 : decode m_LAW.2.1 665 = .ok (.laload, 1) := by decide +kernel
theorem d_LAW_666 : decode m_LAW.2.1 666 = .ok (.iload 6, 2) := by decide +kernel
theorem d_LAW_668 : decode m_LAW.2.1 668 = .ok (.ifCond .eq 7, 3) := by decide +kernel
theorem d_LAW_671 : decode m_LAW.2.1 671 = .ok (.lconst 1, 1) := by decide +kernel
theorem d_LAW_672 : decode m_LAW.2.1 672 = .ok (.goto 4, 3) := by decide +kernel
theorem d_LAW_675 : decode m_LAW.2.1 675 = .ok (.lconst 0, 1) := by decide +kernel
theorem d_LAW_676 : decode m_LAW.2.1 676 = .ok (.lcmp, 1) := by decide +kernel
theorem d_LAW_677 : decode m_LAW.2.1 677 = .ok (.ifCond .eq 5, 3) := by decide +kernel
theorem d_LAW_680 : decode m_LAW.2.1 680 = .ok (.iconst 0, 1) := by decide +kernel
theorem d_LAW_681 : decode m_LAW.2.1 681 = .ok (.ireturn, 1) := by decide +kernel
theorem d_LAW_682 : decode m_LAW.2.1 682 = .ok (.goto 2881, 3) := by decide +kernel
theorem d_LAW_685 : decode m_LAW.2.1 685 = .ok (.aload_n 1, 1) := by decide +kernel
theorem d_LAW_686 : decode m_LAW.2.1 686 = .ok (.aload_n 0, 1) := by decide +kernel
theorem d_LAW_687 : decode m_LAW.2.1 687 = .ok (.iload 4, 2) := by decide +kernel
theorem d_LAW_689 : decode m_LAW.2.1 689 = .ok (.iconst 1, 1) := by decide +kernel
theorem d_LAW_690 : decode m_LAW.2.1 690 = .ok (.iadd, 1) := by decide +kernel
theorem d_LAW_691 : decode m_LAW.2.1 691 = .ok (.iaload, 1) := by decide +kernel
theorem d_LAW_692 : decode m_LAW.2.1 692 = .ok (.aload_n 0, 1) := by decide +kernel
theorem d_LAW_693 : decode m_LAW.2.1 693 = .ok (.iload 4, 2) := by decide +kernel
theorem d_LAW_695 : decode m_LAW.2.1 695 = .ok (.iconst 2, 1) := by decide +kernel
theorem d_LAW_696 : decode m_LAW.2.1 696 = .ok (.iadd, 1) := by decide +kernel
theorem d_LAW_697 : decode m_LAW.2.1 697 = .ok (.iaload, 1) := by decide +kernel
theorem d_LAW_698 : decode m_LAW.2.1 698 = .ok (.aload_n 0, 1) := by decide +kernel
theorem d_LAW_699 : decode m_LAW.2.1 699 = .ok (.iload 4, 2) := by decide +kernel
theorem d_LAW_701 : decode m_LAW.2.1 701 = .ok (.iconst 3, 1) := by decide +kernel
theorem d_LAW_702 : decode m_LAW.2.1 702 = .ok (.iadd, 1) := by decide +kernel
theorem d_LAW_703 : decode m_LAW.2.1 703 = .ok (.iaload, 1) := by decide +kernel
theorem d_LAW_704 : decode m_LAW.2.1 704 = .ok (.ifCond .eq 7, 3) := by decide +kernel
theorem d_LAW_707 : decode m_LAW.2.1 707 = .ok (.iconst 1, 1) := by decide +kernel
theorem d_LAW_708 : decode m_LAW.2.1 708 = .ok (.goto 4, 3) := by decide +kernel
theorem d_LAW_711 : decode m_LAW.2.1 711 = .ok (.iconst 0, 1) := by decide +kernel
theorem d_LAW_712 : decode m_LAW.2.1 712 = .ok (.aload_n 3, 1) := by decide +kernel
theorem d_LAW_713 : decode m_LAW.2.1 713 = .ok (.invokestatic 182, 3) := by decide +kernel
theorem d_LAW_716 : decode m_LAW.2.1 716 = .ok (.istore 5, 2) := by decide +kernel
theorem d_LAW_718 : decode m_LAW.2.1 718 = .ok (.aload_n 2, 1) := by decide +kernel
theorem d_LAW_719 : decode m_LAW.2.1 719 = .ok (.aload_n 0, 1) := by decide +kernel
theorem d_LAW_720 : decode m_LAW.2.1 720 = .ok (.iload 4, 2) := by decide +kernel
theorem d_LAW_722 : decode m_LAW.2.1 722 = .ok (.iconst 1, 1) := by decide +kernel
theorem d_LAW_723 : decode m_LAW.2.1 723 = .ok (.iadd, 1) := by decide +kernel
theorem d_LAW_724 : decode m_LAW.2.1 724 = .ok (.iaload, 1) := by decide +kernel
theorem d_LAW_725 : decode m_LAW.2.1 725 = .ok (.aload_n 0, 1) := by decide +kernel
theorem d_LAW_726 : decode m_LAW.2.1 726 = .ok (.iload 4, 2) := by decide +kernel
theorem d_LAW_728 : decode m_LAW.2.1 728 = .ok (.iconst 2, 1) := by decide +kernel
theorem d_LAW_729 : decode m_LAW.2.1 729 = .ok (.iadd, 1) := by decide +kernel
theorem d_LAW_730 : decode m_LAW.2.1 730 = .ok (.iaload, 1) := by decide +kernel
theorem d_LAW_731 : decode m_LAW.2.1 731 = .ok (.aload_n 0, 1) := by decide +kernel
theorem d_LAW_732 : decode m_LAW.2.1 732 = .ok (.iload 4, 2) := by decide +kernel
theorem d_LAW_734 : decode m_LAW.2.1 734 = .ok (.iconst 3, 1) := by decide +kernel
theorem d_LAW_735 : decode m_LAW.2.1 735 = .ok (.iadd, 1) := by decide +kernel
theorem d_LAW_736 : decode m_LAW.2.1 736 = .ok (.iaload, 1) := by decide +kernel
theorem d_LAW_737 : decode m_LAW.2.1 737 = .ok (.ifCond .eq 7, 3) := by decide +kernel
theorem d_LAW_740 : decode m_LAW.2.1 740 = .ok (.iconst 1, 1) := by decide +kernel
theorem d_LAW_741 : decode m_LAW.2.1 741 = .ok (.goto 4, 3) := by decide +kernel
theorem d_LAW_744 : decode m_LAW.2.1 744 = .ok (.iconst 0, 1) := by decide +kernel
theorem d_LAW_745 : decode m_LAW.2.1 745 = .ok (.invokevirtual 185, 3) := by decide +kernel
theorem d_LAW_748 : decode m_LAW.2.1 748 = .ok (.istore 6, 2) := by decide +kernel
theorem d_LAW_750 : decode m_LAW.2.1 750 = .ok (.aload_n 2, 1) := by decide +kernel
theorem d_LAW_751 : decode m_LAW.2.1 751 = .ok (.invokevirtual 164, 3) := by decide +kernel
theorem d_LAW_754 : decode m_LAW.2.1 754 = .ok (.iload 5, 2) := by decide +kernel
theorem d_LAW_756 : decode m_LAW.2.1 756 = .ok (.if_icmp .eq 5, 3) := by decide +kernel
theorem d_LAW_759 : decode m_LAW.2.1 759 = .ok (.iconst 0, 1) := by decide +kernel
theorem d_LAW_760 : decode m_LAW.2.1 760 = .ok (.ireturn, 1) := by decide +kernel
theorem d_LAW_761 : decode m_LAW.2.1 761 = .ok (.iload 5, 2) := by decide +kernel
theorem d_LAW_763 : decode m_LAW.2.1 763 = .ok (.ifCond .ne 22, 3) := by decide +kernel
theorem d_LAW_766 : decode m_LAW.2.1 766 = .ok (.aload_n 3, 1) := by decide +kernel
theorem d_LAW_767 : decode m_LAW.2.1 767 = .ok (.iconst 0, 1) := by decide +kernel
theorem d_LAW_768 : decode m_LAW.2.1 768 = .ok (.laload, 1) := by decide +kernel
theorem d_LAW_769 : decode m_LAW.2.1 769 = .ok (.iload 6, 2) := by decide +kernel
theorem d_LAW_771 : decode m_LAW.2.1 771 = .ok (.ifCond .eq 7, 3) := by decide +kernel
theorem d_LAW_774 : decode m_LAW.2.1 774 = .ok (.lconst 1, 1) := by decide +kernel
theorem d_LAW_775 : decode m_LAW.2.1 775 = .ok (.goto 4, 3) := by decide +kernel
theorem d_LAW_778 : decode m_LAW.2.1 778 = .ok (.lconst 0, 1) := by decide +kernel
theorem d_LAW_779 : decode m_LAW.2.1 779 = .ok (.lcmp, 1) := by decide +kernel
theorem d_LAW_780 : decode m_LAW.2.1 780 = .ok (.ifCond .eq 5, 3) := by decide +kernel
theorem d_LAW_783 : decode m_LAW.2.1 783 = .ok (.iconst 0, 1) := by decide +kernel
theorem d_LAW_784 : decode m_LAW.2.1 784 = .ok (.ireturn, 1) := by decide +kernel
theorem d_LAW_785 : decode m_LAW.2.1 785 = .ok (.goto 2778, 3) := by decide +kernel
theorem d_LAW_788 : decode m_LAW.2.1 788 = .ok (.aload_n 1, 1) := by decide +kernel
theorem d_LAW_789 : decode m_LAW.2.1 789 = .ok (.aload_n 0, 1) := by decide +kernel
theorem d_LAW_790 : decode m_LAW.2.1 790 = .ok (.iload 4, 2) := by decide +kernel
theorem d_LAW_792 : decode m_LAW.2.1 792 = .ok (.iconst 1, 1) := by decide +kernel
theorem d_LAW_793 : decode m_LAW.2.1 793 = .ok (.iadd, 1) := by decide +kernel
theorem d_LAW_794 : decode m_LAW.2.1 794 = .ok (.iaload, 1) := by decide +kernel
theorem d_LAW_795 : decode m_LAW.2.1 795 = .ok (.aload_n 0, 1) := by decide +kernel
theorem d_LAW_796 : decode m_LAW.2.1 796 = .ok (.iload 4, 2) := by decide +kernel
theorem d_LAW_798 : decode m_LAW.2.1 798 = .ok (.iconst 2, 1) := by decide +kernel
theorem d_LAW_799 : decode m_LAW.2.1 799 = .ok (.iadd, 1) := by decide +kernel
theorem d_LAW_800 : decode m_LAW.2.1 800 = .ok (.iaload, 1) := by decide +kernel
theorem d_LAW_801 : decode m_LAW.2.1 801 = .ok (.aload_n 0, 1) := by decide +kernel
theorem d_LAW_802 : decode m_LAW.2.1 802 = .ok (.iload 4, 2) := by decide +kernel
theorem d_LAW_804 : decode m_LAW.2.1 804 = .ok (.iconst 3, 1) := by decide +kernel
theorem d_LAW_805 : decode m_LAW.2.1 805 = .ok (.iadd, 1) := by decide +kernel
theorem d_LAW_806 : decode m_LAW.2.1 806 = .ok (.iaload, 1) := by decide +kernel
theorem d_LAW_807 : decode m_LAW.2.1 807 = .ok (.ifCond .eq 7, 3) := by decide +kernel
theorem d_LAW_810 : decode m_LAW.2.1 810 = .ok (.iconst 1, 1) := by decide +kernel
theorem d_LAW_811 : decode m_LAW.2.1 811 = .ok (.goto 4, 3) := by decide +kernel
theorem d_LAW_814 : decode m_LAW.2.1 814 = .ok (.iconst 0, 1) := by decide +kernel
theorem d_LAW_815 : decode m_LAW.2.1 815 = .ok (.aload_n 3, 1) := by decide +kernel
theorem d_LAW_816 : decode m_LAW.2.1 816 = .ok (.invokestatic 186, 3) := by decide +kernel
theorem d_LAW_819 : decode m_LAW.2.1 819 = .ok (.istore 5, 2) := by decide +kernel
theorem d_LAW_821 : decode m_LAW.2.1 821 = .ok (.aload_n 2, 1) := by decide +kernel
theorem d_LAW_822 : decode m_LAW.2.1 822 = .ok (.aload_n 0, 1) := by decide +kernel
theorem d_LAW_823 : decode m_LAW.2.1 823 = .ok (.iload 4, 2) := by decide +kernel
theorem d_LAW_825 : decode m_LAW.2.1 825 = .ok (.iconst 1, 1) := by decide +kernel
theorem d_LAW_826 : decode m_LAW.2.1 826 = .ok (.iadd, 1) := by decide +kernel
theorem d_LAW_827 : decode m_LAW.2.1 827 = .ok (.iaload, 1) := by decide +kernel
theorem d_LAW_828 : decode m_LAW.2.1 828 = .ok (.aload_n 0, 1) := by decide +kernel
theorem d_LAW_829 : decode m_LAW.2.1 829 = .ok (.iload 4, 2) := by decide +kernel
theorem d_LAW_831 : decode m_LAW.2.1 831 = .ok (.iconst 2, 1) := by decide +kernel
theorem d_LAW_832 : decode m_LAW.2.1 832 = .ok (.iadd, 1) := by decide +kernel
theorem d_LAW_833 : decode m_LAW.2.1 833 = .ok (.iaload, 1) := by decide +kernel
theorem d_LAW_834 : decode m_LAW.2.1 834 = .ok (.aload_n 0, 1) := by decide +kernel
theorem d_LAW_835 : decode m_LAW.2.1 835 = .ok (.iload 4, 2) := by decide +kernel
theorem d_LAW_837 : decode m_LAW.2.1 837 = .ok (.iconst 3, 1) := by decide +kernel
theorem d_LAW_838 : decode m_LAW.2.1 838 = .ok (.iadd, 1) := by decide +kernel
theorem d_LAW_839 : decode m_LAW.2.1 839 = .ok (.iaload, 1) := by decide +kernel
theorem d_LAW_840 : decode m_LAW.2.1 840 = .ok (.ifCond .eq 7, 3) := by decide +kernel
theorem d_LAW_843 : decode m_LAW.2.1 843 = .ok (.iconst 1, 1) := by decide +kernel
theorem d_LAW_844 : decode m_LAW.2.1 844 = .ok (.goto 4, 3) := by decide +kernel
theorem d_LAW_847 : decode m_LAW.2.1 847 = .ok (.iconst 0, 1) := by decide +kernel
theorem d_LAW_848 : decode m_LAW.2.1 848 = .ok (.invokevirtual 188, 3) := by decide +kernel
theorem d_LAW_851 : decode m_LAW.2.1 851 = .ok (.istore 6, 2) := by decide +kernel
theorem d_LAW_853 : decode m_LAW.2.1 853 = .ok (.aload_n 2, 1) := by decide +kernel
theorem d_LAW_854 : decode m_LAW.2.1 854 = .ok (.invokevirtual 164, 3) := by decide +kernel
theorem d_LAW_857 : decode m_LAW.2.1 857 = .ok (.iload 5, 2) := by decide +kernel
theorem d_LAW_859 : decode m_LAW.2.1 859 = .ok (.if_icmp .eq 5, 3) := by decide +kernel
theorem d_LAW_862 : decode m_LAW.2.1 862 = .ok (.iconst 0, 1) := by decide +kernel
theorem d_LAW_863 : decode m_LAW.2.1 863 = .ok (.ireturn, 1) := by decide +kernel
theorem d_LAW_864 : decode m_LAW.2.1 864 = .ok (.iload 5, 2) := by decide +kernel
theorem d_LAW_866 : decode m_LAW.2.1 866 = .ok (.ifCond .ne 22, 3) := by decide +kernel
theorem d_LAW_869 : decode m_LAW.2.1 869 = .ok (.aload_n 3, 1) := by decide +kernel
theorem d_LAW_870 : decode m_LAW.2.1 870 = .ok (.iconst 0, 1) := by decide +kernel
theorem d_LAW_871 : decode m_LAW.2.1 871 = .ok (.laload, 1) := by decide +kernel
theorem d_LAW_872 : decode m_LAW.2.1 872 = .ok (.iload 6, 2) := by decide +kernel
theorem d_LAW_874 : decode m_LAW.2.1 874 = .ok (.ifCond .eq 7, 3) := by decide +kernel
theorem d_LAW_877 : decode m_LAW.2.1 877 = .ok (.lconst 1, 1) := by decide +kernel
theorem d_LAW_878 : decode m_LAW.2.1 878 = .ok (.goto 4, 3) := by decide +kernel
theorem d_LAW_881 : decode m_LAW.2.1 881 = .ok (.lconst 0, 1) := by decide +kernel
theorem d_LAW_882 : decode m_LAW.2.1 882 = .ok (.lcmp, 1) := by decide +kernel
theorem d_LAW_883 : decode m_LAW.2.1 883 = .ok (.ifCond .eq 5, 3) := by decide +kernel
theorem d_LAW_886 : decode m_LAW.2.1 886 = .ok (.iconst 0, 1) := by decide +kernel
theorem d_LAW_887 : decode m_LAW.2.1 887 = .ok (.ireturn, 1) := by decide +kernel
theorem d_LAW_888 : decode m_LAW.2.1 888 = .ok (.goto 2675, 3) := by decide +kernel
theorem d_LAW_891 : decode m_LAW.2.1 891 = .ok (.aload_n 1, 1) := by decide +kernel
theorem d_LAW_892 : decode m_LAW.2.1 892 = .ok (.aload_n 0, 1) := by decide +kernel
theorem d_LAW_893 : decode m_LAW.2.1 893 = .ok (.iload 4, 2) := by decide +kernel
theorem d_LAW_895 : decode m_LAW.2.1 895 = .ok (.iconst 1, 1) := by decide +kernel
theorem d_LAW_896 : decode m_LAW.2.1 896 = .ok (.iadd, 1) := by decide +kernel
theorem d_LAW_897 : decode m_LAW.2.1 897 = .ok (.iaload, 1) := by decide +kernel
theorem d_LAW_898 : decode m_LAW.2.1 898 = .ok (.aload_n 0, 1) := by decide +kernel
theorem d_LAW_899 : decode m_LAW.2.1 899 = .ok (.iload 4, 2) := by decide +kernel
theorem d_LAW_901 : decode m_LAW.2.1 901 = .ok (.iconst 2, 1) := by decide +kernel
theorem d_LAW_902 : decode m_LAW.2.1 902 = .ok (.iadd, 1) := by decide +kernel
theorem d_LAW_903 : decode m_LAW.2.1 903 = .ok (.iaload, 1) := by decide +kernel
theorem d_LAW_904 : decode m_LAW.2.1 904 = .ok (.aload_n 0, 1) := by decide +kernel
theorem d_LAW_905 : decode m_LAW.2.1 905 = .ok (.iload 4, 2) := by decide +kernel
theorem d_LAW_907 : decode m_LAW.2.1 907 = .ok (.iconst 3, 1) := by decide +kernel
theorem d_LAW_908 : decode m_LAW.2.1 908 = .ok (.iadd, 1) := by decide +kernel
theorem d_LAW_909 : decode m_LAW.2.1 909 = .ok (.iaload, 1) := by decide +kernel
theorem d_LAW_910 : decode m_LAW.2.1 910 = .ok (.aload_n 0, 1) := by decide +kernel
theorem d_LAW_911 : decode m_LAW.2.1 911 = .ok (.iload 4, 2) := by decide +kernel
theorem d_LAW_913 : decode m_LAW.2.1 913 = .ok (.iconst 4, 1) := by decide +kernel
theorem d_LAW_914 : decode m_LAW.2.1 914 = .ok (.iadd, 1) := by decide +kernel
theorem d_LAW_915 : decode m_LAW.2.1 915 = .ok (.iaload, 1) := by decide +kernel
theorem d_LAW_916 : decode m_LAW.2.1 916 = .ok (.aload_n 3, 1) := by decide +kernel
theorem d_LAW_917 : decode m_LAW.2.1 917 = .ok (.invokestatic 189, 3) := by decide +kernel
theorem d_LAW_920 : decode m_LAW.2.1 920 = .ok (.istore 5, 2) := by decide +kernel
theorem d_LAW_922 : decode m_LAW.2.1 922 = .ok (.aload_n 2, 1) := by decide +kernel
theorem d_LAW_923 : decode m_LAW.2.1 923 = .ok (.aload_n 0, 1) := by decide +kernel
theorem d_LAW_924 : decode m_LAW.2.1 924 = .ok (.iload 4, 2) := by decide +kernel
theorem d_LAW_926 : decode m_LAW.2.1 926 = .ok (.iconst 1, 1) := by decide +kernel
theorem d_LAW_927 : decode m_LAW.2.1 927 = .ok (.iadd, 1) := by decide +kernel
theorem d_LAW_928 : decode m_LAW.2.1 928 = .ok (.iaload, 1) := by decide +kernel
theorem d_LAW_929 : decode m_LAW.2.1 929 = .ok (.aload_n 0, 1) := by decide +kernel
theorem d_LAW_930 : decode m_LAW.2.1 930 = .ok (.iload 4, 2) := by decide +kernel
theorem d_LAW_932 : decode m_LAW.2.1 932 = .ok (.iconst 2, 1) := by decide +kernel
theorem d_LAW_933 : decode m_LAW.2.1 933 = .ok (.iadd, 1) := by decide +kernel
theorem d_LAW_934 : decode m_LAW.2.1 934 = .ok (.iaload, 1) := by decide +kernel
theorem d_LAW_935 : decode m_LAW.2.1 935 = .ok (.aload_n 0, 1) := by decide +kernel
theorem d_LAW_936 : decode m_LAW.2.1 936 = .ok (.iload 4, 2) := by decide +kernel
theorem d_LAW_938 : decode m_LAW.2.1 938 = .ok (.iconst 3, 1) := by decide +kernel
theorem d_LAW_939 : decode m_LAW.2.1 939 = .ok (.iadd, 1) := by decide +kernel
theorem d_LAW_940 : decode m_LAW.2.1 940 = .ok (.iaload, 1) := by decide +kernel
theorem d_LAW_941 : decode m_LAW.2.1 941 = .ok (.aload_n 0, 1) := by decide +kernel
theorem d_LAW_942 : decode m_LAW.2.1 942 = .ok (.iload 4, 2) := by decide +kernel
theorem d_LAW_944 : decode m_LAW.2.1 944 = .ok (.iconst 4, 1) := by decide +kernel
theorem d_LAW_945 : decode m_LAW.2.1 945 = .ok (.iadd, 1) := by decide +kernel
theorem d_LAW_946 : decode m_LAW.2.1 946 = .ok (.iaload, 1) := by decide +kernel
theorem d_LAW_947 : decode m_LAW.2.1 947 = .ok (.invokevirtual 192, 3) := by decide +kernel
theorem d_LAW_950 : decode m_LAW.2.1 950 = .ok (.istore 6, 2) := by decide +kernel
theorem d_LAW_952 : decode m_LAW.2.1 952 = .ok (.aload_n 2, 1) := by decide +kernel
theorem d_LAW_953 : decode m_LAW.2.1 953 = .ok (.invokevirtual 164, 3) := by decide +kernel
theorem d_LAW_956 : decode m_LAW.2.1 956 = .ok (.iload 5, 2) := by decide +kernel
theorem d_LAW_958 : decode m_LAW.2.1 958 = .ok (.if_icmp .eq 5, 3) := by decide +kernel
theorem d_LAW_961 : decode m_LAW.2.1 961 = .ok (.iconst 0, 1) := by decide +kernel
theorem d_LAW_962 : decode m_LAW.2.1 962 = .ok (.ireturn, 1) := by decide +kernel
theorem d_LAW_963 : decode m_LAW.2.1 963 = .ok (.iload 5, 2) := by decide +kernel
theorem d_LAW_965 : decode m_LAW.2.1 965 = .ok (.ifCond .ne 15, 3) := by decide +kernel
theorem d_LAW_968 : decode m_LAW.2.1 968 = .ok (.aload_n 3, 1) := by decide +kernel
theorem d_LAW_969 : decode m_LAW.2.1 969 = .ok (.iconst 0, 1) := by decide +kernel
theorem d_LAW_970 : decode m_LAW.2.1 970 = .ok (.laload, 1) := by decide +kernel
theorem d_LAW_971 : decode m_LAW.2.1 971 = .ok (.iload 6, 2) := by decide +kernel
theorem d_LAW_973 : decode m_LAW.2.1 973 = .ok (.i2l, 1) := by decide +kernel
theorem d_LAW_974 : decode m_LAW.2.1 974 = .ok (.lcmp, 1) := by decide +kernel
theorem d_LAW_975 : decode m_LAW.2.1 975 = .ok (.ifCond .eq 5, 3) := by decide +kernel
theorem d_LAW_978 : decode m_LAW.2.1 978 = .ok (.iconst 0, 1) := by decide +kernel
theorem d_LAW_979 : decode m_LAW.2.1 979 = .ok (.ireturn, 1) := by decide +kernel
theorem d_LAW_980 : decode m_LAW.2.1 980 = .ok (.goto 2583, 3) := by decide +kernel
theorem d_LAW_983 : decode m_LAW.2.1 983 = .ok (.aload_n 1, 1) := by decide +kernel
theorem d_LAW_984 : decode m_LAW.2.1 984 = .ok (.aload_n 0, 1) := by decide +kernel
theorem d_LAW_985 : decode m_LAW.2.1 985 = .ok (.iload 4, 2) := by decide +kernel
theorem d_LAW_987 : decode m_LAW.2.1 987 = .ok (.iconst 1, 1) := by decide +kernel
theorem d_LAW_988 : decode m_LAW.2.1 988 = .ok (.iadd, 1) := by decide +kernel
theorem d_LAW_989 : decode m_LAW.2.1 989 = .ok (.iaload, 1) := by decide +kernel
theorem d_LAW_990 : decode m_LAW.2.1 990 = .ok (.aload_n 0, 1) := by decide +kernel
theorem d_LAW_991 : decode m_LAW.2.1 991 = .ok (.iload 4, 2) := by decide +kernel
theorem d_LAW_993 : decode m_LAW.2.1 993 = .ok (.iconst 2, 1) := by decide +kernel
theorem d_LAW_994 : decode m_LAW.2.1 994 = .ok (.iadd, 1) := by decide +kernel
theorem d_LAW_995 : decode m_LAW.2.1 995 = .ok (.iaload, 1) := by decide +kernel
theorem d_LAW_996 : decode m_LAW.2.1 996 = .ok (.aload_n 0, 1) := by decide +kernel
theorem d_LAW_997 : decode m_LAW.2.1 997 = .ok (.iload 4, 2) := by decide +kernel
theorem d_LAW_999 : decode m_LAW.2.1 999 = .ok (.iconst 3, 1) := by decide +kernel
theorem d_LAW_1000 : decode m_LAW.2.1 1000 = .ok (.iadd, 1) := by decide +kernel
theorem d_LAW_1001 : decode m_LAW.2.1 1001 = .ok (.iaload, 1) := by decide +kernel
theorem d_LAW_1002 : decode m_LAW.2.1 1002 = .ok (.aload_n 0, 1) := by decide +kernel
theorem d_LAW_1003 : decode m_LAW.2.1 1003 = .ok (.iload 4, 2) := by decide +kernel
theorem d_LAW_1005 : decode m_LAW.2.1 1005 = .ok (.iconst 4, 1) := by decide +kernel
theorem d_LAW_1006 : decode m_LAW.2.1 1006 = .ok (.iadd, 1) := by decide +kernel
theorem d_LAW_1007 : decode m_LAW.2.1 1007 = .ok (.iaload, 1) := by decide +kernel
theorem d_LAW_1008 : decode m_LAW.2.1 1008 = .ok (.aload_n 3, 1) := by decide +kernel
theorem d_LAW_1009 : decode m_LAW.2.1 1009 = .ok (.invokestatic 193, 3) := by decide +kernel
theorem d_LAW_1012 : decode m_LAW.2.1 1012 = .ok (.istore 5, 2) := by decide +kernel
theorem d_LAW_1014 : decode m_LAW.2.1 1014 = .ok (.aload_n 2, 1) := by decide +kernel
theorem d_LAW_1015 : decode m_LAW.2.1 1015 = .ok (.aload_n 0, 1) := by decide +kernel
theorem d_LAW_1016 : decode m_LAW.2.1 1016 = .ok (.iload 4, 2) := by decide +kernel
theorem d_LAW_1018 : decode m_LAW.2.1 1018 = .ok (.iconst 1, 1) := by decide +kernel
theorem d_LAW_1019 : decode m_LAW.2.1 1019 = .ok (.iadd, 1) := by decide +kernel
theorem d_LAW_1020 : decode m_LAW.2.1 1020 = .ok (.iaload, 1) := by decide +kernel
theorem d_LAW_1021 : decode m_LAW.2.1 1021 = .ok (.aload_n 0, 1) := by decide +kernel
theorem d_LAW_1022 : decode m_LAW.2.1 1022 = .ok (.iload 4, 2) := by decide +kernel
theorem d_LAW_1024 : decode m_LAW.2.1 1024 = .ok (.iconst 2, 1) := by decide +kernel
theorem d_LAW_1025 : decode m_LAW.2.1 1025 = .ok (.iadd, 1) := by decide +kernel
theorem d_LAW_1026 : decode m_LAW.2.1 1026 = .ok (.iaload, 1) := by decide +kernel
theorem d_LAW_1027 : decode m_LAW.2.1 1027 = .ok (.aload_n 0, 1) := by decide +kernel
theorem d_LAW_1028 : decode m_LAW.2.1 1028 = .ok (.iload 4, 2) := by decide +kernel
theorem d_LAW_1030 : decode m_LAW.2.1 1030 = .ok (.iconst 3, 1) := by decide +kernel
theorem d_LAW_1031 : decode m_LAW.2.1 1031 = .ok (.iadd, 1) := by decide +kernel
theorem d_LAW_1032 : decode m_LAW.2.1 1032 = .ok (.iaload, 1) := by decide +kernel
theorem d_LAW_1033 : decode m_LAW.2.1 1033 = .ok (.aload_n 0, 1) := by decide +kernel
theorem d_LAW_1034 : decode m_LAW.2.1 1034 = .ok (.iload 4, 2) := by decide +kernel
theorem d_LAW_1036 : decode m_LAW.2.1 1036 = .ok (.iconst 4, 1) := by decide +kernel
theorem d_LAW_1037 : decode m_LAW.2.1 1037 = .ok (.iadd, 1) := by decide +kernel
theorem d_LAW_1038 : decode m_LAW.2.1 1038 = .ok (.iaload, 1) := by decide +kernel
theorem d_LAW_1039 : decode m_LAW.2.1 1039 = .ok (.invokevirtual 195, 3) := by decide +kernel
theorem d_LAW_1042 : decode m_LAW.2.1 1042 = .ok (.istore 6, 2) := by decide +kernel
theorem d_LAW_1044 : decode m_LAW.2.1 1044 = .ok (.aload_n 2, 1) := by decide +kernel
theorem d_LAW_1045 : decode m_LAW.2.1 1045 = .ok (.invokevirtual 164, 3) := by decide +kernel
theorem d_LAW_1048 : decode m_LAW.2.1 1048 = .ok (.iload 5, 2) := by decide +kernel
theorem d_LAW_1050 : decode m_LAW.2.1 1050 = .ok (.if_icmp .eq 5, 3) := by decide +kernel
theorem d_LAW_1053 : decode m_LAW.2.1 1053 = .ok (.iconst 0, 1) := by decide +kernel
theorem d_LAW_1054 : decode m_LAW.2.1 1054 = .ok (.ireturn, 1) := by decide +kernel
theorem d_LAW_1055 : decode m_LAW.2.1 1055 = .ok (.iload 5, 2) := by decide +kernel
theorem d_LAW_1057 : decode m_LAW.2.1 1057 = .ok (.ifCond .ne 22, 3) := by decide +kernel
theorem d_LAW_1060 : decode m_LAW.2.1 1060 = .ok (.aload_n 3, 1) := by decide +kernel
theorem d_LAW_1061 : decode m_LAW.2.1 1061 = .ok (.iconst 0, 1) := by decide +kernel
theorem d_LAW_1062 : decode m_LAW.2.1 1062 = .ok (.laload, 1) := by decide +kernel
theorem d_LAW_1063 : decode m_LAW.2.1 1063 = .ok (.iload 6, 2) := by decide +kernel
theorem d_LAW_1065 : decode m_LAW.2.1 1065 = .ok (.ifCond .eq 7, 3) := by decide +kernel
theorem d_LAW_1068 : decode m_LAW.2.1 1068 = .ok (.lconst 1, 1) := by decide +kernel
theorem d_LAW_1069 : decode m_LAW.2.1 1069 = .ok (.goto 4, 3) := by decide +kernel
theorem d_LAW_1072 : decode m_LAW.2.1 1072 = .ok (.lconst 0, 1) := by decide +kernel
theorem d_LAW_1073 : decode m_LAW.2.1 1073 = .ok (.lcmp, 1) := by decide +kernel
theorem d_LAW_1074 : decode m_LAW.2.1 1074 = .ok (.ifCond .eq 5, 3) := by decide +kernel
theorem d_LAW_1077 : decode m_LAW.2.1 1077 = .ok (.iconst 0, 1) := by decide +kernel
theorem d_LAW_1078 : decode m_LAW.2.1 1078 = .ok (.ireturn, 1) := by decide +kernel
theorem d_LAW_1079 : decode m_LAW.2.1 1079 = .ok (.goto 2484, 3) := by decide +kernel
theorem d_LAW_1082 : decode m_LAW.2.1 1082 = .ok (.aload_n 1, 1) := by decide +kernel
theorem d_LAW_1083 : decode m_LAW.2.1 1083 = .ok (.aload_n 0, 1) := by decide +kernel
theorem d_LAW_1084 : decode m_LAW.2.1 1084 = .ok (.iload 4, 2) := by decide +kernel
theorem d_LAW_1086 : decode m_LAW.2.1 1086 = .ok (.iconst 1, 1) := by decide +kernel
theorem d_LAW_1087 : decode m_LAW.2.1 1087 = .ok (.iadd, 1) := by decide +kernel
theorem d_LAW_1088 : decode m_LAW.2.1 1088 = .ok (.iaload, 1) := by decide +kernel
theorem d_LAW_1089 : decode m_LAW.2.1 1089 = .ok (.aload_n 0, 1) := by decide +kernel
theorem d_LAW_1090 : decode m_LAW.2.1 1090 = .ok (.iload 4, 2) := by decide +kernel
theorem d_LAW_1092 : decode m_LAW.2.1 1092 = .ok (.iconst 2, 1) := by decide +kernel
theorem d_LAW_1093 : decode m_LAW.2.1 1093 = .ok (.iadd, 1) := by decide +kernel
theorem d_LAW_1094 : decode m_LAW.2.1 1094 = .ok (.iaload, 1) := by decide +kernel
theorem d_LAW_1095 : decode m_LAW.2.1 1095 = .ok (.aload_n 3, 1) := by decide +kernel
theorem d_LAW_1096 : decode m_LAW.2.1 1096 = .ok (.invokestatic 196, 3) := by decide +kernel
theorem d_LAW_1099 : decode m_LAW.2.1 1099 = .ok (.istore 5, 2) := by decide +kernel
theorem d_LAW_1101 : decode m_LAW.2.1 1101 = .ok (.aload_n 2, 1) := by decide +kernel
theorem d_LAW_1102 : decode m_LAW.2.1 1102 = .ok (.aload_n 0, 1) := by decide +kernel
theorem d_LAW_1103 : decode m_LAW.2.1 1103 = .ok (.iload 4, 2) := by decide +kernel
theorem d_LAW_1105 : decode m_LAW.2.1 1105 = .ok (.iconst 1, 1) := by decide +kernel
theorem d_LAW_1106 : decode m_LAW.2.1 1106 = .ok (.iadd, 1) := by decide +kernel
theorem d_LAW_1107 : decode m_LAW.2.1 1107 = .ok (.iaload, 1) := by decide +kernel
theorem d_LAW_1108 : decode m_LAW.2.1 1108 = .ok (.aload_n 0, 1) := by decide +kernel
theorem d_LAW_1109 : decode m_LAW.2.1 1109 = .ok (.iload 4, 2) := by decide +kernel
theorem d_LAW_1111 : decode m_LAW.2.1 1111 = .ok (.iconst 2, 1) := by decide +kernel
theorem d_LAW_1112 : decode m_LAW.2.1 1112 = .ok (.iadd, 1) := by decide +kernel
theorem d_LAW_1113 : decode m_LAW.2.1 1113 = .ok (.iaload, 1) := by decide +kernel
theorem d_LAW_1114 : decode m_LAW.2.1 1114 = .ok (.invokevirtual 199, 3) := by decide +kernel
theorem d_LAW_1117 : decode m_LAW.2.1 1117 = .ok (.istore 6, 2) := by decide +kernel
theorem d_LAW_1119 : decode m_LAW.2.1 1119 = .ok (.aload_n 2, 1) := by decide +kernel
theorem d_LAW_1120 : decode m_LAW.2.1 1120 = .ok (.invokevirtual 164, 3) := by decide +kernel
theorem d_LAW_1123 : decode m_LAW.2.1 1123 = .ok (.iload 5, 2) := by decide +kernel
theorem d_LAW_1125 : decode m_LAW.2.1 1125 = .ok (.if_icmp .eq 5, 3) := by decide +kernel
theorem d_LAW_1128 : decode m_LAW.2.1 1128 = .ok (.iconst 0, 1) := by decide +kernel
theorem d_LAW_1129 : decode m_LAW.2.1 1129 = .ok (.ireturn, 1) := by decide +kernel
theorem d_LAW_1130 : decode m_LAW.2.1 1130 = .ok (.iload 5, 2) := by decide +kernel
theorem d_LAW_1132 : decode m_LAW.2.1 1132 = .ok (.ifCond .ne 15, 3) := by decide +kernel
theorem d_LAW_1135 : decode m_LAW.2.1 1135 = .ok (.aload_n 3, 1) := by decide +kernel
theorem d_LAW_1136 : decode m_LAW.2.1 1136 = .ok (.iconst 0, 1) := by decide +kernel
theorem d_LAW_1137 : decode m_LAW.2.1 1137 = .ok (.laload, 1) := by decide +kernel
theorem d_LAW_1138 : decode m_LAW.2.1 1138 = .ok (.iload 6, 2) := by decide +kernel
theorem d_LAW_1140 : decode m_LAW.2.1 1140 = .ok (.i2l, 1) := by decide +kernel
theorem d_LAW_1141 : decode m_LAW.2.1 1141 = .ok (.lcmp, 1) := by decide +kernel
theorem d_LAW_1142 : decode m_LAW.2.1 1142 = .ok (.ifCond .eq 5, 3) := by decide +kernel
theorem d_LAW_1145 : decode m_LAW.2.1 1145 = .ok (.iconst 0, 1) := by decide +kernel
theorem d_LAW_1146 : decode m_LAW.2.1 1146 = .ok (.ireturn, 1) := by decide +kernel
theorem d_LAW_1147 : decode m_LAW.2.1 1147 = .ok (.goto 2416, 3) := by decide +kernel
theorem d_LAW_1150 : decode m_LAW.2.1 1150 = .ok (.aload_n 1, 1) := by decide +kernel
theorem d_LAW_1151 : decode m_LAW.2.1 1151 = .ok (.aload_n 0, 1) := by decide +kernel
theorem d_LAW_1152 : decode m_LAW.2.1 1152 = .ok (.iload 4, 2) := by decide +kernel
theorem d_LAW_1154 : decode m_LAW.2.1 1154 = .ok (.iconst 1, 1) := by decide +kernel
theorem d_LAW_1155 : decode m_LAW.2.1 1155 = .ok (.iadd, 1) := by decide +kernel
theorem d_LAW_1156 : decode m_LAW.2.1 1156 = .ok (.iaload, 1) := by decide +kernel
theorem d_LAW_1157 : decode m_LAW.2.1 1157 = .ok (.aload_n 0, 1) := by decide +kernel
theorem d_LAW_1158 : decode m_LAW.2.1 1158 = .ok (.iload 4, 2) := by decide +kernel
theorem d_LAW_1160 : decode m_LAW.2.1 1160 = .ok (.iconst 2, 1) := by decide +kernel
theorem d_LAW_1161 : decode m_LAW.2.1 1161 = .ok (.iadd, 1) := by decide +kernel
theorem d_LAW_1162 : decode m_LAW.2.1 1162 = .ok (.iaload, 1) := by decide +kernel
theorem d_LAW_1163 : decode m_LAW.2.1 1163 = .ok (.aload_n 3, 1) := by decide +kernel
theorem d_LAW_1164 : decode m_LAW.2.1 1164 = .ok (.invokestatic 200, 3) := by decide +kernel
theorem d_LAW_1167 : decode m_LAW.2.1 1167 = .ok (.istore 5, 2) := by decide +kernel
theorem d_LAW_1169 : decode m_LAW.2.1 1169 = .ok (.aload_n 2, 1) := by decide +kernel
theorem d_LAW_1170 : decode m_LAW.2.1 1170 = .ok (.aload_n 0, 1) := by decide +kernel
theorem d_LAW_1171 : decode m_LAW.2.1 1171 = .ok (.iload 4, 2) := by decide +kernel
theorem d_LAW_1173 : decode m_LAW.2.1 1173 = .ok (.iconst 1, 1) := by decide +kernel
theorem d_LAW_1174 : decode m_LAW.2.1 1174 = .ok (.iadd, 1) := by decide +kernel
theorem d_LAW_1175 : decode m_LAW.2.1 1175 = .ok (.iaload, 1) := by decide +kernel
theorem d_LAW_1176 : decode m_LAW.2.1 1176 = .ok (.aload_n 0, 1) := by decide +kernel
theorem d_LAW_1177 : decode m_LAW.2.1 1177 = .ok (.iload 4, 2) := by decide +kernel
theorem d_LAW_1179 : decode m_LAW.2.1 1179 = .ok (.iconst 2, 1) := by decide +kernel
theorem d_LAW_1180 : decode m_LAW.2.1 1180 = .ok (.iadd, 1) := by decide +kernel
theorem d_LAW_1181 : decode m_LAW.2.1 1181 = .ok (.iaload, 1) := by decide +kernel
theorem d_LAW_1182 : decode m_LAW.2.1 1182 = .ok (.invokevirtual 202, 3) := by decide +kernel
theorem d_LAW_1185 : decode m_LAW.2.1 1185 = .ok (.istore 6, 2) := by decide +kernel
theorem d_LAW_1187 : decode m_LAW.2.1 1187 = .ok (.aload_n 2, 1) := by decide +kernel
theorem d_LAW_1188 : decode m_LAW.2.1 1188 = .ok (.invokevirtual 164, 3) := by decide +kernel
theorem d_LAW_1191 : decode m_LAW.2.1 1191 = .ok (.iload 5, 2) := by decide +kernel
theorem d_LAW_1193 : decode m_LAW.2.1 1193 = .ok (.if_icmp .eq 5, 3) := by decide +kernel
theorem d_LAW_1196 : decode m_LAW.2.1 1196 = .ok (.iconst 0, 1) := by decide +kernel
theorem d_LAW_1197 : decode m_LAW.2.1 1197 = .ok (.ireturn, 1) := by decide +kernel
theorem d_LAW_1198 : decode m_LAW.2.1 1198 = .ok (.iload 5, 2) := by decide +kernel
theorem d_LAW_1200 : decode m_LAW.2.1 1200 = .ok (.ifCond .ne 22, 3) := by decide +kernel
theorem d_LAW_1203 : decode m_LAW.2.1 1203 = .ok (.aload_n 3, 1) := by decide +kernel
theorem d_LAW_1204 : decode m_LAW.2.1 1204 = .ok (.iconst 0, 1) := by decide +kernel
theorem d_LAW_1205 : decode m_LAW.2.1 1205 = .ok (.laload, 1) := by decide +kernel
theorem d_LAW_1206 : decode m_LAW.2.1 1206 = .ok (.iload 6, 2) := by decide +kernel
theorem d_LAW_1208 : decode m_LAW.2.1 1208 = .ok (.ifCond .eq 7, 3) := by decide +kernel
theorem d_LAW_1211 : decode m_LAW.2.1 1211 = .ok (.lconst 1, 1) := by decide +kernel
theorem d_LAW_1212 : decode m_LAW.2.1 1212 = .ok (.goto 4, 3) := by decide +kernel
theorem d_LAW_1215 : decode m_LAW.2.1 1215 = .ok (.lconst 0, 1) := by decide +kernel
theorem d_LAW_1216 : decode m_LAW.2.1 1216 = .ok (.lcmp, 1) := by decide +kernel
theorem d_LAW_1217 : decode m_LAW.2.1 1217 = .ok (.ifCond .eq 5, 3) := by decide +kernel
theorem d_LAW_1220 : decode m_LAW.2.1 1220 = .ok (.iconst 0, 1) := by decide +kernel
theorem d_LAW_1221 : decode m_LAW.2.1 1221 = .ok (.ireturn, 1) := by decide +kernel
theorem d_LAW_1222 : decode m_LAW.2.1 1222 = .ok (.goto 2341, 3) := by decide +kernel
theorem d_LAW_1225 : decode m_LAW.2.1 1225 = .ok (.aload_n 1, 1) := by decide +kernel
theorem d_LAW_1226 : decode m_LAW.2.1 1226 = .ok (.aload_n 0, 1) := by decide +kernel
theorem d_LAW_1227 : decode m_LAW.2.1 1227 = .ok (.iload 4, 2) := by decide +kernel
theorem d_LAW_1229 : decode m_LAW.2.1 1229 = .ok (.iconst 1, 1) := by decide +kernel
theorem d_LAW_1230 : decode m_LAW.2.1 1230 = .ok (.iadd, 1) := by decide +kernel
theorem d_LAW_1231 : decode m_LAW.2.1 1231 = .ok (.iaload, 1) := by decide +kernel
theorem d_LAW_1232 : decode m_LAW.2.1 1232 = .ok (.aload_n 0, 1) := by decide +kernel
theorem d_LAW_1233 : decode m_LAW.2.1 1233 = .ok (.iload 4, 2) := by decide +kernel
theorem d_LAW_1235 : decode m_LAW.2.1 1235 = .ok (.iconst 2, 1) := by decide +kernel
theorem d_LAW_1236 : decode m_LAW.2.1 1236 = .ok (.iadd, 1) := by decide +kernel
theorem d_LAW_1237 : decode m_LAW.2.1 1237 = .ok (.iaload, 1) := by decide +kernel
theorem d_LAW_1238 : decode m_LAW.2.1 1238 = .ok (.aload_n 0, 1) := by decide +kernel
theorem d_LAW_1239 : decode m_LAW.2.1 1239 = .ok (.iload 4, 2) := by decide +kernel
theorem d_LAW_1241 : decode m_LAW.2.1 1241 = .ok (.iconst 3, 1) := by decide +kernel
theorem d_LAW_1242 : decode m_LAW.2.1 1242 = .ok (.iadd, 1) := by decide +kernel
theorem d_LAW_1243 : decode m_LAW.2.1 1243 = .ok (.iaload, 1) := by decide +kernel
theorem d_LAW_1244 : decode m_LAW.2.1 1244 = .ok (.aload_n 3, 1) := by decide +kernel
theorem d_LAW_1245 : decode m_LAW.2.1 1245 = .ok (.invokestatic 203, 3) := by decide +kernel
theorem d_LAW_1248 : decode m_LAW.2.1 1248 = .ok (.istore 5, 2) := by decide +kernel
theorem d_LAW_1250 : decode m_LAW.2.1 1250 = .ok (.aload_n 2, 1) := by decide +kernel
theorem d_LAW_1251 : decode m_LAW.2.1 1251 = .ok (.aload_n 0, 1) := by decide +kernel
theorem d_LAW_1252 : decode m_LAW.2.1 1252 = .ok (.iload 4, 2) := by decide +kernel
theorem d_LAW_1254 : decode m_LAW.2.1 1254 = .ok (.iconst 1, 1) := by decide +kernel
theorem d_LAW_1255 : decode m_LAW.2.1 1255 = .ok (.iadd, 1) := by decide +kernel
theorem d_LAW_1256 : decode m_LAW.2.1 1256 = .ok (.iaload, 1) := by decide +kernel
theorem d_LAW_1257 : decode m_LAW.2.1 1257 = .ok (.aload_n 0, 1) := by decide +kernel
theorem d_LAW_1258 : decode m_LAW.2.1 1258 = .ok (.iload 4, 2) := by decide +kernel
theorem d_LAW_1260 : decode m_LAW.2.1 1260 = .ok (.iconst 2, 1) := by decide +kernel
theorem d_LAW_1261 : decode m_LAW.2.1 1261 = .ok (.iadd, 1) := by decide +kernel
theorem d_LAW_1262 : decode m_LAW.2.1 1262 = .ok (.iaload, 1) := by decide +kernel
theorem d_LAW_1263 : decode m_LAW.2.1 1263 = .ok (.aload_n 0, 1) := by decide +kernel
theorem d_LAW_1264 : decode m_LAW.2.1 1264 = .ok (.iload 4, 2) := by decide +kernel
theorem d_LAW_1266 : decode m_LAW.2.1 1266 = .ok (.iconst 3, 1) := by decide +kernel
theorem d_LAW_1267 : decode m_LAW.2.1 1267 = .ok (.iadd, 1) := by decide +kernel
theorem d_LAW_1268 : decode m_LAW.2.1 1268 = .ok (.iaload, 1) := by decide +kernel
theorem d_LAW_1269 : decode m_LAW.2.1 1269 = .ok (.invokevirtual 205, 3) := by decide +kernel
theorem d_LAW_1272 : decode m_LAW.2.1 1272 = .ok (.istore 6, 2) := by decide +kernel
theorem d_LAW_1274 : decode m_LAW.2.1 1274 = .ok (.aload_n 2, 1) := by decide +kernel
theorem d_LAW_1275 : decode m_LAW.2.1 1275 = .ok (.invokevirtual 164, 3) := by decide +kernel
theorem d_LAW_1278 : decode m_LAW.2.1 1278 = .ok (.iload 5, 2) := by decide +kernel
theorem d_LAW_1280 : decode m_LAW.2.1 1280 = .ok (.if_icmp .eq 5, 3) := by decide +kernel
theorem d_LAW_1283 : decode m_LAW.2.1 1283 = .ok (.iconst 0, 1) := by decide +kernel
theorem d_LAW_1284 : decode m_LAW.2.1 1284 = .ok (.ireturn, 1) := by decide +kernel
theorem d_LAW_1285 : decode m_LAW.2.1 1285 = .ok (.iload 5, 2) := by decide +kernel
theorem d_LAW_1287 : decode m_LAW.2.1 1287 = .ok (.ifCond .ne 15, 3) := by decide +kernel
theorem d_LAW_1290 : decode m_LAW.2.1 1290 = .ok (.aload_n 3, 1) := by decide +kernel
theorem d_LAW_1291 : decode m_LAW.2.1 1291 = .ok (.iconst 0, 1) := by decide +kernel
theorem d_LAW_1292 : decode m_LAW.2.1 1292 = .ok (.laload, 1) := by decide +kernel
theorem d_LAW_1293 : decode m_LAW.2.1 1293 = .ok (.iload 6, 2) := by decide +kernel
theorem d_LAW_1295 : decode m_LAW.2.1 1295 = .ok (.i2l, 1) := by decide +kernel
theorem d_LAW_1296 : decode m_LAW.2.1 1296 = .ok (.lcmp, 1) := by decide +kernel
theorem d_LAW_1297 : decode m_LAW.2.1 1297 = .ok (.ifCond .eq 5, 3) := by decide +kernel
theorem d_LAW_1300 : decode m_LAW.2.1 1300 = .ok (.iconst 0, 1) := by decide +kernel
theorem d_LAW_1301 : decode m_LAW.2.1 1301 = .ok (.ireturn, 1) := by decide +kernel
theorem d_LAW_1302 : decode m_LAW.2.1 1302 = .ok (.goto 2261, 3) := by decide +kernel
theorem d_LAW_1305 : decode m_LAW.2.1 1305 = .ok (.aload_n 1, 1) := by decide +kernel
theorem d_LAW_1306 : decode m_LAW.2.1 1306 = .ok (.aload_n 0, 1) := by decide +kernel
theorem d_LAW_1307 : decode m_LAW.2.1 1307 = .ok (.iload 4, 2) := by decide +kernel
theorem d_LAW_1309 : decode m_LAW.2.1 1309 = .ok (.iconst 1, 1) := by decide +kernel
theorem d_LAW_1310 : decode m_LAW.2.1 1310 = .ok (.iadd, 1) := by decide +kernel
theorem d_LAW_1311 : decode m_LAW.2.1 1311 = .ok (.iaload, 1) := by decide +kernel
theorem d_LAW_1312 : decode m_LAW.2.1 1312 = .ok (.aload_n 0, 1) := by decide +kernel
theorem d_LAW_1313 : decode m_LAW.2.1 1313 = .ok (.iload 4, 2) := by decide +kernel
theorem d_LAW_1315 : decode m_LAW.2.1 1315 = .ok (.iconst 2, 1) := by decide +kernel
theorem d_LAW_1316 : decode m_LAW.2.1 1316 = .ok (.iadd, 1) := by decide +kernel
theorem d_LAW_1317 : decode m_LAW.2.1 1317 = .ok (.iaload, 1) := by decide +kernel
