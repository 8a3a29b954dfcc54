theorem dL_law_0 : decode cL_law 0 = .ok (.new 7, 3) := by decide +kernel
theorem dL_law_3 : decode cL_law 3 = .ok (.dup, 1) := by decide +kernel
theorem dL_law_4 : decode cL_law 4 = .ok (.invokespecial 9, 3) := by decide +kernel
theorem dL_law_7 : decode cL_law 7 = .ok (.astore_n 1, 1) := by decide +kernel
theorem dL_law_8 : decode cL_law 8 = .ok (.new 10, 3) := by decide +kernel
theorem dL_law_11 : decode cL_law 11 = .ok (.dup, 1) := by decide +kernel
theorem dL_law_12 : decode cL_law 12 = .ok (.invokespecial 12, 3) := by decide +kernel
theorem dL_law_15 : decode cL_law 15 = .ok (.astore_n 2, 1) := by decide +kernel
theorem dL_law_16 : decode cL_law 16 = .ok (.iconst 0, 1) := by decide +kernel
theorem dL_law_17 : decode cL_law 17 = .ok (.istore_n 3, 1) := by decide +kernel
theorem dL_law_18 : decode cL_law 18 = .ok (.iload_n 3, 1) := by decide +kernel
theorem dL_law_19 : decode cL_law 19 = .ok (.aload_n 0, 1) := by decide +kernel
theorem dL_law_20 : decode cL_law 20 = .ok (.arraylength, 1) := by decide +kernel
theorem dL_law_21 : decode cL_law 21 = .ok (.bipush 6, 2) := by decide +kernel
theorem dL_law_23 : decode cL_law 23 = .ok (.isub, 1) := by decide +kernel
theorem dL_law_24 : decode cL_law 24 = .ok (.if_icmp .gt 2143, 3) := by decide +kernel
theorem dL_law_27 : decode cL_law 27 = .ok (.aload_n 0, 1) := by decide +kernel
theorem dL_law_28 : decode cL_law 28 = .ok (.iload_n 3, 1) := by decide +kernel
theorem dL_law_29 : decode cL_law 29 = .ok (.iaload, 1) := by decide +kernel
theorem dL_law_30 : decode cL_law 30 = .ok (.bipush 63, 2) := by decide +kernel
theorem dL_law_32 : decode cL_law 32 = .ok (.iand, 1) := by decide +kernel
theorem dL_law_33 : decode cL_law 33 = .ok (.tableswitch 2128 0 53 #[231, 300, 359, 402, 465, 508, 541, 564, 597, 630, 674, 707, 740, 784, 817, 840, 883, 926, 939, 972, 1016, 1049, 1072, 1095, 1149, 1208, 1251, 1300, 1333, 1356, 1390, 1434, 1478, 1521, 1544, 1567, 1600, 1643, 1656, 1680, 1713, 1746, 1789, 1822, 1865, 1888, 1912, 1945, 1988, 2022, 2045, 2068, 2091, 2114], 231) := by decide +kernel
theorem dL_law_264 : decode cL_law 264 = .ok (.aload_n 1, 1) := by decide +kernel
theorem dL_law_265 : decode cL_law 265 = .ok (.aload_n 0, 1) := by decide +kernel
theorem dL_law_266 : decode cL_law 266 = .ok (.iload_n 3, 1) := by decide +kernel
theorem dL_law_267 : decode cL_law 267 = .ok (.iconst 1, 1) := by decide +kernel
theorem dL_law_268 : decode cL_law 268 = .ok (.iadd, 1) := by decide +kernel
theorem dL_law_269 : decode cL_law 269 = .ok (.iaload, 1) := by decide +kernel
theorem dL_law_270 : decode cL_law 270 = .ok (.aload_n 0, 1) := by decide +kernel
theorem dL_law_271 : decode cL_law 271 = .ok (.iload_n 3, 1) := by decide +kernel
theorem dL_law_272 : decode cL_law 272 = .ok (.iconst 2, 1) := by decide +kernel
theorem dL_law_273 : decode cL_law 273 = .ok (.iadd, 1) := by decide +kernel
theorem dL_law_274 : decode cL_law 274 = .ok (.iaload, 1) := by decide +kernel
theorem dL_law_275 : decode cL_law 275 = .ok (.aload_n 0, 1) := by decide +kernel
theorem dL_law_276 : decode cL_law 276 = .ok (.iload_n 3, 1) := by decide +kernel
theorem dL_law_277 : decode cL_law 277 = .ok (.iconst 3, 1) := by decide +kernel
theorem dL_law_278 : decode cL_law 278 = .ok (.iadd, 1) := by decide +kernel
theorem dL_law_279 : decode cL_law 279 = .ok (.iaload, 1) := by decide +kernel
theorem dL_law_280 : decode cL_law 280 = .ok (.aload_n 0, 1) := by decide +kernel
theorem dL_law_281 : decode cL_law 281 = .ok (.iload_n 3, 1) := by decide +kernel
theorem dL_law_282 : decode cL_law 282 = .ok (.iconst 4, 1) := by decide +kernel
theorem dL_law_283 : decode cL_law 283 = .ok (.iadd, 1) := by decide +kernel
theorem dL_law_284 : decode cL_law 284 = .ok (.iaload, 1) := by decide +kernel
theorem dL_law_285 : decode cL_law 285 = .ok (.ifCond .eq 7, 3) := by decide +kernel
theorem dL_law_288 : decode cL_law 288 = .ok (.iconst 1, 1) := by decide +kernel
theorem dL_law_289 : decode cL_law 289 = .ok (.goto 4, 3) := by decide +kernel
theorem dL_law_292 : decode cL_law 292 = .ok (.iconst 0, 1) := by decide +kernel
theorem dL_law_293 : decode cL_law 293 = .ok (.invokevirtual 13, 3) := by decide +kernel
theorem dL_law_296 : decode cL_law 296 = .ok (.aload_n 2, 1) := by decide +kernel
theorem dL_law_297 : decode cL_law 297 = .ok (.aload_n 0, 1) := by decide +kernel
theorem dL_law_298 : decode cL_law 298 = .ok (.iload_n 3, 1) := by decide +kernel
theorem dL_law_299 : decode cL_law 299 = .ok (.iconst 1, 1) := by decide +kernel
theorem dL_law_300 : decode cL_law 300 = .ok (.iadd, 1) := by decide +kernel
theorem dL_law_301 : decode cL_law 301 = .ok (.iaload, 1) := by decide +kernel
theorem dL_law_302 : decode cL_law 302 = .ok (.aload_n 0, 1) := by decide +kernel
theorem dL_law_303 : decode cL_law 303 = .ok (.iload_n 3, 1) := by decide +kernel
theorem dL_law_304 : decode cL_law 304 = .ok (.iconst 2, 1) := by decide +kernel
theorem dL_law_305 : decode cL_law 305 = .ok (.iadd, 1) := by decide +kernel
theorem dL_law_306 : decode cL_law 306 = .ok (.iaload, 1) := by decide +kernel
theorem dL_law_307 : decode cL_law 307 = .ok (.aload_n 0, 1) := by decide +kernel
theorem dL_law_308 : decode cL_law 308 = .ok (.iload_n 3, 1) := by decide +kernel
theorem dL_law_309 : decode cL_law 309 = .ok (.iconst 3, 1) := by decide +kernel
theorem dL_law_310 : decode cL_law 310 = .ok (.iadd, 1) := by decide +kernel
theorem dL_law_311 : decode cL_law 311 = .ok (.iaload, 1) := by decide +kernel
theorem dL_law_312 : decode cL_law 312 = .ok (.aload_n 0, 1) := by decide +kernel
theorem dL_law_313 : decode cL_law 313 = .ok (.iload_n 3, 1) := by decide +kernel
theorem dL_law_314 : decode cL_law 314 = .ok (.iconst 4, 1) := by decide +kernel
theorem dL_law_315 : decode cL_law 315 = .ok (.iadd, 1) := by decide +kernel
theorem dL_law_316 : decode cL_law 316 = .ok (.iaload, 1) := by decide +kernel
theorem dL_law_317 : decode cL_law 317 = .ok (.ifCond .eq 7, 3) := by decide +kernel
theorem dL_law_320 : decode cL_law 320 = .ok (.iconst 1, 1) := by decide +kernel
theorem dL_law_321 : decode cL_law 321 = .ok (.goto 4, 3) := by decide +kernel
theorem dL_law_324 : decode cL_law 324 = .ok (.iconst 0, 1) := by decide +kernel
theorem dL_law_325 : decode cL_law 325 = .ok (.invokevirtual 17, 3) := by decide +kernel
theorem dL_law_328 : decode cL_law 328 = .ok (.if_icmp .eq 1833, 3) := by decide +kernel
theorem dL_law_331 : decode cL_law 331 = .ok (.iconst 0, 1) := by decide +kernel
theorem dL_law_332 : decode cL_law 332 = .ok (.ireturn, 1) := by decide +kernel
theorem dL_law_333 : decode cL_law 333 = .ok (.aload_n 1, 1) := by decide +kernel
theorem dL_law_334 : decode cL_law 334 = .ok (.aload_n 0, 1) := by decide +kernel
theorem dL_law_335 : decode cL_law 335 = .ok (.iload_n 3, 1) := by decide +kernel
theorem dL_law_336 : decode cL_law 336 = .ok (.iconst 1, 1) := by decide +kernel
theorem dL_law_337 : decode cL_law 337 = .ok (.iadd, 1) := by decide +kernel
theorem dL_law_338 : decode cL_law 338 = .ok (.iaload, 1) := by decide +kernel
theorem dL_law_339 : decode cL_law 339 = .ok (.aload_n 0, 1) := by decide +kernel
theorem dL_law_340 : decode cL_law 340 = .ok (.iload_n 3, 1) := by decide +kernel
theorem dL_law_341 : decode cL_law 341 = .ok (.iconst 2, 1) := by decide +kernel
theorem dL_law_342 : decode cL_law 342 = .ok (.iadd, 1) := by decide +kernel
theorem dL_law_343 : decode cL_law 343 = .ok (.iaload, 1) := by decide +kernel
theorem dL_law_344 : decode cL_law 344 = .ok (.aload_n 0, 1) := by decide +kernel
theorem dL_law_345 : decode cL_law 345 = .ok (.iload_n 3, 1) := by decide +kernel
theorem dL_law_346 : decode cL_law 346 = .ok (.iconst 3, 1) := by decide +kernel
theorem dL_law_347 : decode cL_law 347 = .ok (.iadd, 1) := by decide +kernel
theorem dL_law_348 : decode cL_law 348 = .ok (.iaload, 1) := by decide +kernel
theorem dL_law_349 : decode cL_law 349 = .ok (.ifCond .eq 7, 3) := by decide +kernel
theorem dL_law_352 : decode cL_law 352 = .ok (.iconst 1, 1) := by decide +kernel
theorem dL_law_353 : decode cL_law 353 = .ok (.goto 4, 3) := by decide +kernel
theorem dL_law_356 : decode cL_law 356 = .ok (.iconst 0, 1) := by decide +kernel
theorem dL_law_357 : decode cL_law 357 = .ok (.invokevirtual 18, 3) := by decide +kernel
theorem dL_law_360 : decode cL_law 360 = .ok (.aload_n 2, 1) := by decide +kernel
theorem dL_law_361 : decode cL_law 361 = .ok (.aload_n 0, 1) := by decide +kernel
theorem dL_law_362 : decode cL_law 362 = .ok (.iload_n 3, 1) := by decide +kernel
theorem dL_law_363 : decode cL_law 363 = .ok (.iconst 1, 1) := by decide +kernel
theorem dL_law_364 : decode cL_law 364 = .ok (.iadd, 1) := by decide +kernel
theorem dL_law_365 : decode cL_law 365 = .ok (.iaload, 1) := by decide +kernel
theorem dL_law_366 : decode cL_law 366 = .ok (.aload_n 0, 1) := by decide +kernel
theorem dL_law_367 : decode cL_law 367 = .ok (.iload_n 3, 1) := by decide +kernel
theorem dL_law_368 : decode cL_law 368 = .ok (.iconst 2, 1) := by decide +kernel
theorem dL_law_369 : decode cL_law 369 = .ok (.iadd, 1) := by decide +kernel
theorem dL_law_370 : decode cL_law 370 = .ok (.iaload, 1) := by decide +kernel
theorem dL_law_371 : decode cL_law 371 = .ok (.aload_n 0, 1) := by decide +kernel
theorem dL_law_372 : decode cL_law 372 = .ok (.iload_n 3, 1) := by decide +kernel
theorem dL_law_373 : decode cL_law 373 = .ok (.iconst 3, 1) := by decide +kernel
theorem dL_law_374 : decode cL_law 374 = .ok (.iadd, 1) := by decide +kernel
theorem dL_law_375 : decode cL_law 375 = .ok (.iaload, 1) := by decide +kernel
theorem dL_law_376 : decode cL_law 376 = .ok (.ifCond .eq 7, 3) := by decide +kernel
theorem dL_law_379 : decode cL_law 379 = .ok (.iconst 1, 1) := by decide +kernel
theorem dL_law_380 : decode cL_law 380 = .ok (.goto 4, 3) := by decide +kernel
theorem dL_law_383 : decode cL_law 383 = .ok (.iconst 0, 1) := by decide +kernel
theorem dL_law_384 : decode cL_law 384 = .ok (.invokevirtual 22, 3) := by decide +kernel
theorem dL_law_387 : decode cL_law 387 = .ok (.if_icmp .eq 1774, 3) := by decide +kernel
theorem dL_law_390 : decode cL_law 390 = .ok (.iconst 0, 1) := by decide +kernel
theorem dL_law_391 : decode cL_law 391 = .ok (.ireturn, 1) := by decide +kernel
theorem dL_law_392 : decode cL_law 392 = .ok (.aload_n 1, 1) := by decide +kernel
theorem dL_law_393 : decode cL_law 393 = .ok (.aload_n 0, 1) := by decide +kernel
theorem dL_law_394 : decode cL_law 394 = .ok (.iload_n 3, 1) := by decide +kernel
theorem dL_law_395 : decode cL_law 395 = .ok (.iconst 1, 1) := by decide +kernel
theorem dL_law_396 : decode cL_law 396 = .ok (.iadd, 1) := by decide +kernel
theorem dL_law_397 : decode cL_law 397 = .ok (.iaload, 1) := by decide +kernel
theorem dL_law_398 : decode cL_law 398 = .ok (.aload_n 0, 1) := by decide +kernel
theorem dL_law_399 : decode cL_law 399 = .ok (.iload_n 3, 1) := by decide +kernel
theorem dL_law_400 : decode cL_law 400 = .ok (.iconst 2, 1) := by decide +kernel
theorem dL_law_401 : decode cL_law 401 = .ok (.iadd, 1) := by decide +kernel
theorem dL_law_402 : decode cL_law 402 = .ok (.iaload, 1) := by decide +kernel
theorem dL_law_403 : decode cL_law 403 = .ok (.aload_n 0, 1) := by decide +kernel
theorem dL_law_404 : decode cL_law 404 = .ok (.iload_n 3, 1) := by decide +kernel
theorem dL_law_405 : decode cL_law 405 = .ok (.iconst 3, 1) := by decide +kernel
theorem dL_law_406 : decode cL_law 406 = .ok (.iadd, 1) := by decide +kernel
theorem dL_law_407 : decode cL_law 407 = .ok (.iaload, 1) := by decide +kernel
theorem dL_law_408 : decode cL_law 408 = .ok (.invokevirtual 23, 3) := by decide +kernel
theorem dL_law_411 : decode cL_law 411 = .ok (.aload_n 2, 1) := by decide +kernel
theorem dL_law_412 : decode cL_law 412 = .ok (.aload_n 0, 1) := by decide +kernel
theorem dL_law_413 : decode cL_law 413 = .ok (.iload_n 3, 1) := by decide +kernel
theorem dL_law_414 : decode cL_law 414 = .ok (.iconst 1, 1) := by decide +kernel
theorem dL_law_415 : decode cL_law 415 = .ok (.iadd, 1) := by decide +kernel
theorem dL_law_416 : decode cL_law 416 = .ok (.iaload, 1) := by decide +kernel
theorem dL_law_417 : decode cL_law 417 = .ok (.aload_n 0, 1) := by decide +kernel
theorem dL_law_418 : decode cL_law 418 = .ok (.iload_n 3, 1) := by decide +kernel
theorem dL_law_419 : decode cL_law 419 = .ok (.iconst 2, 1) := by decide +kernel
theorem dL_law_420 : decode cL_law 420 = .ok (.iadd, 1) := by decide +kernel
theorem dL_law_421 : decode cL_law 421 = .ok (.iaload, 1) := by decide +kernel
theorem dL_law_422 : decode cL_law 422 = .ok (.aload_n 0, 1) := by decide +kernel
theorem dL_law_423 : decode cL_law 423 = .ok (.iload_n 3, 1) := by decide +kernel
theorem dL_law_424 : decode cL_law 424 = .ok (.iconst 3, 1) := by decide +kernel
theorem dL_law_425 : decode cL_law 425 = .ok (.iadd, 1) := by decide +kernel
theorem dL_law_426 : decode cL_law 426 = .ok (.iaload, 1) := by decide +kernel
theorem dL_law_427 : decode cL_law 427 = .ok (.invokevirtual 27, 3) := by decide +kernel
theorem dL_law_430 : decode cL_law 430 = .ok (.if_icmp .eq 1731, 3) := by decide +kernel
theorem dL_law_433 : decode cL_law 433 = .ok (.iconst 0, 1) := by decide +kernel
theorem dL_law_434 : decode cL_law 434 = .ok (.ireturn, 1) := by decide +kernel
theorem dL_law_435 : decode cL_law 435 = .ok (.aload_n 1, 1) := by decide +kernel
theorem dL_law_436 : decode cL_law 436 = .ok (.aload_n 0, 1) := by decide +kernel
theorem dL_law_437 : decode cL_law 437 = .ok (.iload_n 3, 1) := by decide +kernel
theorem dL_law_438 : decode cL_law 438 = .ok (.iconst 1, 1) := by decide +kernel
theorem dL_law_439 : decode cL_law 439 = .ok (.iadd, 1) := by decide +kernel
theorem dL_law_440 : decode cL_law 440 = .ok (.iaload, 1) := by decide +kernel
theorem dL_law_441 : decode cL_law 441 = .ok (.aload_n 0, 1) := by decide +kernel
theorem dL_law_442 : decode cL_law 442 = .ok (.iload_n 3, 1) := by decide +kernel
theorem dL_law_443 : decode cL_law 443 = .ok (.iconst 2, 1) := by decide +kernel
theorem dL_law_444 : decode cL_law 444 = .ok (.iadd, 1) := by decide +kernel
theorem dL_law_445 : decode cL_law 445 = .ok (.iaload, 1) := by decide +kernel
theorem dL_law_446 : decode cL_law 446 = .ok (.aload_n 0, 1) := by decide +kernel
theorem dL_law_447 : decode cL_law 447 = .ok (.iload_n 3, 1) := by decide +kernel
theorem dL_law_448 : decode cL_law 448 = .ok (.iconst 3, 1) := by decide +kernel
theorem dL_law_449 : decode cL_law 449 = .ok (.iadd, 1) := by decide +kernel
theorem dL_law_450 : decode cL_law 450 = .ok (.iaload, 1) := by decide +kernel
theorem dL_law_451 : decode cL_law 451 = .ok (.aload_n 0, 1) := by decide +kernel
theorem dL_law_452 : decode cL_law 452 = .ok (.iload_n 3, 1) := by decide +kernel
theorem dL_law_453 : decode cL_law 453 = .ok (.iconst 4, 1) := by decide +kernel
theorem dL_law_454 : decode cL_law 454 = .ok (.iadd, 1) := by decide +kernel
theorem dL_law_455 : decode cL_law 455 = .ok (.iaload, 1) := by decide +kernel
theorem dL_law_456 : decode cL_law 456 = .ok (.aload_n 0, 1) := by decide +kernel
theorem dL_law_457 : decode cL_law 457 = .ok (.iload_n 3, 1) := by decide +kernel
theorem dL_law_458 : decode cL_law 458 = .ok (.iconst 5, 1) := by decide +kernel
theorem dL_law_459 : decode cL_law 459 = .ok (.iadd, 1) := by decide +kernel
theorem dL_law_460 : decode cL_law 460 = .ok (.iaload, 1) := by decide +kernel
theorem dL_law_461 : decode cL_law 461 = .ok (.invokevirtual 28, 3) := by decide +kernel
theorem dL_law_464 : decode cL_law 464 = .ok (.aload_n 2, 1) := by decide +kernel
theorem dL_law_465 : decode cL_law 465 = .ok (.aload_n 0, 1) := by decide +kernel
theorem dL_law_466 : decode cL_law 466 = .ok (.iload_n 3, 1) := by decide +kernel
theorem dL_law_467 : decode cL_law 467 = .ok (.iconst 1, 1) := by decide +kernel
theorem dL_law_468 : decode cL_law 468 = .ok (.iadd, 1) := by decide +kernel
theorem dL_law_469 : decode cL_law 469 = .ok (.iaload, 1) := by decide +kernel
theorem dL_law_470 : decode cL_law 470 = .ok (.aload_n 0, 1) := by decide +kernel
theorem dL_law_471 : decode cL_law 471 = .ok (.iload_n 3, 1) := by decide +kernel
theorem dL_law_472 : decode cL_law 472 = .ok (.iconst 2, 1) := by decide +kernel
theorem dL_law_473 : decode cL_law 473 = .ok (.iadd, 1) := by decide +kernel
theorem dL_law_474 : decode cL_law 474 = .ok (.iaload, 1) := by decide +kernel
theorem dL_law_475 : decode cL_law 475 = .ok (.aload_n 0, 1) := by decide +kernel
theorem dL_law_476 : decode cL_law 476 = .ok (.iload_n 3, 1) := by decide +kernel
theorem dL_law_477 : decode cL_law 477 = .ok (.iconst 3, 1) := by decide +kernel
theorem dL_law_478 : decode cL_law 478 = .ok (.iadd, 1) := by decide +kernel
theorem dL_law_479 : decode cL_law 479 = .ok (.iaload, 1) := by decide +kernel
theorem dL_law_480 : decode cL_law 480 = .ok (.aload_n 0, 1) := by decide +kernel
theorem dL_law_481 : decode cL_law 481 = .ok (.iload_n 3, 1) := by decide +kernel
theorem dL_law_482 : decode cL_law 482 = .ok (.iconst 4, 1) := by decide +kernel
theorem dL_law_483 : decode cL_law 483 = .ok (.iadd, 1) := by decide +kernel
theorem dL_law_484 : decode cL_law 484 = .ok (.iaload, 1) := by decide +kernel
theorem dL_law_485 : decode cL_law 485 = .ok (.aload_n 0, 1) := by decide +kernel
theorem dL_law_486 : decode cL_law 486 = .ok (.iload_n 3, 1) := by decide +kernel
theorem dL_law_487 : decode cL_law 487 = .ok (.iconst 5, 1) := by decide +kernel
theorem dL_law_488 : decode cL_law 488 = .ok (.iadd, 1) := by decide +kernel
theorem dL_law_489 : decode cL_law 489 = .ok (.iaload, 1) := by decide +kernel
theorem dL_law_490 : decode cL_law 490 = .ok (.invokevirtual 32, 3) := by decide +kernel
theorem dL_law_493 : decode cL_law 493 = .ok (.if_icmp .eq 1668, 3) := by decide +kernel
theorem dL_law_496 : decode cL_law 496 = .ok (.iconst 0, 1) := by decide +kernel
theorem dL_law_497 : decode cL_law 497 = .ok (.ireturn, 1) := by decide +kernel
theorem dL_law_498 : decode cL_law 498 = .ok (.aload_n 1, 1) := by decide +kernel
theorem dL_law_499 : decode cL_law 499 = .ok (.aload_n 0, 1) := by decide +kernel
theorem dL_law_500 : decode cL_law 500 = .ok (.iload_n 3, 1) := by decide +kernel
theorem dL_law_501 : decode cL_law 501 = .ok (.iconst 1, 1) := by decide +kernel
theorem dL_law_502 : decode cL_law 502 = .ok (.iadd, 1) := by decide +kernel
theorem dL_law_503 : decode cL_law 503 = .ok (.iaload, 1) := by decide +kernel
theorem dL_law_504 : decode cL_law 504 = .ok (.aload_n 0, 1) := by decide +kernel
theorem dL_law_505 : decode cL_law 505 = .ok (.iload_n 3, 1) := by decide +kernel
theorem dL_law_506 : decode cL_law 506 = .ok (.iconst 2, 1) := by decide +kernel
theorem dL_law_507 : decode cL_law 507 = .ok (.iadd, 1) := by decide +kernel
theorem dL_law_508 : decode cL_law 508 = .ok (.iaload, 1) := by decide +kernel
theorem dL_law_509 : decode cL_law 509 = .ok (.aload_n 0, 1) := by decide +kernel
theorem dL_law_510 : decode cL_law 510 = .ok (.iload_n 3, 1) := by decide +kernel
theorem dL_law_511 : decode cL_law 511 = .ok (.iconst 3, 1) := by decide +kernel
theorem dL_law_512 : decode cL_law 512 = .ok (.iadd, 1) := by decide +kernel
theorem dL_law_513 : decode cL_law 513 = .ok (.iaload, 1) := by decide +kernel
theorem dL_law_514 : decode cL_law 514 = .ok (.invokevirtual 33, 3) := by decide +kernel
theorem dL_law_517 : decode cL_law 517 = .ok (.aload_n 2, 1) := by decide +kernel
theorem dL_law_518 : decode cL_law 518 = .ok (.aload_n 0, 1) := by decide +kernel
theorem dL_law_519 : decode cL_law 519 = .ok (.iload_n 3, 1) := by decide +kernel
theorem dL_law_520 : decode cL_law 520 = .ok (.iconst 1, 1) := by decide +kernel
theorem dL_law_521 : decode cL_law 521 = .ok (.iadd, 1) := by decide +kernel
theorem dL_law_522 : decode cL_law 522 = .ok (.iaload, 1) := by decide +kernel
theorem dL_law_523 : decode cL_law 523 = .ok (.aload_n 0, 1) := by decide +kernel
theorem dL_law_524 : decode cL_law 524 = .ok (.iload_n 3, 1) := by decide +kernel
theorem dL_law_525 : decode cL_law 525 = .ok (.iconst 2, 1) := by decide +kernel
theorem dL_law_526 : decode cL_law 526 = .ok (.iadd, 1) := by decide +kernel
theorem dL_law_527 : decode cL_law 527 = .ok (.iaload, 1) := by decide +kernel
theorem dL_law_528 : decode cL_law 528 = .ok (.aload_n 0, 1) := by decide +kernel
theorem dL_law_529 : decode cL_law 529 = .ok (.iload_n 3, 1) := by decide +kernel
theorem dL_law_530 : decode cL_law 530 = .ok (.iconst 3, 1) := by decide +kernel
theorem dL_law_531 : decode cL_law 531 = .ok (.iadd, 1) := by decide +kernel
theorem dL_law_532 : decode cL_law 532 = .ok (.iaload, 1) := by decide +kernel
theorem dL_law_533 : decode cL_law 533 = .ok (.invokevirtual 36, 3) := by decide +kernel
theorem dL_law_536 : decode cL_law 536 = .ok (.if_icmp .eq 1625, 3) := by decide +kernel
theorem dL_law_539 : decode cL_law 539 = .ok (.iconst 0, 1) := by decide +kernel
theorem dL_law_540 : decode cL_law 540 = .ok (.ireturn, 1) := by decide +kernel
theorem dL_law_541 : decode cL_law 541 = .ok (.aload_n 1, 1) := by decide +kernel
theorem dL_law_542 : decode cL_law 542 = .ok (.aload_n 0, 1) := by decide +kernel
theorem dL_law_543 : decode cL_law 543 = .ok (.iload_n 3, 1) := by decide +kernel
theorem dL_law_544 : decode cL_law 544 = .ok (.iconst 1, 1) := by decide +kernel
theorem dL_law_545 : decode cL_law 545 = .ok (.iadd, 1) := by decide +kernel
theorem dL_law_546 : decode cL_law 546 = .ok (.iaload, 1) := by decide +kernel
theorem dL_law_547 : decode cL_law 547 = .ok (.aload_n 0, 1) := by decide +kernel
theorem dL_law_548 : decode cL_law 548 = .ok (.iload_n 3, 1) := by decide +kernel
theorem dL_law_549 : decode cL_law 549 = .ok (.iconst 2, 1) := by decide +kernel
theorem dL_law_550 : decode cL_law 550 = .ok (.iadd, 1) := by decide +kernel
theorem dL_law_551 : decode cL_law 551 = .ok (.iaload, 1) := by decide +kernel
theorem dL_law_552 : decode cL_law 552 = .ok (.invokevirtual 37, 3) := by decide +kernel
theorem dL_law_555 : decode cL_law 555 = .ok (.aload_n 2, 1) := by decide +kernel
theorem dL_law_556 : decode cL_law 556 = .ok (.aload_n 0, 1) := by decide +kernel
theorem dL_law_557 : decode cL_law 557 = .ok (.iload_n 3, 1) := by decide +kernel
theorem dL_law_558 : decode cL_law 558 = .ok (.iconst 1, 1) := by decide +kernel
theorem dL_law_559 : decode cL_law 559 = .ok (.iadd, 1) := by decide +kernel
theorem dL_law_560 : decode cL_law 560 = .ok (.iaload, 1) := by decide +kernel
theorem dL_law_561 : decode cL_law 561 = .ok (.aload_n 0, 1) := by decide +kernel
theorem dL_law_562 : decode cL_law 562 = .ok (.iload_n 3, 1) := by decide +kernel
theorem dL_law_563 : decode cL_law 563 = .ok (.iconst 2, 1) := by decide +kernel
theorem dL_law_564 : decode cL_law 564 = .ok (.iadd, 1) := by decide +kernel
theorem dL_law_565 : decode cL_law 565 = .ok (.iaload, 1) := by decide +kernel
theorem dL_law_566 : decode cL_law 566 = .ok (.invokevirtual 41, 3) := by decide +kernel
theorem dL_law_569 : decode cL_law 569 = .ok (.if_icmp .eq 1592, 3) := by decide +kernel
theorem dL_law_572 : decode cL_law 572 = .ok (.iconst 0, 1) := by decide +kernel
theorem dL_law_573 : decode cL_law 573 = .ok (.ireturn, 1) := by decide +kernel
theorem dL_law_574 : decode cL_law 574 = .ok (.aload_n 1, 1) := by decide +kernel
theorem dL_law_575 : decode cL_law 575 = .ok (.aload_n 0, 1) := by decide +kernel
theorem dL_law_576 : decode cL_law 576 = .ok (.iload_n 3, 1) := by decide +kernel
theorem dL_law_577 : decode cL_law 577 = .ok (.iconst 1, 1) := by decide +kernel
theorem dL_law_578 : decode cL_law 578 = .ok (.iadd, 1) := by decide +kernel
theorem dL_law_579 : decode cL_law 579 = .ok (.iaload, 1) := by decide +kernel
theorem dL_law_580 : decode cL_law 580 = .ok (.invokevirtual 42, 3) := by decide +kernel
theorem dL_law_583 : decode cL_law 583 = .ok (.aload_n 2, 1) := by decide +kernel
theorem dL_law_584 : decode cL_law 584 = .ok (.aload_n 0, 1) := by decide +kernel
theorem dL_law_585 : decode cL_law 585 = .ok (.iload_n 3, 1) := by decide +kernel
theorem dL_law_586 : decode cL_law 586 = .ok (.iconst 1, 1) := by decide +kernel
theorem dL_law_587 : decode cL_law 587 = .ok (.iadd, 1) := by decide +kernel
theorem dL_law_588 : decode cL_law 588 = .ok (.iaload, 1) := by decide +kernel
theorem dL_law_589 : decode cL_law 589 = .ok (.invokevirtual 46, 3) := by decide +kernel
theorem dL_law_592 : decode cL_law 592 = .ok (.if_icmp .eq 1569, 3) := by decide +kernel
theorem dL_law_595 : decode cL_law 595 = .ok (.iconst 0, 1) := by decide +kernel
theorem dL_law_596 : decode cL_law 596 = .ok (.ireturn, 1) := by decide +kernel
theorem dL_law_597 : decode cL_law 597 = .ok (.aload_n 1, 1) := by decide +kernel
theorem dL_law_598 : decode cL_law 598 = .ok (.aload_n 0, 1) := by decide +kernel
theorem dL_law_599 : decode cL_law 599 = .ok (.iload_n 3, 1) := by decide +kernel
theorem dL_law_600 : decode cL_law 600 = .ok (.iconst 1, 1) := by decide +kernel
theorem dL_law_601 : decode cL_law 601 = .ok (.iadd, 1) := by decide +kernel
theorem dL_law_602 : decode cL_law 602 = .ok (.iaload, 1) := by decide +kernel
theorem dL_law_603 : decode cL_law 603 = .ok (.aload_n 0, 1) := by decide +kernel
theorem dL_law_604 : decode cL_law 604 = .ok (.iload_n 3, 1) := by decide +kernel
theorem dL_law_605 : decode cL_law 605 = .ok (.iconst 2, 1) := by decide +kernel
theorem dL_law_606 : decode cL_law 606 = .ok (.iadd, 1) := by decide +kernel
theorem dL_law_607 : decode cL_law 607 = .ok (.iaload, 1) := by decide +kernel
theorem dL_law_608 : decode cL_law 608 = .ok (.invokevirtual 47, 3) := by decide +kernel
theorem dL_law_611 : decode cL_law 611 = .ok (.aload_n 2, 1) := by decide +kernel
theorem dL_law_612 : decode cL_law 612 = .ok (.aload_n 0, 1) := by decide +kernel
theorem dL_law_613 : decode cL_law 613 = .ok (.iload_n 3, 1) := by decide +kernel
theorem dL_law_614 : decode cL_law 614 = .ok (.iconst 1, 1) := by decide +kernel
theorem dL_law_615 : decode cL_law 615 = .ok (.iadd, 1) := by decide +kernel
theorem dL_law_616 : decode cL_law 616 = .ok (.iaload, 1) := by decide +kernel
theorem dL_law_617 : decode cL_law 617 = .ok (.aload_n 0, 1) := by decide +kernel
theorem dL_law_618 : decode cL_law 618 = .ok (.iload_n 3, 1) := by decide +kernel
theorem dL_law_619 : decode cL_law 619 = .ok (.iconst 2, 1) := by decide +kernel
theorem dL_law_620 : decode cL_law 620 = .ok (.iadd, 1) := by decide +kernel
theorem dL_law_621 : decode cL_law 621 = .ok (.iaload, 1) := by decide +kernel
theorem dL_law_622 : decode cL_law 622 = .ok (.invokevirtual 50, 3) := by decide +kernel
theorem dL_law_625 : decode cL_law 625 = .ok (.if_icmp .eq 1536, 3) := by decide +kernel
theorem dL_law_628 : decode cL_law 628 = .ok (.iconst 0, 1) := by decide +kernel
theorem dL_law_629 : decode cL_law 629 = .ok (.ireturn, 1) := by decide +kernel
theorem dL_law_630 : decode cL_law 630 = .ok (.aload_n 1, 1) := by decide +kernel
theorem dL_law_631 : decode cL_law 631 = .ok (.aload_n 0, 1) := by decide +kernel
theorem dL_law_632 : decode cL_law 632 = .ok (.iload_n 3, 1) := by decide +kernel
theorem dL_law_633 : decode cL_law 633 = .ok (.iconst 1, 1) := by decide +kernel
theorem dL_law_634 : decode cL_law 634 = .ok (.iadd, 1) := by decide +kernel
theorem dL_law_635 : decode cL_law 635 = .ok (.iaload, 1) := by decide +kernel
theorem dL_law_636 : decode cL_law 636 = .ok (.aload_n 0, 1) := by decide +kernel
theorem dL_law_637 : decode cL_law 637 = .ok (.iload_n 3, 1) := by decide +kernel
theorem dL_law_638 : decode cL_law 638 = .ok (.iconst 2, 1) := by decide +kernel
theorem dL_law_639 : decode cL_law 639 = .ok (.iadd, 1) := by decide +kernel
theorem dL_law_640 : decode cL_law 640 = .ok (.iaload, 1) := by decide +kernel
theorem dL_law_641 : decode cL_law 641 = .ok (.invokevirtual 51, 3) := by decide +kernel
theorem dL_law_644 : decode cL_law 644 = .ok (.aload_n 2, 1) := by decide +kernel
theorem dL_law_645 : decode cL_law 645 = .ok (.aload_n 0, 1) := by decide +kernel
theorem dL_law_646 : decode cL_law 646 = .ok (.iload_n 3, 1) := by decide +kernel
theorem dL_law_647 : decode cL_law 647 = .ok (.iconst 1, 1) := by decide +kernel
theorem dL_law_648 : decode cL_law 648 = .ok (.iadd, 1) := by decide +kernel
theorem dL_law_649 : decode cL_law 649 = .ok (.iaload, 1) := by decide +kernel
theorem dL_law_650 : decode cL_law 650 = .ok (.aload_n 0, 1) := by decide +kernel
theorem dL_law_651 : decode cL_law 651 = .ok (.iload_n 3, 1) := by decide +kernel
theorem dL_law_652 : decode cL_law 652 = .ok (.iconst 2, 1) := by decide +kernel
theorem dL_law_653 : decode cL_law 653 = .ok (.iadd, 1) := by decide +kernel
theorem dL_law_654 : decode cL_law 654 = .ok (.iaload, 1) := by decide +kernel
theorem dL_law_655 : decode cL_law 655 = .ok (.invokevirtual 54, 3) := by decide +kernel
theorem dL_law_658 : decode cL_law 658 = .ok (.if_icmp .eq 1503, 3) := by decide +kernel
theorem dL_law_661 : decode cL_law 661 = .ok (.iconst 0, 1) := by decide +kernel
theorem dL_law_662 : decode cL_law 662 = .ok (.ireturn, 1) := by decide +kernel
theorem dL_law_663 : decode cL_law 663 = .ok (.aload_n 1, 1) := by decide +kernel
theorem dL_law_664 : decode cL_law 664 = .ok (.aload_n 0, 1) := by decide +kernel
theorem dL_law_665 : decode cL_law 665 = .ok (.iload_n 3, 1) := by decide +kernel
theorem dL_law_666 : decode cL_law 666 = .ok (.iconst 1, 1) := by decide +kernel
theorem dL_law_667 : decode cL_law 667 = .ok (.iadd, 1) := by decide +kernel
theorem dL_law_668 : decode cL_law 668 = .ok (.iaload, 1) := by decide +kernel
theorem dL_law_669 : decode cL_law 669 = .ok (.aload_n 0, 1) := by decide +kernel
theorem dL_law_670 : decode cL_law 670 = .ok (.iload_n 3, 1) := by decide +kernel
theorem dL_law_671 : decode cL_law 671 = .ok (.iconst 2, 1) := by decide +kernel
theorem dL_law_672 : decode cL_law 672 = .ok (.iadd, 1) := by decide +kernel
theorem dL_law_673 : decode cL_law 673 = .ok (.iaload, 1) := by decide +kernel
theorem dL_law_674 : decode cL_law 674 = .ok (.aload_n 0, 1) := by decide +kernel
theorem dL_law_675 : decode cL_law 675 = .ok (.iload_n 3, 1) := by decide +kernel
theorem dL_law_676 : decode cL_law 676 = .ok (.iconst 3, 1) := by decide +kernel
theorem dL_law_677 : decode cL_law 677 = .ok (.iadd, 1) := by decide +kernel
theorem dL_law_678 : decode cL_law 678 = .ok (.iaload, 1) := by decide +kernel
theorem dL_law_679 : decode cL_law 679 = .ok (.invokevirtual 55, 3) := by decide +kernel
theorem dL_law_682 : decode cL_law 682 = .ok (.aload_n 2, 1) := by decide +kernel
theorem dL_law_683 : decode cL_law 683 = .ok (.aload_n 0, 1) := by decide +kernel
theorem dL_law_684 : decode cL_law 684 = .ok (.iload_n 3, 1) := by decide +kernel
theorem dL_law_685 : decode cL_law 685 = .ok (.iconst 1, 1) := by decide +kernel
theorem dL_law_686 : decode cL_law 686 = .ok (.iadd, 1) := by decide +kernel
theorem dL_law_687 : decode cL_law 687 = .ok (.iaload, 1) := by decide +kernel
theorem dL_law_688 : decode cL_law 688 = .ok (.aload_n 0, 1) := by decide +kernel
theorem dL_law_689 : decode cL_law 689 = .ok (.iload_n 3, 1) := by decide +kernel
theorem dL_law_690 : decode cL_law 690 = .ok (.iconst 2, 1) := by decide +kernel
theorem dL_law_691 : decode cL_law 691 = .ok (.iadd, 1) := by decide +kernel
theorem dL_law_692 : decode cL_law 692 = .ok (.iaload, 1) := by decide +kernel
theorem dL_law_693 : decode cL_law 693 = .ok (.aload_n 0, 1) := by decide +kernel
theorem dL_law_694 : decode cL_law 694 = .ok (.iload_n 3, 1) := by decide +kernel
theorem dL_law_695 : decode cL_law 695 = .ok (.iconst 3, 1) := by decide +kernel
theorem dL_law_696 : decode cL_law 696 = .ok (.iadd, 1) := by decide +kernel
theorem dL_law_697 : decode cL_law 697 = .ok (.iaload, 1) := by decide +kernel
theorem dL_law_698 : decode cL_law 698 = .ok (.invokevirtual 59, 3) := by decide +kernel
theorem dL_law_701 : decode cL_law 701 = .ok (.lcmp, 1) := by decide +kernel
theorem dL_law_702 : decode cL_law 702 = .ok (.ifCond .eq 1459, 3) := by decide +kernel
theorem dL_law_705 : decode cL_law 705 = .ok (.iconst 0, 1) := by decide +kernel
theorem dL_law_706 : decode cL_law 706 = .ok (.ireturn, 1) := by decide +kernel
theorem dL_law_707 : decode cL_law 707 = .ok (.aload_n 1, 1) := by decide +kernel
theorem dL_law_708 : decode cL_law 708 = .ok (.aload_n 0, 1) := by decide +kernel
theorem dL_law_709 : decode cL_law 709 = .ok (.iload_n 3, 1) := by decide +kernel
theorem dL_law_710 : decode cL_law 710 = .ok (.iconst 1, 1) := by decide +kernel
theorem dL_law_711 : decode cL_law 711 = .ok (.iadd, 1) := by decide +kernel
theorem dL_law_712 : decode cL_law 712 = .ok (.iaload, 1) := by decide +kernel
theorem dL_law_713 : decode cL_law 713 = .ok (.aload_n 0, 1) := by decide +kernel
theorem dL_law_714 : decode cL_law 714 = .ok (.iload_n 3, 1) := by decide +kernel
theorem dL_law_715 : decode cL_law 715 = .ok (.iconst 2, 1) := by decide +kernel
theorem dL_law_716 : decode cL_law 716 = .ok (.iadd, 1) := by decide +kernel
theorem dL_law_717 : decode cL_law 717 = .ok (.iaload, 1) := by decide +kernel
theorem dL_law_718 : decode cL_law 718 = .ok (.invokevirtual 60, 3) := by decide +kernel
theorem dL_law_721 : decode cL_law 721 = .ok (.aload_n 2, 1) := by decide +kernel
theorem dL_law_722 : decode cL_law 722 = .ok (.aload_n 0, 1) := by decide +kernel
theorem dL_law_723 : decode cL_law 723 = .ok (.iload_n 3, 1) := by decide +kernel
theorem dL_law_724 : decode cL_law 724 = .ok (.iconst 1, 1) := by decide +kernel
theorem dL_law_725 : decode cL_law 725 = .ok (.iadd, 1) := by decide +kernel
theorem dL_law_726 : decode cL_law 726 = .ok (.iaload, 1) := by decide +kernel
theorem dL_law_727 : decode cL_law 727 = .ok (.aload_n 0, 1) := by decide +kernel
theorem dL_law_728 : decode cL_law 728 = .ok (.iload_n 3, 1) := by decide +kernel
theorem dL_law_729 : decode cL_law 729 = .ok (.iconst 2, 1) := by decide +kernel
theorem dL_law_730 : decode cL_law 730 = .ok (.iadd, 1) := by decide +kernel
theorem dL_law_731 : decode cL_law 731 = .ok (.iaload, 1) := by decide +kernel
theorem dL_law_732 : decode cL_law 732 = .ok (.invokevirtual 63, 3) := by decide +kernel
theorem dL_law_735 : decode cL_law 735 = .ok (.if_icmp .eq 1426, 3) := by decide +kernel
theorem dL_law_738 : decode cL_law 738 = .ok (.iconst 0, 1) := by decide +kernel
theorem dL_law_739 : decode cL_law 739 = .ok (.ireturn, 1) := by decide +kernel
theorem dL_law_740 : decode cL_law 740 = .ok (.aload_n 1, 1) := by decide +kernel
theorem dL_law_741 : decode cL_law 741 = .ok (.aload_n 0, 1) := by decide +kernel
theorem dL_law_742 : decode cL_law 742 = .ok (.iload_n 3, 1) := by decide +kernel
theorem dL_law_743 : decode cL_law 743 = .ok (.iconst 1, 1) := by decide +kernel
theorem dL_law_744 : decode cL_law 744 = .ok (.iadd, 1) := by decide +kernel
theorem dL_law_745 : decode cL_law 745 = .ok (.iaload, 1) := by decide +kernel
theorem dL_law_746 : decode cL_law 746 = .ok (.aload_n 0, 1) := by decide +kernel
theorem dL_law_747 : decode cL_law 747 = .ok (.iload_n 3, 1) := by decide +kernel
theorem dL_law_748 : decode cL_law 748 = .ok (.iconst 2, 1) := by decide +kernel
theorem dL_law_749 : decode cL_law 749 = .ok (.iadd, 1) := by decide +kernel
theorem dL_law_750 : decode cL_law 750 = .ok (.iaload, 1) := by decide +kernel
theorem dL_law_751 : decode cL_law 751 = .ok (.invokevirtual 64, 3) := by decide +kernel
theorem dL_law_754 : decode cL_law 754 = .ok (.aload_n 2, 1) := by decide +kernel
theorem dL_law_755 : decode cL_law 755 = .ok (.aload_n 0, 1) := by decide +kernel
theorem dL_law_756 : decode cL_law 756 = .ok (.iload_n 3, 1) := by decide +kernel
theorem dL_law_757 : decode cL_law 757 = .ok (.iconst 1, 1) := by decide +kernel
theorem dL_law_758 : decode cL_law 758 = .ok (.iadd, 1) := by decide +kernel
theorem dL_law_759 : decode cL_law 759 = .ok (.iaload, 1) := by decide +kernel
theorem dL_law_760 : decode cL_law 760 = .ok (.aload_n 0, 1) := by decide +kernel
theorem dL_law_761 : decode cL_law 761 = .ok (.iload_n 3, 1) := by decide +kernel
theorem dL_law_762 : decode cL_law 762 = .ok (.iconst 2, 1) := by decide +kernel
theorem dL_law_763 : decode cL_law 763 = .ok (.iadd, 1) := by decide +kernel
theorem dL_law_764 : decode cL_law 764 = .ok (.iaload, 1) := by decide +kernel
theorem dL_law_765 : decode cL_law 765 = .ok (.invokevirtual 67, 3) := by decide +kernel
theorem dL_law_768 : decode cL_law 768 = .ok (.if_icmp .eq 1393, 3) := by decide +kernel
theorem dL_law_771 : decode cL_law 771 = .ok (.iconst 0, 1) := by decide +kernel
theorem dL_law_772 : decode cL_law 772 = .ok (.ireturn, 1) := by decide +kernel
theorem dL_law_773 : decode cL_law 773 = .ok (.aload_n 1, 1) := by decide +kernel
theorem dL_law_774 : decode cL_law 774 = .ok (.aload_n 0, 1) := by decide +kernel
theorem dL_law_775 : decode cL_law 775 = .ok (.iload_n 3, 1) := by decide +kernel
theorem dL_law_776 : decode cL_law 776 = .ok (.iconst 1, 1) := by decide +kernel
theorem dL_law_777 : decode cL_law 777 = .ok (.iadd, 1) := by decide +kernel
theorem dL_law_778 : decode cL_law 778 = .ok (.iaload, 1) := by decide +kernel
theorem dL_law_779 : decode cL_law 779 = .ok (.aload_n 0, 1) := by decide +kernel
theorem dL_law_780 : decode cL_law 780 = .ok (.iload_n 3, 1) := by decide +kernel
theorem dL_law_781 : decode cL_law 781 = .ok (.iconst 2, 1) := by decide +kernel
theorem dL_law_782 : decode cL_law 782 = .ok (.iadd, 1) := by decide +kernel
theorem dL_law_783 : decode cL_law 783 = .ok (.iaload, 1) := by decide +kernel
theorem dL_law_784 : decode cL_law 784 = .ok (.aload_n 0, 1) := by decide +kernel
theorem dL_law_785 : decode cL_law 785 = .ok (.iload_n 3, 1) := by decide +kernel
theorem dL_law_786 : decode cL_law 786 = .ok (.iconst 3, 1) := by decide +kernel
theorem dL_law_787 : decode cL_law 787 = .ok (.iadd, 1) := by decide +kernel
theorem dL_law_788 : decode cL_law 788 = .ok (.iaload, 1) := by decide +kernel
theorem dL_law_789 : decode cL_law 789 = .ok (.invokevirtual 68, 3) := by decide +kernel
theorem dL_law_792 : decode cL_law 792 = .ok (.aload_n 2, 1) := by decide +kernel
theorem dL_law_793 : decode cL_law 793 = .ok (.aload_n 0, 1) := by decide +kernel
theorem dL_law_794 : decode cL_law 794 = .ok (.iload_n 3, 1) := by decide +kernel
theorem dL_law_795 : decode cL_law 795 = .ok (.iconst 1, 1) := by decide +kernel
theorem dL_law_796 : decode cL_law 796 = .ok (.iadd, 1) := by decide +kernel
theorem dL_law_797 : decode cL_law 797 = .ok (.iaload, 1) := by decide +kernel
theorem dL_law_798 : decode cL_law 798 = .ok (.aload_n 0, 1) := by decide +kernel
theorem dL_law_799 : decode cL_law 799 = .ok (.iload_n 3, 1) := by decide +kernel
theorem dL_law_800 : decode cL_law 800 = .ok (.iconst 2, 1) := by decide +kernel
theorem dL_law_801 : decode cL_law 801 = .ok (.iadd, 1) := by decide +kernel
theorem dL_law_802 : decode cL_law 802 = .ok (.iaload, 1) := by decide +kernel
theorem dL_law_803 : decode cL_law 803 = .ok (.aload_n 0, 1) := by decide +kernel
theorem dL_law_804 : decode cL_law 804 = .ok (.iload_n 3, 1) := by decide +kernel
theorem dL_law_805 : decode cL_law 805 = .ok (.iconst 3, 1) := by decide +kernel
theorem dL_law_806 : decode cL_law 806 = .ok (.iadd, 1) := by decide +kernel
theorem dL_law_807 : decode cL_law 807 = .ok (.iaload, 1) := by decide +kernel
theorem dL_law_808 : decode cL_law 808 = .ok (.invokevirtual 71, 3) := by decide +kernel
theorem dL_law_811 : decode cL_law 811 = .ok (.lcmp, 1) := by decide +kernel
theorem dL_law_812 : decode cL_law 812 = .ok (.ifCond .eq 1349, 3) := by decide +kernel
theorem dL_law_815 : decode cL_law 815 = .ok (.iconst 0, 1) := by decide +kernel
theorem dL_law_816 : decode cL_law 816 = .ok (.ireturn, 1) := by decide +kernel
theorem dL_law_817 : decode cL_law 817 = .ok (.aload_n 1, 1) := by decide +kernel
theorem dL_law_818 : decode cL_law 818 = .ok (.aload_n 0, 1) := by decide +kernel
theorem dL_law_819 : decode cL_law 819 = .ok (.iload_n 3, 1) := by decide +kernel
theorem dL_law_820 : decode cL_law 820 = .ok (.iconst 1, 1) := by decide +kernel
theorem dL_law_821 : decode cL_law 821 = .ok (.iadd, 1) := by decide +kernel
theorem dL_law_822 : decode cL_law 822 = .ok (.iaload, 1) := by decide +kernel
theorem dL_law_823 : decode cL_law 823 = .ok (.aload_n 0, 1) := by decide +kernel
theorem dL_law_824 : decode cL_law 824 = .ok (.iload_n 3, 1) := by decide +kernel
theorem dL_law_825 : decode cL_law 825 = .ok (.iconst 2, 1) := by decide +kernel
theorem dL_law_826 : decode cL_law 826 = .ok (.iadd, 1) := by decide +kernel
theorem dL_law_827 : decode cL_law 827 = .ok (.iaload, 1) := by decide +kernel
theorem dL_law_828 : decode cL_law 828 = .ok (.invokevirtual 72, 3) := by decide +kernel
theorem dL_law_831 : decode cL_law 831 = .ok (.aload_n 2, 1) := by decide +kernel
theorem dL_law_832 : decode cL_law 832 = .ok (.aload_n 0, 1) := by decide +kernel
theorem dL_law_833 : decode cL_law 833 = .ok (.iload_n 3, 1) := by decide +kernel
theorem dL_law_834 : decode cL_law 834 = .ok (.iconst 1, 1) := by decide +kernel
theorem dL_law_835 : decode cL_law 835 = .ok (.iadd, 1) := by decide +kernel
theorem dL_law_836 : decode cL_law 836 = .ok (.iaload, 1) := by decide +kernel
theorem dL_law_837 : decode cL_law 837 = .ok (.aload_n 0, 1) := by decide +kernel
theorem dL_law_838 : decode cL_law 838 = .ok (.iload_n 3, 1) := by decide +kernel
theorem dL_law_839 : decode cL_law 839 = .ok (.iconst 2, 1) := by decide +kernel
theorem dL_law_840 : decode cL_law 840 = .ok (.iadd, 1) := by decide +kernel
theorem dL_law_841 : decode cL_law 841 = .ok (.iaload, 1) := by decide +kernel
theorem dL_law_842 : decode cL_law 842 = .ok (.invokevirtual 75, 3) := by decide +kernel
theorem dL_law_845 : decode cL_law 845 = .ok (.if_icmp .eq 1316, 3) := by decide +kernel
theorem dL_law_848 : decode cL_law 848 = .ok (.iconst 0, 1) := by decide +kernel
theorem dL_law_849 : decode cL_law 849 = .ok (.ireturn, 1) := by decide +kernel
theorem dL_law_850 : decode cL_law 850 = .ok (.aload_n 1, 1) := by decide +kernel
theorem dL_law_851 : decode cL_law 851 = .ok (.aload_n 0, 1) := by decide +kernel
theorem dL_law_852 : decode cL_law 852 = .ok (.iload_n 3, 1) := by decide +kernel
theorem dL_law_853 : decode cL_law 853 = .ok (.iconst 1, 1) := by decide +kernel
theorem dL_law_854 : decode cL_law 854 = .ok (.iadd, 1) := by decide +kernel
theorem dL_law_855 : decode cL_law 855 = .ok (.iaload, 1) := by decide +kernel
theorem dL_law_856 : decode cL_law 856 = .ok (.invokevirtual 76, 3) := by decide +kernel
theorem dL_law_859 : decode cL_law 859 = .ok (.aload_n 2, 1) := by decide +kernel
theorem dL_law_860 : decode cL_law 860 = .ok (.aload_n 0, 1) := by decide +kernel
theorem dL_law_861 : decode cL_law 861 = .ok (.iload_n 3, 1) := by decide +kernel
theorem dL_law_862 : decode cL_law 862 = .ok (.iconst 1, 1) := by decide +kernel
theorem dL_law_863 : decode cL_law 863 = .ok (.iadd, 1) := by decide +kernel
theorem dL_law_864 : decode cL_law 864 = .ok (.iaload, 1) := by decide +kernel
theorem dL_law_865 : decode cL_law 865 = .ok (.invokevirtual 79, 3) := by decide +kernel
theorem dL_law_868 : decode cL_law 868 = .ok (.if_icmp .eq 1293, 3) := by decide +kernel
theorem dL_law_871 : decode cL_law 871 = .ok (.iconst 0, 1) := by decide +kernel
theorem dL_law_872 : decode cL_law 872 = .ok (.ireturn, 1) := by decide +kernel
theorem dL_law_873 : decode cL_law 873 = .ok (.aload_n 1, 1) := by decide +kernel
theorem dL_law_874 : decode cL_law 874 = .ok (.aload_n 0, 1) := by decide +kernel
theorem dL_law_875 : decode cL_law 875 = .ok (.iload_n 3, 1) := by decide +kernel
theorem dL_law_876 : decode cL_law 876 = .ok (.iconst 1, 1) := by decide +kernel
theorem dL_law_877 : decode cL_law 877 = .ok (.iadd, 1) := by decide +kernel
theorem dL_law_878 : decode cL_law 878 = .ok (.iaload, 1) := by decide +kernel
theorem dL_law_879 : decode cL_law 879 = .ok (.aload_n 0, 1) := by decide +kernel
theorem dL_law_880 : decode cL_law 880 = .ok (.iload_n 3, 1) := by decide +kernel
theorem dL_law_881 : decode cL_law 881 = .ok (.iconst 2, 1) := by decide +kernel
theorem dL_law_882 : decode cL_law 882 = .ok (.iadd, 1) := by decide +kernel
theorem dL_law_883 : decode cL_law 883 = .ok (.iaload, 1) := by decide +kernel
theorem dL_law_884 : decode cL_law 884 = .ok (.aload_n 0, 1) := by decide +kernel
theorem dL_law_885 : decode cL_law 885 = .ok (.iload_n 3, 1) := by decide +kernel
theorem dL_law_886 : decode cL_law 886 = .ok (.iconst 3, 1) := by decide +kernel
theorem dL_law_887 : decode cL_law 887 = .ok (.iadd, 1) := by decide +kernel
theorem dL_law_888 : decode cL_law 888 = .ok (.iaload, 1) := by decide +kernel
theorem dL_law_889 : decode cL_law 889 = .ok (.invokevirtual 80, 3) := by decide +kernel
theorem dL_law_892 : decode cL_law 892 = .ok (.aload_n 2, 1) := by decide +kernel
theorem dL_law_893 : decode cL_law 893 = .ok (.aload_n 0, 1) := by decide +kernel
theorem dL_law_894 : decode cL_law 894 = .ok (.iload_n 3, 1) := by decide +kernel
theorem dL_law_895 : decode cL_law 895 = .ok (.iconst 1, 1) := by decide +kernel
theorem dL_law_896 : decode cL_law 896 = .ok (.iadd, 1) := by decide +kernel
theorem dL_law_897 : decode cL_law 897 = .ok (.iaload, 1) := by decide +kernel
theorem dL_law_898 : decode cL_law 898 = .ok (.aload_n 0, 1) := by decide +kernel
theorem dL_law_899 : decode cL_law 899 = .ok (.iload_n 3, 1) := by decide +kernel
theorem dL_law_900 : decode cL_law 900 = .ok (.iconst 2, 1) := by decide +kernel
theorem dL_law_901 : decode cL_law 901 = .ok (.iadd, 1) := by decide +kernel
theorem dL_law_902 : decode cL_law 902 = .ok (.iaload, 1) := by decide +kernel
theorem dL_law_903 : decode cL_law 903 = .ok (.aload_n 0, 1) := by decide +kernel
theorem dL_law_904 : decode cL_law 904 = .ok (.iload_n 3, 1) := by decide +kernel
theorem dL_law_905 : decode cL_law 905 = .ok (.iconst 3, 1) := by decide +kernel
theorem dL_law_906 : decode cL_law 906 = .ok (.iadd, 1) := by decide +kernel
theorem dL_law_907 : decode cL_law 907 = .ok (.iaload, 1) := by decide +kernel
theorem dL_law_908 : decode cL_law 908 = .ok (.invokevirtual 83, 3) := by decide +kernel
theorem dL_law_911 : decode cL_law 911 = .ok (.if_icmp .eq 1250, 3) := by decide +kernel
theorem dL_law_914 : decode cL_law 914 = .ok (.iconst 0, 1) := by decide +kernel
theorem dL_law_915 : decode cL_law 915 = .ok (.ireturn, 1) := by decide +kernel
theorem dL_law_916 : decode cL_law 916 = .ok (.aload_n 1, 1) := by decide +kernel
theorem dL_law_917 : decode cL_law 917 = .ok (.aload_n 0, 1) := by decide +kernel
theorem dL_law_918 : decode cL_law 918 = .ok (.iload_n 3, 1) := by decide +kernel
theorem dL_law_919 : decode cL_law 919 = .ok (.iconst 1, 1) := by decide +kernel
theorem dL_law_920 : decode cL_law 920 = .ok (.iadd, 1) := by decide +kernel
theorem dL_law_921 : decode cL_law 921 = .ok (.iaload, 1) := by decide +kernel
theorem dL_law_922 : decode cL_law 922 = .ok (.aload_n 0, 1) := by decide +kernel
theorem dL_law_923 : decode cL_law 923 = .ok (.iload_n 3, 1) := by decide +kernel
theorem dL_law_924 : decode cL_law 924 = .ok (.iconst 2, 1) := by decide +kernel
theorem dL_law_925 : decode cL_law 925 = .ok (.iadd, 1) := by decide +kernel
theorem dL_law_926 : decode cL_law 926 = .ok (.iaload, 1) := by decide +kernel
theorem dL_law_927 : decode cL_law 927 = .ok (.aload_n 0, 1) := by decide +kernel
theorem dL_law_928 : decode cL_law 928 = .ok (.iload_n 3, 1) := by decide +kernel
theorem dL_law_929 : decode cL_law 929 = .ok (.iconst 3, 1) := by decide +kernel
theorem dL_law_930 : decode cL_law 930 = .ok (.iadd, 1) := by decide +kernel
theorem dL_law_931 : decode cL_law 931 = .ok (.iaload, 1) := by decide +kernel
theorem dL_law_932 : decode cL_law 932 = .ok (.invokevirtual 84, 3) := by decide +kernel
theorem dL_law_935 : decode cL_law 935 = .ok (.aload_n 2, 1) := by decide +kernel
theorem dL_law_936 : decode cL_law 936 = .ok (.aload_n 0, 1) := by decide +kernel
theorem dL_law_937 : decode cL_law 937 = .ok (.iload_n 3, 1) := by decide +kernel
theorem dL_law_938 : decode cL_law 938 = .ok (.iconst 1, 1) := by decide +kernel
theorem dL_law_939 : decode cL_law 939 = .ok (.iadd, 1) := by decide +kernel
theorem dL_law_940 : decode cL_law 940 = .ok (.iaload, 1) := by decide +kernel
theorem dL_law_941 : decode cL_law 941 = .ok (.aload_n 0, 1) := by decide +kernel
theorem dL_law_942 : decode cL_law 942 = .ok (.iload_n 3, 1) := by decide +kernel
theorem dL_law_943 : decode cL_law 943 = .ok (.iconst 2, 1) := by decide +kernel
theorem dL_law_944 : decode cL_law 944 = .ok (.iadd, 1) := by decide +kernel
theorem dL_law_945 : decode cL_law 945 = .ok (.iaload, 1) := by decide +kernel
theorem dL_law_946 : decode cL_law 946 = .ok (.aload_n 0, 1) := by decide +kernel
theorem dL_law_947 : decode cL_law 947 = .ok (.iload_n 3, 1) := by decide +kernel
theorem dL_law_948 : decode cL_law 948 = .ok (.iconst 3, 1) := by decide +kernel
theorem dL_law_949 : decode cL_law 949 = .ok (.iadd, 1) := by decide +kernel
theorem dL_law_950 : decode cL_law 950 = .ok (.iaload, 1) := by decide +kernel
theorem dL_law_951 : decode cL_law 951 = .ok (.invokevirtual 87, 3) := by decide +kernel
theorem dL_law_954 : decode cL_law 954 = .ok (.if_icmp .eq 1207, 3) := by decide +kernel
theorem dL_law_957 : decode cL_law 957 = .ok (.iconst 0, 1) := by decide +kernel
theorem dL_law_958 : decode cL_law 958 = .ok (.ireturn, 1) := by decide +kernel
theorem dL_law_959 : decode cL_law 959 = .ok (.aload_n 1, 1) := by decide +kernel
theorem dL_law_960 : decode cL_law 960 = .ok (.invokevirtual 88, 3) := by decide +kernel
theorem dL_law_963 : decode cL_law 963 = .ok (.aload_n 2, 1) := by decide +kernel
theorem dL_law_964 : decode cL_law 964 = .ok (.invokevirtual 92, 3) := by decide +kernel
theorem dL_law_967 : decode cL_law 967 = .ok (.if_icmp .eq 1194, 3) := by decide +kernel
theorem dL_law_970 : decode cL_law 970 = .ok (.iconst 0, 1) := by decide +kernel
theorem dL_law_971 : decode cL_law 971 = .ok (.ireturn, 1) := by decide +kernel
theorem dL_law_972 : decode cL_law 972 = .ok (.aload_n 1, 1) := by decide +kernel
theorem dL_law_973 : decode cL_law 973 = .ok (.aload_n 0, 1) := by decide +kernel
theorem dL_law_974 : decode cL_law 974 = .ok (.iload_n 3, 1) := by decide +kernel
theorem dL_law_975 : decode cL_law 975 = .ok (.iconst 1, 1) := by decide +kernel
theorem dL_law_976 : decode cL_law 976 = .ok (.iadd, 1) := by decide +kernel
theorem dL_law_977 : decode cL_law 977 = .ok (.iaload, 1) := by decide +kernel
theorem dL_law_978 : decode cL_law 978 = .ok (.aload_n 0, 1) := by decide +kernel
theorem dL_law_979 : decode cL_law 979 = .ok (.iload_n 3, 1) := by decide +kernel
theorem dL_law_980 : decode cL_law 980 = .ok (.iconst 2, 1) := by decide +kernel
theorem dL_law_981 : decode cL_law 981 = .ok (.iadd, 1) := by decide +kernel
theorem dL_law_982 : decode cL_law 982 = .ok (.iaload, 1) := by decide +kernel
theorem dL_law_983 : decode cL_law 983 = .ok (.invokevirtual 93, 3) := by decide +kernel
theorem dL_law_986 : decode cL_law 986 = .ok (.aload_n 2, 1) := by decide +kernel
theorem dL_law_987 : decode cL_law 987 = .ok (.aload_n 0, 1) := by decide +kernel
theorem dL_law_988 : decode cL_law 988 = .ok (.iload_n 3, 1) := by decide +kernel
theorem dL_law_989 : decode cL_law 989 = .ok (.iconst 1, 1) := by decide +kernel
theorem dL_law_990 : decode cL_law 990 = .ok (.iadd, 1) := by decide +kernel
theorem dL_law_991 : decode cL_law 991 = .ok (.iaload, 1) := by decide +kernel
theorem dL_law_992 : decode cL_law 992 = .ok (.aload_n 0, 1) := by decide +kernel
theorem dL_law_993 : decode cL_law 993 = .ok (.iload_n 3, 1) := by decide +kernel
theorem dL_law_994 : decode cL_law 994 = .ok (.iconst 2, 1) := by decide +kernel
theorem dL_law_995 : decode cL_law 995 = .ok (.iadd, 1) := by decide +kernel
theorem dL_law_996 : decode cL_law 996 = .ok (.iaload, 1) := by decide +kernel
theorem dL_law_997 : decode cL_law 997 = .ok (.invokevirtual 96, 3) := by decide +kernel
theorem dL_law_1000 : decode cL_law 1000 = .ok (.if_icmp .eq 1161, 3) := by decide +kernel
theorem dL_law_1003 : decode cL_law 1003 = .ok (.iconst 0, 1) := by decide +kernel
theorem dL_law_1004 : decode cL_law 1004 = .ok (.ireturn, 1) := by decide +kernel
theorem dL_law_1005 : decode cL_law 1005 = .ok (.aload_n 1, 1) := by decide +kernel
theorem dL_law_1006 : decode cL_law 1006 = .ok (.aload_n 0, 1) := by decide +kernel
theorem dL_law_1007 : decode cL_law 1007 = .ok (.iload_n 3, 1) := by decide +kernel
theorem dL_law_1008 : decode cL_law 1008 = .ok (.iconst 1, 1) := by decide +kernel
theorem dL_law_1009 : decode cL_law 1009 = .ok (.iadd, 1) := by decide +kernel
theorem dL_law_1010 : decode cL_law 1010 = .ok (.iaload, 1) := by decide +kernel
theorem dL_law_1011 : decode cL_law 1011 = .ok (.aload_n 0, 1) := by decide +kernel
theorem dL_law_1012 : decode cL_law 1012 = .ok (.iload_n 3, 1) := by decide +kernel
theorem dL_law_1013 : decode cL_law 1013 = .ok (.iconst 2, 1) := by decide +kernel
theorem dL_law_1014 : decode cL_law 1014 = .ok (.iadd, 1) := by decide +kernel
theorem dL_law_1015 : decode cL_law 1015 = .ok (.iaload, 1) := by decide +kernel
theorem dL_law_1016 : decode cL_law 1016 = .ok (.aload_n 0, 1) := by decide +kernel
theorem dL_law_1017 : decode cL_law 1017 = .ok (.iload_n 3, 1) := by decide +kernel
theorem dL_law_1018 : decode cL_law 1018 = .ok (.iconst 3, 1) := by decide +kernel
theorem dL_law_1019 : decode cL_law 1019 = .ok (.iadd, 1) := by decide +kernel
theorem dL_law_1020 : decode cL_law 1020 = .ok (.iaload, 1) := by decide +kernel
theorem dL_law_1021 : decode cL_law 1021 = .ok (.invokevirtual 97, 3) := by decide +kernel
theorem dL_law_1024 : decode cL_law 1024 = .ok (.aload_n 2, 1) := by decide +kernel
theorem dL_law_1025 : decode cL_law 1025 = .ok (.aload_n 0, 1) := by decide +kernel
theorem dL_law_1026 : decode cL_law 1026 = .ok (.iload_n 3, 1) := by decide +kernel
theorem dL_law_1027 : decode cL_law 1027 = .ok (.iconst 1, 1) := by decide +kernel
theorem dL_law_1028 : decode cL_law 1028 = .ok (.iadd, 1) := by decide +kernel
theorem dL_law_1029 : decode cL_law 1029 = .ok (.iaload, 1) := by decide +kernel
theorem dL_law_1030 : decode cL_law 1030 = .ok (.aload_n 0, 1) := by decide +kernel
theorem dL_law_1031 : decode cL_law 1031 = .ok (.iload_n 3, 1) := by decide +kernel
theorem dL_law_1032 : decode cL_law 1032 = .ok (.iconst 2, 1) := by decide +kernel
theorem dL_law_1033 : decode cL_law 1033 = .ok (.iadd, 1) := by decide +kernel
theorem dL_law_1034 : decode cL_law 1034 = .ok (.iaload, 1) := by decide +kernel
theorem dL_law_1035 : decode cL_law 1035 = .ok (.aload_n 0, 1) := by decide +kernel
theorem dL_law_1036 : decode cL_law 1036 = .ok (.iload_n 3, 1) := by decide +kernel
theorem dL_law_1037 : decode cL_law 1037 = .ok (.iconst 3, 1) := by decide +kernel
theorem dL_law_1038 : decode cL_law 1038 = .ok (.iadd, 1) := by decide +kernel
theorem dL_law_1039 : decode cL_law 1039 = .ok (.iaload, 1) := by decide +kernel
theorem dL_law_1040 : decode cL_law 1040 = .ok (.invokevirtual 100, 3) := by decide +kernel
theorem dL_law_1043 : decode cL_law 1043 = .ok (.lcmp, 1) := by decide +kernel
theorem dL_law_1044 : decode cL_law 1044 = .ok (.ifCond .eq 1117, 3) := by decide +kernel
theorem dL_law_1047 : decode cL_law 1047 = .ok (.iconst 0, 1) := by decide +kernel
theorem dL_law_1048 : decode cL_law 1048 = .ok (.ireturn, 1) := by decide +kernel
theorem dL_law_1049 : decode cL_law 1049 = .ok (.aload_n 1, 1) := by decide +kernel
theorem dL_law_1050 : decode cL_law 1050 = .ok (.aload_n 0, 1) := by decide +kernel
theorem dL_law_1051 : decode cL_law 1051 = .ok (.iload_n 3, 1) := by decide +kernel
theorem dL_law_1052 : decode cL_law 1052 = .ok (.iconst 1, 1) := by decide +kernel
theorem dL_law_1053 : decode cL_law 1053 = .ok (.iadd, 1) := by decide +kernel
theorem dL_law_1054 : decode cL_law 1054 = .ok (.iaload, 1) := by decide +kernel
theorem dL_law_1055 : decode cL_law 1055 = .ok (.aload_n 0, 1) := by decide +kernel
theorem dL_law_1056 : decode cL_law 1056 = .ok (.iload_n 3, 1) := by decide +kernel
theorem dL_law_1057 : decode cL_law 1057 = .ok (.iconst 2, 1) := by decide +kernel
theorem dL_law_1058 : decode cL_law 1058 = .ok (.iadd, 1) := by decide +kernel
theorem dL_law_1059 : decode cL_law 1059 = .ok (.iaload, 1) := by decide +kernel
theorem dL_law_1060 : decode cL_law 1060 = .ok (.invokevirtual 101, 3) := by decide +kernel
theorem dL_law_1063 : decode cL_law 1063 = .ok (.aload_n 2, 1) := by decide +kernel
theorem dL_law_1064 : decode cL_law 1064 = .ok (.aload_n 0, 1) := by decide +kernel
theorem dL_law_1065 : decode cL_law 1065 = .ok (.iload_n 3, 1) := by decide +kernel
theorem dL_law_1066 : decode cL_law 1066 = .ok (.iconst 1, 1) := by decide +kernel
theorem dL_law_1067 : decode cL_law 1067 = .ok (.iadd, 1) := by decide +kernel
theorem dL_law_1068 : decode cL_law 1068 = .ok (.iaload, 1) := by decide +kernel
theorem dL_law_1069 : decode cL_law 1069 = .ok (.aload_n 0, 1) := by decide +kernel
theorem dL_law_1070 : decode cL_law 1070 = .ok (.iload_n 3, 1) := by decide +kernel
theorem dL_law_1071 : decode cL_law 1071 = .ok (.iconst 2, 1) := by decide +kernel
theorem dL_law_1072 : decode cL_law 1072 = .ok (.iadd, 1) := by decide +kernel
theorem dL_law_1073 : decode cL_law 1073 = .ok (.iaload, 1) := by decide +kernel
theorem dL_law_1074 : decode cL_law 1074 = .ok (.invokevirtual 104, 3) := by decide +kernel
theorem dL_law_1077 : decode cL_law 1077 = .ok (.if_icmp .eq 1084, 3) := by decide +kernel
theorem dL_law_1080 : decode cL_law 1080 = .ok (.iconst 0, 1) := by decide +kernel
theorem dL_law_1081 : decode cL_law 1081 = .ok (.ireturn, 1) := by decide +kernel
theorem dL_law_1082 : decode cL_law 1082 = .ok (.aload_n 1, 1) := by decide +kernel
theorem dL_law_1083 : decode cL_law 1083 = .ok (.aload_n 0, 1) := by decide +kernel
theorem dL_law_1084 : decode cL_law 1084 = .ok (.iload_n 3, 1) := by decide +kernel
theorem dL_law_1085 : decode cL_law 1085 = .ok (.iconst 1, 1) := by decide +kernel
theorem dL_law_1086 : decode cL_law 1086 = .ok (.iadd, 1) := by decide +kernel
theorem dL_law_1087 : decode cL_law 1087 = .ok (.iaload, 1) := by decide +kernel
theorem dL_law_1088 : decode cL_law 1088 = .ok (.invokevirtual 105, 3) := by decide +kernel
theorem dL_law_1091 : decode cL_law 1091 = .ok (.aload_n 2, 1) := by decide +kernel
theorem dL_law_1092 : decode cL_law 1092 = .ok (.aload_n 0, 1) := by decide +kernel
theorem dL_law_1093 : decode cL_law 1093 = .ok (.iload_n 3, 1) := by decide +kernel
theorem dL_law_1094 : decode cL_law 1094 = .ok (.iconst 1, 1) := by decide +kernel
theorem dL_law_1095 : decode cL_law 1095 = .ok (.iadd, 1) := by decide +kernel
theorem dL_law_1096 : decode cL_law 1096 = .ok (.iaload, 1) := by decide +kernel
theorem dL_law_1097 : decode cL_law 1097 = .ok (.invokevirtual 108, 3) := by decide +kernel
theorem dL_law_1100 : decode cL_law 1100 = .ok (.if_icmp .eq 1061, 3) := by decide +kernel
theorem dL_law_1103 : decode cL_law 1103 = .ok (.iconst 0, 1) := by decide +kernel
theorem dL_law_1104 : decode cL_law 1104 = .ok (.ireturn, 1) := by decide +kernel
theorem dL_law_1105 : decode cL_law 1105 = .ok (.aload_n 1, 1) := by decide +kernel
theorem dL_law_1106 : decode cL_law 1106 = .ok (.aload_n 0, 1) := by decide +kernel
theorem dL_law_1107 : decode cL_law 1107 = .ok (.iload_n 3, 1) := by decide +kernel
theorem dL_law_1108 : decode cL_law 1108 = .ok (.iconst 1, 1) := by decide +kernel
theorem dL_law_1109 : decode cL_law 1109 = .ok (.iadd, 1) := by decide +kernel
theorem dL_law_1110 : decode cL_law 1110 = .ok (.iaload, 1) := by decide +kernel
theorem dL_law_1111 : decode cL_law 1111 = .ok (.invokevirtual 109, 3) := by decide +kernel
theorem dL_law_1114 : decode cL_law 1114 = .ok (.aload_n 2, 1) := by decide +kernel
theorem dL_law_1115 : decode cL_law 1115 = .ok (.aload_n 0, 1) := by decide +kernel
theorem dL_law_1116 : decode cL_law 1116 = .ok (.iload_n 3, 1) := by decide +kernel
theorem dL_law_1117 : decode cL_law 1117 = .ok (.iconst 1, 1) := by decide +kernel
theorem dL_law_1118 : decode cL_law 1118 = .ok (.iadd, 1) := by decide +kernel
theorem dL_law_1119 : decode cL_law 1119 = .ok (.iaload, 1) := by decide +kernel
theorem dL_law_1120 : decode cL_law 1120 = .ok (.invokevirtual 112, 3) := by decide +kernel
theorem dL_law_1123 : decode cL_law 1123 = .ok (.if_icmp .eq 1038, 3) := by decide +kernel
theorem dL_law_1126 : decode cL_law 1126 = .ok (.iconst 0, 1) := by decide +kernel
theorem dL_law_1127 : decode cL_law 1127 = .ok (.ireturn, 1) := by decide +kernel
theorem dL_law_1128 : decode cL_law 1128 = .ok (.aload_n 1, 1) := by decide +kernel
theorem dL_law_1129 : decode cL_law 1129 = .ok (.aload_n 0, 1) := by decide +kernel
theorem dL_law_1130 : decode cL_law 1130 = .ok (.iload_n 3, 1) := by decide +kernel
theorem dL_law_1131 : decode cL_law 1131 = .ok (.iconst 1, 1) := by decide +kernel
theorem dL_law_1132 : decode cL_law 1132 = .ok (.iadd, 1) := by decide +kernel
theorem dL_law_1133 : decode cL_law 1133 = .ok (.iaload, 1) := by decide +kernel
theorem dL_law_1134 : decode cL_law 1134 = .ok (.aload_n 0, 1) := by decide +kernel
theorem dL_law_1135 : decode cL_law 1135 = .ok (.iload_n 3, 1) := by decide +kernel
theorem dL_law_1136 : decode cL_law 1136 = .ok (.iconst 2, 1) := by decide +kernel
theorem dL_law_1137 : decode cL_law 1137 = .ok (.iadd, 1) := by decide +kernel
theorem dL_law_1138 : decode cL_law 1138 = .ok (.iaload, 1) := by decide +kernel
theorem dL_law_1139 : decode cL_law 1139 = .ok (.aload_n 0, 1) := by decide +kernel
theorem dL_law_1140 : decode cL_law 1140 = .ok (.iload_n 3, 1) := by decide +kernel
theorem dL_law_1141 : decode cL_law 1141 = .ok (.iconst 3, 1) := by decide +kernel
theorem dL_law_1142 : decode cL_law 1142 = .ok (.iadd, 1) := by decide +kernel
theorem dL_law_1143 : decode cL_law 1143 = .ok (.iaload, 1) := by decide +kernel
theorem dL_law_1144 : decode cL_law 1144 = .ok (.aload_n 0, 1) := by decide +kernel
theorem dL_law_1145 : decode cL_law 1145 = .ok (.iload_n 3, 1) := by decide +kernel
theorem dL_law_1146 : decode cL_law 1146 = .ok (.iconst 4, 1) := by decide +kernel
theorem dL_law_1147 : decode cL_law 1147 = .ok (.iadd, 1) := by decide +kernel
theorem dL_law_1148 : decode cL_law 1148 = .ok (.iaload, 1) := by decide +kernel
theorem dL_law_1149 : decode cL_law 1149 = .ok (.invokevirtual 113, 3) := by decide +kernel
theorem dL_law_1152 : decode cL_law 1152 = .ok (.aload_n 2, 1) := by decide +kernel
theorem dL_law_1153 : decode cL_law 1153 = .ok (.aload_n 0, 1) := by decide +kernel
theorem dL_law_1154 : decode cL_law 1154 = .ok (.iload_n 3, 1) := by decide +kernel
theorem dL_law_1155 : decode cL_law 1155 = .ok (.iconst 1, 1) := by decide +kernel
theorem dL_law_1156 : decode cL_law 1156 = .ok (.iadd, 1) := by decide +kernel
theorem dL_law_1157 : decode cL_law 1157 = .ok (.iaload, 1) := by decide +kernel
theorem dL_law_1158 : decode cL_law 1158 = .ok (.aload_n 0, 1) := by decide +kernel
theorem dL_law_1159 : decode cL_law 1159 = .ok (.iload_n 3, 1) := by decide +kernel
theorem dL_law_1160 : decode cL_law 1160 = .ok (.iconst 2, 1) := by decide +kernel
theorem dL_law_1161 : decode cL_law 1161 = .ok (.iadd, 1) := by decide +kernel
theorem dL_law_1162 : decode cL_law 1162 = .ok (.iaload, 1) := by decide +kernel
theorem dL_law_1163 : decode cL_law 1163 = .ok (.aload_n 0, 1) := by decide +kernel
theorem dL_law_1164 : decode cL_law 1164 = .ok (.iload_n 3, 1) := by decide +kernel
theorem dL_law_1165 : decode cL_law 1165 = .ok (.iconst 3, 1) := by decide +kernel
theorem dL_law_1166 : decode cL_law 1166 = .ok (.iadd, 1) := by decide +kernel
theorem dL_law_1167 : decode cL_law 1167 = .ok (.iaload, 1) := by decide +kernel
theorem dL_law_1168 : decode cL_law 1168 = .ok (.aload_n 0, 1) := by decide +kernel
theorem dL_law_1169 : decode cL_law 1169 = .ok (.iload_n 3, 1) := by decide +kernel
theorem dL_law_1170 : decode cL_law 1170 = .ok (.iconst 4, 1) := by decide +kernel
theorem dL_law_1171 : decode cL_law 1171 = .ok (.iadd, 1) := by decide +kernel
theorem dL_law_1172 : decode cL_law 1172 = .ok (.iaload, 1) := by decide +kernel
theorem dL_law_1173 : decode cL_law 1173 = .ok (.invokevirtual 117, 3) := by decide +kernel
theorem dL_law_1176 : decode cL_law 1176 = .ok (.lcmp, 1) := by decide +kernel
theorem dL_law_1177 : decode cL_law 1177 = .ok (.ifCond .eq 984, 3) := by decide +kernel
theorem dL_law_1180 : decode cL_law 1180 = .ok (.iconst 0, 1) := by decide +kernel
theorem dL_law_1181 : decode cL_law 1181 = .ok (.ireturn, 1) := by decide +kernel
theorem dL_law_1182 : decode cL_law 1182 = .ok (.aload_n 1, 1) := by decide +kernel
theorem dL_law_1183 : decode cL_law 1183 = .ok (.aload_n 0, 1) := by decide +kernel
theorem dL_law_1184 : decode cL_law 1184 = .ok (.iload_n 3, 1) := by decide +kernel
theorem dL_law_1185 : decode cL_law 1185 = .ok (.iconst 1, 1) := by decide +kernel
theorem dL_law_1186 : decode cL_law 1186 = .ok (.iadd, 1) := by decide +kernel
theorem dL_law_1187 : decode cL_law 1187 = .ok (.iaload, 1) := by decide +kernel
theorem dL_law_1188 : decode cL_law 1188 = .ok (.aload_n 0, 1) := by decide +kernel
theorem dL_law_1189 : decode cL_law 1189 = .ok (.iload_n 3, 1) := by decide +kernel
theorem dL_law_1190 : decode cL_law 1190 = .ok (.iconst 2, 1) := by decide +kernel
theorem dL_law_1191 : decode cL_law 1191 = .ok (.iadd, 1) := by decide +kernel
theorem dL_law_1192 : decode cL_law 1192 = .ok (.iaload, 1) := by decide +kernel
theorem dL_law_1193 : decode cL_law 1193 = .ok (.aload_n 0, 1) := by decide +kernel
theorem dL_law_1194 : decode cL_law 1194 = .ok (.iload_n 3, 1) := by decide +kernel
theorem dL_law_1195 : decode cL_law 1195 = .ok (.iconst 3, 1) := by decide +kernel
theorem dL_law_1196 : decode cL_law 1196 = .ok (.iadd, 1) := by decide +kernel
theorem dL_law_1197 : decode cL_law 1197 = .ok (.iaload, 1) := by decide +kernel
theorem dL_law_1198 : decode cL_law 1198 = .ok (.ifCond .eq 7, 3) := by decide +kernel
theorem dL_law_1201 : decode cL_law 1201 = .ok (.iconst 1, 1) := by decide +kernel
theorem dL_law_1202 : decode cL_law 1202 = .ok (.goto 4, 3) := by decide +kernel
theorem dL_law_1205 : decode cL_law 1205 = .ok (.iconst 0, 1) := by decide +kernel
theorem dL_law_1206 : decode cL_law 1206 = .ok (.invokevirtual 118, 3) := by decide +kernel
theorem dL_law_1209 : decode cL_law 1209 = .ok (.aload_n 2, 1) := by decide +kernel
theorem dL_law_1210 : decode cL_law 1210 = .ok (.aload_n 0, 1) := by decide +kernel
theorem dL_law_1211 : decode cL_law 1211 = .ok (.iload_n 3, 1) := by decide +kernel
theorem dL_law_1212 : decode cL_law 1212 = .ok (.iconst 1, 1) := by decide +kernel
theorem dL_law_1213 : decode cL_law 1213 = .ok (.iadd, 1) := by decide +kernel
theorem dL_law_1214 : decode cL_law 1214 = .ok (.iaload, 1) := by decide +kernel
theorem dL_law_1215 : decode cL_law 1215 = .ok (.aload_n 0, 1) := by decide +kernel
theorem dL_law_1216 : decode cL_law 1216 = .ok (.iload_n 3, 1) := by decide +kernel
theorem dL_law_1217 : decode cL_law 1217 = .ok (.iconst 2, 1) := by decide +kernel
theorem dL_law_1218 : decode cL_law 1218 = .ok (.iadd, 1) := by decide +kernel
theorem dL_law_1219 : decode cL_law 1219 = .ok (.iaload, 1) := by decide +kernel
theorem dL_law_1220 : decode cL_law 1220 = .ok (.aload_n 0, 1) := by decide +kernel
theorem dL_law_1221 : decode cL_law 1221 = .ok (.iload_n 3, 1) := by decide +kernel
theorem dL_law_1222 : decode cL_law 1222 = .ok (.iconst 3, 1) := by decide +kernel
theorem dL_law_1223 : decode cL_law 1223 = .ok (.iadd, 1) := by decide +kernel
theorem dL_law_1224 : decode cL_law 1224 = .ok (.iaload, 1) := by decide +kernel
theorem dL_law_1225 : decode cL_law 1225 = .ok (.ifCond .eq 7, 3) := by decide +kernel
theorem dL_law_1228 : decode cL_law 1228 = .ok (.iconst 1, 1) := by decide +kernel
theorem dL_law_1229 : decode cL_law 1229 = .ok (.goto 4, 3) := by decide +kernel
theorem dL_law_1232 : decode cL_law 1232 = .ok (.iconst 0, 1) := by decide +kernel
theorem dL_law_1233 : decode cL_law 1233 = .ok (.invokevirtual 121, 3) := by decide +kernel
theorem dL_law_1236 : decode cL_law 1236 = .ok (.if_icmp .eq 925, 3) := by decide +kernel
theorem dL_law_1239 : decode cL_law 1239 = .ok (.iconst 0, 1) := by decide +kernel
theorem dL_law_1240 : decode cL_law 1240 = .ok (.ireturn, 1) := by decide +kernel
theorem dL_law_1241 : decode cL_law 1241 = .ok (.aload_n 1, 1) := by decide +kernel
theorem dL_law_1242 : decode cL_law 1242 = .ok (.aload_n 0, 1) := by decide +kernel
theorem dL_law_1243 : decode cL_law 1243 = .ok (.iload_n 3, 1) := by decide +kernel
theorem dL_law_1244 : decode cL_law 1244 = .ok (.iconst 1, 1) := by decide +kernel
theorem dL_law_1245 : decode cL_law 1245 = .ok (.iadd, 1) := by decide +kernel
theorem dL_law_1246 : decode cL_law 1246 = .ok (.iaload, 1) := by decide +kernel
theorem dL_law_1247 : decode cL_law 1247 = .ok (.aload_n 0, 1) := by decide +kernel
theorem dL_law_1248 : decode cL_law 1248 = .ok (.iload_n 3, 1) := by decide +kernel
theorem dL_law_1249 : decode cL_law 1249 = .ok (.iconst 2, 1) := by decide +kernel
theorem dL_law_1250 : decode cL_law 1250 = .ok (.iadd, 1) := by decide +kernel
theorem dL_law_1251 : decode cL_law 1251 = .ok (.iaload, 1) := by decide +kernel
theorem dL_law_1252 : decode cL_law 1252 = .ok (.aload_n 0, 1) := by decide +kernel
theorem dL_law_1253 : decode cL_law 1253 = .ok (.iload_n 3, 1) := by decide +kernel
theorem dL_law_1254 : decode cL_law 1254 = .ok (.iconst 3, 1) := by decide +kernel
theorem dL_law_1255 : decode cL_law 1255 = .ok (.iadd, 1) := by decide +kernel
theorem dL_law_1256 : decode cL_law 1256 = .ok (.iaload, 1) := by decide +kernel
theorem dL_law_1257 : decode cL_law 1257 = .ok (.invokevirtual 122, 3) := by decide +kernel
theorem dL_law_1260 : decode cL_law 1260 = .ok (.aload_n 2, 1) := by decide +kernel
theorem dL_law_1261 : decode cL_law 1261 = .ok (.aload_n 0, 1) := by decide +kernel
theorem dL_law_1262 : decode cL_law 1262 = .ok (.iload_n 3, 1) := by decide +kernel
theorem dL_law_1263 : decode cL_law 1263 = .ok (.iconst 1, 1) := by decide +kernel
theorem dL_law_1264 : decode cL_law 1264 = .ok (.iadd, 1) := by decide +kernel
theorem dL_law_1265 : decode cL_law 1265 = .ok (.iaload, 1) := by decide +kernel
theorem dL_law_1266 : decode cL_law 1266 = .ok (.aload_n 0, 1) := by decide +kernel
theorem dL_law_1267 : decode cL_law 1267 = .ok (.iload_n 3, 1) := by decide +kernel
theorem dL_law_1268 : decode cL_law 1268 = .ok (.iconst 2, 1) := by decide +kernel
theorem dL_law_1269 : decode cL_law 1269 = .ok (.iadd, 1) := by decide +kernel
theorem dL_law_1270 : decode cL_law 1270 = .ok (.iaload, 1) := by decide +kernel
theorem dL_law_1271 : decode cL_law 1271 = .ok (.aload_n 0, 1) := by decide +kernel
theorem dL_law_1272 : decode cL_law 1272 = .ok (.iload_n 3, 1) := by decide +kernel
theorem dL_law_1273 : decode cL_law 1273 = .ok (.iconst 3, 1) := by decide +kernel
theorem dL_law_1274 : decode cL_law 1274 = .ok (.iadd, 1) := by decide +kernel
theorem dL_law_1275 : decode cL_law 1275 = .ok (.iaload, 1) := by decide +kernel
theorem dL_law_1276 : decode cL_law 1276 = .ok (.invokevirtual 125, 3) := by decide +kernel
theorem dL_law_1279 : decode cL_law 1279 = .ok (.if_icmp .eq 882, 3) := by decide +kernel
theorem dL_law_1282 : decode cL_law 1282 = .ok (.iconst 0, 1) := by decide +kernel
theorem dL_law_1283 : decode cL_law 1283 = .ok (.ireturn, 1) := by decide +kernel
theorem dL_law_1284 : decode cL_law 1284 = .ok (.aload_n 1, 1) := by decide +kernel
theorem dL_law_1285 : decode cL_law 1285 = .ok (.aload_n 0, 1) := by decide +kernel
theorem dL_law_1286 : decode cL_law 1286 = .ok (.iload_n 3, 1) := by decide +kernel
theorem dL_law_1287 : decode cL_law 1287 = .ok (.iconst 1, 1) := by decide +kernel
theorem dL_law_1288 : decode cL_law 1288 = .ok (.iadd, 1) := by decide +kernel
theorem dL_law_1289 : decode cL_law 1289 = .ok (.iaload, 1) := by decide +kernel
theorem dL_law_1290 : decode cL_law 1290 = .ok (.aload_n 0, 1) := by decide +kernel
theorem dL_law_1291 : decode cL_law 1291 = .ok (.iload_n 3, 1) := by decide +kernel
theorem dL_law_1292 : decode cL_law 1292 = .ok (.iconst 2, 1) := by decide +kernel
theorem dL_law_1293 : decode cL_law 1293 = .ok (.iadd, 1) := by decide +kernel
theorem dL_law_1294 : decode cL_law 1294 = .ok (.iaload, 1) := by decide +kernel
theorem dL_law_1295 : decode cL_law 1295 = .ok (.ifCond .eq 7, 3) := by decide +kernel
theorem dL_law_1298 : decode cL_law 1298 = .ok (.iconst 1, 1) := by decide +kernel
theorem dL_law_1299 : decode cL_law 1299 = .ok (.goto 4, 3) := by decide +kernel
theorem dL_law_1302 : decode cL_law 1302 = .ok (.iconst 0, 1) := by decide +kernel
theorem dL_law_1303 : decode cL_law 1303 = .ok (.invokevirtual 126, 3) := by decide +kernel
theorem dL_law_1306 : decode cL_law 1306 = .ok (.aload_n 2, 1) := by decide +kernel
theorem dL_law_1307 : decode cL_law 1307 = .ok (.aload_n 0, 1) := by decide +kernel
theorem dL_law_1308 : decode cL_law 1308 = .ok (.iload_n 3, 1) := by decide +kernel
theorem dL_law_1309 : decode cL_law 1309 = .ok (.iconst 1, 1) := by decide +kernel
theorem dL_law_1310 : decode cL_law 1310 = .ok (.iadd, 1) := by decide +kernel
theorem dL_law_1311 : decode cL_law 1311 = .ok (.iaload, 1) := by decide +kernel
theorem dL_law_1312 : decode cL_law 1312 = .ok (.aload_n 0, 1) := by decide +kernel
theorem dL_law_1313 : decode cL_law 1313 = .ok (.iload_n 3, 1) := by decide +kernel
theorem dL_law_1314 : decode cL_law 1314 = .ok (.iconst 2, 1) := by decide +kernel
theorem dL_law_1315 : decode cL_law 1315 = .ok (.iadd, 1) := by decide +kernel
theorem dL_law_1316 : decode cL_law 1316 = .ok (.iaload, 1) := by decide +kernel
theorem dL_law_1317 : decode cL_law 1317 = .ok (.ifCond .eq 7, 3) := by decide +kernel
theorem dL_law_1320 : decode cL_law 1320 = .ok (.iconst 1, 1) := by decide +kernel
theorem dL_law_1321 : decode cL_law 1321 = .ok (.goto 4, 3) := by decide +kernel
theorem dL_law_1324 : decode cL_law 1324 = .ok (.iconst 0, 1) := by decide +kernel
theorem dL_law_1325 : decode cL_law 1325 = .ok (.invokevirtual 130, 3) := by decide +kernel
theorem dL_law_1328 : decode cL_law 1328 = .ok (.if_icmp .eq 833, 3) := by decide +kernel
theorem dL_law_1331 : decode cL_law 1331 = .ok (.iconst 0, 1) := by decide +kernel
theorem dL_law_1332 : decode cL_law 1332 = .ok (.ireturn, 1) := by decide +kernel
theorem dL_law_1333 : decode cL_law 1333 = .ok (.aload_n 1, 1) := by decide +kernel
theorem dL_law_1334 : decode cL_law 1334 = .ok (.aload_n 0, 1) := by decide +kernel
theorem dL_law_1335 : decode cL_law 1335 = .ok (.iload_n 3, 1) := by decide +kernel
theorem dL_law_1336 : decode cL_law 1336 = .ok (.iconst 1, 1) := by decide +kernel
theorem dL_law_1337 : decode cL_law 1337 = .ok (.iadd, 1) := by decide +kernel
theorem dL_law_1338 : decode cL_law 1338 = .ok (.iaload, 1) := by decide +kernel
theorem dL_law_1339 : decode cL_law 1339 = .ok (.aload_n 0, 1) := by decide +kernel
theorem dL_law_1340 : decode cL_law 1340 = .ok (.iload_n 3, 1) := by decide +kernel
theorem dL_law_1341 : decode cL_law 1341 = .ok (.iconst 2, 1) := by decide +kernel
theorem dL_law_1342 : decode cL_law 1342 = .ok (.iadd, 1) := by decide +kernel
theorem dL_law_1343 : decode cL_law 1343 = .ok (.iaload, 1) := by decide +kernel
theorem dL_law_1344 : decode cL_law 1344 = .ok (.invokevirtual 131, 3) := by decide +kernel
theorem dL_law_1347 : decode cL_law 1347 = .ok (.aload_n 2, 1) := by decide +kernel
theorem dL_law_1348 : decode cL_law 1348 = .ok (.aload_n 0, 1) := by decide +kernel
theorem dL_law_1349 : decode cL_law 1349 = .ok (.iload_n 3, 1) := by decide +kernel
theorem dL_law_1350 : decode cL_law 1350 = .ok (.iconst 1, 1) := by decide +kernel
theorem dL_law_1351 : decode cL_law 1351 = .ok (.iadd, 1) := by decide +kernel
theorem dL_law_1352 : decode cL_law 1352 = .ok (.iaload, 1) := by decide +kernel
theorem dL_law_1353 : decode cL_law 1353 = .ok (.aload_n 0, 1) := by decide +kernel
theorem dL_law_1354 : decode cL_law 1354 = .ok (.iload_n 3, 1) := by decide +kernel
theorem dL_law_1355 : decode cL_law 1355 = .ok (.iconst 2, 1) := by decide +kernel
theorem dL_law_1356 : decode cL_law 1356 = .ok (.iadd, 1) := by decide +kernel
theorem dL_law_1357 : decode cL_law 1357 = .ok (.iaload, 1) := by decide +kernel
theorem dL_law_1358 : decode cL_law 1358 = .ok (.invokevirtual 134, 3) := by decide +kernel
theorem dL_law_1361 : decode cL_law 1361 = .ok (.if_icmp .eq 800, 3) := by decide +kernel
theorem dL_law_1364 : decode cL_law 1364 = .ok (.iconst 0, 1) := by decide +kernel
theorem dL_law_1365 : decode cL_law 1365 = .ok (.ireturn, 1) := by decide +kernel
theorem dL_law_1366 : decode cL_law 1366 = .ok (.aload_n 1, 1) := by decide +kernel
theorem dL_law_1367 : decode cL_law 1367 = .ok (.aload_n 0, 1) := by decide +kernel
theorem dL_law_1368 : decode cL_law 1368 = .ok (.iload_n 3, 1) := by decide +kernel
theorem dL_law_1369 : decode cL_law 1369 = .ok (.iconst 1, 1) := by decide +kernel
theorem dL_law_1370 : decode cL_law 1370 = .ok (.iadd, 1) := by decide +kernel
theorem dL_law_1371 : decode cL_law 1371 = .ok (.iaload, 1) := by decide +kernel
theorem dL_law_1372 : decode cL_law 1372 = .ok (.invokevirtual 135, 3) := by decide +kernel
theorem dL_law_1375 : decode cL_law 1375 = .ok (.aload_n 2, 1) := by decide +kernel
theorem dL_law_1376 : decode cL_law 1376 = .ok (.aload_n 0, 1) := by decide +kernel
theorem dL_law_1377 : decode cL_law 1377 = .ok (.iload_n 3, 1) := by decide +kernel
theorem dL_law_1378 : decode cL_law 1378 = .ok (.iconst 1, 1) := by decide +kernel
theorem dL_law_1379 : decode cL_law 1379 = .ok (.iadd, 1) := by decide +kernel
theorem dL_law_1380 : decode cL_law 1380 = .ok (.iaload, 1) := by decide +kernel
theorem dL_law_1381 : decode cL_law 1381 = .ok (.invokevirtual 138, 3) := by decide +kernel
theorem dL_law_1384 : decode cL_law 1384 = .ok (.if_icmp .eq 777, 3) := by decide +kernel
theorem dL_law_1387 : decode cL_law 1387 = .ok (.iconst 0, 1) := by decide +kernel
theorem dL_law_1388 : decode cL_law 1388 = .ok (.ireturn, 1) := by decide +kernel
theorem dL_law_1389 : decode cL_law 1389 = .ok (.aload_n 1, 1) := by decide +kernel
theorem dL_law_1390 : decode cL_law 1390 = .ok (.aload_n 0, 1) := by decide +kernel
theorem dL_law_1391 : decode cL_law 1391 = .ok (.iload_n 3, 1) := by decide +kernel
theorem dL_law_1392 : decode cL_law 1392 = .ok (.iconst 1, 1) := by decide +kernel
theorem dL_law_1393 : decode cL_law 1393 = .ok (.iadd, 1) := by decide +kernel
theorem dL_law_1394 : decode cL_law 1394 = .ok (.iaload, 1) := by decide +kernel
theorem dL_law_1395 : decode cL_law 1395 = .ok (.aload_n 0, 1) := by decide +kernel
theorem dL_law_1396 : decode cL_law 1396 = .ok (.iload_n 3, 1) := by decide +kernel
theorem dL_law_1397 : decode cL_law 1397 = .ok (.iconst 2, 1) := by decide +kernel
theorem dL_law_1398 : decode cL_law 1398 = .ok (.iadd, 1) := by decide +kernel
theorem dL_law_1399 : decode cL_law 1399 = .ok (.iaload, 1) := by decide +kernel
theorem dL_law_1400 : decode cL_law 1400 = .ok (.invokevirtual 139, 3) := by decide +kernel
theorem dL_law_1403 : decode cL_law 1403 = .ok (.aload_n 2, 1) := by decide +kernel
theorem dL_law_1404 : decode cL_law 1404 = .ok (.aload_n 0, 1) := by decide +kernel
theorem dL_law_1405 : decode cL_law 1405 = .ok (.iload_n 3, 1) := by decide +kernel
theorem dL_law_1406 : decode cL_law 1406 = .ok (.iconst 1, 1) := by decide +kernel
theorem dL_law_1407 : decode cL_law 1407 = .ok (.iadd, 1) := by decide +kernel
theorem dL_law_1408 : decode cL_law 1408 = .ok (.iaload, 1) := by decide +kernel
theorem dL_law_1409 : decode cL_law 1409 = .ok (.aload_n 0, 1) := by decide +kernel
theorem dL_law_1410 : decode cL_law 1410 = .ok (.iload_n 3, 1) := by decide +kernel
theorem dL_law_1411 : decode cL_law 1411 = .ok (.iconst 2, 1) := by decide +kernel
theorem dL_law_1412 : decode cL_law 1412 = .ok (.iadd, 1) := by decide +kernel
theorem dL_law_1413 : decode cL_law 1413 = .ok (.iaload, 1) := by decide +kernel
theorem dL_law_1414 : decode cL_law 1414 = .ok (.invokevirtual 143, 3) := by decide +kernel
theorem dL_law_1417 : decode cL_law 1417 = .ok (.lcmp, 1) := by decide +kernel
theorem dL_law_1418 : decode cL_law 1418 = .ok (.ifCond .eq 743, 3) := by decide +kernel
theorem dL_law_1421 : decode cL_law 1421 = .ok (.iconst 0, 1) := by decide +kernel
theorem dL_law_1422 : decode cL_law 1422 = .ok (.ireturn, 1) := by decide +kernel
theorem dL_law_1423 : decode cL_law 1423 = .ok (.aload_n 1, 1) := by decide +kernel
theorem dL_law_1424 : decode cL_law 1424 = .ok (.aload_n 0, 1) := by decide +kernel
theorem dL_law_1425 : decode cL_law 1425 = .ok (.iload_n 3, 1) := by decide +kernel
theorem dL_law_1426 : decode cL_law 1426 = .ok (.iconst 1, 1) := by decide +kernel
theorem dL_law_1427 : decode cL_law 1427 = .ok (.iadd, 1) := by decide +kernel
theorem dL_law_1428 : decode cL_law 1428 = .ok (.iaload, 1) := by decide +kernel
theorem dL_law_1429 : decode cL_law 1429 = .ok (.aload_n 0, 1) := by decide +kernel
theorem dL_law_1430 : decode cL_law 1430 = .ok (.iload_n 3, 1) := by decide +kernel
theorem dL_law_1431 : decode cL_law 1431 = .ok (.iconst 2, 1) := by decide +kernel
theorem dL_law_1432 : decode cL_law 1432 = .ok (.iadd, 1) := by decide +kernel
theorem dL_law_1433 : decode cL_law 1433 = .ok (.iaload, 1) := by decide +kernel
theorem dL_law_1434 : decode cL_law 1434 = .ok (.aload_n 0, 1) := by decide +kernel
theorem dL_law_1435 : decode cL_law 1435 = .ok (.iload_n 3, 1) := by decide +kernel
theorem dL_law_1436 : decode cL_law 1436 = .ok (.iconst 3, 1) := by decide +kernel
theorem dL_law_1437 : decode cL_law 1437 = .ok (.iadd, 1) := by decide +kernel
theorem dL_law_1438 : decode cL_law 1438 = .ok (.iaload, 1) := by decide +kernel
theorem dL_law_1439 : decode cL_law 1439 = .ok (.invokevirtual 144, 3) := by decide +kernel
theorem dL_law_1442 : decode cL_law 1442 = .ok (.aload_n 2, 1) := by decide +kernel
theorem dL_law_1443 : decode cL_law 1443 = .ok (.aload_n 0, 1) := by decide +kernel
theorem dL_law_1444 : decode cL_law 1444 = .ok (.iload_n 3, 1) := by decide +kernel
theorem dL_law_1445 : decode cL_law 1445 = .ok (.iconst 1, 1) := by decide +kernel
theorem dL_law_1446 : decode cL_law 1446 = .ok (.iadd, 1) := by decide +kernel
theorem dL_law_1447 : decode cL_law 1447 = .ok (.iaload, 1) := by decide +kernel
theorem dL_law_1448 : decode cL_law 1448 = .ok (.aload_n 0, 1) := by decide +kernel
theorem dL_law_1449 : decode cL_law 1449 = .ok (.iload_n 3, 1) := by decide +kernel
theorem dL_law_1450 : decode cL_law 1450 = .ok (.iconst 2, 1) := by decide +kernel
theorem dL_law_1451 : decode cL_law 1451 = .ok (.iadd, 1) := by decide +kernel
theorem dL_law_1452 : decode cL_law 1452 = .ok (.iaload, 1) := by decide +kernel
theorem dL_law_1453 : decode cL_law 1453 = .ok (.aload_n 0, 1) := by decide +kernel
theorem dL_law_1454 : decode cL_law 1454 = .ok (.iload_n 3, 1) := by decide +kernel
theorem dL_law_1455 : decode cL_law 1455 = .ok (.iconst 3, 1) := by decide +kernel
theorem dL_law_1456 : decode cL_law 1456 = .ok (.iadd, 1) := by decide +kernel
theorem dL_law_1457 : decode cL_law 1457 = .ok (.iaload, 1) := by decide +kernel
theorem dL_law_1458 : decode cL_law 1458 = .ok (.invokevirtual 147, 3) := by decide +kernel
theorem dL_law_1461 : decode cL_law 1461 = .ok (.lcmp, 1) := by decide +kernel
theorem dL_law_1462 : decode cL_law 1462 = .ok (.ifCond .eq 699, 3) := by decide +kernel
theorem dL_law_1465 : decode cL_law 1465 = .ok (.iconst 0, 1) := by decide +kernel
theorem dL_law_1466 : decode cL_law 1466 = .ok (.ireturn, 1) := by decide +kernel
theorem dL_law_1467 : decode cL_law 1467 = .ok (.aload_n 1, 1) := by decide +kernel
theorem dL_law_1468 : decode cL_law 1468 = .ok (.aload_n 0, 1) := by decide +kernel
theorem dL_law_1469 : decode cL_law 1469 = .ok (.iload_n 3, 1) := by decide +kernel
theorem dL_law_1470 : decode cL_law 1470 = .ok (.iconst 1, 1) := by decide +kernel
theorem dL_law_1471 : decode cL_law 1471 = .ok (.iadd, 1) := by decide +kernel
theorem dL_law_1472 : decode cL_law 1472 = .ok (.iaload, 1) := by decide +kernel
theorem dL_law_1473 : decode cL_law 1473 = .ok (.aload_n 0, 1) := by decide +kernel
theorem dL_law_1474 : decode cL_law 1474 = .ok (.iload_n 3, 1) := by decide +kernel
theorem dL_law_1475 : decode cL_law 1475 = .ok (.iconst 2, 1) := by decide +kernel
theorem dL_law_1476 : decode cL_law 1476 = .ok (.iadd, 1) := by decide +kernel
theorem dL_law_1477 : decode cL_law 1477 = .ok (.iaload, 1) := by decide +kernel
theorem dL_law_1478 : decode cL_law 1478 = .ok (.aload_n 0, 1) := by decide +kernel
theorem dL_law_1479 : decode cL_law 1479 = .ok (.iload_n 3, 1) := by decide +kernel
theorem dL_law_1480 : decode cL_law 1480 = .ok (.iconst 3, 1) := by decide +kernel
theorem dL_law_1481 : decode cL_law 1481 = .ok (.iadd, 1) := by decide +kernel
theorem dL_law_1482 : decode cL_law 1482 = .ok (.iaload, 1) := by decide +kernel
theorem dL_law_1483 : decode cL_law 1483 = .ok (.invokevirtual 148, 3) := by decide +kernel
theorem dL_law_1486 : decode cL_law 1486 = .ok (.aload_n 2, 1) := by decide +kernel
theorem dL_law_1487 : decode cL_law 1487 = .ok (.aload_n 0, 1) := by decide +kernel
theorem dL_law_1488 : decode cL_law 1488 = .ok (.iload_n 3, 1) := by decide +kernel
theorem dL_law_1489 : decode cL_law 1489 = .ok (.iconst 1, 1) := by decide +kernel
theorem dL_law_1490 : decode cL_law 1490 = .ok (.iadd, 1) := by decide +kernel
theorem dL_law_1491 : decode cL_law 1491 = .ok (.iaload, 1) := by decide +kernel
theorem dL_law_1492 : decode cL_law 1492 = .ok (.aload_n 0, 1) := by decide +kernel
theorem dL_law_1493 : decode cL_law 1493 = .ok (.iload_n 3, 1) := by decide +kernel
theorem dL_law_1494 : decode cL_law 1494 = .ok (.iconst 2, 1) := by decide +kernel
theorem dL_law_1495 : decode cL_law 1495 = .ok (.iadd, 1) := by decide +kernel
theorem dL_law_1496 : decode cL_law 1496 = .ok (.iaload, 1) := by decide +kernel
theorem dL_law_1497 : decode cL_law 1497 = .ok (.aload_n 0, 1) := by decide +kernel
theorem dL_law_1498 : decode cL_law 1498 = .ok (.iload_n 3, 1) := by decide +kernel
theorem dL_law_1499 : decode cL_law 1499 = .ok (.iconst 3, 1) := by decide +kernel
theorem dL_law_1500 : decode cL_law 1500 = .ok (.iadd, 1) := by decide +kernel
theorem dL_law_1501 : decode cL_law 1501 = .ok (.iaload, 1) := by decide +kernel
theorem dL_law_1502 : decode cL_law 1502 = .ok (.invokevirtual 151, 3) := by decide +kernel
theorem dL_law_1505 : decode cL_law 1505 = .ok (.lcmp, 1) := by decide +kernel
theorem dL_law_1506 : decode cL_law 1506 = .ok (.ifCond .eq 655, 3) := by decide +kernel
theorem dL_law_1509 : decode cL_law 1509 = .ok (.iconst 0, 1) := by decide +kernel
theorem dL_law_1510 : decode cL_law 1510 = .ok (.ireturn, 1) := by decide +kernel
theorem dL_law_1511 : decode cL_law 1511 = .ok (.aload_n 1, 1) := by decide +kernel
theorem dL_law_1512 : decode cL_law 1512 = .ok (.aload_n 0, 1) := by decide +kernel
theorem dL_law_1513 : decode cL_law 1513 = .ok (.iload_n 3, 1) := by decide +kernel
theorem dL_law_1514 : decode cL_law 1514 = .ok (.iconst 1, 1) := by decide +kernel
theorem dL_law_1515 : decode cL_law 1515 = .ok (.iadd, 1) := by decide +kernel
theorem dL_law_1516 : decode cL_law 1516 = .ok (.iaload, 1) := by decide +kernel
theorem dL_law_1517 : decode cL_law 1517 = .ok (.aload_n 0, 1) := by decide +kernel
theorem dL_law_1518 : decode cL_law 1518 = .ok (.iload_n 3, 1) := by decide +kernel
theorem dL_law_1519 : decode cL_law 1519 = .ok (.iconst 2, 1) := by decide +kernel
theorem dL_law_1520 : decode cL_law 1520 = .ok (.iadd, 1) := by decide +kernel
theorem dL_law_1521 : decode cL_law 1521 = .ok (.iaload, 1) := by decide +kernel
theorem dL_law_1522 : decode cL_law 1522 = .ok (.aload_n 0, 1) := by decide +kernel
theorem dL_law_1523 : decode cL_law 1523 = .ok (.iload_n 3, 1) := by decide +kernel
theorem dL_law_1524 : decode cL_law 1524 = .ok (.iconst 3, 1) := by decide +kernel
theorem dL_law_1525 : decode cL_law 1525 = .ok (.iadd, 1) := by decide +kernel
theorem dL_law_1526 : decode cL_law 1526 = .ok (.iaload, 1) := by decide +kernel
theorem dL_law_1527 : decode cL_law 1527 = .ok (.invokevirtual 152, 3) := by decide +kernel
theorem dL_law_1530 : decode cL_law 1530 = .ok (.aload_n 2, 1) := by decide +kernel
theorem dL_law_1531 : decode cL_law 1531 = .ok (.aload_n 0, 1) := by decide +kernel
theorem dL_law_1532 : decode cL_law 1532 = .ok (.iload_n 3, 1) := by decide +kernel
theorem dL_law_1533 : decode cL_law 1533 = .ok (.iconst 1, 1) := by decide +kernel
theorem dL_law_1534 : decode cL_law 1534 = .ok (.iadd, 1) := by decide +kernel
theorem dL_law_1535 : decode cL_law 1535 = .ok (.iaload, 1) := by decide +kernel
theorem dL_law_1536 : decode cL_law 1536 = .ok (.aload_n 0, 1) := by decide +kernel
theorem dL_law_1537 : decode cL_law 1537 = .ok (.iload_n 3, 1) := by decide +kernel
theorem dL_law_1538 : decode cL_law 1538 = .ok (.iconst 2, 1) := by decide +kernel
theorem dL_law_1539 : decode cL_law 1539 = .ok (.iadd, 1) := by decide +kernel
theorem dL_law_1540 : decode cL_law 1540 = .ok (.iaload, 1) := by decide +kernel
theorem dL_law_1541 : decode cL_law 1541 = .ok (.aload_n 0, 1) := by decide +kernel
theorem dL_law_1542 : decode cL_law 1542 = .ok (.iload_n 3, 1) := by decide +kernel
theorem dL_law_1543 : decode cL_law 1543 = .ok (.iconst 3, 1) := by decide +kernel
theorem dL_law_1544 : decode cL_law 1544 = .ok (.iadd, 1) := by decide +kernel
theorem dL_law_1545 : decode cL_law 1545 = .ok (.iaload, 1) := by decide +kernel
theorem dL_law_1546 : decode cL_law 1546 = .ok (.invokevirtual 155, 3) := by decide +kernel
theorem dL_law_1549 : decode cL_law 1549 = .ok (.if_icmp .eq 612, 3) := by decide +kernel
theorem dL_law_1552 : decode cL_law 1552 = .ok (.iconst 0, 1) := by decide +kernel
theorem dL_law_1553 : decode cL_law 1553 = .ok (.ireturn, 1) := by decide +kernel
theorem dL_law_1554 : decode cL_law 1554 = .ok (.aload_n 1, 1) := by decide +kernel
theorem dL_law_1555 : decode cL_law 1555 = .ok (.aload_n 0, 1) := by decide +kernel
theorem dL_law_1556 : decode cL_law 1556 = .ok (.iload_n 3, 1) := by decide +kernel
theorem dL_law_1557 : decode cL_law 1557 = .ok (.iconst 1, 1) := by decide +kernel
theorem dL_law_1558 : decode cL_law 1558 = .ok (.iadd, 1) := by decide +kernel
theorem dL_law_1559 : decode cL_law 1559 = .ok (.iaload, 1) := by decide +kernel
theorem dL_law_1560 : decode cL_law 1560 = .ok (.invokevirtual 156, 3) := by decide +kernel
theorem dL_law_1563 : decode cL_law 1563 = .ok (.aload_n 2, 1) := by decide +kernel
theorem dL_law_1564 : decode cL_law 1564 = .ok (.aload_n 0, 1) := by decide +kernel
theorem dL_law_1565 : decode cL_law 1565 = .ok (.iload_n 3, 1) := by decide +kernel
theorem dL_law_1566 : decode cL_law 1566 = .ok (.iconst 1, 1) := by decide +kernel
theorem dL_law_1567 : decode cL_law 1567 = .ok (.iadd, 1) := by decide +kernel
theorem dL_law_1568 : decode cL_law 1568 = .ok (.iaload, 1) := by decide +kernel
theorem dL_law_1569 : decode cL_law 1569 = .ok (.invokevirtual 159, 3) := by decide +kernel
theorem dL_law_1572 : decode cL_law 1572 = .ok (.if_icmp .eq 589, 3) := by decide +kernel
theorem dL_law_1575 : decode cL_law 1575 = .ok (.iconst 0, 1) := by decide +kernel
theorem dL_law_1576 : decode cL_law 1576 = .ok (.ireturn, 1) := by decide +kernel
theorem dL_law_1577 : decode cL_law 1577 = .ok (.aload_n 1, 1) := by decide +kernel
theorem dL_law_1578 : decode cL_law 1578 = .ok (.aload_n 0, 1) := by decide +kernel
theorem dL_law_1579 : decode cL_law 1579 = .ok (.iload_n 3, 1) := by decide +kernel
theorem dL_law_1580 : decode cL_law 1580 = .ok (.iconst 1, 1) := by decide +kernel
theorem dL_law_1581 : decode cL_law 1581 = .ok (.iadd, 1) := by decide +kernel
theorem dL_law_1582 : decode cL_law 1582 = .ok (.iaload, 1) := by decide +kernel
theorem dL_law_1583 : decode cL_law 1583 = .ok (.invokevirtual 160, 3) := by decide +kernel
theorem dL_law_1586 : decode cL_law 1586 = .ok (.aload_n 2, 1) := by decide +kernel
theorem dL_law_1587 : decode cL_law 1587 = .ok (.aload_n 0, 1) := by decide +kernel
theorem dL_law_1588 : decode cL_law 1588 = .ok (.iload_n 3, 1) := by decide +kernel
theorem dL_law_1589 : decode cL_law 1589 = .ok (.iconst 1, 1) := by decide +kernel
theorem dL_law_1590 : decode cL_law 1590 = .ok (.iadd, 1) := by decide +kernel
theorem dL_law_1591 : decode cL_law 1591 = .ok (.iaload, 1) := by decide +kernel
theorem dL_law_1592 : decode cL_law 1592 = .ok (.invokevirtual 163, 3) := by decide +kernel
theorem dL_law_1595 : decode cL_law 1595 = .ok (.if_icmp .eq 566, 3) := by decide +kernel
theorem dL_law_1598 : decode cL_law 1598 = .ok (.iconst 0, 1) := by decide +kernel
theorem dL_law_1599 : decode cL_law 1599 = .ok (.ireturn, 1) := by decide +kernel
theorem dL_law_1600 : decode cL_law 1600 = .ok (.aload_n 1, 1) := by decide +kernel
theorem dL_law_1601 : decode cL_law 1601 = .ok (.aload_n 0, 1) := by decide +kernel
theorem dL_law_1602 : decode cL_law 1602 = .ok (.iload_n 3, 1) := by decide +kernel
theorem dL_law_1603 : decode cL_law 1603 = .ok (.iconst 1, 1) := by decide +kernel
theorem dL_law_1604 : decode cL_law 1604 = .ok (.iadd, 1) := by decide +kernel
theorem dL_law_1605 : decode cL_law 1605 = .ok (.iaload, 1) := by decide +kernel
theorem dL_law_1606 : decode cL_law 1606 = .ok (.aload_n 0, 1) := by decide +kernel
theorem dL_law_1607 : decode cL_law 1607 = .ok (.iload_n 3, 1) := by decide +kernel
theorem dL_law_1608 : decode cL_law 1608 = .ok (.iconst 2, 1) := by decide +kernel
theorem dL_law_1609 : decode cL_law 1609 = .ok (.iadd, 1) := by decide +kernel
theorem dL_law_1610 : decode cL_law 1610 = .ok (.iaload, 1) := by decide +kernel
theorem dL_law_1611 : decode cL_law 1611 = .ok (.invokevirtual 164, 3) := by decide +kernel
theorem dL_law_1614 : decode cL_law 1614 = .ok (.aload_n 2, 1) := by decide +kernel
theorem dL_law_1615 : decode cL_law 1615 = .ok (.aload_n 0, 1) := by decide +kernel
theorem dL_law_1616 : decode cL_law 1616 = .ok (.iload_n 3, 1) := by decide +kernel
theorem dL_law_1617 : decode cL_law 1617 = .ok (.iconst 1, 1) := by decide +kernel
theorem dL_law_1618 : decode cL_law 1618 = .ok (.iadd, 1) := by decide +kernel
theorem dL_law_1619 : decode cL_law 1619 = .ok (.iaload, 1) := by decide +kernel
theorem dL_law_1620 : decode cL_law 1620 = .ok (.aload_n 0, 1) := by decide +kernel
theorem dL_law_1621 : decode cL_law 1621 = .ok (.iload_n 3, 1) := by decide +kernel
theorem dL_law_1622 : decode cL_law 1622 = .ok (.iconst 2, 1) := by decide +kernel
theorem dL_law_1623 : decode cL_law 1623 = .ok (.iadd, 1) := by decide +kernel
theorem dL_law_1624 : decode cL_law 1624 = .ok (.iaload, 1) := by decide +kernel
theorem dL_law_1625 : decode cL_law 1625 = .ok (.invokevirtual 167, 3) := by decide +kernel
theorem dL_law_1628 : decode cL_law 1628 = .ok (.if_icmp .eq 533, 3) := by decide +kernel
theorem dL_law_1631 : decode cL_law 1631 = .ok (.iconst 0, 1) := by decide +kernel
theorem dL_law_1632 : decode cL_law 1632 = .ok (.ireturn, 1) := by decide +kernel
theorem dL_law_1633 : decode cL_law 1633 = .ok (.aload_n 1, 1) := by decide +kernel
theorem dL_law_1634 : decode cL_law 1634 = .ok (.aload_n 0, 1) := by decide +kernel
theorem dL_law_1635 : decode cL_law 1635 = .ok (.iload_n 3, 1) := by decide +kernel
theorem dL_law_1636 : decode cL_law 1636 = .ok (.iconst 1, 1) := by decide +kernel
theorem dL_law_1637 : decode cL_law 1637 = .ok (.iadd, 1) := by decide +kernel
theorem dL_law_1638 : decode cL_law 1638 = .ok (.iaload, 1) := by decide +kernel
theorem dL_law_1639 : decode cL_law 1639 = .ok (.aload_n 0, 1) := by decide +kernel
theorem dL_law_1640 : decode cL_law 1640 = .ok (.iload_n 3, 1) := by decide +kernel
theorem dL_law_1641 : decode cL_law 1641 = .ok (.iconst 2, 1) := by decide +kernel
theorem dL_law_1642 : decode cL_law 1642 = .ok (.iadd, 1) := by decide +kernel
theorem dL_law_1643 : decode cL_law 1643 = .ok (.iaload, 1) := by decide +kernel
theorem dL_law_1644 : decode cL_law 1644 = .ok (.aload_n 0, 1) := by decide +kernel
theorem dL_law_1645 : decode cL_law 1645 = .ok (.iload_n 3, 1) := by decide +kernel
theorem dL_law_1646 : decode cL_law 1646 = .ok (.iconst 3, 1) := by decide +kernel
theorem dL_law_1647 : decode cL_law 1647 = .ok (.iadd, 1) := by decide +kernel
theorem dL_law_1648 : decode cL_law 1648 = .ok (.iaload, 1) := by decide +kernel
theorem dL_law_1649 : decode cL_law 1649 = .ok (.invokevirtual 168, 3) := by decide +kernel
theorem dL_law_1652 : decode cL_law 1652 = .ok (.aload_n 2, 1) := by decide +kernel
theorem dL_law_1653 : decode cL_law 1653 = .ok (.aload_n 0, 1) := by decide +kernel
theorem dL_law_1654 : decode cL_law 1654 = .ok (.iload_n 3, 1) := by decide +kernel
theorem dL_law_1655 : decode cL_law 1655 = .ok (.iconst 1, 1) := by decide +kernel
theorem dL_law_1656 : decode cL_law 1656 = .ok (.iadd, 1) := by decide +kernel
theorem dL_law_1657 : decode cL_law 1657 = .ok (.iaload, 1) := by decide +kernel
theorem dL_law_1658 : decode cL_law 1658 = .ok (.aload_n 0, 1) := by decide +kernel
theorem dL_law_1659 : decode cL_law 1659 = .ok (.iload_n 3, 1) := by decide +kernel
theorem dL_law_1660 : decode cL_law 1660 = .ok (.iconst 2, 1) := by decide +kernel
theorem dL_law_1661 : decode cL_law 1661 = .ok (.iadd, 1) := by decide +kernel
theorem dL_law_1662 : decode cL_law 1662 = .ok (.iaload, 1) := by decide +kernel
theorem dL_law_1663 : decode cL_law 1663 = .ok (.aload_n 0, 1) := by decide +kernel
theorem dL_law_1664 : decode cL_law 1664 = .ok (.iload_n 3, 1) := by decide +kernel
theorem dL_law_1665 : decode cL_law 1665 = .ok (.iconst 3, 1) := by decide +kernel
theorem dL_law_1666 : decode cL_law 1666 = .ok (.iadd, 1) := by decide +kernel
theorem dL_law_1667 : decode cL_law 1667 = .ok (.iaload, 1) := by decide +kernel
theorem dL_law_1668 : decode cL_law 1668 = .ok (.invokevirtual 171, 3) := by decide +kernel
theorem dL_law_1671 : decode cL_law 1671 = .ok (.if_icmp .eq 490, 3) := by decide +kernel
theorem dL_law_1674 : decode cL_law 1674 = .ok (.iconst 0, 1) := by decide +kernel
theorem dL_law_1675 : decode cL_law 1675 = .ok (.ireturn, 1) := by decide +kernel
theorem dL_law_1676 : decode cL_law 1676 = .ok (.aload_n 1, 1) := by decide +kernel
theorem dL_law_1677 : decode cL_law 1677 = .ok (.invokevirtual 172, 3) := by decide +kernel
theorem dL_law_1680 : decode cL_law 1680 = .ok (.aload_n 2, 1) := by decide +kernel
theorem dL_law_1681 : decode cL_law 1681 = .ok (.invokevirtual 175, 3) := by decide +kernel
theorem dL_law_1684 : decode cL_law 1684 = .ok (.if_icmp .eq 477, 3) := by decide +kernel
theorem dL_law_1687 : decode cL_law 1687 = .ok (.iconst 0, 1) := by decide +kernel
theorem dL_law_1688 : decode cL_law 1688 = .ok (.ireturn, 1) := by decide +kernel
theorem dL_law_1689 : decode cL_law 1689 = .ok (.aload_n 1, 1) := by decide +kernel
theorem dL_law_1690 : decode cL_law 1690 = .ok (.aload_n 0, 1) := by decide +kernel
theorem dL_law_1691 : decode cL_law 1691 = .ok (.iload_n 3, 1) := by decide +kernel
theorem dL_law_1692 : decode cL_law 1692 = .ok (.iconst 1, 1) := by decide +kernel
theorem dL_law_1693 : decode cL_law 1693 = .ok (.iadd, 1) := by decide +kernel
theorem dL_law_1694 : decode cL_law 1694 = .ok (.iaload, 1) := by decide +kernel
theorem dL_law_1695 : decode cL_law 1695 = .ok (.invokevirtual 176, 3) := by decide +kernel
theorem dL_law_1698 : decode cL_law 1698 = .ok (.aload_n 2, 1) := by decide +kernel
theorem dL_law_1699 : decode cL_law 1699 = .ok (.aload_n 0, 1) := by decide +kernel
theorem dL_law_1700 : decode cL_law 1700 = .ok (.iload_n 3, 1) := by decide +kernel
theorem dL_law_1701 : decode cL_law 1701 = .ok (.iconst 1, 1) := by decide +kernel
theorem dL_law_1702 : decode cL_law 1702 = .ok (.iadd, 1) := by decide +kernel
theorem dL_law_1703 : decode cL_law 1703 = .ok (.iaload, 1) := by decide +kernel
theorem dL_law_1704 : decode cL_law 1704 = .ok (.invokevirtual 180, 3) := by decide +kernel
theorem dL_law_1707 : decode cL_law 1707 = .ok (.lcmp, 1) := by decide +kernel
theorem dL_law_1708 : decode cL_law 1708 = .ok (.ifCond .eq 453, 3) := by decide +kernel
theorem dL_law_1711 : decode cL_law 1711 = .ok (.iconst 0, 1) := by decide +kernel
theorem dL_law_1712 : decode cL_law 1712 = .ok (.ireturn, 1) := by decide +kernel
theorem dL_law_1713 : decode cL_law 1713 = .ok (.aload_n 1, 1) := by decide +kernel
theorem dL_law_1714 : decode cL_law 1714 = .ok (.aload_n 0, 1) := by decide +kernel
theorem dL_law_1715 : decode cL_law 1715 = .ok (.iload_n 3, 1) := by decide +kernel
theorem dL_law_1716 : decode cL_law 1716 = .ok (.iconst 1, 1) := by decide +kernel
theorem dL_law_1717 : decode cL_law 1717 = .ok (.iadd, 1) := by decide +kernel
theorem dL_law_1718 : decode cL_law 1718 = .ok (.iaload, 1) := by decide +kernel
theorem dL_law_1719 : decode cL_law 1719 = .ok (.aload_n 0, 1) := by decide +kernel
theorem dL_law_1720 : decode cL_law 1720 = .ok (.iload_n 3, 1) := by decide +kernel
theorem dL_law_1721 : decode cL_law 1721 = .ok (.iconst 2, 1) := by decide +kernel
theorem dL_law_1722 : decode cL_law 1722 = .ok (.iadd, 1) := by decide +kernel
theorem dL_law_1723 : decode cL_law 1723 = .ok (.iaload, 1) := by decide +kernel
theorem dL_law_1724 : decode cL_law 1724 = .ok (.invokevirtual 181, 3) := by decide +kernel
theorem dL_law_1727 : decode cL_law 1727 = .ok (.aload_n 2, 1) := by decide +kernel
theorem dL_law_1728 : decode cL_law 1728 = .ok (.aload_n 0, 1) := by decide +kernel
theorem dL_law_1729 : decode cL_law 1729 = .ok (.iload_n 3, 1) := by decide +kernel
theorem dL_law_1730 : decode cL_law 1730 = .ok (.iconst 1, 1) := by decide +kernel
theorem dL_law_1731 : decode cL_law 1731 = .ok (.iadd, 1) := by decide +kernel
theorem dL_law_1732 : decode cL_law 1732 = .ok (.iaload, 1) := by decide +kernel
theorem dL_law_1733 : decode cL_law 1733 = .ok (.aload_n 0, 1) := by decide +kernel
theorem dL_law_1734 : decode cL_law 1734 = .ok (.iload_n 3, 1) := by decide +kernel
theorem dL_law_1735 : decode cL_law 1735 = .ok (.iconst 2, 1) := by decide +kernel
theorem dL_law_1736 : decode cL_law 1736 = .ok (.iadd, 1) := by decide +kernel
theorem dL_law_1737 : decode cL_law 1737 = .ok (.iaload, 1) := by decide +kernel
theorem dL_law_1738 : decode cL_law 1738 = .ok (.invokevirtual 184, 3) := by decide +kernel
theorem dL_law_1741 : decode cL_law 1741 = .ok (.if_icmp .eq 420, 3) := by decide +kernel
theorem dL_law_1744 : decode cL_law 1744 = .ok (.iconst 0, 1) := by decide +kernel
theorem dL_law_1745 : decode cL_law 1745 = .ok (.ireturn, 1) := by decide +kernel
theorem dL_law_1746 : decode cL_law 1746 = .ok (.aload_n 1, 1) := by decide +kernel
theorem dL_law_1747 : decode cL_law 1747 = .ok (.aload_n 0, 1) := by decide +kernel
theorem dL_law_1748 : decode cL_law 1748 = .ok (.iload_n 3, 1) := by decide +kernel
theorem dL_law_1749 : decode cL_law 1749 = .ok (.iconst 1, 1) := by decide +kernel
theorem dL_law_1750 : decode cL_law 1750 = .ok (.iadd, 1) := by decide +kernel
theorem dL_law_1751 : decode cL_law 1751 = .ok (.iaload, 1) := by decide +kernel
theorem dL_law_1752 : decode cL_law 1752 = .ok (.aload_n 0, 1) := by decide +kernel
theorem dL_law_1753 : decode cL_law 1753 = .ok (.iload_n 3, 1) := by decide +kernel
theorem dL_law_1754 : decode cL_law 1754 = .ok (.iconst 2, 1) := by decide +kernel
theorem dL_law_1755 : decode cL_law 1755 = .ok (.iadd, 1) := by decide +kernel
theorem dL_law_1756 : decode cL_law 1756 = .ok (.iaload, 1) := by decide +kernel
theorem dL_law_1757 : decode cL_law 1757 = .ok (.invokevirtual 185, 3) := by decide +kernel
theorem dL_law_1760 : decode cL_law 1760 = .ok (.aload_n 2, 1) := by decide +kernel
theorem dL_law_1761 : decode cL_law 1761 = .ok (.aload_n 0, 1) := by decide +kernel
theorem dL_law_1762 : decode cL_law 1762 = .ok (.iload_n 3, 1) := by decide +kernel
theorem dL_law_1763 : decode cL_law 1763 = .ok (.iconst 1, 1) := by decide +kernel
theorem dL_law_1764 : decode cL_law 1764 = .ok (.iadd, 1) := by decide +kernel
theorem dL_law_1765 : decode cL_law 1765 = .ok (.iaload, 1) := by decide +kernel
theorem dL_law_1766 : decode cL_law 1766 = .ok (.aload_n 0, 1) := by decide +kernel
theorem dL_law_1767 : decode cL_law 1767 = .ok (.iload_n 3, 1) := by decide +kernel
theorem dL_law_1768 : decode cL_law 1768 = .ok (.iconst 2, 1) := by decide +kernel
theorem dL_law_1769 : decode cL_law 1769 = .ok (.iadd, 1) := by decide +kernel
theorem dL_law_1770 : decode cL_law 1770 = .ok (.iaload, 1) := by decide +kernel
theorem dL_law_1771 : decode cL_law 1771 = .ok (.invokevirtual 188, 3) := by decide +kernel
theorem dL_law_1774 : decode cL_law 1774 = .ok (.if_icmp .eq 387, 3) := by decide +kernel
theorem dL_law_1777 : decode cL_law 1777 = .ok (.iconst 0, 1) := by decide +kernel
theorem dL_law_1778 : decode cL_law 1778 = .ok (.ireturn, 1) := by decide +kernel
theorem dL_law_1779 : decode cL_law 1779 = .ok (.aload_n 1, 1) := by decide +kernel
theorem dL_law_1780 : decode cL_law 1780 = .ok (.aload_n 0, 1) := by decide +kernel
theorem dL_law_1781 : decode cL_law 1781 = .ok (.iload_n 3, 1) := by decide +kernel
theorem dL_law_1782 : decode cL_law 1782 = .ok (.iconst 1, 1) := by decide +kernel
theorem dL_law_1783 : decode cL_law 1783 = .ok (.iadd, 1) := by decide +kernel
theorem dL_law_1784 : decode cL_law 1784 = .ok (.iaload, 1) := by decide +kernel
theorem dL_law_1785 : decode cL_law 1785 = .ok (.aload_n 0, 1) := by decide +kernel
theorem dL_law_1786 : decode cL_law 1786 = .ok (.iload_n 3, 1) := by decide +kernel
theorem dL_law_1787 : decode cL_law 1787 = .ok (.iconst 2, 1) := by decide +kernel
theorem dL_law_1788 : decode cL_law 1788 = .ok (.iadd, 1) := by decide +kernel
theorem dL_law_1789 : decode cL_law 1789 = .ok (.iaload, 1) := by decide +kernel
theorem dL_law_1790 : decode cL_law 1790 = .ok (.aload_n 0, 1) := by decide +kernel
theorem dL_law_1791 : decode cL_law 1791 = .ok (.iload_n 3, 1) := by decide +kernel
theorem dL_law_1792 : decode cL_law 1792 = .ok (.iconst 3, 1) := by decide +kernel
theorem dL_law_1793 : decode cL_law 1793 = .ok (.iadd, 1) := by decide +kernel
theorem dL_law_1794 : decode cL_law 1794 = .ok (.iaload, 1) := by decide +kernel
theorem dL_law_1795 : decode cL_law 1795 = .ok (.invokevirtual 189, 3) := by decide +kernel
theorem dL_law_1798 : decode cL_law 1798 = .ok (.aload_n 2, 1) := by decide +kernel
theorem dL_law_1799 : decode cL_law 1799 = .ok (.aload_n 0, 1) := by decide +kernel
theorem dL_law_1800 : decode cL_law 1800 = .ok (.iload_n 3, 1) := by decide +kernel
theorem dL_law_1801 : decode cL_law 1801 = .ok (.iconst 1, 1) := by decide +kernel
theorem dL_law_1802 : decode cL_law 1802 = .ok (.iadd, 1) := by decide +kernel
theorem dL_law_1803 : decode cL_law 1803 = .ok (.iaload, 1) := by decide +kernel
theorem dL_law_1804 : decode cL_law 1804 = .ok (.aload_n 0, 1) := by decide +kernel
theorem dL_law_1805 : decode cL_law 1805 = .ok (.iload_n 3, 1) := by decide +kernel
theorem dL_law_1806 : decode cL_law 1806 = .ok (.iconst 2, 1) := by decide +kernel
theorem dL_law_1807 : decode cL_law 1807 = .ok (.iadd, 1) := by decide +kernel
theorem dL_law_1808 : decode cL_law 1808 = .ok (.iaload, 1) := by decide +kernel
theorem dL_law_1809 : decode cL_law 1809 = .ok (.aload_n 0, 1) := by decide +kernel
theorem dL_law_1810 : decode cL_law 1810 = .ok (.iload_n 3, 1) := by decide +kernel
theorem dL_law_1811 : decode cL_law 1811 = .ok (.iconst 3, 1) := by decide +kernel
theorem dL_law_1812 : decode cL_law 1812 = .ok (.iadd, 1) := by decide +kernel
theorem dL_law_1813 : decode cL_law 1813 = .ok (.iaload, 1) := by decide +kernel
theorem dL_law_1814 : decode cL_law 1814 = .ok (.invokevirtual 192, 3) := by decide +kernel
theorem dL_law_1817 : decode cL_law 1817 = .ok (.if_icmp .eq 344, 3) := by decide +kernel
theorem dL_law_1820 : decode cL_law 1820 = .ok (.iconst 0, 1) := by decide +kernel
theorem dL_law_1821 : decode cL_law 1821 = .ok (.ireturn, 1) := by decide +kernel
theorem dL_law_1822 : decode cL_law 1822 = .ok (.aload_n 1, 1) := by decide +kernel
theorem dL_law_1823 : decode cL_law 1823 = .ok (.aload_n 0, 1) := by decide +kernel
theorem dL_law_1824 : decode cL_law 1824 = .ok (.iload_n 3, 1) := by decide +kernel
theorem dL_law_1825 : decode cL_law 1825 = .ok (.iconst 1, 1) := by decide +kernel
theorem dL_law_1826 : decode cL_law 1826 = .ok (.iadd, 1) := by decide +kernel
theorem dL_law_1827 : decode cL_law 1827 = .ok (.iaload, 1) := by decide +kernel
theorem dL_law_1828 : decode cL_law 1828 = .ok (.aload_n 0, 1) := by decide +kernel
theorem dL_law_1829 : decode cL_law 1829 = .ok (.iload_n 3, 1) := by decide +kernel
theorem dL_law_1830 : decode cL_law 1830 = .ok (.iconst 2, 1) := by decide +kernel
theorem dL_law_1831 : decode cL_law 1831 = .ok (.iadd, 1) := by decide +kernel
theorem dL_law_1832 : decode cL_law 1832 = .ok (.iaload, 1) := by decide +kernel
theorem dL_law_1833 : decode cL_law 1833 = .ok (.invokevirtual 193, 3) := by decide +kernel
theorem dL_law_1836 : decode cL_law 1836 = .ok (.aload_n 2, 1) := by decide +kernel
theorem dL_law_1837 : decode cL_law 1837 = .ok (.aload_n 0, 1) := by decide +kernel
theorem dL_law_1838 : decode cL_law 1838 = .ok (.iload_n 3, 1) := by decide +kernel
theorem dL_law_1839 : decode cL_law 1839 = .ok (.iconst 1, 1) := by decide +kernel
theorem dL_law_1840 : decode cL_law 1840 = .ok (.iadd, 1) := by decide +kernel
theorem dL_law_1841 : decode cL_law 1841 = .ok (.iaload, 1) := by decide +kernel
theorem dL_law_1842 : decode cL_law 1842 = .ok (.aload_n 0, 1) := by decide +kernel
theorem dL_law_1843 : decode cL_law 1843 = .ok (.iload_n 3, 1) := by decide +kernel
theorem dL_law_1844 : decode cL_law 1844 = .ok (.iconst 2, 1) := by decide +kernel
theorem dL_law_1845 : decode cL_law 1845 = .ok (.iadd, 1) := by decide +kernel
theorem dL_law_1846 : decode cL_law 1846 = .ok (.iaload, 1) := by decide +kernel
theorem dL_law_1847 : decode cL_law 1847 = .ok (.invokevirtual 196, 3) := by decide +kernel
theorem dL_law_1850 : decode cL_law 1850 = .ok (.if_icmp .eq 311, 3) := by decide +kernel
theorem dL_law_1853 : decode cL_law 1853 = .ok (.iconst 0, 1) := by decide +kernel
theorem dL_law_1854 : decode cL_law 1854 = .ok (.ireturn, 1) := by decide +kernel
theorem dL_law_1855 : decode cL_law 1855 = .ok (.aload_n 1, 1) := by decide +kernel
theorem dL_law_1856 : decode cL_law 1856 = .ok (.aload_n 0, 1) := by decide +kernel
theorem dL_law_1857 : decode cL_law 1857 = .ok (.iload_n 3, 1) := by decide +kernel
theorem dL_law_1858 : decode cL_law 1858 = .ok (.iconst 1, 1) := by decide +kernel
theorem dL_law_1859 : decode cL_law 1859 = .ok (.iadd, 1) := by decide +kernel
theorem dL_law_1860 : decode cL_law 1860 = .ok (.iaload, 1) := by decide +kernel
theorem dL_law_1861 : decode cL_law 1861 = .ok (.aload_n 0, 1) := by decide +kernel
theorem dL_law_1862 : decode cL_law 1862 = .ok (.iload_n 3, 1) := by decide +kernel
theorem dL_law_1863 : decode cL_law 1863 = .ok (.iconst 2, 1) := by decide +kernel
theorem dL_law_1864 : decode cL_law 1864 = .ok (.iadd, 1) := by decide +kernel
theorem dL_law_1865 : decode cL_law 1865 = .ok (.iaload, 1) := by decide +kernel
theorem dL_law_1866 : decode cL_law 1866 = .ok (.aload_n 0, 1) := by decide +kernel
theorem dL_law_1867 : decode cL_law 1867 = .ok (.iload_n 3, 1) := by decide +kernel
theorem dL_law_1868 : decode cL_law 1868 = .ok (.iconst 3, 1) := by decide +kernel
theorem dL_law_1869 : decode cL_law 1869 = .ok (.iadd, 1) := by decide +kernel
theorem dL_law_1870 : decode cL_law 1870 = .ok (.iaload, 1) := by decide +kernel
theorem dL_law_1871 : decode cL_law 1871 = .ok (.invokevirtual 197, 3) := by decide +kernel
theorem dL_law_1874 : decode cL_law 1874 = .ok (.aload_n 2, 1) := by decide +kernel
theorem dL_law_1875 : decode cL_law 1875 = .ok (.aload_n 0, 1) := by decide +kernel
theorem dL_law_1876 : decode cL_law 1876 = .ok (.iload_n 3, 1) := by decide +kernel
theorem dL_law_1877 : decode cL_law 1877 = .ok (.iconst 1, 1) := by decide +kernel
theorem dL_law_1878 : decode cL_law 1878 = .ok (.iadd, 1) := by decide +kernel
theorem dL_law_1879 : decode cL_law 1879 = .ok (.iaload, 1) := by decide +kernel
theorem dL_law_1880 : decode cL_law 1880 = .ok (.aload_n 0, 1) := by decide +kernel
theorem dL_law_1881 : decode cL_law 1881 = .ok (.iload_n 3, 1) := by decide +kernel
theorem dL_law_1882 : decode cL_law 1882 = .ok (.iconst 2, 1) := by decide +kernel
theorem dL_law_1883 : decode cL_law 1883 = .ok (.iadd, 1) := by decide +kernel
theorem dL_law_1884 : decode cL_law 1884 = .ok (.iaload, 1) := by decide +kernel
theorem dL_law_1885 : decode cL_law 1885 = .ok (.aload_n 0, 1) := by decide +kernel
theorem dL_law_1886 : decode cL_law 1886 = .ok (.iload_n 3, 1) := by decide +kernel
theorem dL_law_1887 : decode cL_law 1887 = .ok (.iconst 3, 1) := by decide +kernel
theorem dL_law_1888 : decode cL_law 1888 = .ok (.iadd, 1) := by decide +kernel
theorem dL_law_1889 : decode cL_law 1889 = .ok (.iaload, 1) := by decide +kernel
theorem dL_law_1890 : decode cL_law 1890 = .ok (.invokevirtual 200, 3) := by decide +kernel
theorem dL_law_1893 : decode cL_law 1893 = .ok (.if_icmp .eq 268, 3) := by decide +kernel
theorem dL_law_1896 : decode cL_law 1896 = .ok (.iconst 0, 1) := by decide +kernel
theorem dL_law_1897 : decode cL_law 1897 = .ok (.ireturn, 1) := by decide +kernel
theorem dL_law_1898 : decode cL_law 1898 = .ok (.aload_n 1, 1) := by decide +kernel
theorem dL_law_1899 : decode cL_law 1899 = .ok (.aload_n 0, 1) := by decide +kernel
theorem dL_law_1900 : decode cL_law 1900 = .ok (.iload_n 3, 1) := by decide +kernel
theorem dL_law_1901 : decode cL_law 1901 = .ok (.iconst 1, 1) := by decide +kernel
theorem dL_law_1902 : decode cL_law 1902 = .ok (.iadd, 1) := by decide +kernel
theorem dL_law_1903 : decode cL_law 1903 = .ok (.iaload, 1) := by decide +kernel
theorem dL_law_1904 : decode cL_law 1904 = .ok (.invokevirtual 201, 3) := by decide +kernel
theorem dL_law_1907 : decode cL_law 1907 = .ok (.aload_n 2, 1) := by decide +kernel
theorem dL_law_1908 : decode cL_law 1908 = .ok (.aload_n 0, 1) := by decide +kernel
theorem dL_law_1909 : decode cL_law 1909 = .ok (.iload_n 3, 1) := by decide +kernel
theorem dL_law_1910 : decode cL_law 1910 = .ok (.iconst 1, 1) := by decide +kernel
theorem dL_law_1911 : decode cL_law 1911 = .ok (.iadd, 1) := by decide +kernel
theorem dL_law_1912 : decode cL_law 1912 = .ok (.iaload, 1) := by decide +kernel
theorem dL_law_1913 : decode cL_law 1913 = .ok (.invokevirtual 204, 3) := by decide +kernel
theorem dL_law_1916 : decode cL_law 1916 = .ok (.if_icmp .eq 245, 3) := by decide +kernel
theorem dL_law_1919 : decode cL_law 1919 = .ok (.iconst 0, 1) := by decide +kernel
theorem dL_law_1920 : decode cL_law 1920 = .ok (.ireturn, 1) := by decide +kernel
theorem dL_law_1921 : decode cL_law 1921 = .ok (.aload_n 1, 1) := by decide +kernel
theorem dL_law_1922 : decode cL_law 1922 = .ok (.aload_n 0, 1) := by decide +kernel
theorem dL_law_1923 : decode cL_law 1923 = .ok (.iload_n 3, 1) := by decide +kernel
theorem dL_law_1924 : decode cL_law 1924 = .ok (.iconst 1, 1) := by decide +kernel
theorem dL_law_1925 : decode cL_law 1925 = .ok (.iadd, 1) := by decide +kernel
theorem dL_law_1926 : decode cL_law 1926 = .ok (.iaload, 1) := by decide +kernel
theorem dL_law_1927 : decode cL_law 1927 = .ok (.invokevirtual 205, 3) := by decide +kernel
theorem dL_law_1930 : decode cL_law 1930 = .ok (.aload_n 2, 1) := by decide +kernel
theorem dL_law_1931 : decode cL_law 1931 = .ok (.aload_n 0, 1) := by decide +kernel
theorem dL_law_1932 : decode cL_law 1932 = .ok (.iload_n 3, 1) := by decide +kernel
theorem dL_law_1933 : decode cL_law 1933 = .ok (.iconst 1, 1) := by decide +kernel
theorem dL_law_1934 : decode cL_law 1934 = .ok (.iadd, 1) := by decide +kernel
theorem dL_law_1935 : decode cL_law 1935 = .ok (.iaload, 1) := by decide +kernel
theorem dL_law_1936 : decode cL_law 1936 = .ok (.invokevirtual 208, 3) := by decide +kernel
theorem dL_law_1939 : decode cL_law 1939 = .ok (.lcmp, 1) := by decide +kernel
theorem dL_law_1940 : decode cL_law 1940 = .ok (.ifCond .eq 221, 3) := by decide +kernel
theorem dL_law_1943 : decode cL_law 1943 = .ok (.iconst 0, 1) := by decide +kernel
theorem dL_law_1944 : decode cL_law 1944 = .ok (.ireturn, 1) := by decide +kernel
theorem dL_law_1945 : decode cL_law 1945 = .ok (.aload_n 1, 1) := by decide +kernel
theorem dL_law_1946 : decode cL_law 1946 = .ok (.aload_n 0, 1) := by decide +kernel
theorem dL_law_1947 : decode cL_law 1947 = .ok (.iload_n 3, 1) := by decide +kernel
theorem dL_law_1948 : decode cL_law 1948 = .ok (.iconst 1, 1) := by decide +kernel
theorem dL_law_1949 : decode cL_law 1949 = .ok (.iadd, 1) := by decide +kernel
theorem dL_law_1950 : decode cL_law 1950 = .ok (.iaload, 1) := by decide +kernel
theorem dL_law_1951 : decode cL_law 1951 = .ok (.aload_n 0, 1) := by decide +kernel
theorem dL_law_1952 : decode cL_law 1952 = .ok (.iload_n 3, 1) := by decide +kernel
theorem dL_law_1953 : decode cL_law 1953 = .ok (.iconst 2, 1) := by decide +kernel
theorem dL_law_1954 : decode cL_law 1954 = .ok (.iadd, 1) := by decide +kernel
theorem dL_law_1955 : decode cL_law 1955 = .ok (.iaload, 1) := by decide +kernel
theorem dL_law_1956 : decode cL_law 1956 = .ok (.invokevirtual 209, 3) := by decide +kernel
theorem dL_law_1959 : decode cL_law 1959 = .ok (.aload_n 2, 1) := by decide +kernel
theorem dL_law_1960 : decode cL_law 1960 = .ok (.aload_n 0, 1) := by decide +kernel
theorem dL_law_1961 : decode cL_law 1961 = .ok (.iload_n 3, 1) := by decide +kernel
theorem dL_law_1962 : decode cL_law 1962 = .ok (.iconst 1, 1) := by decide +kernel
theorem dL_law_1963 : decode cL_law 1963 = .ok (.iadd, 1) := by decide +kernel
theorem dL_law_1964 : decode cL_law 1964 = .ok (.iaload, 1) := by decide +kernel
theorem dL_law_1965 : decode cL_law 1965 = .ok (.aload_n 0, 1) := by decide +kernel
theorem dL_law_1966 : decode cL_law 1966 = .ok (.iload_n 3, 1) := by decide +kernel
theorem dL_law_1967 : decode cL_law 1967 = .ok (.iconst 2, 1) := by decide +kernel
theorem dL_law_1968 : decode cL_law 1968 = .ok (.iadd, 1) := by decide +kernel
theorem dL_law_1969 : decode cL_law 1969 = .ok (.iaload, 1) := by decide +kernel
theorem dL_law_1970 : decode cL_law 1970 = .ok (.invokevirtual 212, 3) := by decide +kernel
theorem dL_law_1973 : decode cL_law 1973 = .ok (.if_icmp .eq 188, 3) := by decide +kernel
theorem dL_law_1976 : decode cL_law 1976 = .ok (.iconst 0, 1) := by decide +kernel
theorem dL_law_1977 : decode cL_law 1977 = .ok (.ireturn, 1) := by decide +kernel
theorem dL_law_1978 : decode cL_law 1978 = .ok (.aload_n 1, 1) := by decide +kernel
theorem dL_law_1979 : decode cL_law 1979 = .ok (.aload_n 0, 1) := by decide +kernel
theorem dL_law_1980 : decode cL_law 1980 = .ok (.iload_n 3, 1) := by decide +kernel
theorem dL_law_1981 : decode cL_law 1981 = .ok (.iconst 1, 1) := by decide +kernel
theorem dL_law_1982 : decode cL_law 1982 = .ok (.iadd, 1) := by decide +kernel
theorem dL_law_1983 : decode cL_law 1983 = .ok (.iaload, 1) := by decide +kernel
theorem dL_law_1984 : decode cL_law 1984 = .ok (.aload_n 0, 1) := by decide +kernel
theorem dL_law_1985 : decode cL_law 1985 = .ok (.iload_n 3, 1) := by decide +kernel
theorem dL_law_1986 : decode cL_law 1986 = .ok (.iconst 2, 1) := by decide +kernel
theorem dL_law_1987 : decode cL_law 1987 = .ok (.iadd, 1) := by decide +kernel
theorem dL_law_1988 : decode cL_law 1988 = .ok (.iaload, 1) := by decide +kernel
theorem dL_law_1989 : decode cL_law 1989 = .ok (.aload_n 0, 1) := by decide +kernel
theorem dL_law_1990 : decode cL_law 1990 = .ok (.iload_n 3, 1) := by decide +kernel
theorem dL_law_1991 : decode cL_law 1991 = .ok (.iconst 3, 1) := by decide +kernel
theorem dL_law_1992 : decode cL_law 1992 = .ok (.iadd, 1) := by decide +kernel
theorem dL_law_1993 : decode cL_law 1993 = .ok (.iaload, 1) := by decide +kernel
theorem dL_law_1994 : decode cL_law 1994 = .ok (.invokevirtual 213, 3) := by decide +kernel
theorem dL_law_1997 : decode cL_law 1997 = .ok (.aload_n 2, 1) := by decide +kernel
theorem dL_law_1998 : decode cL_law 1998 = .ok (.aload_n 0, 1) := by decide +kernel
theorem dL_law_1999 : decode cL_law 1999 = .ok (.iload_n 3, 1) := by decide +kernel
theorem dL_law_2000 : decode cL_law 2000 = .ok (.iconst 1, 1) := by decide +kernel
theorem dL_law_2001 : decode cL_law 2001 = .ok (.iadd, 1) := by decide +kernel
theorem dL_law_2002 : decode cL_law 2002 = .ok (.iaload, 1) := by decide +kernel
theorem dL_law_2003 : decode cL_law 2003 = .ok (.aload_n 0, 1) := by decide +kernel
theorem dL_law_2004 : decode cL_law 2004 = .ok (.iload_n 3, 1) := by decide +kernel
theorem dL_law_2005 : decode cL_law 2005 = .ok (.iconst 2, 1) := by decide +kernel
theorem dL_law_2006 : decode cL_law 2006 = .ok (.iadd, 1) := by decide +kernel
theorem dL_law_2007 : decode cL_law 2007 = .ok (.iaload, 1) := by decide +kernel
theorem dL_law_2008 : decode cL_law 2008 = .ok (.aload_n 0, 1) := by decide +kernel
theorem dL_law_2009 : decode cL_law 2009 = .ok (.iload_n 3, 1) := by decide +kernel
theorem dL_law_2010 : decode cL_law 2010 = .ok (.iconst 3, 1) := by decide +kernel
theorem dL_law_2011 : decode cL_law 2011 = .ok (.iadd, 1) := by decide +kernel
theorem dL_law_2012 : decode cL_law 2012 = .ok (.iaload, 1) := by decide +kernel
theorem dL_law_2013 : decode cL_law 2013 = .ok (.invokevirtual 216, 3) := by decide +kernel
theorem dL_law_2016 : decode cL_law 2016 = .ok (.if_icmp .eq 145, 3) := by decide +kernel
theorem dL_law_2019 : decode cL_law 2019 = .ok (.iconst 0, 1) := by decide +kernel
theorem dL_law_2020 : decode cL_law 2020 = .ok (.ireturn, 1) := by decide +kernel
theorem dL_law_2021 : decode cL_law 2021 = .ok (.aload_n 1, 1) := by decide +kernel
theorem dL_law_2022 : decode cL_law 2022 = .ok (.aload_n 0, 1) := by decide +kernel
theorem dL_law_2023 : decode cL_law 2023 = .ok (.iload_n 3, 1) := by decide +kernel
theorem dL_law_2024 : decode cL_law 2024 = .ok (.iconst 1, 1) := by decide +kernel
theorem dL_law_2025 : decode cL_law 2025 = .ok (.iadd, 1) := by decide +kernel
theorem dL_law_2026 : decode cL_law 2026 = .ok (.iaload, 1) := by decide +kernel
theorem dL_law_2027 : decode cL_law 2027 = .ok (.aload_n 0, 1) := by decide +kernel
theorem dL_law_2028 : decode cL_law 2028 = .ok (.iload_n 3, 1) := by decide +kernel
theorem dL_law_2029 : decode cL_law 2029 = .ok (.iconst 2, 1) := by decide +kernel
theorem dL_law_2030 : decode cL_law 2030 = .ok (.iadd, 1) := by decide +kernel
theorem dL_law_2031 : decode cL_law 2031 = .ok (.iaload, 1) := by decide +kernel
theorem dL_law_2032 : decode cL_law 2032 = .ok (.invokevirtual 217, 3) := by decide +kernel
theorem dL_law_2035 : decode cL_law 2035 = .ok (.aload_n 2, 1) := by decide +kernel
theorem dL_law_2036 : decode cL_law 2036 = .ok (.aload_n 0, 1) := by decide +kernel
theorem dL_law_2037 : decode cL_law 2037 = .ok (.iload_n 3, 1) := by decide +kernel
theorem dL_law_2038 : decode cL_law 2038 = .ok (.iconst 1, 1) := by decide +kernel
theorem dL_law_2039 : decode cL_law 2039 = .ok (.iadd, 1) := by decide +kernel
theorem dL_law_2040 : decode cL_law 2040 = .ok (.iaload, 1) := by decide +kernel
theorem dL_law_2041 : decode cL_law 2041 = .ok (.aload_n 0, 1) := by decide +kernel
theorem dL_law_2042 : decode cL_law 2042 = .ok (.iload_n 3, 1) := by decide +kernel
theorem dL_law_2043 : decode cL_law 2043 = .ok (.iconst 2, 1) := by decide +kernel
theorem dL_law_2044 : decode cL_law 2044 = .ok (.iadd, 1) := by decide +kernel
theorem dL_law_2045 : decode cL_law 2045 = .ok (.iaload, 1) := by decide +kernel
theorem dL_law_2046 : decode cL_law 2046 = .ok (.invokevirtual 220, 3) := by decide +kernel
theorem dL_law_2049 : decode cL_law 2049 = .ok (.lcmp, 1) := by decide +kernel
theorem dL_law_2050 : decode cL_law 2050 = .ok (.ifCond .eq 111, 3) := by decide +kernel
theorem dL_law_2053 : decode cL_law 2053 = .ok (.iconst 0, 1) := by decide +kernel
theorem dL_law_2054 : decode cL_law 2054 = .ok (.ireturn, 1) := by decide +kernel
theorem dL_law_2055 : decode cL_law 2055 = .ok (.aload_n 1, 1) := by decide +kernel
theorem dL_law_2056 : decode cL_law 2056 = .ok (.aload_n 0, 1) := by decide +kernel
theorem dL_law_2057 : decode cL_law 2057 = .ok (.iload_n 3, 1) := by decide +kernel
theorem dL_law_2058 : decode cL_law 2058 = .ok (.iconst 1, 1) := by decide +kernel
theorem dL_law_2059 : decode cL_law 2059 = .ok (.iadd, 1) := by decide +kernel
theorem dL_law_2060 : decode cL_law 2060 = .ok (.iaload, 1) := by decide +kernel
theorem dL_law_2061 : decode cL_law 2061 = .ok (.invokevirtual 221, 3) := by decide +kernel
theorem dL_law_2064 : decode cL_law 2064 = .ok (.aload_n 2, 1) := by decide +kernel
theorem dL_law_2065 : decode cL_law 2065 = .ok (.aload_n 0, 1) := by decide +kernel
theorem dL_law_2066 : decode cL_law 2066 = .ok (.iload_n 3, 1) := by decide +kernel
theorem dL_law_2067 : decode cL_law 2067 = .ok (.iconst 1, 1) := by decide +kernel
theorem dL_law_2068 : decode cL_law 2068 = .ok (.iadd, 1) := by decide +kernel
theorem dL_law_2069 : decode cL_law 2069 = .ok (.iaload, 1) := by decide +kernel
theorem dL_law_2070 : decode cL_law 2070 = .ok (.invokevirtual 224, 3) := by decide +kernel
theorem dL_law_2073 : decode cL_law 2073 = .ok (.if_icmp .eq 88, 3) := by decide +kernel
theorem dL_law_2076 : decode cL_law 2076 = .ok (.iconst 0, 1) := by decide +kernel
theorem dL_law_2077 : decode cL_law 2077 = .ok (.ireturn, 1) := by decide +kernel
theorem dL_law_2078 : decode cL_law 2078 = .ok (.aload_n 1, 1) := by decide +kernel
theorem dL_law_2079 : decode cL_law 2079 = .ok (.aload_n 0, 1) := by decide +kernel
theorem dL_law_2080 : decode cL_law 2080 = .ok (.iload_n 3, 1) := by decide +kernel
theorem dL_law_2081 : decode cL_law 2081 = .ok (.iconst 1, 1) := by decide +kernel
theorem dL_law_2082 : decode cL_law 2082 = .ok (.iadd, 1) := by decide +kernel
theorem dL_law_2083 : decode cL_law 2083 = .ok (.iaload, 1) := by decide +kernel
theorem dL_law_2084 : decode cL_law 2084 = .ok (.invokevirtual 225, 3) := by decide +kernel
theorem dL_law_2087 : decode cL_law 2087 = .ok (.aload_n 2, 1) := by decide +kernel
theorem dL_law_2088 : decode cL_law 2088 = .ok (.aload_n 0, 1) := by decide +kernel
theorem dL_law_2089 : decode cL_law 2089 = .ok (.iload_n 3, 1) := by decide +kernel
theorem dL_law_2090 : decode cL_law 2090 = .ok (.iconst 1, 1) := by decide +kernel
theorem dL_law_2091 : decode cL_law 2091 = .ok (.iadd, 1) := by decide +kernel
theorem dL_law_2092 : decode cL_law 2092 = .ok (.iaload, 1) := by decide +kernel
theorem dL_law_2093 : decode cL_law 2093 = .ok (.invokevirtual 228, 3) := by decide +kernel
theorem dL_law_2096 : decode cL_law 2096 = .ok (.if_icmp .eq 65, 3) := by decide +kernel
theorem dL_law_2099 : decode cL_law 2099 = .ok (.iconst 0, 1) := by decide +kernel
theorem dL_law_2100 : decode cL_law 2100 = .ok (.ireturn, 1) := by decide +kernel
theorem dL_law_2101 : decode cL_law 2101 = .ok (.aload_n 1, 1) := by decide +kernel
theorem dL_law_2102 : decode cL_law 2102 = .ok (.aload_n 0, 1) := by decide +kernel
theorem dL_law_2103 : decode cL_law 2103 = .ok (.iload_n 3, 1) := by decide +kernel
theorem dL_law_2104 : decode cL_law 2104 = .ok (.iconst 1, 1) := by decide +kernel
theorem dL_law_2105 : decode cL_law 2105 = .ok (.iadd, 1) := by decide +kernel
theorem dL_law_2106 : decode cL_law 2106 = .ok (.iaload, 1) := by decide +kernel
theorem dL_law_2107 : decode cL_law 2107 = .ok (.invokevirtual 229, 3) := by decide +kernel
theorem dL_law_2110 : decode cL_law 2110 = .ok (.aload_n 2, 1) := by decide +kernel
theorem dL_law_2111 : decode cL_law 2111 = .ok (.aload_n 0, 1) := by decide +kernel
theorem dL_law_2112 : decode cL_law 2112 = .ok (.iload_n 3, 1) := by decide +kernel
theorem dL_law_2113 : decode cL_law 2113 = .ok (.iconst 1, 1) := by decide +kernel
theorem dL_law_2114 : decode cL_law 2114 = .ok (.iadd, 1) := by decide +kernel
theorem dL_law_2115 : decode cL_law 2115 = .ok (.iaload, 1) := by decide +kernel
theorem dL_law_2116 : decode cL_law 2116 = .ok (.invokevirtual 232, 3) := by decide +kernel
theorem dL_law_2119 : decode cL_law 2119 = .ok (.if_icmp .eq 42, 3) := by decide +kernel
theorem dL_law_2122 : decode cL_law 2122 = .ok (.iconst 0, 1) := by decide +kernel
theorem dL_law_2123 : decode cL_law 2123 = .ok (.ireturn, 1) := by decide +kernel
theorem dL_law_2124 : decode cL_law 2124 = .ok (.aload_n 1, 1) := by decide +kernel
theorem dL_law_2125 : decode cL_law 2125 = .ok (.aload_n 0, 1) := by decide +kernel
theorem dL_law_2126 : decode cL_law 2126 = .ok (.iload_n 3, 1) := by decide +kernel
theorem dL_law_2127 : decode cL_law 2127 = .ok (.iconst 1, 1) := by decide +kernel
theorem dL_law_2128 : decode cL_law 2128 = .ok (.iadd, 1) := by decide +kernel
theorem dL_law_2129 : decode cL_law 2129 = .ok (.iaload, 1) := by decide +kernel
theorem dL_law_2130 : decode cL_law 2130 = .ok (.invokevirtual 233, 3) := by decide +kernel
theorem dL_law_2133 : decode cL_law 2133 = .ok (.aload_n 2, 1) := by decide +kernel
theorem dL_law_2134 : decode cL_law 2134 = .ok (.aload_n 0, 1) := by decide +kernel
theorem dL_law_2135 : decode cL_law 2135 = .ok (.iload_n 3, 1) := by decide +kernel
theorem dL_law_2136 : decode cL_law 2136 = .ok (.iconst 1, 1) := by decide +kernel
theorem dL_law_2137 : decode cL_law 2137 = .ok (.iadd, 1) := by decide +kernel
theorem dL_law_2138 : decode cL_law 2138 = .ok (.iaload, 1) := by decide +kernel
theorem dL_law_2139 : decode cL_law 2139 = .ok (.invokevirtual 236, 3) := by decide +kernel
theorem dL_law_2142 : decode cL_law 2142 = .ok (.if_icmp .eq 19, 3) := by decide +kernel
theorem dL_law_2145 : decode cL_law 2145 = .ok (.iconst 0, 1) := by decide +kernel
theorem dL_law_2146 : decode cL_law 2146 = .ok (.ireturn, 1) := by decide +kernel
theorem dL_law_2147 : decode cL_law 2147 = .ok (.aload_n 1, 1) := by decide +kernel
theorem dL_law_2148 : decode cL_law 2148 = .ok (.invokevirtual 237, 3) := by decide +kernel
theorem dL_law_2151 : decode cL_law 2151 = .ok (.aload_n 2, 1) := by decide +kernel
theorem dL_law_2152 : decode cL_law 2152 = .ok (.invokevirtual 241, 3) := by decide +kernel
theorem dL_law_2155 : decode cL_law 2155 = .ok (.lcmp, 1) := by decide +kernel
theorem dL_law_2156 : decode cL_law 2156 = .ok (.ifCond .eq 5, 3) := by decide +kernel
theorem dL_law_2159 : decode cL_law 2159 = .ok (.iconst 0, 1) := by decide +kernel
theorem dL_law_2160 : decode cL_law 2160 = .ok (.ireturn, 1) := by decide +kernel
theorem dL_law_2161 : decode cL_law 2161 = .ok (.iinc 3 6, 3) := by decide +kernel
theorem dL_law_2164 : decode cL_law 2164 = .ok (.goto (-2146), 3) := by decide +kernel
theorem dL_law_2167 : decode cL_law 2167 = .ok (.iconst 1, 1) := by decide +kernel
theorem dL_law_2168 : decode cL_law 2168 = .ok (.ireturn, 1) := by decide +kernel
def f_L_law_b1325 (L : Nat) (xs : Nat → Int32) (kk18 : Int32 → q_Mem → Option (Int32 × q_Mem)) (M : q_Mem) (a1 : Nat) (a2 : Nat) (a3 : Int32) (s0 : Int32) (s1 : Nat) (s2 : Int32) (s3 : Int32) : Option (Int32 × q_Mem) :=
  (f_X12_tear M s1 s2 s3).bind fun r617 =>
  (if s0 = r617.1 then
    kk18 (a3 + (6 : Int32)) r617.2
  else
    some ((0 : Int32), r617.2))
def f_L_law_b1303 (L : Nat) (xs : Nat → Int32) (kk18 : Int32 → q_Mem → Option (Int32 × q_Mem)) (M : q_Mem) (a1 : Nat) (a2 : Nat) (a3 : Int32) (s0 : Nat) (s1 : Int32) (s2 : Int32) : Option (Int32 × q_Mem) :=
  (f_X11_tear M s0 s1 s2).bind fun r603 =>
  (if q_inb (a3 + (1 : Int32)) L = true then
    (if q_inb (a3 + (2 : Int32)) L = true then
      (if (xs (a3 + (2 : Int32)).toNatClampNeg) = 0 then
        f_L_law_b1325 L xs kk18 r603.2 a1 a2 a3 r603.1 a2 (xs (a3 + (1 : Int32)).toNatClampNeg) (0 : Int32)
      else
        f_L_law_b1325 L xs kk18 r603.2 a1 a2 a3 r603.1 a2 (xs (a3 + (1 : Int32)).toNatClampNeg) (1 : Int32))
    else none)
  else none)
def f_L_law_b1233 (L : Nat) (xs : Nat → Int32) (kk18 : Int32 → q_Mem → Option (Int32 × q_Mem)) (M : q_Mem) (a1 : Nat) (a2 : Nat) (a3 : Int32) (s0 : Int32) (s1 : Nat) (s2 : Int32) (s3 : Int32) (s4 : Int32) : Option (Int32 × q_Mem) :=
  (f_X12_motion M s1 s2 s3 s4).bind fun r614 =>
  (if s0 = r614.1 then
    kk18 (a3 + (6 : Int32)) r614.2
  else
    some ((0 : Int32), r614.2))
def f_L_law_b1206 (L : Nat) (xs : Nat → Int32) (kk18 : Int32 → q_Mem → Option (Int32 × q_Mem)) (M : q_Mem) (a1 : Nat) (a2 : Nat) (a3 : Int32) (s0 : Nat) (s1 : Int32) (s2 : Int32) (s3 : Int32) : Option (Int32 × q_Mem) :=
  (f_X11_motion M s0 s1 s2 s3).bind fun r597 =>
  (if q_inb (a3 + (1 : Int32)) L = true then
    (if q_inb (a3 + (2 : Int32)) L = true then
      (if q_inb (a3 + (3 : Int32)) L = true then
        (if (xs (a3 + (3 : Int32)).toNatClampNeg) = 0 then
          f_L_law_b1233 L xs kk18 r597.2 a1 a2 a3 r597.1 a2 (xs (a3 + (1 : Int32)).toNatClampNeg) (xs (a3 + (2 : Int32)).toNatClampNeg) (0 : Int32)
        else
          f_L_law_b1233 L xs kk18 r597.2 a1 a2 a3 r597.1 a2 (xs (a3 + (1 : Int32)).toNatClampNeg) (xs (a3 + (2 : Int32)).toNatClampNeg) (1 : Int32))
      else none)
    else none)
  else none)
def f_L_law_b384 (L : Nat) (xs : Nat → Int32) (kk18 : Int32 → q_Mem → Option (Int32 × q_Mem)) (M : q_Mem) (a1 : Nat) (a2 : Nat) (a3 : Int32) (s0 : Int32) (s1 : Nat) (s2 : Int32) (s3 : Int32) (s4 : Int32) : Option (Int32 × q_Mem) :=
  (f_X12_change M s1 s2 s3 s4).bind fun r611 =>
  (if s0 = r611.1 then
    kk18 (a3 + (6 : Int32)) r611.2
  else
    some ((0 : Int32), r611.2))
def f_L_law_b357 (L : Nat) (xs : Nat → Int32) (kk18 : Int32 → q_Mem → Option (Int32 × q_Mem)) (M : q_Mem) (a1 : Nat) (a2 : Nat) (a3 : Int32) (s0 : Nat) (s1 : Int32) (s2 : Int32) (s3 : Int32) : Option (Int32 × q_Mem) :=
  (f_X11_change M s0 s1 s2 s3).bind fun r591 =>
  (if q_inb (a3 + (1 : Int32)) L = true then
    (if q_inb (a3 + (2 : Int32)) L = true then
      (if q_inb (a3 + (3 : Int32)) L = true then
        (if (xs (a3 + (3 : Int32)).toNatClampNeg) = 0 then
          f_L_law_b384 L xs kk18 r591.2 a1 a2 a3 r591.1 a2 (xs (a3 + (1 : Int32)).toNatClampNeg) (xs (a3 + (2 : Int32)).toNatClampNeg) (0 : Int32)
        else
          f_L_law_b384 L xs kk18 r591.2 a1 a2 a3 r591.1 a2 (xs (a3 + (1 : Int32)).toNatClampNeg) (xs (a3 + (2 : Int32)).toNatClampNeg) (1 : Int32))
      else none)
    else none)
  else none)
def f_L_law_b325 (L : Nat) (xs : Nat → Int32) (kk18 : Int32 → q_Mem → Option (Int32 × q_Mem)) (M : q_Mem) (a1 : Nat) (a2 : Nat) (a3 : Int32) (s0 : Int32) (s1 : Nat) (s2 : Int32) (s3 : Int32) (s4 : Int32) (s5 : Int32) : Option (Int32 × q_Mem) :=
  (f_X12_farm M s1 s2 s3 s4 s5).bind fun r608 =>
  (if s0 = r608.1 then
    kk18 (a3 + (6 : Int32)) r608.2
  else
    some ((0 : Int32), r608.2))
def f_L_law_b293 (L : Nat) (xs : Nat → Int32) (kk18 : Int32 → q_Mem → Option (Int32 × q_Mem)) (M : q_Mem) (a1 : Nat) (a2 : Nat) (a3 : Int32) (s0 : Nat) (s1 : Int32) (s2 : Int32) (s3 : Int32) (s4 : Int32) : Option (Int32 × q_Mem) :=
  (f_X11_farm M s0 s1 s2 s3 s4).bind fun r584 =>
  (if q_inb (a3 + (1 : Int32)) L = true then
    (if q_inb (a3 + (2 : Int32)) L = true then
      (if q_inb (a3 + (3 : Int32)) L = true then
        (if q_inb (a3 + (4 : Int32)) L = true then
          (if (xs (a3 + (4 : Int32)).toNatClampNeg) = 0 then
            f_L_law_b325 L xs kk18 r584.2 a1 a2 a3 r584.1 a2 (xs (a3 + (1 : Int32)).toNatClampNeg) (xs (a3 + (2 : Int32)).toNatClampNeg) (xs (a3 + (3 : Int32)).toNatClampNeg) (0 : Int32)
          else
            f_L_law_b325 L xs kk18 r584.2 a1 a2 a3 r584.1 a2 (xs (a3 + (1 : Int32)).toNatClampNeg) (xs (a3 + (2 : Int32)).toNatClampNeg) (xs (a3 + (3 : Int32)).toNatClampNeg) (1 : Int32))
        else none)
      else none)
    else none)
  else none)
def f_L_law_b18 (L : Nat) (xs : Nat → Int32) (a1 : Nat) (a2 : Nat) : Nat → Int32 → q_Mem → Option (Int32 × q_Mem)
  | 0, _, _ => none
  | n + 1, a3, M =>
    (if ((Int32.ofNat L) - (6 : Int32)) < a3 then
      some ((1 : Int32), M)
    else
      (if q_inb a3 L = true then
        (if ((xs a3.toNatClampNeg) &&& (63 : Int32)) < 0 then
          f_L_law_b18 L xs a1 a2 n (a3 + (6 : Int32)) M
        else
         (if ((xs a3.toNatClampNeg) &&& (63 : Int32)) = 0 then
          (if q_inb (a3 + (1 : Int32)) L = true then
            (if q_inb (a3 + (2 : Int32)) L = true then
              (if q_inb (a3 + (3 : Int32)) L = true then
                (if q_inb (a3 + (4 : Int32)) L = true then
                  (if (xs (a3 + (4 : Int32)).toNatClampNeg) = 0 then
                    f_L_law_b293 L xs (f_L_law_b18 L xs a1 a2 n) M a1 a2 a3 a1 (xs (a3 + (1 : Int32)).toNatClampNeg) (xs (a3 + (2 : Int32)).toNatClampNeg) (xs (a3 + (3 : Int32)).toNatClampNeg) (0 : Int32)
                  else
                    f_L_law_b293 L xs (f_L_law_b18 L xs a1 a2 n) M a1 a2 a3 a1 (xs (a3 + (1 : Int32)).toNatClampNeg) (xs (a3 + (2 : Int32)).toNatClampNeg) (xs (a3 + (3 : Int32)).toNatClampNeg) (1 : Int32))
                else none)
              else none)
            else none)
          else none)
         else
         (if ((xs a3.toNatClampNeg) &&& (63 : Int32)) = 1 then
          (if q_inb (a3 + (1 : Int32)) L = true then
            (if q_inb (a3 + (2 : Int32)) L = true then
              (if q_inb (a3 + (3 : Int32)) L = true then
                (if (xs (a3 + (3 : Int32)).toNatClampNeg) = 0 then
                  f_L_law_b357 L xs (f_L_law_b18 L xs a1 a2 n) M a1 a2 a3 a1 (xs (a3 + (1 : Int32)).toNatClampNeg) (xs (a3 + (2 : Int32)).toNatClampNeg) (0 : Int32)
                else
                  f_L_law_b357 L xs (f_L_law_b18 L xs a1 a2 n) M a1 a2 a3 a1 (xs (a3 + (1 : Int32)).toNatClampNeg) (xs (a3 + (2 : Int32)).toNatClampNeg) (1 : Int32))
              else none)
            else none)
          else none)
         else
         (if ((xs a3.toNatClampNeg) &&& (63 : Int32)) = 2 then
          (if q_inb (a3 + (1 : Int32)) L = true then
            (if q_inb (a3 + (2 : Int32)) L = true then
              (if q_inb (a3 + (3 : Int32)) L = true then
                (f_X11_can M a1 (xs (a3 + (1 : Int32)).toNatClampNeg) (xs (a3 + (2 : Int32)).toNatClampNeg) (xs (a3 + (3 : Int32)).toNatClampNeg)).bind fun r25 =>
                (if q_inb (a3 + (1 : Int32)) L = true then
                  (if q_inb (a3 + (2 : Int32)) L = true then
                    (if q_inb (a3 + (3 : Int32)) L = true then
                      (f_X12_can r25.2 a2 (xs (a3 + (1 : Int32)).toNatClampNeg) (xs (a3 + (2 : Int32)).toNatClampNeg) (xs (a3 + (3 : Int32)).toNatClampNeg)).bind fun r30 =>
                      (if r25.1 = r30.1 then
                        f_L_law_b18 L xs a1 a2 n (a3 + (6 : Int32)) r30.2
                      else
                        some ((0 : Int32), r30.2))
                    else none)
                  else none)
                else none)
              else none)
            else none)
          else none)
         else
         (if ((xs a3.toNatClampNeg) &&& (63 : Int32)) = 3 then
          (if q_inb (a3 + (1 : Int32)) L = true then
            (if q_inb (a3 + (2 : Int32)) L = true then
              (if q_inb (a3 + (3 : Int32)) L = true then
                (if q_inb (a3 + (4 : Int32)) L = true then
                  (if q_inb (a3 + (5 : Int32)) L = true then
                    (f_X11_test M a1 (xs (a3 + (1 : Int32)).toNatClampNeg) (xs (a3 + (2 : Int32)).toNatClampNeg) (xs (a3 + (3 : Int32)).toNatClampNeg) (xs (a3 + (4 : Int32)).toNatClampNeg) (xs (a3 + (5 : Int32)).toNatClampNeg)).bind fun r40 =>
                    (if q_inb (a3 + (1 : Int32)) L = true then
                      (if q_inb (a3 + (2 : Int32)) L = true then
                        (if q_inb (a3 + (3 : Int32)) L = true then
                          (if q_inb (a3 + (4 : Int32)) L = true then
                            (if q_inb (a3 + (5 : Int32)) L = true then
                              (f_X12_test r40.2 a2 (xs (a3 + (1 : Int32)).toNatClampNeg) (xs (a3 + (2 : Int32)).toNatClampNeg) (xs (a3 + (3 : Int32)).toNatClampNeg) (xs (a3 + (4 : Int32)).toNatClampNeg) (xs (a3 + (5 : Int32)).toNatClampNeg)).bind fun r47 =>
                              (if r40.1 = r47.1 then
                                f_L_law_b18 L xs a1 a2 n (a3 + (6 : Int32)) r47.2
                              else
                                some ((0 : Int32), r47.2))
                            else none)
                          else none)
                        else none)
                      else none)
                    else none)
                  else none)
                else none)
              else none)
            else none)
          else none)
         else
         (if ((xs a3.toNatClampNeg) &&& (63 : Int32)) = 4 then
          (if q_inb (a3 + (1 : Int32)) L = true then
            (if q_inb (a3 + (2 : Int32)) L = true then
              (if q_inb (a3 + (3 : Int32)) L = true then
                (f_X11_right M a1 (xs (a3 + (1 : Int32)).toNatClampNeg) (xs (a3 + (2 : Int32)).toNatClampNeg) (xs (a3 + (3 : Int32)).toNatClampNeg)).bind fun r55 =>
                (if q_inb (a3 + (1 : Int32)) L = true then
                  (if q_inb (a3 + (2 : Int32)) L = true then
                    (if q_inb (a3 + (3 : Int32)) L = true then
                      (f_X12_right r55.2 a2 (xs (a3 + (1 : Int32)).toNatClampNeg) (xs (a3 + (2 : Int32)).toNatClampNeg) (xs (a3 + (3 : Int32)).toNatClampNeg)).bind fun r60 =>
                      (if r55.1 = r60.1 then
                        f_L_law_b18 L xs a1 a2 n (a3 + (6 : Int32)) r60.2
                      else
                        some ((0 : Int32), r60.2))
                    else none)
                  else none)
                else none)
              else none)
            else none)
          else none)
         else
         (if ((xs a3.toNatClampNeg) &&& (63 : Int32)) = 5 then
          (if q_inb (a3 + (1 : Int32)) L = true then
            (if q_inb (a3 + (2 : Int32)) L = true then
              (f_X11_bias M a1 (xs (a3 + (1 : Int32)).toNatClampNeg) (xs (a3 + (2 : Int32)).toNatClampNeg)).bind fun r67 =>
              (if q_inb (a3 + (1 : Int32)) L = true then
                (if q_inb (a3 + (2 : Int32)) L = true then
                  (f_X12_bias r67.2 a2 (xs (a3 + (1 : Int32)).toNatClampNeg) (xs (a3 + (2 : Int32)).toNatClampNeg)).bind fun r71 =>
                  (if r67.1 = r71.1 then
                    f_L_law_b18 L xs a1 a2 n (a3 + (6 : Int32)) r71.2
                  else
                    some ((0 : Int32), r71.2))
                else none)
              else none)
            else none)
          else none)
         else
         (if ((xs a3.toNatClampNeg) &&& (63 : Int32)) = 6 then
          (if q_inb (a3 + (1 : Int32)) L = true then
            (f_X11_period M a1 (xs (a3 + (1 : Int32)).toNatClampNeg)).bind fun r77 =>
            (if q_inb (a3 + (1 : Int32)) L = true then
              (f_X12_period r77.2 a2 (xs (a3 + (1 : Int32)).toNatClampNeg)).bind fun r80 =>
              (if r77.1 = r80.1 then
                f_L_law_b18 L xs a1 a2 n (a3 + (6 : Int32)) r80.2
              else
                some ((0 : Int32), r80.2))
            else none)
          else none)
         else
         (if ((xs a3.toNatClampNeg) &&& (63 : Int32)) = 7 then
          (if q_inb (a3 + (1 : Int32)) L = true then
            (if q_inb (a3 + (2 : Int32)) L = true then
              (f_X11_rate M a1 (xs (a3 + (1 : Int32)).toNatClampNeg) (xs (a3 + (2 : Int32)).toNatClampNeg)).bind fun v87 =>
              (if q_inb (a3 + (1 : Int32)) L = true then
                (if q_inb (a3 + (2 : Int32)) L = true then
                  (f_X12_rate M a2 (xs (a3 + (1 : Int32)).toNatClampNeg) (xs (a3 + (2 : Int32)).toNatClampNeg)).bind fun v91 =>
                  (if v87 = v91 then
                    f_L_law_b18 L xs a1 a2 n (a3 + (6 : Int32)) M
                  else
                    some ((0 : Int32), M))
                else none)
              else none)
            else none)
          else none)
         else
         (if ((xs a3.toNatClampNeg) &&& (63 : Int32)) = 8 then
          (if q_inb (a3 + (1 : Int32)) L = true then
            (if q_inb (a3 + (2 : Int32)) L = true then
              (f_X11_canRate M a1 (xs (a3 + (1 : Int32)).toNatClampNeg) (xs (a3 + (2 : Int32)).toNatClampNeg)).bind fun r98 =>
              (if q_inb (a3 + (1 : Int32)) L = true then
                (if q_inb (a3 + (2 : Int32)) L = true then
                  (f_X12_canRate r98.2 a2 (xs (a3 + (1 : Int32)).toNatClampNeg) (xs (a3 + (2 : Int32)).toNatClampNeg)).bind fun r102 =>
                  (if r98.1 = r102.1 then
                    f_L_law_b18 L xs a1 a2 n (a3 + (6 : Int32)) r102.2
                  else
                    some ((0 : Int32), r102.2))
                else none)
              else none)
            else none)
          else none)
         else
         (if ((xs a3.toNatClampNeg) &&& (63 : Int32)) = 9 then
          (if q_inb (a3 + (1 : Int32)) L = true then
            (if q_inb (a3 + (2 : Int32)) L = true then
              (if q_inb (a3 + (3 : Int32)) L = true then
                (f_X11_fat M a1 (xs (a3 + (1 : Int32)).toNatClampNeg) (xs (a3 + (2 : Int32)).toNatClampNeg) (xs (a3 + (3 : Int32)).toNatClampNeg)).bind fun r110 =>
                (if q_inb (a3 + (1 : Int32)) L = true then
                  (if q_inb (a3 + (2 : Int32)) L = true then
                    (if q_inb (a3 + (3 : Int32)) L = true then
                      (f_X12_fat r110.2 a2 (xs (a3 + (1 : Int32)).toNatClampNeg) (xs (a3 + (2 : Int32)).toNatClampNeg) (xs (a3 + (3 : Int32)).toNatClampNeg)).bind fun r115 =>
                      (if r110.1 = r115.1 then
                        f_L_law_b18 L xs a1 a2 n (a3 + (6 : Int32)) r115.2
                      else
                        some ((0 : Int32), r115.2))
                    else none)
                  else none)
                else none)
              else none)
            else none)
          else none)
         else
         (if ((xs a3.toNatClampNeg) &&& (63 : Int32)) = 10 then
          (if q_inb (a3 + (1 : Int32)) L = true then
            (if q_inb (a3 + (2 : Int32)) L = true then
              (f_X11_churn M a1 (xs (a3 + (1 : Int32)).toNatClampNeg) (xs (a3 + (2 : Int32)).toNatClampNeg)).bind fun r122 =>
              (if q_inb (a3 + (1 : Int32)) L = true then
                (if q_inb (a3 + (2 : Int32)) L = true then
                  (f_X12_churn r122.2 a2 (xs (a3 + (1 : Int32)).toNatClampNeg) (xs (a3 + (2 : Int32)).toNatClampNeg)).bind fun r126 =>
                  (if r122.1 = r126.1 then
                    f_L_law_b18 L xs a1 a2 n (a3 + (6 : Int32)) r126.2
                  else
                    some ((0 : Int32), r126.2))
                else none)
              else none)
            else none)
          else none)
         else
         (if ((xs a3.toNatClampNeg) &&& (63 : Int32)) = 11 then
          (if q_inb (a3 + (1 : Int32)) L = true then
            (if q_inb (a3 + (2 : Int32)) L = true then
              (f_X11_fill M a1 (xs (a3 + (1 : Int32)).toNatClampNeg) (xs (a3 + (2 : Int32)).toNatClampNeg)).bind fun r133 =>
              (if q_inb (a3 + (1 : Int32)) L = true then
                (if q_inb (a3 + (2 : Int32)) L = true then
                  (f_X12_fill r133.2 a2 (xs (a3 + (1 : Int32)).toNatClampNeg) (xs (a3 + (2 : Int32)).toNatClampNeg)).bind fun r137 =>
                  (if r133.1 = r137.1 then
                    f_L_law_b18 L xs a1 a2 n (a3 + (6 : Int32)) r137.2
                  else
                    some ((0 : Int32), r137.2))
                else none)
              else none)
            else none)
          else none)
         else
         (if ((xs a3.toNatClampNeg) &&& (63 : Int32)) = 12 then
          (if q_inb (a3 + (1 : Int32)) L = true then
            (if q_inb (a3 + (2 : Int32)) L = true then
              (if q_inb (a3 + (3 : Int32)) L = true then
                (f_X11_about M a1 (xs (a3 + (1 : Int32)).toNatClampNeg) (xs (a3 + (2 : Int32)).toNatClampNeg) (xs (a3 + (3 : Int32)).toNatClampNeg)).bind fun r145 =>
                (if q_inb (a3 + (1 : Int32)) L = true then
                  (if q_inb (a3 + (2 : Int32)) L = true then
                    (if q_inb (a3 + (3 : Int32)) L = true then
                      (f_X12_about r145.2 a2 (xs (a3 + (1 : Int32)).toNatClampNeg) (xs (a3 + (2 : Int32)).toNatClampNeg) (xs (a3 + (3 : Int32)).toNatClampNeg)).bind fun r150 =>
                      (if r145.1 = r150.1 then
                        f_L_law_b18 L xs a1 a2 n (a3 + (6 : Int32)) r150.2
                      else
                        some ((0 : Int32), r150.2))
                    else none)
                  else none)
                else none)
              else none)
            else none)
          else none)
         else
         (if ((xs a3.toNatClampNeg) &&& (63 : Int32)) = 13 then
          (if q_inb (a3 + (1 : Int32)) L = true then
            (if q_inb (a3 + (2 : Int32)) L = true then
              (f_X11_out M a1 (xs (a3 + (1 : Int32)).toNatClampNeg) (xs (a3 + (2 : Int32)).toNatClampNeg)).bind fun r157 =>
              (if q_inb (a3 + (1 : Int32)) L = true then
                (if q_inb (a3 + (2 : Int32)) L = true then
                  (f_X12_out r157.2 a2 (xs (a3 + (1 : Int32)).toNatClampNeg) (xs (a3 + (2 : Int32)).toNatClampNeg)).bind fun r161 =>
                  (if r157.1 = r161.1 then
                    f_L_law_b18 L xs a1 a2 n (a3 + (6 : Int32)) r161.2
                  else
                    some ((0 : Int32), r161.2))
                else none)
              else none)
            else none)
          else none)
         else
         (if ((xs a3.toNatClampNeg) &&& (63 : Int32)) = 14 then
          (if q_inb (a3 + (1 : Int32)) L = true then
            (f_X11_box M a1 (xs (a3 + (1 : Int32)).toNatClampNeg)).bind fun r167 =>
            (if q_inb (a3 + (1 : Int32)) L = true then
              (f_X12_box r167.2 a2 (xs (a3 + (1 : Int32)).toNatClampNeg)).bind fun r170 =>
              (if r167.1 = r170.1 then
                f_L_law_b18 L xs a1 a2 n (a3 + (6 : Int32)) r170.2
              else
                some ((0 : Int32), r170.2))
            else none)
          else none)
         else
         (if ((xs a3.toNatClampNeg) &&& (63 : Int32)) = 15 then
          (if q_inb (a3 + (1 : Int32)) L = true then
            (if q_inb (a3 + (2 : Int32)) L = true then
              (if q_inb (a3 + (3 : Int32)) L = true then
                (f_X11_sell M a1 (xs (a3 + (1 : Int32)).toNatClampNeg) (xs (a3 + (2 : Int32)).toNatClampNeg) (xs (a3 + (3 : Int32)).toNatClampNeg)).bind fun r178 =>
                (if q_inb (a3 + (1 : Int32)) L = true then
                  (if q_inb (a3 + (2 : Int32)) L = true then
                    (if q_inb (a3 + (3 : Int32)) L = true then
                      (f_X12_sell r178.2 a2 (xs (a3 + (1 : Int32)).toNatClampNeg) (xs (a3 + (2 : Int32)).toNatClampNeg) (xs (a3 + (3 : Int32)).toNatClampNeg)).bind fun r183 =>
                      (if r178.1 = r183.1 then
                        f_L_law_b18 L xs a1 a2 n (a3 + (6 : Int32)) r183.2
                      else
                        some ((0 : Int32), r183.2))
                    else none)
                  else none)
                else none)
              else none)
            else none)
          else none)
         else
         (if ((xs a3.toNatClampNeg) &&& (63 : Int32)) = 16 then
          (if q_inb (a3 + (1 : Int32)) L = true then
            (if q_inb (a3 + (2 : Int32)) L = true then
              (if q_inb (a3 + (3 : Int32)) L = true then
                (f_X11_grade M a1 (xs (a3 + (1 : Int32)).toNatClampNeg) (xs (a3 + (2 : Int32)).toNatClampNeg) (xs (a3 + (3 : Int32)).toNatClampNeg)).bind fun r191 =>
                (if q_inb (a3 + (1 : Int32)) L = true then
                  (if q_inb (a3 + (2 : Int32)) L = true then
                    (if q_inb (a3 + (3 : Int32)) L = true then
                      (f_X12_grade r191.2 a2 (xs (a3 + (1 : Int32)).toNatClampNeg) (xs (a3 + (2 : Int32)).toNatClampNeg) (xs (a3 + (3 : Int32)).toNatClampNeg)).bind fun r196 =>
                      (if r191.1 = r196.1 then
                        f_L_law_b18 L xs a1 a2 n (a3 + (6 : Int32)) r196.2
                      else
                        some ((0 : Int32), r196.2))
                    else none)
                  else none)
                else none)
              else none)
            else none)
          else none)
         else
         (if ((xs a3.toNatClampNeg) &&& (63 : Int32)) = 17 then
          (f_X11_lean M a1).bind fun v201 =>
          (f_X12_lean M a2).bind fun v203 =>
          (if v201 = v203 then
            f_L_law_b18 L xs a1 a2 n (a3 + (6 : Int32)) M
          else
            some ((0 : Int32), M))
         else
         (if ((xs a3.toNatClampNeg) &&& (63 : Int32)) = 18 then
          (if q_inb (a3 + (1 : Int32)) L = true then
            (if q_inb (a3 + (2 : Int32)) L = true then
              (f_X11_lot M a1 (xs (a3 + (1 : Int32)).toNatClampNeg) (xs (a3 + (2 : Int32)).toNatClampNeg)).bind fun v210 =>
              (if q_inb (a3 + (1 : Int32)) L = true then
                (if q_inb (a3 + (2 : Int32)) L = true then
                  (f_X12_lot M a2 (xs (a3 + (1 : Int32)).toNatClampNeg) (xs (a3 + (2 : Int32)).toNatClampNeg)).bind fun v214 =>
                  (if v210 = v214 then
                    f_L_law_b18 L xs a1 a2 n (a3 + (6 : Int32)) M
                  else
                    some ((0 : Int32), M))
                else none)
              else none)
            else none)
          else none)
         else
         (if ((xs a3.toNatClampNeg) &&& (63 : Int32)) = 19 then
          (if q_inb (a3 + (1 : Int32)) L = true then
            (if q_inb (a3 + (2 : Int32)) L = true then
              (if q_inb (a3 + (3 : Int32)) L = true then
                (f_X11_lead M a1 (xs (a3 + (1 : Int32)).toNatClampNeg) (xs (a3 + (2 : Int32)).toNatClampNeg) (xs (a3 + (3 : Int32)).toNatClampNeg)).bind fun r222 =>
                (if q_inb (a3 + (1 : Int32)) L = true then
                  (if q_inb (a3 + (2 : Int32)) L = true then
                    (if q_inb (a3 + (3 : Int32)) L = true then
                      (f_X12_lead r222.2 a2 (xs (a3 + (1 : Int32)).toNatClampNeg) (xs (a3 + (2 : Int32)).toNatClampNeg) (xs (a3 + (3 : Int32)).toNatClampNeg)).bind fun r227 =>
                      (if r222.1 = r227.1 then
                        f_L_law_b18 L xs a1 a2 n (a3 + (6 : Int32)) r227.2
                      else
                        some ((0 : Int32), r227.2))
                    else none)
                  else none)
                else none)
              else none)
            else none)
          else none)
         else
         (if ((xs a3.toNatClampNeg) &&& (63 : Int32)) = 20 then
          (if q_inb (a3 + (1 : Int32)) L = true then
            (if q_inb (a3 + (2 : Int32)) L = true then
              (f_X11_write M a1 (xs (a3 + (1 : Int32)).toNatClampNeg) (xs (a3 + (2 : Int32)).toNatClampNeg)).bind fun r234 =>
              (if q_inb (a3 + (1 : Int32)) L = true then
                (if q_inb (a3 + (2 : Int32)) L = true then
                  (f_X12_write r234.2 a2 (xs (a3 + (1 : Int32)).toNatClampNeg) (xs (a3 + (2 : Int32)).toNatClampNeg)).bind fun r238 =>
                  (if r234.1 = r238.1 then
                    f_L_law_b18 L xs a1 a2 n (a3 + (6 : Int32)) r238.2
                  else
                    some ((0 : Int32), r238.2))
                else none)
              else none)
            else none)
          else none)
         else
         (if ((xs a3.toNatClampNeg) &&& (63 : Int32)) = 21 then
          (if q_inb (a3 + (1 : Int32)) L = true then
            (f_X11_erase M a1 (xs (a3 + (1 : Int32)).toNatClampNeg)).bind fun r244 =>
            (if q_inb (a3 + (1 : Int32)) L = true then
              (f_X12_erase r244.2 a2 (xs (a3 + (1 : Int32)).toNatClampNeg)).bind fun r247 =>
              (if r244.1 = r247.1 then
                f_L_law_b18 L xs a1 a2 n (a3 + (6 : Int32)) r247.2
              else
                some ((0 : Int32), r247.2))
            else none)
          else none)
         else
         (if ((xs a3.toNatClampNeg) &&& (63 : Int32)) = 22 then
          (if q_inb (a3 + (1 : Int32)) L = true then
            (f_X11_fault M a1 (xs (a3 + (1 : Int32)).toNatClampNeg)).bind fun r253 =>
            (if q_inb (a3 + (1 : Int32)) L = true then
              (f_X12_fault r253.2 a2 (xs (a3 + (1 : Int32)).toNatClampNeg)).bind fun r256 =>
              (if r253.1 = r256.1 then
                f_L_law_b18 L xs a1 a2 n (a3 + (6 : Int32)) r256.2
              else
                some ((0 : Int32), r256.2))
            else none)
          else none)
         else
         (if ((xs a3.toNatClampNeg) &&& (63 : Int32)) = 23 then
          (if q_inb (a3 + (1 : Int32)) L = true then
            (if q_inb (a3 + (2 : Int32)) L = true then
              (if q_inb (a3 + (3 : Int32)) L = true then
                (if q_inb (a3 + (4 : Int32)) L = true then
                  (f_X11_tells M a1 (xs (a3 + (1 : Int32)).toNatClampNeg) (xs (a3 + (2 : Int32)).toNatClampNeg) (xs (a3 + (3 : Int32)).toNatClampNeg) (xs (a3 + (4 : Int32)).toNatClampNeg)).bind fun r265 =>
                  (if q_inb (a3 + (1 : Int32)) L = true then
                    (if q_inb (a3 + (2 : Int32)) L = true then
                      (if q_inb (a3 + (3 : Int32)) L = true then
                        (if q_inb (a3 + (4 : Int32)) L = true then
                          (f_X12_tells r265.2 a2 (xs (a3 + (1 : Int32)).toNatClampNeg) (xs (a3 + (2 : Int32)).toNatClampNeg) (xs (a3 + (3 : Int32)).toNatClampNeg) (xs (a3 + (4 : Int32)).toNatClampNeg)).bind fun r271 =>
                          (if r265.1 = r271.1 then
                            f_L_law_b18 L xs a1 a2 n (a3 + (6 : Int32)) r271.2
                          else
                            some ((0 : Int32), r271.2))
                        else none)
                      else none)
                    else none)
                  else none)
                else none)
              else none)
            else none)
          else none)
         else
         (if ((xs a3.toNatClampNeg) &&& (63 : Int32)) = 24 then
          (if q_inb (a3 + (1 : Int32)) L = true then
            (if q_inb (a3 + (2 : Int32)) L = true then
              (if q_inb (a3 + (3 : Int32)) L = true then
                (if (xs (a3 + (3 : Int32)).toNatClampNeg) = 0 then
                  f_L_law_b1206 L xs (f_L_law_b18 L xs a1 a2 n) M a1 a2 a3 a1 (xs (a3 + (1 : Int32)).toNatClampNeg) (xs (a3 + (2 : Int32)).toNatClampNeg) (0 : Int32)
                else
                  f_L_law_b1206 L xs (f_L_law_b18 L xs a1 a2 n) M a1 a2 a3 a1 (xs (a3 + (1 : Int32)).toNatClampNeg) (xs (a3 + (2 : Int32)).toNatClampNeg) (1 : Int32))
              else none)
            else none)
          else none)
         else
         (if ((xs a3.toNatClampNeg) &&& (63 : Int32)) = 25 then
          (if q_inb (a3 + (1 : Int32)) L = true then
            (if q_inb (a3 + (2 : Int32)) L = true then
              (if q_inb (a3 + (3 : Int32)) L = true then
                (f_X11_vote M a1 (xs (a3 + (1 : Int32)).toNatClampNeg) (xs (a3 + (2 : Int32)).toNatClampNeg) (xs (a3 + (3 : Int32)).toNatClampNeg)).bind fun r285 =>
                (if q_inb (a3 + (1 : Int32)) L = true then
                  (if q_inb (a3 + (2 : Int32)) L = true then
                    (if q_inb (a3 + (3 : Int32)) L = true then
                      (f_X12_vote r285.2 a2 (xs (a3 + (1 : Int32)).toNatClampNeg) (xs (a3 + (2 : Int32)).toNatClampNeg) (xs (a3 + (3 : Int32)).toNatClampNeg)).bind fun r290 =>
                      (if r285.1 = r290.1 then
                        f_L_law_b18 L xs a1 a2 n (a3 + (6 : Int32)) r290.2
                      else
                        some ((0 : Int32), r290.2))
                    else none)
                  else none)
                else none)
              else none)
            else none)
          else none)
         else
         (if ((xs a3.toNatClampNeg) &&& (63 : Int32)) = 26 then
          (if q_inb (a3 + (1 : Int32)) L = true then
            (if q_inb (a3 + (2 : Int32)) L = true then
              (if (xs (a3 + (2 : Int32)).toNatClampNeg) = 0 then
                f_L_law_b1303 L xs (f_L_law_b18 L xs a1 a2 n) M a1 a2 a3 a1 (xs (a3 + (1 : Int32)).toNatClampNeg) (0 : Int32)
              else
                f_L_law_b1303 L xs (f_L_law_b18 L xs a1 a2 n) M a1 a2 a3 a1 (xs (a3 + (1 : Int32)).toNatClampNeg) (1 : Int32))
            else none)
          else none)
         else
         (if ((xs a3.toNatClampNeg) &&& (63 : Int32)) = 27 then
          (if q_inb (a3 + (1 : Int32)) L = true then
            (if q_inb (a3 + (2 : Int32)) L = true then
              (f_X11_motionAt M a1 (xs (a3 + (1 : Int32)).toNatClampNeg) (xs (a3 + (2 : Int32)).toNatClampNeg)).bind fun v302 =>
              (if q_inb (a3 + (1 : Int32)) L = true then
                (if q_inb (a3 + (2 : Int32)) L = true then
                  (f_X12_motionAt M a2 (xs (a3 + (1 : Int32)).toNatClampNeg) (xs (a3 + (2 : Int32)).toNatClampNeg)).bind fun v306 =>
                  (if v302 = v306 then
                    f_L_law_b18 L xs a1 a2 n (a3 + (6 : Int32)) M
                  else
                    some ((0 : Int32), M))
                else none)
              else none)
            else none)
          else none)
         else
         (if ((xs a3.toNatClampNeg) &&& (63 : Int32)) = 28 then
          (if q_inb (a3 + (1 : Int32)) L = true then
            (f_X11_force M a1 (xs (a3 + (1 : Int32)).toNatClampNeg)).bind fun v312 =>
            (if q_inb (a3 + (1 : Int32)) L = true then
              (f_X12_force M a2 (xs (a3 + (1 : Int32)).toNatClampNeg)).bind fun v315 =>
              (if v312 = v315 then
                f_L_law_b18 L xs a1 a2 n (a3 + (6 : Int32)) M
              else
                some ((0 : Int32), M))
            else none)
          else none)
         else
         (if ((xs a3.toNatClampNeg) &&& (63 : Int32)) = 29 then
          (if q_inb (a3 + (1 : Int32)) L = true then
            (if q_inb (a3 + (2 : Int32)) L = true then
              (f_X11_money M a1 (xs (a3 + (1 : Int32)).toNatClampNeg) (xs (a3 + (2 : Int32)).toNatClampNeg)).bind fun v322 =>
              (if q_inb (a3 + (1 : Int32)) L = true then
                (if q_inb (a3 + (2 : Int32)) L = true then
                  (f_X12_money M a2 (xs (a3 + (1 : Int32)).toNatClampNeg) (xs (a3 + (2 : Int32)).toNatClampNeg)).bind fun v326 =>
                  (if v322 = v326 then
                    f_L_law_b18 L xs a1 a2 n (a3 + (6 : Int32)) M
                  else
                    some ((0 : Int32), M))
                else none)
              else none)
            else none)
          else none)
         else
         (if ((xs a3.toNatClampNeg) &&& (63 : Int32)) = 30 then
          (if q_inb (a3 + (1 : Int32)) L = true then
            (if q_inb (a3 + (2 : Int32)) L = true then
              (if q_inb (a3 + (3 : Int32)) L = true then
                (f_X11_pay M a1 (xs (a3 + (1 : Int32)).toNatClampNeg) (xs (a3 + (2 : Int32)).toNatClampNeg) (xs (a3 + (3 : Int32)).toNatClampNeg)).bind fun r334 =>
                (if q_inb (a3 + (1 : Int32)) L = true then
                  (if q_inb (a3 + (2 : Int32)) L = true then
                    (if q_inb (a3 + (3 : Int32)) L = true then
                      (f_X12_pay r334.2 a2 (xs (a3 + (1 : Int32)).toNatClampNeg) (xs (a3 + (2 : Int32)).toNatClampNeg) (xs (a3 + (3 : Int32)).toNatClampNeg)).bind fun r339 =>
                      (if r334.1 = r339.1 then
                        f_L_law_b18 L xs a1 a2 n (a3 + (6 : Int32)) r339.2
                      else
                        some ((0 : Int32), r339.2))
                    else none)
                  else none)
                else none)
              else none)
            else none)
          else none)
         else
         (if ((xs a3.toNatClampNeg) &&& (63 : Int32)) = 31 then
          (if q_inb (a3 + (1 : Int32)) L = true then
            (if q_inb (a3 + (2 : Int32)) L = true then
              (if q_inb (a3 + (3 : Int32)) L = true then
                (f_X11_share M a1 (xs (a3 + (1 : Int32)).toNatClampNeg) (xs (a3 + (2 : Int32)).toNatClampNeg) (xs (a3 + (3 : Int32)).toNatClampNeg)).bind fun r347 =>
                (if q_inb (a3 + (1 : Int32)) L = true then
                  (if q_inb (a3 + (2 : Int32)) L = true then
                    (if q_inb (a3 + (3 : Int32)) L = true then
                      (f_X12_share r347.2 a2 (xs (a3 + (1 : Int32)).toNatClampNeg) (xs (a3 + (2 : Int32)).toNatClampNeg) (xs (a3 + (3 : Int32)).toNatClampNeg)).bind fun r352 =>
                      (if r347.1 = r352.1 then
                        f_L_law_b18 L xs a1 a2 n (a3 + (6 : Int32)) r352.2
                      else
                        some ((0 : Int32), r352.2))
                    else none)
                  else none)
                else none)
              else none)
            else none)
          else none)
         else
         (if ((xs a3.toNatClampNeg) &&& (63 : Int32)) = 32 then
          (if q_inb (a3 + (1 : Int32)) L = true then
            (if q_inb (a3 + (2 : Int32)) L = true then
              (if q_inb (a3 + (3 : Int32)) L = true then
                (f_X11_watered M a1 (xs (a3 + (1 : Int32)).toNatClampNeg) (xs (a3 + (2 : Int32)).toNatClampNeg) (xs (a3 + (3 : Int32)).toNatClampNeg)).bind fun r360 =>
                (if q_inb (a3 + (1 : Int32)) L = true then
                  (if q_inb (a3 + (2 : Int32)) L = true then
                    (if q_inb (a3 + (3 : Int32)) L = true then
                      (f_X12_watered r360.2 a2 (xs (a3 + (1 : Int32)).toNatClampNeg) (xs (a3 + (2 : Int32)).toNatClampNeg) (xs (a3 + (3 : Int32)).toNatClampNeg)).bind fun r365 =>
                      (if r360.1 = r365.1 then
                        f_L_law_b18 L xs a1 a2 n (a3 + (6 : Int32)) r365.2
                      else
                        some ((0 : Int32), r365.2))
                    else none)
                  else none)
                else none)
              else none)
            else none)
          else none)
         else
         (if ((xs a3.toNatClampNeg) &&& (63 : Int32)) = 33 then
          (if q_inb (a3 + (1 : Int32)) L = true then
            (f_X11_sour M a1 (xs (a3 + (1 : Int32)).toNatClampNeg)).bind fun r371 =>
            (if q_inb (a3 + (1 : Int32)) L = true then
              (f_X12_sour r371.2 a2 (xs (a3 + (1 : Int32)).toNatClampNeg)).bind fun r374 =>
              (if r371.1 = r374.1 then
                f_L_law_b18 L xs a1 a2 n (a3 + (6 : Int32)) r374.2
              else
                some ((0 : Int32), r374.2))
            else none)
          else none)
         else
         (if ((xs a3.toNatClampNeg) &&& (63 : Int32)) = 34 then
          (if q_inb (a3 + (1 : Int32)) L = true then
            (f_X11_route M a1 (xs (a3 + (1 : Int32)).toNatClampNeg)).bind fun r380 =>
            (if q_inb (a3 + (1 : Int32)) L = true then
              (f_X12_route r380.2 a2 (xs (a3 + (1 : Int32)).toNatClampNeg)).bind fun r383 =>
              (if r380.1 = r383.1 then
                f_L_law_b18 L xs a1 a2 n (a3 + (6 : Int32)) r383.2
              else
                some ((0 : Int32), r383.2))
            else none)
          else none)
         else
         (if ((xs a3.toNatClampNeg) &&& (63 : Int32)) = 35 then
          (if q_inb (a3 + (1 : Int32)) L = true then
            (if q_inb (a3 + (2 : Int32)) L = true then
              (f_X11_routeAt M a1 (xs (a3 + (1 : Int32)).toNatClampNeg) (xs (a3 + (2 : Int32)).toNatClampNeg)).bind fun r390 =>
              (if q_inb (a3 + (1 : Int32)) L = true then
                (if q_inb (a3 + (2 : Int32)) L = true then
                  (f_X12_routeAt r390.2 a2 (xs (a3 + (1 : Int32)).toNatClampNeg) (xs (a3 + (2 : Int32)).toNatClampNeg)).bind fun r394 =>
                  (if r390.1 = r394.1 then
                    f_L_law_b18 L xs a1 a2 n (a3 + (6 : Int32)) r394.2
                  else
                    some ((0 : Int32), r394.2))
                else none)
              else none)
            else none)
          else none)
         else
         (if ((xs a3.toNatClampNeg) &&& (63 : Int32)) = 36 then
          (if q_inb (a3 + (1 : Int32)) L = true then
            (if q_inb (a3 + (2 : Int32)) L = true then
              (if q_inb (a3 + (3 : Int32)) L = true then
                (f_X11_cream M a1 (xs (a3 + (1 : Int32)).toNatClampNeg) (xs (a3 + (2 : Int32)).toNatClampNeg) (xs (a3 + (3 : Int32)).toNatClampNeg)).bind fun r402 =>
                (if q_inb (a3 + (1 : Int32)) L = true then
                  (if q_inb (a3 + (2 : Int32)) L = true then
                    (if q_inb (a3 + (3 : Int32)) L = true then
                      (f_X12_cream r402.2 a2 (xs (a3 + (1 : Int32)).toNatClampNeg) (xs (a3 + (2 : Int32)).toNatClampNeg) (xs (a3 + (3 : Int32)).toNatClampNeg)).bind fun r407 =>
                      (if r402.1 = r407.1 then
                        f_L_law_b18 L xs a1 a2 n (a3 + (6 : Int32)) r407.2
                      else
                        some ((0 : Int32), r407.2))
                    else none)
                  else none)
                else none)
              else none)
            else none)
          else none)
         else
         (if ((xs a3.toNatClampNeg) &&& (63 : Int32)) = 37 then
          (f_X11_drain M a1).bind fun r412 =>
          (f_X12_drain r412.2 a2).bind fun r414 =>
          (if r412.1 = r414.1 then
            f_L_law_b18 L xs a1 a2 n (a3 + (6 : Int32)) r414.2
          else
            some ((0 : Int32), r414.2))
         else
         (if ((xs a3.toNatClampNeg) &&& (63 : Int32)) = 38 then
          (if q_inb (a3 + (1 : Int32)) L = true then
            (f_X11_together M a1 (xs (a3 + (1 : Int32)).toNatClampNeg)).bind fun r420 =>
            (if q_inb (a3 + (1 : Int32)) L = true then
              (f_X12_together r420.2 a2 (xs (a3 + (1 : Int32)).toNatClampNeg)).bind fun r423 =>
              (if r420.1 = r423.1 then
                f_L_law_b18 L xs a1 a2 n (a3 + (6 : Int32)) r423.2
              else
                some ((0 : Int32), r423.2))
            else none)
          else none)
         else
         (if ((xs a3.toNatClampNeg) &&& (63 : Int32)) = 39 then
          (if q_inb (a3 + (1 : Int32)) L = true then
            (if q_inb (a3 + (2 : Int32)) L = true then
              (f_X11_heap M a1 (xs (a3 + (1 : Int32)).toNatClampNeg) (xs (a3 + (2 : Int32)).toNatClampNeg)).bind fun r430 =>
              (if q_inb (a3 + (1 : Int32)) L = true then
                (if q_inb (a3 + (2 : Int32)) L = true then
                  (f_X12_heap r430.2 a2 (xs (a3 + (1 : Int32)).toNatClampNeg) (xs (a3 + (2 : Int32)).toNatClampNeg)).bind fun r434 =>
                  (if r430.1 = r434.1 then
                    f_L_law_b18 L xs a1 a2 n (a3 + (6 : Int32)) r434.2
                  else
                    some ((0 : Int32), r434.2))
                else none)
              else none)
            else none)
          else none)
         else
         (if ((xs a3.toNatClampNeg) &&& (63 : Int32)) = 40 then
          (if q_inb (a3 + (1 : Int32)) L = true then
            (if q_inb (a3 + (2 : Int32)) L = true then
              (f_X11_gives M a1 (xs (a3 + (1 : Int32)).toNatClampNeg) (xs (a3 + (2 : Int32)).toNatClampNeg)).bind fun r441 =>
              (if q_inb (a3 + (1 : Int32)) L = true then
                (if q_inb (a3 + (2 : Int32)) L = true then
                  (f_X12_gives r441.2 a2 (xs (a3 + (1 : Int32)).toNatClampNeg) (xs (a3 + (2 : Int32)).toNatClampNeg)).bind fun r445 =>
                  (if r441.1 = r445.1 then
                    f_L_law_b18 L xs a1 a2 n (a3 + (6 : Int32)) r445.2
                  else
                    some ((0 : Int32), r445.2))
                else none)
              else none)
            else none)
          else none)
         else
         (if ((xs a3.toNatClampNeg) &&& (63 : Int32)) = 41 then
          (if q_inb (a3 + (1 : Int32)) L = true then
            (if q_inb (a3 + (2 : Int32)) L = true then
              (if q_inb (a3 + (3 : Int32)) L = true then
                (f_X11_calved M a1 (xs (a3 + (1 : Int32)).toNatClampNeg) (xs (a3 + (2 : Int32)).toNatClampNeg) (xs (a3 + (3 : Int32)).toNatClampNeg)).bind fun r453 =>
                (if q_inb (a3 + (1 : Int32)) L = true then
                  (if q_inb (a3 + (2 : Int32)) L = true then
                    (if q_inb (a3 + (3 : Int32)) L = true then
                      (f_X12_calved r453.2 a2 (xs (a3 + (1 : Int32)).toNatClampNeg) (xs (a3 + (2 : Int32)).toNatClampNeg) (xs (a3 + (3 : Int32)).toNatClampNeg)).bind fun r458 =>
                      (if r453.1 = r458.1 then
                        f_L_law_b18 L xs a1 a2 n (a3 + (6 : Int32)) r458.2
                      else
                        some ((0 : Int32), r458.2))
                    else none)
                  else none)
                else none)
              else none)
            else none)
          else none)
         else
         (if ((xs a3.toNatClampNeg) &&& (63 : Int32)) = 42 then
          (if q_inb (a3 + (1 : Int32)) L = true then
            (if q_inb (a3 + (2 : Int32)) L = true then
              (f_X11_foretold M a1 (xs (a3 + (1 : Int32)).toNatClampNeg) (xs (a3 + (2 : Int32)).toNatClampNeg)).bind fun v465 =>
              (if q_inb (a3 + (1 : Int32)) L = true then
                (if q_inb (a3 + (2 : Int32)) L = true then
                  (f_X12_foretold M a2 (xs (a3 + (1 : Int32)).toNatClampNeg) (xs (a3 + (2 : Int32)).toNatClampNeg)).bind fun v469 =>
                  (if v465 = v469 then
                    f_L_law_b18 L xs a1 a2 n (a3 + (6 : Int32)) M
                  else
                    some ((0 : Int32), M))
                else none)
              else none)
            else none)
          else none)
         else
         (if ((xs a3.toNatClampNeg) &&& (63 : Int32)) = 43 then
          (if q_inb (a3 + (1 : Int32)) L = true then
            (if q_inb (a3 + (2 : Int32)) L = true then
              (if q_inb (a3 + (3 : Int32)) L = true then
                (f_X11_site M a1 (xs (a3 + (1 : Int32)).toNatClampNeg) (xs (a3 + (2 : Int32)).toNatClampNeg) (xs (a3 + (3 : Int32)).toNatClampNeg)).bind fun r477 =>
                (if q_inb (a3 + (1 : Int32)) L = true then
                  (if q_inb (a3 + (2 : Int32)) L = true then
                    (if q_inb (a3 + (3 : Int32)) L = true then
                      (f_X12_site r477.2 a2 (xs (a3 + (1 : Int32)).toNatClampNeg) (xs (a3 + (2 : Int32)).toNatClampNeg) (xs (a3 + (3 : Int32)).toNatClampNeg)).bind fun r482 =>
                      (if r477.1 = r482.1 then
                        f_L_law_b18 L xs a1 a2 n (a3 + (6 : Int32)) r482.2
                      else
                        some ((0 : Int32), r482.2))
                    else none)
                  else none)
                else none)
              else none)
            else none)
          else none)
         else
         (if ((xs a3.toNatClampNeg) &&& (63 : Int32)) = 44 then
          (if q_inb (a3 + (1 : Int32)) L = true then
            (f_X11_freight M a1 (xs (a3 + (1 : Int32)).toNatClampNeg)).bind fun r488 =>
            (if q_inb (a3 + (1 : Int32)) L = true then
              (f_X12_freight r488.2 a2 (xs (a3 + (1 : Int32)).toNatClampNeg)).bind fun r491 =>
              (if r488.1 = r491.1 then
                f_L_law_b18 L xs a1 a2 n (a3 + (6 : Int32)) r491.2
              else
                some ((0 : Int32), r491.2))
            else none)
          else none)
         else
         (if ((xs a3.toNatClampNeg) &&& (63 : Int32)) = 45 then
          (if q_inb (a3 + (1 : Int32)) L = true then
            (f_X11_open M a1 (xs (a3 + (1 : Int32)).toNatClampNeg)).bind fun r497 =>
            (if q_inb (a3 + (1 : Int32)) L = true then
              (f_X12_open r497.2 a2 (xs (a3 + (1 : Int32)).toNatClampNeg)).bind fun v500 =>
              (if r497.1 = v500 then
                f_L_law_b18 L xs a1 a2 n (a3 + (6 : Int32)) r497.2
              else
                some ((0 : Int32), r497.2))
            else none)
          else none)
         else
         (if ((xs a3.toNatClampNeg) &&& (63 : Int32)) = 46 then
          (if q_inb (a3 + (1 : Int32)) L = true then
            (if q_inb (a3 + (2 : Int32)) L = true then
              (f_X11_nearest M a1 (xs (a3 + (1 : Int32)).toNatClampNeg) (xs (a3 + (2 : Int32)).toNatClampNeg)).bind fun v507 =>
              (if q_inb (a3 + (1 : Int32)) L = true then
                (if q_inb (a3 + (2 : Int32)) L = true then
                  (f_X12_nearest M a2 (xs (a3 + (1 : Int32)).toNatClampNeg) (xs (a3 + (2 : Int32)).toNatClampNeg)).bind fun v511 =>
                  (if v507 = v511 then
                    f_L_law_b18 L xs a1 a2 n (a3 + (6 : Int32)) M
                  else
                    some ((0 : Int32), M))
                else none)
              else none)
            else none)
          else none)
         else
         (if ((xs a3.toNatClampNeg) &&& (63 : Int32)) = 47 then
          (if q_inb (a3 + (1 : Int32)) L = true then
            (if q_inb (a3 + (2 : Int32)) L = true then
              (if q_inb (a3 + (3 : Int32)) L = true then
                (f_X11_loan M a1 (xs (a3 + (1 : Int32)).toNatClampNeg) (xs (a3 + (2 : Int32)).toNatClampNeg) (xs (a3 + (3 : Int32)).toNatClampNeg)).bind fun r519 =>
                (if q_inb (a3 + (1 : Int32)) L = true then
                  (if q_inb (a3 + (2 : Int32)) L = true then
                    (if q_inb (a3 + (3 : Int32)) L = true then
                      (f_X12_loan r519.2 a2 (xs (a3 + (1 : Int32)).toNatClampNeg) (xs (a3 + (2 : Int32)).toNatClampNeg) (xs (a3 + (3 : Int32)).toNatClampNeg)).bind fun r524 =>
                      (if r519.1 = r524.1 then
                        f_L_law_b18 L xs a1 a2 n (a3 + (6 : Int32)) r524.2
                      else
                        some ((0 : Int32), r524.2))
                    else none)
                  else none)
                else none)
              else none)
            else none)
          else none)
         else
         (if ((xs a3.toNatClampNeg) &&& (63 : Int32)) = 48 then
          (if q_inb (a3 + (1 : Int32)) L = true then
            (if q_inb (a3 + (2 : Int32)) L = true then
              (f_X11_owed M a1 (xs (a3 + (1 : Int32)).toNatClampNeg) (xs (a3 + (2 : Int32)).toNatClampNeg)).bind fun v531 =>
              (if q_inb (a3 + (1 : Int32)) L = true then
                (if q_inb (a3 + (2 : Int32)) L = true then
                  (f_X12_owed M a2 (xs (a3 + (1 : Int32)).toNatClampNeg) (xs (a3 + (2 : Int32)).toNatClampNeg)).bind fun v535 =>
                  (if v531 = v535 then
                    f_L_law_b18 L xs a1 a2 n (a3 + (6 : Int32)) M
                  else
                    some ((0 : Int32), M))
                else none)
              else none)
            else none)
          else none)
         else
         (if ((xs a3.toNatClampNeg) &&& (63 : Int32)) = 49 then
          (if q_inb (a3 + (1 : Int32)) L = true then
            (f_X11_ends M a1 (xs (a3 + (1 : Int32)).toNatClampNeg)).bind fun v541 =>
            (if q_inb (a3 + (1 : Int32)) L = true then
              (f_X12_ends M a2 (xs (a3 + (1 : Int32)).toNatClampNeg)).bind fun v544 =>
              (if v541 = v544 then
                f_L_law_b18 L xs a1 a2 n (a3 + (6 : Int32)) M
              else
                some ((0 : Int32), M))
            else none)
          else none)
         else
         (if ((xs a3.toNatClampNeg) &&& (63 : Int32)) = 50 then
          (if q_inb (a3 + (1 : Int32)) L = true then
            (f_X11_image M a1 (xs (a3 + (1 : Int32)).toNatClampNeg)).bind fun r550 =>
            (if q_inb (a3 + (1 : Int32)) L = true then
              (f_X12_image r550.2 a2 (xs (a3 + (1 : Int32)).toNatClampNeg)).bind fun r553 =>
              (if r550.1 = r553.1 then
                f_L_law_b18 L xs a1 a2 n (a3 + (6 : Int32)) r553.2
              else
                some ((0 : Int32), r553.2))
            else none)
          else none)
         else
         (if ((xs a3.toNatClampNeg) &&& (63 : Int32)) = 51 then
          (if q_inb (a3 + (1 : Int32)) L = true then
            (f_X11_from M a1 (xs (a3 + (1 : Int32)).toNatClampNeg)).bind fun r559 =>
            (if q_inb (a3 + (1 : Int32)) L = true then
              (f_X12_from r559.2 a2 (xs (a3 + (1 : Int32)).toNatClampNeg)).bind fun r562 =>
              (if r559.1 = r562.1 then
                f_L_law_b18 L xs a1 a2 n (a3 + (6 : Int32)) r562.2
              else
                some ((0 : Int32), r562.2))
            else none)
          else none)
         else
         (if ((xs a3.toNatClampNeg) &&& (63 : Int32)) = 52 then
          (if q_inb (a3 + (1 : Int32)) L = true then
            (f_X11_count M a1 (xs (a3 + (1 : Int32)).toNatClampNeg)).bind fun v568 =>
            (if q_inb (a3 + (1 : Int32)) L = true then
              (f_X12_count M a2 (xs (a3 + (1 : Int32)).toNatClampNeg)).bind fun v571 =>
              (if v568 = v571 then
                f_L_law_b18 L xs a1 a2 n (a3 + (6 : Int32)) M
              else
                some ((0 : Int32), M))
            else none)
          else none)
         else
         (if ((xs a3.toNatClampNeg) &&& (63 : Int32)) = 53 then
          (f_X11_digest M a1).bind fun v576 =>
          (f_X12_digest M a2).bind fun v578 =>
          (if v576 = v578 then
            f_L_law_b18 L xs a1 a2 n (a3 + (6 : Int32)) M
          else
            some ((0 : Int32), M))
         else
         f_L_law_b18 L xs a1 a2 n (a3 + (6 : Int32)) M)))))))))))))))))))))))))))))))))))))))))))))))))))))))
      else none))
def f_L_law (L : Nat) (xs : Nat → Int32) (M : q_Mem)  : Option (Int32 × q_Mem) :=
  (f_X11_init (q_nw M 10 0) M.1).bind fun M2 =>
  (f_X12_init (q_nw M2 11 0) M2.1).bind fun M4 =>
  f_L_law_b18 L xs M.1 M2.1 q_fuel (0 : Int32) M4
set_option maxRecDepth 20000 in
theorem v_L_law_b1325 {L : Nat} {xs : Nat → Int32} {kk18 : Int32 → q_Mem → Option (Int32 × q_Mem)} {M : q_Mem} {a1 : Nat} {a2 : Nat} {a3 : Int32} {s0 : Int32} {s1 : Nat} {s2 : Int32} {s3 : Int32}  (hk18 : ∀ (a3 : Int32) (M : q_Mem), q_V Y_L_law (some (L, xs)) (fun x : Int32 × q_Mem => (some (.int x.1), x.2)) 131 39214 18 [(0, .float 0), (1, .ref a1), (2, .ref a2), (3, .int a3)] [] M (kk18 a3 M)): q_V Y_L_law (some (L, xs)) (fun x : Int32 × q_Mem => (some (.int x.1), x.2)) 131 39214 1325 [(0, .float 0), (1, .ref a1), (2, .ref a2), (3, .int a3)] [.int s3, .int s2, .ref s1, .int s0] M (f_L_law_b1325 L xs kk18 M a1 a2 a3 s0 s1 s2 s3) := by
  unfold f_L_law_b1325
  refine q_cVMI (Y2 := Y_X12_tear) (As := [.int s2, .int s3]) (b := s1) (st := [.int s0]) cl_X12 mv_X12_tear qw_1487 dL_law_1325 ⟨Nat.le_of_ble_eq_true rfl, Nat.le_of_ble_eq_true rfl⟩ rfl (fun _ _ => rfl) (Nat.le_of_ble_eq_true rfl) ⟨Nat.le_of_ble_eq_true rfl, Nat.le_of_ble_eq_true rfl⟩ (fun r617 h616 => q_ob_is h616) (fun r617 h616 => m_X12_tear h616) (fun r617 h616 => ?_)
  refine q_icmp_eq (tgt := 2161) dL_law_1328 (by decide) (fun c618 => ?_) (fun c618 => ?_)
  · refine q_iinc 3 (y := (a3 + (6 : Int32))) (ls' := [(3, .int (a3 + (6 : Int32))), (0, .float 0), (1, .ref a1), (2, .ref a2)]) dL_law_2161 rfl rfl (by decide) rfl ?_
    refine q_goto (tgt := 18) dL_law_2164 (by decide) ?_
    refine q_sub (ls' := [(0, .float 0), (1, .ref a1), (2, .ref a2), (3, .int (a3 + (6 : Int32)))]) [1, 2, 3, 0] rfl ?_
    exact hk18 _ _
  · refine q_iconst (x := (0 : Int32)) dL_law_1331 rfl ?_
    exact q_zretL dL_law_1332 rfl (Or.inl rfl) rfl (Nat.le_of_ble_eq_true rfl) rfl
set_option maxRecDepth 20000 in
theorem v_L_law_b1303 {L : Nat} {xs : Nat → Int32} {kk18 : Int32 → q_Mem → Option (Int32 × q_Mem)} {M : q_Mem} {a1 : Nat} {a2 : Nat} {a3 : Int32} {s0 : Nat} {s1 : Int32} {s2 : Int32}  (hk18 : ∀ (a3 : Int32) (M : q_Mem), q_V Y_L_law (some (L, xs)) (fun x : Int32 × q_Mem => (some (.int x.1), x.2)) 131 39214 18 [(0, .float 0), (1, .ref a1), (2, .ref a2), (3, .int a3)] [] M (kk18 a3 M)): q_V Y_L_law (some (L, xs)) (fun x : Int32 × q_Mem => (some (.int x.1), x.2)) 131 39214 1303 [(0, .float 0), (1, .ref a1), (2, .ref a2), (3, .int a3)] [.int s2, .int s1, .ref s0] M (f_L_law_b1303 L xs kk18 M a1 a2 a3 s0 s1 s2) := by
  unfold f_L_law_b1303
  refine q_cVMI (Y2 := Y_X11_tear) (As := [.int s1, .int s2]) (b := s0) (st := []) cl_X11 mv_X11_tear qw_784 dL_law_1303 ⟨Nat.le_of_ble_eq_true rfl, Nat.le_of_ble_eq_true rfl⟩ rfl (fun _ _ => rfl) (Nat.le_of_ble_eq_true rfl) ⟨Nat.le_of_ble_eq_true rfl, Nat.le_of_ble_eq_true rfl⟩ (fun r603 h602 => q_ob_is h602) (fun r603 h602 => m_X11_tear h602) (fun r603 h602 => ?_)
  refine q_aload_n 2 dL_law_1306 rfl ?_
  refine q_aload_s 0 dL_law_1307 rfl ?_
  refine q_iload_n 3 dL_law_1308 rfl ?_
  refine q_iconst (x := (1 : Int32)) dL_law_1309 rfl ?_
  refine q_iadd dL_law_1310 ?_
  refine q_sld rfl dL_law_1311 (fun h604 => ?_)
  refine q_aload_s 0 dL_law_1312 rfl ?_
  refine q_iload_n 3 dL_law_1313 rfl ?_
  refine q_iconst (x := (2 : Int32)) dL_law_1314 rfl ?_
  refine q_iadd dL_law_1315 ?_
  refine q_sld rfl dL_law_1316 (fun h605 => ?_)
  refine q_if_eq (tgt := 1324) dL_law_1317 (by decide) (fun c606 => ?_) (fun c606 => ?_)
  · refine q_iconst (x := (0 : Int32)) dL_law_1324 rfl ?_
    exact v_L_law_b1325 (hk18)
  · refine q_iconst (x := (1 : Int32)) dL_law_1320 rfl ?_
    refine q_goto (tgt := 1325) dL_law_1321 (by decide) ?_
    exact v_L_law_b1325 (hk18)
set_option maxRecDepth 20000 in
theorem v_L_law_b1233 {L : Nat} {xs : Nat → Int32} {kk18 : Int32 → q_Mem → Option (Int32 × q_Mem)} {M : q_Mem} {a1 : Nat} {a2 : Nat} {a3 : Int32} {s0 : Int32} {s1 : Nat} {s2 : Int32} {s3 : Int32} {s4 : Int32}  (hk18 : ∀ (a3 : Int32) (M : q_Mem), q_V Y_L_law (some (L, xs)) (fun x : Int32 × q_Mem => (some (.int x.1), x.2)) 131 39214 18 [(0, .float 0), (1, .ref a1), (2, .ref a2), (3, .int a3)] [] M (kk18 a3 M)): q_V Y_L_law (some (L, xs)) (fun x : Int32 × q_Mem => (some (.int x.1), x.2)) 131 39214 1233 [(0, .float 0), (1, .ref a1), (2, .ref a2), (3, .int a3)] [.int s4, .int s3, .int s2, .ref s1, .int s0] M (f_L_law_b1233 L xs kk18 M a1 a2 a3 s0 s1 s2 s3 s4) := by
  unfold f_L_law_b1233
  refine q_cVMI (Y2 := Y_X12_motion) (As := [.int s2, .int s3, .int s4]) (b := s1) (st := [.int s0]) cl_X12 mv_X12_motion qw_1479 dL_law_1233 ⟨Nat.le_of_ble_eq_true rfl, Nat.le_of_ble_eq_true rfl⟩ rfl (fun _ _ => rfl) (Nat.le_of_ble_eq_true rfl) ⟨Nat.le_of_ble_eq_true rfl, Nat.le_of_ble_eq_true rfl⟩ (fun r614 h613 => q_ob_is h613) (fun r614 h613 => m_X12_motion h613) (fun r614 h613 => ?_)
  refine q_icmp_eq (tgt := 2161) dL_law_1236 (by decide) (fun c615 => ?_) (fun c615 => ?_)
  · refine q_iinc 3 (y := (a3 + (6 : Int32))) (ls' := [(3, .int (a3 + (6 : Int32))), (0, .float 0), (1, .ref a1), (2, .ref a2)]) dL_law_2161 rfl rfl (by decide) rfl ?_
    refine q_goto (tgt := 18) dL_law_2164 (by decide) ?_
    refine q_sub (ls' := [(0, .float 0), (1, .ref a1), (2, .ref a2), (3, .int (a3 + (6 : Int32)))]) [1, 2, 3, 0] rfl ?_
    exact hk18 _ _
  · refine q_iconst (x := (0 : Int32)) dL_law_1239 rfl ?_
    exact q_zretL dL_law_1240 rfl (Or.inl rfl) rfl (Nat.le_of_ble_eq_true rfl) rfl
set_option maxRecDepth 20000 in
theorem v_L_law_b1206 {L : Nat} {xs : Nat → Int32} {kk18 : Int32 → q_Mem → Option (Int32 × q_Mem)} {M : q_Mem} {a1 : Nat} {a2 : Nat} {a3 : Int32} {s0 : Nat} {s1 : Int32} {s2 : Int32} {s3 : Int32}  (hk18 : ∀ (a3 : Int32) (M : q_Mem), q_V Y_L_law (some (L, xs)) (fun x : Int32 × q_Mem => (some (.int x.1), x.2)) 131 39214 18 [(0, .float 0), (1, .ref a1), (2, .ref a2), (3, .int a3)] [] M (kk18 a3 M)): q_V Y_L_law (some (L, xs)) (fun x : Int32 × q_Mem => (some (.int x.1), x.2)) 131 39214 1206 [(0, .float 0), (1, .ref a1), (2, .ref a2), (3, .int a3)] [.int s3, .int s2, .int s1, .ref s0] M (f_L_law_b1206 L xs kk18 M a1 a2 a3 s0 s1 s2 s3) := by
  unfold f_L_law_b1206
  refine q_cVMI (Y2 := Y_X11_motion) (As := [.int s1, .int s2, .int s3]) (b := s0) (st := []) cl_X11 mv_X11_motion qw_769 dL_law_1206 ⟨Nat.le_of_ble_eq_true rfl, Nat.le_of_ble_eq_true rfl⟩ rfl (fun _ _ => rfl) (Nat.le_of_ble_eq_true rfl) ⟨Nat.le_of_ble_eq_true rfl, Nat.le_of_ble_eq_true rfl⟩ (fun r597 h596 => q_ob_is h596) (fun r597 h596 => m_X11_motion h596) (fun r597 h596 => ?_)
  refine q_aload_n 2 dL_law_1209 rfl ?_
  refine q_aload_s 0 dL_law_1210 rfl ?_
  refine q_iload_n 3 dL_law_1211 rfl ?_
  refine q_iconst (x := (1 : Int32)) dL_law_1212 rfl ?_
  refine q_iadd dL_law_1213 ?_
  refine q_sld rfl dL_law_1214 (fun h598 => ?_)
  refine q_aload_s 0 dL_law_1215 rfl ?_
  refine q_iload_n 3 dL_law_1216 rfl ?_
  refine q_iconst (x := (2 : Int32)) dL_law_1217 rfl ?_
  refine q_iadd dL_law_1218 ?_
  refine q_sld rfl dL_law_1219 (fun h599 => ?_)
  refine q_aload_s 0 dL_law_1220 rfl ?_
  refine q_iload_n 3 dL_law_1221 rfl ?_
  refine q_iconst (x := (3 : Int32)) dL_law_1222 rfl ?_
  refine q_iadd dL_law_1223 ?_
  refine q_sld rfl dL_law_1224 (fun h600 => ?_)
  refine q_if_eq (tgt := 1232) dL_law_1225 (by decide) (fun c601 => ?_) (fun c601 => ?_)
  · refine q_iconst (x := (0 : Int32)) dL_law_1232 rfl ?_
    exact v_L_law_b1233 (hk18)
  · refine q_iconst (x := (1 : Int32)) dL_law_1228 rfl ?_
    refine q_goto (tgt := 1233) dL_law_1229 (by decide) ?_
    exact v_L_law_b1233 (hk18)
set_option maxRecDepth 20000 in
theorem v_L_law_b384 {L : Nat} {xs : Nat → Int32} {kk18 : Int32 → q_Mem → Option (Int32 × q_Mem)} {M : q_Mem} {a1 : Nat} {a2 : Nat} {a3 : Int32} {s0 : Int32} {s1 : Nat} {s2 : Int32} {s3 : Int32} {s4 : Int32}  (hk18 : ∀ (a3 : Int32) (M : q_Mem), q_V Y_L_law (some (L, xs)) (fun x : Int32 × q_Mem => (some (.int x.1), x.2)) 131 39214 18 [(0, .float 0), (1, .ref a1), (2, .ref a2), (3, .int a3)] [] M (kk18 a3 M)): q_V Y_L_law (some (L, xs)) (fun x : Int32 × q_Mem => (some (.int x.1), x.2)) 131 39214 384 [(0, .float 0), (1, .ref a1), (2, .ref a2), (3, .int a3)] [.int s4, .int s3, .int s2, .ref s1, .int s0] M (f_L_law_b384 L xs kk18 M a1 a2 a3 s0 s1 s2 s3 s4) := by
  unfold f_L_law_b384
  refine q_cVMI (Y2 := Y_X12_change) (As := [.int s2, .int s3, .int s4]) (b := s1) (st := [.int s0]) cl_X12 mv_X12_change qw_1221 dL_law_384 ⟨Nat.le_of_ble_eq_true rfl, Nat.le_of_ble_eq_true rfl⟩ rfl (fun _ _ => rfl) (Nat.le_of_ble_eq_true rfl) ⟨Nat.le_of_ble_eq_true rfl, Nat.le_of_ble_eq_true rfl⟩ (fun r611 h610 => q_ob_is h610) (fun r611 h610 => m_X12_change h610) (fun r611 h610 => ?_)
  refine q_icmp_eq (tgt := 2161) dL_law_387 (by decide) (fun c612 => ?_) (fun c612 => ?_)
  · refine q_iinc 3 (y := (a3 + (6 : Int32))) (ls' := [(3, .int (a3 + (6 : Int32))), (0, .float 0), (1, .ref a1), (2, .ref a2)]) dL_law_2161 rfl rfl (by decide) rfl ?_
    refine q_goto (tgt := 18) dL_law_2164 (by decide) ?_
    refine q_sub (ls' := [(0, .float 0), (1, .ref a1), (2, .ref a2), (3, .int (a3 + (6 : Int32)))]) [1, 2, 3, 0] rfl ?_
    exact hk18 _ _
  · refine q_iconst (x := (0 : Int32)) dL_law_390 rfl ?_
    exact q_zretL dL_law_391 rfl (Or.inl rfl) rfl (Nat.le_of_ble_eq_true rfl) rfl
set_option maxRecDepth 20000 in
theorem v_L_law_b357 {L : Nat} {xs : Nat → Int32} {kk18 : Int32 → q_Mem → Option (Int32 × q_Mem)} {M : q_Mem} {a1 : Nat} {a2 : Nat} {a3 : Int32} {s0 : Nat} {s1 : Int32} {s2 : Int32} {s3 : Int32}  (hk18 : ∀ (a3 : Int32) (M : q_Mem), q_V Y_L_law (some (L, xs)) (fun x : Int32 × q_Mem => (some (.int x.1), x.2)) 131 39214 18 [(0, .float 0), (1, .ref a1), (2, .ref a2), (3, .int a3)] [] M (kk18 a3 M)): q_V Y_L_law (some (L, xs)) (fun x : Int32 × q_Mem => (some (.int x.1), x.2)) 131 39214 357 [(0, .float 0), (1, .ref a1), (2, .ref a2), (3, .int a3)] [.int s3, .int s2, .int s1, .ref s0] M (f_L_law_b357 L xs kk18 M a1 a2 a3 s0 s1 s2 s3) := by
  unfold f_L_law_b357
  refine q_cVMI (Y2 := Y_X11_change) (As := [.int s1, .int s2, .int s3]) (b := s0) (st := []) cl_X11 mv_X11_change qw_416 dL_law_357 ⟨Nat.le_of_ble_eq_true rfl, Nat.le_of_ble_eq_true rfl⟩ rfl (fun _ _ => rfl) (Nat.le_of_ble_eq_true rfl) ⟨Nat.le_of_ble_eq_true rfl, Nat.le_of_ble_eq_true rfl⟩ (fun r591 h590 => q_ob_is h590) (fun r591 h590 => m_X11_change h590) (fun r591 h590 => ?_)
  refine q_aload_n 2 dL_law_360 rfl ?_
  refine q_aload_s 0 dL_law_361 rfl ?_
  refine q_iload_n 3 dL_law_362 rfl ?_
  refine q_iconst (x := (1 : Int32)) dL_law_363 rfl ?_
  refine q_iadd dL_law_364 ?_
  refine q_sld rfl dL_law_365 (fun h592 => ?_)
  refine q_aload_s 0 dL_law_366 rfl ?_
  refine q_iload_n 3 dL_law_367 rfl ?_
  refine q_iconst (x := (2 : Int32)) dL_law_368 rfl ?_
  refine q_iadd dL_law_369 ?_
  refine q_sld rfl dL_law_370 (fun h593 => ?_)
  refine q_aload_s 0 dL_law_371 rfl ?_
  refine q_iload_n 3 dL_law_372 rfl ?_
  refine q_iconst (x := (3 : Int32)) dL_law_373 rfl ?_
  refine q_iadd dL_law_374 ?_
  refine q_sld rfl dL_law_375 (fun h594 => ?_)
  refine q_if_eq (tgt := 383) dL_law_376 (by decide) (fun c595 => ?_) (fun c595 => ?_)
  · refine q_iconst (x := (0 : Int32)) dL_law_383 rfl ?_
    exact v_L_law_b384 (hk18)
  · refine q_iconst (x := (1 : Int32)) dL_law_379 rfl ?_
    refine q_goto (tgt := 384) dL_law_380 (by decide) ?_
    exact v_L_law_b384 (hk18)
set_option maxRecDepth 20000 in
theorem v_L_law_b325 {L : Nat} {xs : Nat → Int32} {kk18 : Int32 → q_Mem → Option (Int32 × q_Mem)} {M : q_Mem} {a1 : Nat} {a2 : Nat} {a3 : Int32} {s0 : Int32} {s1 : Nat} {s2 : Int32} {s3 : Int32} {s4 : Int32} {s5 : Int32}  (hk18 : ∀ (a3 : Int32) (M : q_Mem), q_V Y_L_law (some (L, xs)) (fun x : Int32 × q_Mem => (some (.int x.1), x.2)) 131 39214 18 [(0, .float 0), (1, .ref a1), (2, .ref a2), (3, .int a3)] [] M (kk18 a3 M)): q_V Y_L_law (some (L, xs)) (fun x : Int32 × q_Mem => (some (.int x.1), x.2)) 131 39214 325 [(0, .float 0), (1, .ref a1), (2, .ref a2), (3, .int a3)] [.int s5, .int s4, .int s3, .int s2, .ref s1, .int s0] M (f_L_law_b325 L xs kk18 M a1 a2 a3 s0 s1 s2 s3 s4 s5) := by
  unfold f_L_law_b325
  refine q_cVMI (Y2 := Y_X12_farm) (As := [.int s2, .int s3, .int s4, .int s5]) (b := s1) (st := [.int s0]) cl_X12 mv_X12_farm qw_1210 dL_law_325 ⟨Nat.le_of_ble_eq_true rfl, Nat.le_of_ble_eq_true rfl⟩ rfl (fun _ _ => rfl) (Nat.le_of_ble_eq_true rfl) ⟨Nat.le_of_ble_eq_true rfl, Nat.le_of_ble_eq_true rfl⟩ (fun r608 h607 => q_ob_is h607) (fun r608 h607 => m_X12_farm h607) (fun r608 h607 => ?_)
  refine q_icmp_eq (tgt := 2161) dL_law_328 (by decide) (fun c609 => ?_) (fun c609 => ?_)
  · refine q_iinc 3 (y := (a3 + (6 : Int32))) (ls' := [(3, .int (a3 + (6 : Int32))), (0, .float 0), (1, .ref a1), (2, .ref a2)]) dL_law_2161 rfl rfl (by decide) rfl ?_
    refine q_goto (tgt := 18) dL_law_2164 (by decide) ?_
    refine q_sub (ls' := [(0, .float 0), (1, .ref a1), (2, .ref a2), (3, .int (a3 + (6 : Int32)))]) [1, 2, 3, 0] rfl ?_
    exact hk18 _ _
  · refine q_iconst (x := (0 : Int32)) dL_law_331 rfl ?_
    exact q_zretL dL_law_332 rfl (Or.inl rfl) rfl (Nat.le_of_ble_eq_true rfl) rfl
set_option maxRecDepth 20000 in
theorem v_L_law_b293 {L : Nat} {xs : Nat → Int32} {kk18 : Int32 → q_Mem → Option (Int32 × q_Mem)} {M : q_Mem} {a1 : Nat} {a2 : Nat} {a3 : Int32} {s0 : Nat} {s1 : Int32} {s2 : Int32} {s3 : Int32} {s4 : Int32}  (hk18 : ∀ (a3 : Int32) (M : q_Mem), q_V Y_L_law (some (L, xs)) (fun x : Int32 × q_Mem => (some (.int x.1), x.2)) 131 39214 18 [(0, .float 0), (1, .ref a1), (2, .ref a2), (3, .int a3)] [] M (kk18 a3 M)): q_V Y_L_law (some (L, xs)) (fun x : Int32 × q_Mem => (some (.int x.1), x.2)) 131 39214 293 [(0, .float 0), (1, .ref a1), (2, .ref a2), (3, .int a3)] [.int s4, .int s3, .int s2, .int s1, .ref s0] M (f_L_law_b293 L xs kk18 M a1 a2 a3 s0 s1 s2 s3 s4) := by
  unfold f_L_law_b293
  refine q_cVMI (Y2 := Y_X11_farm) (As := [.int s1, .int s2, .int s3, .int s4]) (b := s0) (st := []) cl_X11 mv_X11_farm qw_401 dL_law_293 ⟨Nat.le_of_ble_eq_true rfl, Nat.le_of_ble_eq_true rfl⟩ rfl (fun _ _ => rfl) (Nat.le_of_ble_eq_true rfl) ⟨Nat.le_of_ble_eq_true rfl, Nat.le_of_ble_eq_true rfl⟩ (fun r584 h583 => q_ob_is h583) (fun r584 h583 => m_X11_farm h583) (fun r584 h583 => ?_)
  refine q_aload_n 2 dL_law_296 rfl ?_
  refine q_aload_s 0 dL_law_297 rfl ?_
  refine q_iload_n 3 dL_law_298 rfl ?_
  refine q_iconst (x := (1 : Int32)) dL_law_299 rfl ?_
  refine q_iadd dL_law_300 ?_
  refine q_sld rfl dL_law_301 (fun h585 => ?_)
  refine q_aload_s 0 dL_law_302 rfl ?_
  refine q_iload_n 3 dL_law_303 rfl ?_
  refine q_iconst (x := (2 : Int32)) dL_law_304 rfl ?_
  refine q_iadd dL_law_305 ?_
  refine q_sld rfl dL_law_306 (fun h586 => ?_)
  refine q_aload_s 0 dL_law_307 rfl ?_
  refine q_iload_n 3 dL_law_308 rfl ?_
  refine q_iconst (x := (3 : Int32)) dL_law_309 rfl ?_
  refine q_iadd dL_law_310 ?_
  refine q_sld rfl dL_law_311 (fun h587 => ?_)
  refine q_aload_s 0 dL_law_312 rfl ?_
  refine q_iload_n 3 dL_law_313 rfl ?_
  refine q_iconst (x := (4 : Int32)) dL_law_314 rfl ?_
  refine q_iadd dL_law_315 ?_
  refine q_sld rfl dL_law_316 (fun h588 => ?_)
  refine q_if_eq (tgt := 324) dL_law_317 (by decide) (fun c589 => ?_) (fun c589 => ?_)
  · refine q_iconst (x := (0 : Int32)) dL_law_324 rfl ?_
    exact v_L_law_b325 (hk18)
  · refine q_iconst (x := (1 : Int32)) dL_law_320 rfl ?_
    refine q_goto (tgt := 325) dL_law_321 (by decide) ?_
    exact v_L_law_b325 (hk18)
set_option maxRecDepth 20000 in
theorem v_L_law_b18 {L : Nat} {xs : Nat → Int32} {a1 : Nat} {a2 : Nat}  : ∀ (n : Nat) (a3 : Int32) (M : q_Mem), q_V Y_L_law (some (L, xs)) (fun x : Int32 × q_Mem => (some (.int x.1), x.2)) 131 39214 18 [(0, .float 0), (1, .ref a1), (2, .ref a2), (3, .int a3)] [] M (f_L_law_b18 L xs a1 a2 n a3 M) := by
  intro n
  induction n with
  | zero => intro a3 M; exact q_none
  | succ n ih =>
    intro a3 M
    rw [f_L_law_b18.eq_2]
    refine q_iload_n 3 dL_law_18 rfl ?_
    refine q_aload_s 0 dL_law_19 rfl ?_
    refine q_slen rfl dL_law_20 ?_
    refine q_bipush (x := (6 : Int32)) dL_law_21 rfl ?_
    refine q_isub dL_law_23 ?_
    refine q_icmp_gt (tgt := 2167) dL_law_24 (by decide) (fun c582 => ?_) (fun c582 => ?_)
    · refine q_iconst (x := (1 : Int32)) dL_law_2167 rfl ?_
      exact q_zretL dL_law_2168 rfl (Or.inr rfl) rfl (Nat.le_of_ble_eq_true rfl) rfl
    · refine q_aload_s 0 dL_law_27 rfl ?_
      refine q_iload_n 3 dL_law_28 rfl ?_
      refine q_sld rfl dL_law_29 (fun h5 => ?_)
      refine q_bipush (x := (63 : Int32)) dL_law_30 rfl ?_
      refine q_iand dL_law_32 ?_
      refine q_ifV (fun c6 => ?_) (fun c6 => ?_)
      · refine q_tabOut (tgt := 2161) dL_law_33 (Or.inl (q_lt c6 rfl)) (by decide) ?_
        refine q_iinc 3 (y := (a3 + (6 : Int32))) (ls' := [(3, .int (a3 + (6 : Int32))), (0, .float 0), (1, .ref a1), (2, .ref a2)]) dL_law_2161 rfl rfl (by decide) rfl ?_
        refine q_goto (tgt := 18) dL_law_2164 (by decide) ?_
        refine q_sub (ls' := [(0, .float 0), (1, .ref a1), (2, .ref a2), (3, .int (a3 + (6 : Int32)))]) [1, 2, 3, 0] rfl ?_
        exact ih _ _
      · have b7 := q_nlt (b := 0) c6 rfl
        refine q_ifV (fun c13 => ?_) (fun c13 => ?_)
        · refine q_tabIn (tgt := 264) 0 dL_law_33 c13 (by decide) (by decide) rfl (by decide) ?_
          refine q_aload_n 1 dL_law_264 rfl ?_
          refine q_aload_s 0 dL_law_265 rfl ?_
          refine q_iload_n 3 dL_law_266 rfl ?_
          refine q_iconst (x := (1 : Int32)) dL_law_267 rfl ?_
          refine q_iadd dL_law_268 ?_
          refine q_sld rfl dL_law_269 (fun h8 => ?_)
          refine q_aload_s 0 dL_law_270 rfl ?_
          refine q_iload_n 3 dL_law_271 rfl ?_
          refine q_iconst (x := (2 : Int32)) dL_law_272 rfl ?_
          refine q_iadd dL_law_273 ?_
          refine q_sld rfl dL_law_274 (fun h9 => ?_)
          refine q_aload_s 0 dL_law_275 rfl ?_
          refine q_iload_n 3 dL_law_276 rfl ?_
          refine q_iconst (x := (3 : Int32)) dL_law_277 rfl ?_
          refine q_iadd dL_law_278 ?_
          refine q_sld rfl dL_law_279 (fun h10 => ?_)
          refine q_aload_s 0 dL_law_280 rfl ?_
          refine q_iload_n 3 dL_law_281 rfl ?_
          refine q_iconst (x := (4 : Int32)) dL_law_282 rfl ?_
          refine q_iadd dL_law_283 ?_
          refine q_sld rfl dL_law_284 (fun h11 => ?_)
          refine q_if_eq (tgt := 292) dL_law_285 (by decide) (fun c12 => ?_) (fun c12 => ?_)
          · refine q_iconst (x := (0 : Int32)) dL_law_292 rfl ?_
            exact v_L_law_b293 (ih)
          · refine q_iconst (x := (1 : Int32)) dL_law_288 rfl ?_
            refine q_goto (tgt := 293) dL_law_289 (by decide) ?_
            exact v_L_law_b293 (ih)
        · have b14 := q_step (c := 1) b7 c13 rfl (by decide)
          refine q_ifV (fun c19 => ?_) (fun c19 => ?_)
          · refine q_tabIn (tgt := 333) 1 dL_law_33 c19 (by decide) (by decide) rfl (by decide) ?_
            refine q_aload_n 1 dL_law_333 rfl ?_
            refine q_aload_s 0 dL_law_334 rfl ?_
            refine q_iload_n 3 dL_law_335 rfl ?_
            refine q_iconst (x := (1 : Int32)) dL_law_336 rfl ?_
            refine q_iadd dL_law_337 ?_
            refine q_sld rfl dL_law_338 (fun h15 => ?_)
            refine q_aload_s 0 dL_law_339 rfl ?_
            refine q_iload_n 3 dL_law_340 rfl ?_
            refine q_iconst (x := (2 : Int32)) dL_law_341 rfl ?_
            refine q_iadd dL_law_342 ?_
            refine q_sld rfl dL_law_343 (fun h16 => ?_)
            refine q_aload_s 0 dL_law_344 rfl ?_
            refine q_iload_n 3 dL_law_345 rfl ?_
            refine q_iconst (x := (3 : Int32)) dL_law_346 rfl ?_
            refine q_iadd dL_law_347 ?_
            refine q_sld rfl dL_law_348 (fun h17 => ?_)
            refine q_if_eq (tgt := 356) dL_law_349 (by decide) (fun c18 => ?_) (fun c18 => ?_)
            · refine q_iconst (x := (0 : Int32)) dL_law_356 rfl ?_
              exact v_L_law_b357 (ih)
            · refine q_iconst (x := (1 : Int32)) dL_law_352 rfl ?_
              refine q_goto (tgt := 357) dL_law_353 (by decide) ?_
              exact v_L_law_b357 (ih)
          · have b20 := q_step (c := 2) b14 c19 rfl (by decide)
            refine q_ifV (fun c32 => ?_) (fun c32 => ?_)
            · refine q_tabIn (tgt := 392) 2 dL_law_33 c32 (by decide) (by decide) rfl (by decide) ?_
              refine q_aload_n 1 dL_law_392 rfl ?_
              refine q_aload_s 0 dL_law_393 rfl ?_
              refine q_iload_n 3 dL_law_394 rfl ?_
              refine q_iconst (x := (1 : Int32)) dL_law_395 rfl ?_
              refine q_iadd dL_law_396 ?_
              refine q_sld rfl dL_law_397 (fun h21 => ?_)
              refine q_aload_s 0 dL_law_398 rfl ?_
              refine q_iload_n 3 dL_law_399 rfl ?_
              refine q_iconst (x := (2 : Int32)) dL_law_400 rfl ?_
              refine q_iadd dL_law_401 ?_
              refine q_sld rfl dL_law_402 (fun h22 => ?_)
              refine q_aload_s 0 dL_law_403 rfl ?_
              refine q_iload_n 3 dL_law_404 rfl ?_
              refine q_iconst (x := (3 : Int32)) dL_law_405 rfl ?_
              refine q_iadd dL_law_406 ?_
              refine q_sld rfl dL_law_407 (fun h23 => ?_)
              refine q_cVMI (Y2 := Y_X11_can) (As := [.int (xs (a3 + (1 : Int32)).toNatClampNeg), .int (xs (a3 + (2 : Int32)).toNatClampNeg), .int (xs (a3 + (3 : Int32)).toNatClampNeg)]) (b := a1) (st := []) cl_X11 mv_X11_can qw_424 dL_law_408 ⟨Nat.le_of_ble_eq_true rfl, Nat.le_of_ble_eq_true rfl⟩ rfl (fun _ _ => rfl) (Nat.le_of_ble_eq_true rfl) ⟨Nat.le_of_ble_eq_true rfl, Nat.le_of_ble_eq_true rfl⟩ (fun r25 h24 => q_ob_is h24) (fun r25 h24 => m_X11_can h24) (fun r25 h24 => ?_)
              refine q_aload_n 2 dL_law_411 rfl ?_
              refine q_aload_s 0 dL_law_412 rfl ?_
              refine q_iload_n 3 dL_law_413 rfl ?_
              refine q_iconst (x := (1 : Int32)) dL_law_414 rfl ?_
              refine q_iadd dL_law_415 ?_
              refine q_sld rfl dL_law_416 (fun h26 => ?_)
              refine q_aload_s 0 dL_law_417 rfl ?_
              refine q_iload_n 3 dL_law_418 rfl ?_
              refine q_iconst (x := (2 : Int32)) dL_law_419 rfl ?_
              refine q_iadd dL_law_420 ?_
              refine q_sld rfl dL_law_421 (fun h27 => ?_)
              refine q_aload_s 0 dL_law_422 rfl ?_
              refine q_iload_n 3 dL_law_423 rfl ?_
              refine q_iconst (x := (3 : Int32)) dL_law_424 rfl ?_
              refine q_iadd dL_law_425 ?_
              refine q_sld rfl dL_law_426 (fun h28 => ?_)
              refine q_cVMI (Y2 := Y_X12_can) (As := [.int (xs (a3 + (1 : Int32)).toNatClampNeg), .int (xs (a3 + (2 : Int32)).toNatClampNeg), .int (xs (a3 + (3 : Int32)).toNatClampNeg)]) (b := a2) (st := [.int r25.1]) cl_X12 mv_X12_can qw_1229 dL_law_427 ⟨Nat.le_of_ble_eq_true rfl, Nat.le_of_ble_eq_true rfl⟩ rfl (fun _ _ => rfl) (Nat.le_of_ble_eq_true rfl) ⟨Nat.le_of_ble_eq_true rfl, Nat.le_of_ble_eq_true rfl⟩ (fun r30 h29 => q_ob_is h29) (fun r30 h29 => m_X12_can h29) (fun r30 h29 => ?_)
              refine q_icmp_eq (tgt := 2161) dL_law_430 (by decide) (fun c31 => ?_) (fun c31 => ?_)
              · refine q_iinc 3 (y := (a3 + (6 : Int32))) (ls' := [(3, .int (a3 + (6 : Int32))), (0, .float 0), (1, .ref a1), (2, .ref a2)]) dL_law_2161 rfl rfl (by decide) rfl ?_
                refine q_goto (tgt := 18) dL_law_2164 (by decide) ?_
                refine q_sub (ls' := [(0, .float 0), (1, .ref a1), (2, .ref a2), (3, .int (a3 + (6 : Int32)))]) [1, 2, 3, 0] rfl ?_
                exact ih _ _
              · refine q_iconst (x := (0 : Int32)) dL_law_433 rfl ?_
                exact q_zretL dL_law_434 rfl (Or.inl rfl) rfl (Nat.le_of_ble_eq_true rfl) rfl
            · have b33 := q_step (c := 3) b20 c32 rfl (by decide)
              refine q_ifV (fun c49 => ?_) (fun c49 => ?_)
              · refine q_tabIn (tgt := 435) 3 dL_law_33 c49 (by decide) (by decide) rfl (by decide) ?_
                refine q_aload_n 1 dL_law_435 rfl ?_
                refine q_aload_s 0 dL_law_436 rfl ?_
                refine q_iload_n 3 dL_law_437 rfl ?_
                refine q_iconst (x := (1 : Int32)) dL_law_438 rfl ?_
                refine q_iadd dL_law_439 ?_
                refine q_sld rfl dL_law_440 (fun h34 => ?_)
                refine q_aload_s 0 dL_law_441 rfl ?_
                refine q_iload_n 3 dL_law_442 rfl ?_
                refine q_iconst (x := (2 : Int32)) dL_law_443 rfl ?_
                refine q_iadd dL_law_444 ?_
                refine q_sld rfl dL_law_445 (fun h35 => ?_)
                refine q_aload_s 0 dL_law_446 rfl ?_
                refine q_iload_n 3 dL_law_447 rfl ?_
                refine q_iconst (x := (3 : Int32)) dL_law_448 rfl ?_
                refine q_iadd dL_law_449 ?_
                refine q_sld rfl dL_law_450 (fun h36 => ?_)
                refine q_aload_s 0 dL_law_451 rfl ?_
                refine q_iload_n 3 dL_law_452 rfl ?_
                refine q_iconst (x := (4 : Int32)) dL_law_453 rfl ?_
                refine q_iadd dL_law_454 ?_
                refine q_sld rfl dL_law_455 (fun h37 => ?_)
                refine q_aload_s 0 dL_law_456 rfl ?_
                refine q_iload_n 3 dL_law_457 rfl ?_
                refine q_iconst (x := (5 : Int32)) dL_law_458 rfl ?_
                refine q_iadd dL_law_459 ?_
                refine q_sld rfl dL_law_460 (fun h38 => ?_)
                refine q_cVMI (Y2 := Y_X11_test) (As := [.int (xs (a3 + (1 : Int32)).toNatClampNeg), .int (xs (a3 + (2 : Int32)).toNatClampNeg), .int (xs (a3 + (3 : Int32)).toNatClampNeg), .int (xs (a3 + (4 : Int32)).toNatClampNeg), .int (xs (a3 + (5 : Int32)).toNatClampNeg)]) (b := a1) (st := []) cl_X11 mv_X11_test qw_431 dL_law_461 ⟨Nat.le_of_ble_eq_true rfl, Nat.le_of_ble_eq_true rfl⟩ rfl (fun _ _ => rfl) (Nat.le_of_ble_eq_true rfl) ⟨Nat.le_of_ble_eq_true rfl, Nat.le_of_ble_eq_true rfl⟩ (fun r40 h39 => q_ob_is h39) (fun r40 h39 => m_X11_test h39) (fun r40 h39 => ?_)
                refine q_aload_n 2 dL_law_464 rfl ?_
                refine q_aload_s 0 dL_law_465 rfl ?_
                refine q_iload_n 3 dL_law_466 rfl ?_
                refine q_iconst (x := (1 : Int32)) dL_law_467 rfl ?_
                refine q_iadd dL_law_468 ?_
                refine q_sld rfl dL_law_469 (fun h41 => ?_)
                refine q_aload_s 0 dL_law_470 rfl ?_
                refine q_iload_n 3 dL_law_471 rfl ?_
                refine q_iconst (x := (2 : Int32)) dL_law_472 rfl ?_
                refine q_iadd dL_law_473 ?_
                refine q_sld rfl dL_law_474 (fun h42 => ?_)
                refine q_aload_s 0 dL_law_475 rfl ?_
                refine q_iload_n 3 dL_law_476 rfl ?_
                refine q_iconst (x := (3 : Int32)) dL_law_477 rfl ?_
                refine q_iadd dL_law_478 ?_
                refine q_sld rfl dL_law_479 (fun h43 => ?_)
                refine q_aload_s 0 dL_law_480 rfl ?_
                refine q_iload_n 3 dL_law_481 rfl ?_
                refine q_iconst (x := (4 : Int32)) dL_law_482 rfl ?_
                refine q_iadd dL_law_483 ?_
                refine q_sld rfl dL_law_484 (fun h44 => ?_)
                refine q_aload_s 0 dL_law_485 rfl ?_
                refine q_iload_n 3 dL_law_486 rfl ?_
                refine q_iconst (x := (5 : Int32)) dL_law_487 rfl ?_
                refine q_iadd dL_law_488 ?_
                refine q_sld rfl dL_law_489 (fun h45 => ?_)
                refine q_cVMI (Y2 := Y_X12_test) (As := [.int (xs (a3 + (1 : Int32)).toNatClampNeg), .int (xs (a3 + (2 : Int32)).toNatClampNeg), .int (xs (a3 + (3 : Int32)).toNatClampNeg), .int (xs (a3 + (4 : Int32)).toNatClampNeg), .int (xs (a3 + (5 : Int32)).toNatClampNeg)]) (b := a2) (st := [.int r40.1]) cl_X12 mv_X12_test qw_1236 dL_law_490 ⟨Nat.le_of_ble_eq_true rfl, Nat.le_of_ble_eq_true rfl⟩ rfl (fun _ _ => rfl) (Nat.le_of_ble_eq_true rfl) ⟨Nat.le_of_ble_eq_true rfl, Nat.le_of_ble_eq_true rfl⟩ (fun r47 h46 => q_ob_is h46) (fun r47 h46 => m_X12_test h46) (fun r47 h46 => ?_)
                refine q_icmp_eq (tgt := 2161) dL_law_493 (by decide) (fun c48 => ?_) (fun c48 => ?_)
                · refine q_iinc 3 (y := (a3 + (6 : Int32))) (ls' := [(3, .int (a3 + (6 : Int32))), (0, .float 0), (1, .ref a1), (2, .ref a2)]) dL_law_2161 rfl rfl (by decide) rfl ?_
                  refine q_goto (tgt := 18) dL_law_2164 (by decide) ?_
                  refine q_sub (ls' := [(0, .float 0), (1, .ref a1), (2, .ref a2), (3, .int (a3 + (6 : Int32)))]) [1, 2, 3, 0] rfl ?_
                  exact ih _ _
                · refine q_iconst (x := (0 : Int32)) dL_law_496 rfl ?_
                  exact q_zretL dL_law_497 rfl (Or.inl rfl) rfl (Nat.le_of_ble_eq_true rfl) rfl
              · have b50 := q_step (c := 4) b33 c49 rfl (by decide)
                refine q_ifV (fun c62 => ?_) (fun c62 => ?_)
                · refine q_tabIn (tgt := 498) 4 dL_law_33 c62 (by decide) (by decide) rfl (by decide) ?_
                  refine q_aload_n 1 dL_law_498 rfl ?_
                  refine q_aload_s 0 dL_law_499 rfl ?_
                  refine q_iload_n 3 dL_law_500 rfl ?_
                  refine q_iconst (x := (1 : Int32)) dL_law_501 rfl ?_
                  refine q_iadd dL_law_502 ?_
                  refine q_sld rfl dL_law_503 (fun h51 => ?_)
                  refine q_aload_s 0 dL_law_504 rfl ?_
                  refine q_iload_n 3 dL_law_505 rfl ?_
                  refine q_iconst (x := (2 : Int32)) dL_law_506 rfl ?_
                  refine q_iadd dL_law_507 ?_
                  refine q_sld rfl dL_law_508 (fun h52 => ?_)
                  refine q_aload_s 0 dL_law_509 rfl ?_
                  refine q_iload_n 3 dL_law_510 rfl ?_
                  refine q_iconst (x := (3 : Int32)) dL_law_511 rfl ?_
                  refine q_iadd dL_law_512 ?_
                  refine q_sld rfl dL_law_513 (fun h53 => ?_)
                  refine q_cVMI (Y2 := Y_X11_right) (As := [.int (xs (a3 + (1 : Int32)).toNatClampNeg), .int (xs (a3 + (2 : Int32)).toNatClampNeg), .int (xs (a3 + (3 : Int32)).toNatClampNeg)]) (b := a1) (st := []) cl_X11 mv_X11_right qw_438 dL_law_514 ⟨Nat.le_of_ble_eq_true rfl, Nat.le_of_ble_eq_true rfl⟩ rfl (fun _ _ => rfl) (Nat.le_of_ble_eq_true rfl) ⟨Nat.le_of_ble_eq_true rfl, Nat.le_of_ble_eq_true rfl⟩ (fun r55 h54 => q_ob_is h54) (fun r55 h54 => m_X11_right h54) (fun r55 h54 => ?_)
                  refine q_aload_n 2 dL_law_517 rfl ?_
                  refine q_aload_s 0 dL_law_518 rfl ?_
                  refine q_iload_n 3 dL_law_519 rfl ?_
                  refine q_iconst (x := (1 : Int32)) dL_law_520 rfl ?_
                  refine q_iadd dL_law_521 ?_
                  refine q_sld rfl dL_law_522 (fun h56 => ?_)
                  refine q_aload_s 0 dL_law_523 rfl ?_
                  refine q_iload_n 3 dL_law_524 rfl ?_
                  refine q_iconst (x := (2 : Int32)) dL_law_525 rfl ?_
                  refine q_iadd dL_law_526 ?_
                  refine q_sld rfl dL_law_527 (fun h57 => ?_)
                  refine q_aload_s 0 dL_law_528 rfl ?_
                  refine q_iload_n 3 dL_law_529 rfl ?_
                  refine q_iconst (x := (3 : Int32)) dL_law_530 rfl ?_
                  refine q_iadd dL_law_531 ?_
                  refine q_sld rfl dL_law_532 (fun h58 => ?_)
                  refine q_cVMI (Y2 := Y_X12_right) (As := [.int (xs (a3 + (1 : Int32)).toNatClampNeg), .int (xs (a3 + (2 : Int32)).toNatClampNeg), .int (xs (a3 + (3 : Int32)).toNatClampNeg)]) (b := a2) (st := [.int r55.1]) cl_X12 mv_X12_right qw_1240 dL_law_533 ⟨Nat.le_of_ble_eq_true rfl, Nat.le_of_ble_eq_true rfl⟩ rfl (fun _ _ => rfl) (Nat.le_of_ble_eq_true rfl) ⟨Nat.le_of_ble_eq_true rfl, Nat.le_of_ble_eq_true rfl⟩ (fun r60 h59 => q_ob_is h59) (fun r60 h59 => m_X12_right h59) (fun r60 h59 => ?_)
                  refine q_icmp_eq (tgt := 2161) dL_law_536 (by decide) (fun c61 => ?_) (fun c61 => ?_)
                  · refine q_iinc 3 (y := (a3 + (6 : Int32))) (ls' := [(3, .int (a3 + (6 : Int32))), (0, .float 0), (1, .ref a1), (2, .ref a2)]) dL_law_2161 rfl rfl (by decide) rfl ?_
                    refine q_goto (tgt := 18) dL_law_2164 (by decide) ?_
                    refine q_sub (ls' := [(0, .float 0), (1, .ref a1), (2, .ref a2), (3, .int (a3 + (6 : Int32)))]) [1, 2, 3, 0] rfl ?_
                    exact ih _ _
                  · refine q_iconst (x := (0 : Int32)) dL_law_539 rfl ?_
                    exact q_zretL dL_law_540 rfl (Or.inl rfl) rfl (Nat.le_of_ble_eq_true rfl) rfl
                · have b63 := q_step (c := 5) b50 c62 rfl (by decide)
                  refine q_ifV (fun c73 => ?_) (fun c73 => ?_)
                  · refine q_tabIn (tgt := 541) 5 dL_law_33 c73 (by decide) (by decide) rfl (by decide) ?_
                    refine q_aload_n 1 dL_law_541 rfl ?_
                    refine q_aload_s 0 dL_law_542 rfl ?_
                    refine q_iload_n 3 dL_law_543 rfl ?_
                    refine q_iconst (x := (1 : Int32)) dL_law_544 rfl ?_
                    refine q_iadd dL_law_545 ?_
                    refine q_sld rfl dL_law_546 (fun h64 => ?_)
                    refine q_aload_s 0 dL_law_547 rfl ?_
                    refine q_iload_n 3 dL_law_548 rfl ?_
                    refine q_iconst (x := (2 : Int32)) dL_law_549 rfl ?_
                    refine q_iadd dL_law_550 ?_
                    refine q_sld rfl dL_law_551 (fun h65 => ?_)
                    refine q_cVMI (Y2 := Y_X11_bias) (As := [.int (xs (a3 + (1 : Int32)).toNatClampNeg), .int (xs (a3 + (2 : Int32)).toNatClampNeg)]) (b := a1) (st := []) cl_X11 mv_X11_bias qw_446 dL_law_552 ⟨Nat.le_of_ble_eq_true rfl, Nat.le_of_ble_eq_true rfl⟩ rfl (fun _ _ => rfl) (Nat.le_of_ble_eq_true rfl) ⟨Nat.le_of_ble_eq_true rfl, Nat.le_of_ble_eq_true rfl⟩ (fun r67 h66 => q_ob_is h66) (fun r67 h66 => m_X11_bias h66) (fun r67 h66 => ?_)
                    refine q_aload_n 2 dL_law_555 rfl ?_
                    refine q_aload_s 0 dL_law_556 rfl ?_
                    refine q_iload_n 3 dL_law_557 rfl ?_
                    refine q_iconst (x := (1 : Int32)) dL_law_558 rfl ?_
                    refine q_iadd dL_law_559 ?_
                    refine q_sld rfl dL_law_560 (fun h68 => ?_)
                    refine q_aload_s 0 dL_law_561 rfl ?_
                    refine q_iload_n 3 dL_law_562 rfl ?_
                    refine q_iconst (x := (2 : Int32)) dL_law_563 rfl ?_
                    refine q_iadd dL_law_564 ?_
                    refine q_sld rfl dL_law_565 (fun h69 => ?_)
                    refine q_cVMI (Y2 := Y_X12_bias) (As := [.int (xs (a3 + (1 : Int32)).toNatClampNeg), .int (xs (a3 + (2 : Int32)).toNatClampNeg)]) (b := a2) (st := [.int r67.1]) cl_X12 mv_X12_bias qw_1244 dL_law_566 ⟨Nat.le_of_ble_eq_true rfl, Nat.le_of_ble_eq_true rfl⟩ rfl (fun _ _ => rfl) (Nat.le_of_ble_eq_true rfl) ⟨Nat.le_of_ble_eq_true rfl, Nat.le_of_ble_eq_true rfl⟩ (fun r71 h70 => q_ob_is h70) (fun r71 h70 => m_X12_bias h70) (fun r71 h70 => ?_)
                    refine q_icmp_eq (tgt := 2161) dL_law_569 (by decide) (fun c72 => ?_) (fun c72 => ?_)
                    · refine q_iinc 3 (y := (a3 + (6 : Int32))) (ls' := [(3, .int (a3 + (6 : Int32))), (0, .float 0), (1, .ref a1), (2, .ref a2)]) dL_law_2161 rfl rfl (by decide) rfl ?_
                      refine q_goto (tgt := 18) dL_law_2164 (by decide) ?_
                      refine q_sub (ls' := [(0, .float 0), (1, .ref a1), (2, .ref a2), (3, .int (a3 + (6 : Int32)))]) [1, 2, 3, 0] rfl ?_
                      exact ih _ _
                    · refine q_iconst (x := (0 : Int32)) dL_law_572 rfl ?_
                      exact q_zretL dL_law_573 rfl (Or.inl rfl) rfl (Nat.le_of_ble_eq_true rfl) rfl
                  · have b74 := q_step (c := 6) b63 c73 rfl (by decide)
                    refine q_ifV (fun c82 => ?_) (fun c82 => ?_)
                    · refine q_tabIn (tgt := 574) 6 dL_law_33 c82 (by decide) (by decide) rfl (by decide) ?_
                      refine q_aload_n 1 dL_law_574 rfl ?_
                      refine q_aload_s 0 dL_law_575 rfl ?_
                      refine q_iload_n 3 dL_law_576 rfl ?_
                      refine q_iconst (x := (1 : Int32)) dL_law_577 rfl ?_
                      refine q_iadd dL_law_578 ?_
                      refine q_sld rfl dL_law_579 (fun h75 => ?_)
                      refine q_cVMI (Y2 := Y_X11_period) (As := [.int (xs (a3 + (1 : Int32)).toNatClampNeg)]) (b := a1) (st := []) cl_X11 mv_X11_period qw_450 dL_law_580 ⟨Nat.le_of_ble_eq_true rfl, Nat.le_of_ble_eq_true rfl⟩ rfl (fun _ _ => rfl) (Nat.le_of_ble_eq_true rfl) ⟨Nat.le_of_ble_eq_true rfl, Nat.le_of_ble_eq_true rfl⟩ (fun r77 h76 => q_ob_is h76) (fun r77 h76 => m_X11_period h76) (fun r77 h76 => ?_)
                      refine q_aload_n 2 dL_law_583 rfl ?_
                      refine q_aload_s 0 dL_law_584 rfl ?_
                      refine q_iload_n 3 dL_law_585 rfl ?_
                      refine q_iconst (x := (1 : Int32)) dL_law_586 rfl ?_
                      refine q_iadd dL_law_587 ?_
                      refine q_sld rfl dL_law_588 (fun h78 => ?_)
                      refine q_cVMI (Y2 := Y_X12_period) (As := [.int (xs (a3 + (1 : Int32)).toNatClampNeg)]) (b := a2) (st := [.int r77.1]) cl_X12 mv_X12_period qw_1248 dL_law_589 ⟨Nat.le_of_ble_eq_true rfl, Nat.le_of_ble_eq_true rfl⟩ rfl (fun _ _ => rfl) (Nat.le_of_ble_eq_true rfl) ⟨Nat.le_of_ble_eq_true rfl, Nat.le_of_ble_eq_true rfl⟩ (fun r80 h79 => q_ob_is h79) (fun r80 h79 => m_X12_period h79) (fun r80 h79 => ?_)
                      refine q_icmp_eq (tgt := 2161) dL_law_592 (by decide) (fun c81 => ?_) (fun c81 => ?_)
                      · refine q_iinc 3 (y := (a3 + (6 : Int32))) (ls' := [(3, .int (a3 + (6 : Int32))), (0, .float 0), (1, .ref a1), (2, .ref a2)]) dL_law_2161 rfl rfl (by decide) rfl ?_
                        refine q_goto (tgt := 18) dL_law_2164 (by decide) ?_
                        refine q_sub (ls' := [(0, .float 0), (1, .ref a1), (2, .ref a2), (3, .int (a3 + (6 : Int32)))]) [1, 2, 3, 0] rfl ?_
                        exact ih _ _
                      · refine q_iconst (x := (0 : Int32)) dL_law_595 rfl ?_
                        exact q_zretL dL_law_596 rfl (Or.inl rfl) rfl (Nat.le_of_ble_eq_true rfl) rfl
                    · have b83 := q_step (c := 7) b74 c82 rfl (by decide)
                      refine q_ifV (fun c93 => ?_) (fun c93 => ?_)
                      · refine q_tabIn (tgt := 597) 7 dL_law_33 c93 (by decide) (by decide) rfl (by decide) ?_
                        refine q_aload_n 1 dL_law_597 rfl ?_
                        refine q_aload_s 0 dL_law_598 rfl ?_
                        refine q_iload_n 3 dL_law_599 rfl ?_
                        refine q_iconst (x := (1 : Int32)) dL_law_600 rfl ?_
                        refine q_iadd dL_law_601 ?_
                        refine q_sld rfl dL_law_602 (fun h84 => ?_)
                        refine q_aload_s 0 dL_law_603 rfl ?_
                        refine q_iload_n 3 dL_law_604 rfl ?_
                        refine q_iconst (x := (2 : Int32)) dL_law_605 rfl ?_
                        refine q_iadd dL_law_606 ?_
                        refine q_sld rfl dL_law_607 (fun h85 => ?_)
                        refine q_cVI (Y2 := Y_X11_rate) (As := [.int (xs (a3 + (1 : Int32)).toNatClampNeg), .int (xs (a3 + (2 : Int32)).toNatClampNeg)]) (b := a1) (st := []) cl_X11 mv_X11_rate qw_454 dL_law_608 ⟨Nat.le_of_ble_eq_true rfl, Nat.le_of_ble_eq_true rfl⟩ rfl (fun _ _ => rfl) (Nat.le_of_ble_eq_true rfl) ⟨Nat.le_of_ble_eq_true rfl, Nat.le_of_ble_eq_true rfl⟩ (fun v87 h86 => q_ob_is h86) (fun v87 h86 => m_X11_rate h86) (fun v87 h86 => ?_)
                        refine q_aload_n 2 dL_law_611 rfl ?_
                        refine q_aload_s 0 dL_law_612 rfl ?_
                        refine q_iload_n 3 dL_law_613 rfl ?_
                        refine q_iconst (x := (1 : Int32)) dL_law_614 rfl ?_
                        refine q_iadd dL_law_615 ?_
                        refine q_sld rfl dL_law_616 (fun h88 => ?_)
                        refine q_aload_s 0 dL_law_617 rfl ?_
                        refine q_iload_n 3 dL_law_618 rfl ?_
                        refine q_iconst (x := (2 : Int32)) dL_law_619 rfl ?_
                        refine q_iadd dL_law_620 ?_
                        refine q_sld rfl dL_law_621 (fun h89 => ?_)
                        refine q_cVI (Y2 := Y_X12_rate) (As := [.int (xs (a3 + (1 : Int32)).toNatClampNeg), .int (xs (a3 + (2 : Int32)).toNatClampNeg)]) (b := a2) (st := [.int v87]) cl_X12 mv_X12_rate qw_1252 dL_law_622 ⟨Nat.le_of_ble_eq_true rfl, Nat.le_of_ble_eq_true rfl⟩ rfl (fun _ _ => rfl) (Nat.le_of_ble_eq_true rfl) ⟨Nat.le_of_ble_eq_true rfl, Nat.le_of_ble_eq_true rfl⟩ (fun v91 h90 => q_ob_is h90) (fun v91 h90 => m_X12_rate h90) (fun v91 h90 => ?_)
                        refine q_icmp_eq (tgt := 2161) dL_law_625 (by decide) (fun c92 => ?_) (fun c92 => ?_)
                        · refine q_iinc 3 (y := (a3 + (6 : Int32))) (ls' := [(3, .int (a3 + (6 : Int32))), (0, .float 0), (1, .ref a1), (2, .ref a2)]) dL_law_2161 rfl rfl (by decide) rfl ?_
                          refine q_goto (tgt := 18) dL_law_2164 (by decide) ?_
                          refine q_sub (ls' := [(0, .float 0), (1, .ref a1), (2, .ref a2), (3, .int (a3 + (6 : Int32)))]) [1, 2, 3, 0] rfl ?_
                          exact ih _ _
                        · refine q_iconst (x := (0 : Int32)) dL_law_628 rfl ?_
                          exact q_zretL dL_law_629 rfl (Or.inl rfl) rfl (Nat.le_of_ble_eq_true rfl) rfl
                      · have b94 := q_step (c := 8) b83 c93 rfl (by decide)
                        refine q_ifV (fun c104 => ?_) (fun c104 => ?_)
                        · refine q_tabIn (tgt := 630) 8 dL_law_33 c104 (by decide) (by decide) rfl (by decide) ?_
                          refine q_aload_n 1 dL_law_630 rfl ?_
                          refine q_aload_s 0 dL_law_631 rfl ?_
                          refine q_iload_n 3 dL_law_632 rfl ?_
                          refine q_iconst (x := (1 : Int32)) dL_law_633 rfl ?_
                          refine q_iadd dL_law_634 ?_
                          refine q_sld rfl dL_law_635 (fun h95 => ?_)
                          refine q_aload_s 0 dL_law_636 rfl ?_
                          refine q_iload_n 3 dL_law_637 rfl ?_
                          refine q_iconst (x := (2 : Int32)) dL_law_638 rfl ?_
                          refine q_iadd dL_law_639 ?_
                          refine q_sld rfl dL_law_640 (fun h96 => ?_)
                          refine q_cVMI (Y2 := Y_X11_canRate) (As := [.int (xs (a3 + (1 : Int32)).toNatClampNeg), .int (xs (a3 + (2 : Int32)).toNatClampNeg)]) (b := a1) (st := []) cl_X11 mv_X11_canRate qw_487 dL_law_641 ⟨Nat.le_of_ble_eq_true rfl, Nat.le_of_ble_eq_true rfl⟩ rfl (fun _ _ => rfl) (Nat.le_of_ble_eq_true rfl) ⟨Nat.le_of_ble_eq_true rfl, Nat.le_of_ble_eq_true rfl⟩ (fun r98 h97 => q_ob_is h97) (fun r98 h97 => m_X11_canRate h97) (fun r98 h97 => ?_)
                          refine q_aload_n 2 dL_law_644 rfl ?_
                          refine q_aload_s 0 dL_law_645 rfl ?_
                          refine q_iload_n 3 dL_law_646 rfl ?_
                          refine q_iconst (x := (1 : Int32)) dL_law_647 rfl ?_
                          refine q_iadd dL_law_648 ?_
                          refine q_sld rfl dL_law_649 (fun h99 => ?_)
                          refine q_aload_s 0 dL_law_650 rfl ?_
                          refine q_iload_n 3 dL_law_651 rfl ?_
                          refine q_iconst (x := (2 : Int32)) dL_law_652 rfl ?_
                          refine q_iadd dL_law_653 ?_
                          refine q_sld rfl dL_law_654 (fun h100 => ?_)
                          refine q_cVMI (Y2 := Y_X12_canRate) (As := [.int (xs (a3 + (1 : Int32)).toNatClampNeg), .int (xs (a3 + (2 : Int32)).toNatClampNeg)]) (b := a2) (st := [.int r98.1]) cl_X12 mv_X12_canRate qw_1276 dL_law_655 ⟨Nat.le_of_ble_eq_true rfl, Nat.le_of_ble_eq_true rfl⟩ rfl (fun _ _ => rfl) (Nat.le_of_ble_eq_true rfl) ⟨Nat.le_of_ble_eq_true rfl, Nat.le_of_ble_eq_true rfl⟩ (fun r102 h101 => q_ob_is h101) (fun r102 h101 => m_X12_canRate h101) (fun r102 h101 => ?_)
                          refine q_icmp_eq (tgt := 2161) dL_law_658 (by decide) (fun c103 => ?_) (fun c103 => ?_)
                          · refine q_iinc 3 (y := (a3 + (6 : Int32))) (ls' := [(3, .int (a3 + (6 : Int32))), (0, .float 0), (1, .ref a1), (2, .ref a2)]) dL_law_2161 rfl rfl (by decide) rfl ?_
                            refine q_goto (tgt := 18) dL_law_2164 (by decide) ?_
                            refine q_sub (ls' := [(0, .float 0), (1, .ref a1), (2, .ref a2), (3, .int (a3 + (6 : Int32)))]) [1, 2, 3, 0] rfl ?_
                            exact ih _ _
                          · refine q_iconst (x := (0 : Int32)) dL_law_661 rfl ?_
                            exact q_zretL dL_law_662 rfl (Or.inl rfl) rfl (Nat.le_of_ble_eq_true rfl) rfl
                        · have b105 := q_step (c := 9) b94 c104 rfl (by decide)
                          refine q_ifV (fun c117 => ?_) (fun c117 => ?_)
                          · refine q_tabIn (tgt := 663) 9 dL_law_33 c117 (by decide) (by decide) rfl (by decide) ?_
                            refine q_aload_n 1 dL_law_663 rfl ?_
                            refine q_aload_s 0 dL_law_664 rfl ?_
                            refine q_iload_n 3 dL_law_665 rfl ?_
                            refine q_iconst (x := (1 : Int32)) dL_law_666 rfl ?_
                            refine q_iadd dL_law_667 ?_
                            refine q_sld rfl dL_law_668 (fun h106 => ?_)
                            refine q_aload_s 0 dL_law_669 rfl ?_
                            refine q_iload_n 3 dL_law_670 rfl ?_
                            refine q_iconst (x := (2 : Int32)) dL_law_671 rfl ?_
                            refine q_iadd dL_law_672 ?_
                            refine q_sld rfl dL_law_673 (fun h107 => ?_)
                            refine q_aload_s 0 dL_law_674 rfl ?_
                            refine q_iload_n 3 dL_law_675 rfl ?_
                            refine q_iconst (x := (3 : Int32)) dL_law_676 rfl ?_
                            refine q_iadd dL_law_677 ?_
                            refine q_sld rfl dL_law_678 (fun h108 => ?_)
                            refine q_cVMJ (Y2 := Y_X11_fat) (As := [.int (xs (a3 + (1 : Int32)).toNatClampNeg), .int (xs (a3 + (2 : Int32)).toNatClampNeg), .int (xs (a3 + (3 : Int32)).toNatClampNeg)]) (b := a1) (st := []) cl_X11 mv_X11_fat qw_508 dL_law_679 ⟨Nat.le_of_ble_eq_true rfl, Nat.le_of_ble_eq_true rfl⟩ rfl (fun _ _ => rfl) (Nat.le_of_ble_eq_true rfl) ⟨Nat.le_of_ble_eq_true rfl, Nat.le_of_ble_eq_true rfl⟩ (fun r110 h109 => q_ob_is h109) (fun r110 h109 => m_X11_fat h109) (fun r110 h109 => ?_)
                            refine q_aload_n 2 dL_law_682 rfl ?_
                            refine q_aload_s 0 dL_law_683 rfl ?_
                            refine q_iload_n 3 dL_law_684 rfl ?_
                            refine q_iconst (x := (1 : Int32)) dL_law_685 rfl ?_
                            refine q_iadd dL_law_686 ?_
                            refine q_sld rfl dL_law_687 (fun h111 => ?_)
                            refine q_aload_s 0 dL_law_688 rfl ?_
                            refine q_iload_n 3 dL_law_689 rfl ?_
                            refine q_iconst (x := (2 : Int32)) dL_law_690 rfl ?_
                            refine q_iadd dL_law_691 ?_
                            refine q_sld rfl dL_law_692 (fun h112 => ?_)
                            refine q_aload_s 0 dL_law_693 rfl ?_
                            refine q_iload_n 3 dL_law_694 rfl ?_
                            refine q_iconst (x := (3 : Int32)) dL_law_695 rfl ?_
                            refine q_iadd dL_law_696 ?_
                            refine q_sld rfl dL_law_697 (fun h113 => ?_)
                            refine q_cVMJ (Y2 := Y_X12_fat) (As := [.int (xs (a3 + (1 : Int32)).toNatClampNeg), .int (xs (a3 + (2 : Int32)).toNatClampNeg), .int (xs (a3 + (3 : Int32)).toNatClampNeg)]) (b := a2) (st := [.long r110.1]) cl_X12 mv_X12_fat qw_1292 dL_law_698 ⟨Nat.le_of_ble_eq_true rfl, Nat.le_of_ble_eq_true rfl⟩ rfl (fun _ _ => rfl) (Nat.le_of_ble_eq_true rfl) ⟨Nat.le_of_ble_eq_true rfl, Nat.le_of_ble_eq_true rfl⟩ (fun r115 h114 => q_ob_is h114) (fun r115 h114 => m_X12_fat h114) (fun r115 h114 => ?_)
                            refine q_lcmp_eq (tgt := 2161) dL_law_701 dL_law_702 (by decide) (fun c116 => ?_) (fun c116 => ?_)
                            · refine q_iinc 3 (y := (a3 + (6 : Int32))) (ls' := [(3, .int (a3 + (6 : Int32))), (0, .float 0), (1, .ref a1), (2, .ref a2)]) dL_law_2161 rfl rfl (by decide) rfl ?_
                              refine q_goto (tgt := 18) dL_law_2164 (by decide) ?_
                              refine q_sub (ls' := [(0, .float 0), (1, .ref a1), (2, .ref a2), (3, .int (a3 + (6 : Int32)))]) [1, 2, 3, 0] rfl ?_
                              exact ih _ _
                            · refine q_iconst (x := (0 : Int32)) dL_law_705 rfl ?_
                              exact q_zretL dL_law_706 rfl (Or.inl rfl) rfl (Nat.le_of_ble_eq_true rfl) rfl
                          · have b118 := q_step (c := 10) b105 c117 rfl (by decide)
                            refine q_ifV (fun c128 => ?_) (fun c128 => ?_)
                            · refine q_tabIn (tgt := 707) 10 dL_law_33 c128 (by decide) (by decide) rfl (by decide) ?_
                              refine q_aload_n 1 dL_law_707 rfl ?_
                              refine q_aload_s 0 dL_law_708 rfl ?_
                              refine q_iload_n 3 dL_law_709 rfl ?_
                              refine q_iconst (x := (1 : Int32)) dL_law_710 rfl ?_
                              refine q_iadd dL_law_711 ?_
                              refine q_sld rfl dL_law_712 (fun h119 => ?_)
                              refine q_aload_s 0 dL_law_713 rfl ?_
                              refine q_iload_n 3 dL_law_714 rfl ?_
                              refine q_iconst (x := (2 : Int32)) dL_law_715 rfl ?_
                              refine q_iadd dL_law_716 ?_
                              refine q_sld rfl dL_law_717 (fun h120 => ?_)
                              refine q_cVMI (Y2 := Y_X11_churn) (As := [.int (xs (a3 + (1 : Int32)).toNatClampNeg), .int (xs (a3 + (2 : Int32)).toNatClampNeg)]) (b := a1) (st := []) cl_X11 mv_X11_churn qw_525 dL_law_718 ⟨Nat.le_of_ble_eq_true rfl, Nat.le_of_ble_eq_true rfl⟩ rfl (fun _ _ => rfl) (Nat.le_of_ble_eq_true rfl) ⟨Nat.le_of_ble_eq_true rfl, Nat.le_of_ble_eq_true rfl⟩ (fun r122 h121 => q_ob_is h121) (fun r122 h121 => m_X11_churn h121) (fun r122 h121 => ?_)
                              refine q_aload_n 2 dL_law_721 rfl ?_
                              refine q_aload_s 0 dL_law_722 rfl ?_
                              refine q_iload_n 3 dL_law_723 rfl ?_
                              refine q_iconst (x := (1 : Int32)) dL_law_724 rfl ?_
                              refine q_iadd dL_law_725 ?_
                              refine q_sld rfl dL_law_726 (fun h123 => ?_)
                              refine q_aload_s 0 dL_law_727 rfl ?_
                              refine q_iload_n 3 dL_law_728 rfl ?_
                              refine q_iconst (x := (2 : Int32)) dL_law_729 rfl ?_
                              refine q_iadd dL_law_730 ?_
                              refine q_sld rfl dL_law_731 (fun h124 => ?_)
                              refine q_cVMI (Y2 := Y_X12_churn) (As := [.int (xs (a3 + (1 : Int32)).toNatClampNeg), .int (xs (a3 + (2 : Int32)).toNatClampNeg)]) (b := a2) (st := [.int r122.1]) cl_X12 mv_X12_churn qw_1304 dL_law_732 ⟨Nat.le_of_ble_eq_true rfl, Nat.le_of_ble_eq_true rfl⟩ rfl (fun _ _ => rfl) (Nat.le_of_ble_eq_true rfl) ⟨Nat.le_of_ble_eq_true rfl, Nat.le_of_ble_eq_true rfl⟩ (fun r126 h125 => q_ob_is h125) (fun r126 h125 => m_X12_churn h125) (fun r126 h125 => ?_)
                              refine q_icmp_eq (tgt := 2161) dL_law_735 (by decide) (fun c127 => ?_) (fun c127 => ?_)
                              · refine q_iinc 3 (y := (a3 + (6 : Int32))) (ls' := [(3, .int (a3 + (6 : Int32))), (0, .float 0), (1, .ref a1), (2, .ref a2)]) dL_law_2161 rfl rfl (by decide) rfl ?_
                                refine q_goto (tgt := 18) dL_law_2164 (by decide) ?_
                                refine q_sub (ls' := [(0, .float 0), (1, .ref a1), (2, .ref a2), (3, .int (a3 + (6 : Int32)))]) [1, 2, 3, 0] rfl ?_
                                exact ih _ _
                              · refine q_iconst (x := (0 : Int32)) dL_law_738 rfl ?_
                                exact q_zretL dL_law_739 rfl (Or.inl rfl) rfl (Nat.le_of_ble_eq_true rfl) rfl
                            · have b129 := q_step (c := 11) b118 c128 rfl (by decide)
                              refine q_ifV (fun c139 => ?_) (fun c139 => ?_)
                              · refine q_tabIn (tgt := 740) 11 dL_law_33 c139 (by decide) (by decide) rfl (by decide) ?_
                                refine q_aload_n 1 dL_law_740 rfl ?_
                                refine q_aload_s 0 dL_law_741 rfl ?_
                                refine q_iload_n 3 dL_law_742 rfl ?_
                                refine q_iconst (x := (1 : Int32)) dL_law_743 rfl ?_
                                refine q_iadd dL_law_744 ?_
                                refine q_sld rfl dL_law_745 (fun h130 => ?_)
                                refine q_aload_s 0 dL_law_746 rfl ?_
                                refine q_iload_n 3 dL_law_747 rfl ?_
                                refine q_iconst (x := (2 : Int32)) dL_law_748 rfl ?_
                                refine q_iadd dL_law_749 ?_
                                refine q_sld rfl dL_law_750 (fun h131 => ?_)
                                refine q_cVMI (Y2 := Y_X11_fill) (As := [.int (xs (a3 + (1 : Int32)).toNatClampNeg), .int (xs (a3 + (2 : Int32)).toNatClampNeg)]) (b := a1) (st := []) cl_X11 mv_X11_fill qw_529 dL_law_751 ⟨Nat.le_of_ble_eq_true rfl, Nat.le_of_ble_eq_true rfl⟩ rfl (fun _ _ => rfl) (Nat.le_of_ble_eq_true rfl) ⟨Nat.le_of_ble_eq_true rfl, Nat.le_of_ble_eq_true rfl⟩ (fun r133 h132 => q_ob_is h132) (fun r133 h132 => m_X11_fill h132) (fun r133 h132 => ?_)
                                refine q_aload_n 2 dL_law_754 rfl ?_
                                refine q_aload_s 0 dL_law_755 rfl ?_
                                refine q_iload_n 3 dL_law_756 rfl ?_
                                refine q_iconst (x := (1 : Int32)) dL_law_757 rfl ?_
                                refine q_iadd dL_law_758 ?_
                                refine q_sld rfl dL_law_759 (fun h134 => ?_)
                                refine q_aload_s 0 dL_law_760 rfl ?_
                                refine q_iload_n 3 dL_law_761 rfl ?_
                                refine q_iconst (x := (2 : Int32)) dL_law_762 rfl ?_
                                refine q_iadd dL_law_763 ?_
                                refine q_sld rfl dL_law_764 (fun h135 => ?_)
                                refine q_cVMI (Y2 := Y_X12_fill) (As := [.int (xs (a3 + (1 : Int32)).toNatClampNeg), .int (xs (a3 + (2 : Int32)).toNatClampNeg)]) (b := a2) (st := [.int r133.1]) cl_X12 mv_X12_fill qw_1308 dL_law_765 ⟨Nat.le_of_ble_eq_true rfl, Nat.le_of_ble_eq_true rfl⟩ rfl (fun _ _ => rfl) (Nat.le_of_ble_eq_true rfl) ⟨Nat.le_of_ble_eq_true rfl, Nat.le_of_ble_eq_true rfl⟩ (fun r137 h136 => q_ob_is h136) (fun r137 h136 => m_X12_fill h136) (fun r137 h136 => ?_)
                                refine q_icmp_eq (tgt := 2161) dL_law_768 (by decide) (fun c138 => ?_) (fun c138 => ?_)
                                · refine q_iinc 3 (y := (a3 + (6 : Int32))) (ls' := [(3, .int (a3 + (6 : Int32))), (0, .float 0), (1, .ref a1), (2, .ref a2)]) dL_law_2161 rfl rfl (by decide) rfl ?_
                                  refine q_goto (tgt := 18) dL_law_2164 (by decide) ?_
                                  refine q_sub (ls' := [(0, .float 0), (1, .ref a1), (2, .ref a2), (3, .int (a3 + (6 : Int32)))]) [1, 2, 3, 0] rfl ?_
                                  exact ih _ _
                                · refine q_iconst (x := (0 : Int32)) dL_law_771 rfl ?_
                                  exact q_zretL dL_law_772 rfl (Or.inl rfl) rfl (Nat.le_of_ble_eq_true rfl) rfl
                              · have b140 := q_step (c := 12) b129 c139 rfl (by decide)
                                refine q_ifV (fun c152 => ?_) (fun c152 => ?_)
                                · refine q_tabIn (tgt := 773) 12 dL_law_33 c152 (by decide) (by decide) rfl (by decide) ?_
                                  refine q_aload_n 1 dL_law_773 rfl ?_
                                  refine q_aload_s 0 dL_law_774 rfl ?_
                                  refine q_iload_n 3 dL_law_775 rfl ?_
                                  refine q_iconst (x := (1 : Int32)) dL_law_776 rfl ?_
                                  refine q_iadd dL_law_777 ?_
                                  refine q_sld rfl dL_law_778 (fun h141 => ?_)
                                  refine q_aload_s 0 dL_law_779 rfl ?_
                                  refine q_iload_n 3 dL_law_780 rfl ?_
                                  refine q_iconst (x := (2 : Int32)) dL_law_781 rfl ?_
                                  refine q_iadd dL_law_782 ?_
                                  refine q_sld rfl dL_law_783 (fun h142 => ?_)
                                  refine q_aload_s 0 dL_law_784 rfl ?_
                                  refine q_iload_n 3 dL_law_785 rfl ?_
                                  refine q_iconst (x := (3 : Int32)) dL_law_786 rfl ?_
                                  refine q_iadd dL_law_787 ?_
                                  refine q_sld rfl dL_law_788 (fun h143 => ?_)
                                  refine q_cVMJ (Y2 := Y_X11_about) (As := [.int (xs (a3 + (1 : Int32)).toNatClampNeg), .int (xs (a3 + (2 : Int32)).toNatClampNeg), .int (xs (a3 + (3 : Int32)).toNatClampNeg)]) (b := a1) (st := []) cl_X11 mv_X11_about qw_533 dL_law_789 ⟨Nat.le_of_ble_eq_true rfl, Nat.le_of_ble_eq_true rfl⟩ rfl (fun _ _ => rfl) (Nat.le_of_ble_eq_true rfl) ⟨Nat.le_of_ble_eq_true rfl, Nat.le_of_ble_eq_true rfl⟩ (fun r145 h144 => q_ob_is h144) (fun r145 h144 => m_X11_about h144) (fun r145 h144 => ?_)
                                  refine q_aload_n 2 dL_law_792 rfl ?_
                                  refine q_aload_s 0 dL_law_793 rfl ?_
                                  refine q_iload_n 3 dL_law_794 rfl ?_
                                  refine q_iconst (x := (1 : Int32)) dL_law_795 rfl ?_
                                  refine q_iadd dL_law_796 ?_
                                  refine q_sld rfl dL_law_797 (fun h146 => ?_)
                                  refine q_aload_s 0 dL_law_798 rfl ?_
                                  refine q_iload_n 3 dL_law_799 rfl ?_
                                  refine q_iconst (x := (2 : Int32)) dL_law_800 rfl ?_
                                  refine q_iadd dL_law_801 ?_
                                  refine q_sld rfl dL_law_802 (fun h147 => ?_)
                                  refine q_aload_s 0 dL_law_803 rfl ?_
                                  refine q_iload_n 3 dL_law_804 rfl ?_
                                  refine q_iconst (x := (3 : Int32)) dL_law_805 rfl ?_
                                  refine q_iadd dL_law_806 ?_
                                  refine q_sld rfl dL_law_807 (fun h148 => ?_)
                                  refine q_cVMJ (Y2 := Y_X12_about) (As := [.int (xs (a3 + (1 : Int32)).toNatClampNeg), .int (xs (a3 + (2 : Int32)).toNatClampNeg), .int (xs (a3 + (3 : Int32)).toNatClampNeg)]) (b := a2) (st := [.long r145.1]) cl_X12 mv_X12_about qw_1312 dL_law_808 ⟨Nat.le_of_ble_eq_true rfl, Nat.le_of_ble_eq_true rfl⟩ rfl (fun _ _ => rfl) (Nat.le_of_ble_eq_true rfl) ⟨Nat.le_of_ble_eq_true rfl, Nat.le_of_ble_eq_true rfl⟩ (fun r150 h149 => q_ob_is h149) (fun r150 h149 => m_X12_about h149) (fun r150 h149 => ?_)
                                  refine q_lcmp_eq (tgt := 2161) dL_law_811 dL_law_812 (by decide) (fun c151 => ?_) (fun c151 => ?_)
                                  · refine q_iinc 3 (y := (a3 + (6 : Int32))) (ls' := [(3, .int (a3 + (6 : Int32))), (0, .float 0), (1, .ref a1), (2, .ref a2)]) dL_law_2161 rfl rfl (by decide) rfl ?_
                                    refine q_goto (tgt := 18) dL_law_2164 (by decide) ?_
                                    refine q_sub (ls' := [(0, .float 0), (1, .ref a1), (2, .ref a2), (3, .int (a3 + (6 : Int32)))]) [1, 2, 3, 0] rfl ?_
                                    exact ih _ _
                                  · refine q_iconst (x := (0 : Int32)) dL_law_815 rfl ?_
                                    exact q_zretL dL_law_816 rfl (Or.inl rfl) rfl (Nat.le_of_ble_eq_true rfl) rfl
                                · have b153 := q_step (c := 13) b140 c152 rfl (by decide)
                                  refine q_ifV (fun c163 => ?_) (fun c163 => ?_)
                                  · refine q_tabIn (tgt := 817) 13 dL_law_33 c163 (by decide) (by decide) rfl (by decide) ?_
                                    refine q_aload_n 1 dL_law_817 rfl ?_
                                    refine q_aload_s 0 dL_law_818 rfl ?_
                                    refine q_iload_n 3 dL_law_819 rfl ?_
                                    refine q_iconst (x := (1 : Int32)) dL_law_820 rfl ?_
                                    refine q_iadd dL_law_821 ?_
                                    refine q_sld rfl dL_law_822 (fun h154 => ?_)
                                    refine q_aload_s 0 dL_law_823 rfl ?_
                                    refine q_iload_n 3 dL_law_824 rfl ?_
                                    refine q_iconst (x := (2 : Int32)) dL_law_825 rfl ?_
                                    refine q_iadd dL_law_826 ?_
                                    refine q_sld rfl dL_law_827 (fun h155 => ?_)
                                    refine q_cVMI (Y2 := Y_X11_out) (As := [.int (xs (a3 + (1 : Int32)).toNatClampNeg), .int (xs (a3 + (2 : Int32)).toNatClampNeg)]) (b := a1) (st := []) cl_X11 mv_X11_out qw_580 dL_law_828 ⟨Nat.le_of_ble_eq_true rfl, Nat.le_of_ble_eq_true rfl⟩ rfl (fun _ _ => rfl) (Nat.le_of_ble_eq_true rfl) ⟨Nat.le_of_ble_eq_true rfl, Nat.le_of_ble_eq_true rfl⟩ (fun r157 h156 => q_ob_is h156) (fun r157 h156 => m_X11_out h156) (fun r157 h156 => ?_)
                                    refine q_aload_n 2 dL_law_831 rfl ?_
                                    refine q_aload_s 0 dL_law_832 rfl ?_
                                    refine q_iload_n 3 dL_law_833 rfl ?_
                                    refine q_iconst (x := (1 : Int32)) dL_law_834 rfl ?_
                                    refine q_iadd dL_law_835 ?_
                                    refine q_sld rfl dL_law_836 (fun h158 => ?_)
                                    refine q_aload_s 0 dL_law_837 rfl ?_
                                    refine q_iload_n 3 dL_law_838 rfl ?_
                                    refine q_iconst (x := (2 : Int32)) dL_law_839 rfl ?_
                                    refine q_iadd dL_law_840 ?_
                                    refine q_sld rfl dL_law_841 (fun h159 => ?_)
                                    refine q_cVMI (Y2 := Y_X12_out) (As := [.int (xs (a3 + (1 : Int32)).toNatClampNeg), .int (xs (a3 + (2 : Int32)).toNatClampNeg)]) (b := a2) (st := [.int r157.1]) cl_X12 mv_X12_out qw_1349 dL_law_842 ⟨Nat.le_of_ble_eq_true rfl, Nat.le_of_ble_eq_true rfl⟩ rfl (fun _ _ => rfl) (Nat.le_of_ble_eq_true rfl) ⟨Nat.le_of_ble_eq_true rfl, Nat.le_of_ble_eq_true rfl⟩ (fun r161 h160 => q_ob_is h160) (fun r161 h160 => m_X12_out h160) (fun r161 h160 => ?_)
                                    refine q_icmp_eq (tgt := 2161) dL_law_845 (by decide) (fun c162 => ?_) (fun c162 => ?_)
                                    · refine q_iinc 3 (y := (a3 + (6 : Int32))) (ls' := [(3, .int (a3 + (6 : Int32))), (0, .float 0), (1, .ref a1), (2, .ref a2)]) dL_law_2161 rfl rfl (by decide) rfl ?_
                                      refine q_goto (tgt := 18) dL_law_2164 (by decide) ?_
                                      refine q_sub (ls' := [(0, .float 0), (1, .ref a1), (2, .ref a2), (3, .int (a3 + (6 : Int32)))]) [1, 2, 3, 0] rfl ?_
                                      exact ih _ _
                                    · refine q_iconst (x := (0 : Int32)) dL_law_848 rfl ?_
                                      exact q_zretL dL_law_849 rfl (Or.inl rfl) rfl (Nat.le_of_ble_eq_true rfl) rfl
                                  · have b164 := q_step (c := 14) b153 c163 rfl (by decide)
                                    refine q_ifV (fun c172 => ?_) (fun c172 => ?_)
                                    · refine q_tabIn (tgt := 850) 14 dL_law_33 c172 (by decide) (by decide) rfl (by decide) ?_
                                      refine q_aload_n 1 dL_law_850 rfl ?_
                                      refine q_aload_s 0 dL_law_851 rfl ?_
                                      refine q_iload_n 3 dL_law_852 rfl ?_
                                      refine q_iconst (x := (1 : Int32)) dL_law_853 rfl ?_
                                      refine q_iadd dL_law_854 ?_
                                      refine q_sld rfl dL_law_855 (fun h165 => ?_)
                                      refine q_cVMI (Y2 := Y_X11_box) (As := [.int (xs (a3 + (1 : Int32)).toNatClampNeg)]) (b := a1) (st := []) cl_X11 mv_X11_box qw_585 dL_law_856 ⟨Nat.le_of_ble_eq_true rfl, Nat.le_of_ble_eq_true rfl⟩ rfl (fun _ _ => rfl) (Nat.le_of_ble_eq_true rfl) ⟨Nat.le_of_ble_eq_true rfl, Nat.le_of_ble_eq_true rfl⟩ (fun r167 h166 => q_ob_is h166) (fun r167 h166 => m_X11_box h166) (fun r167 h166 => ?_)
                                      refine q_aload_n 2 dL_law_859 rfl ?_
                                      refine q_aload_s 0 dL_law_860 rfl ?_
                                      refine q_iload_n 3 dL_law_861 rfl ?_
                                      refine q_iconst (x := (1 : Int32)) dL_law_862 rfl ?_
                                      refine q_iadd dL_law_863 ?_
                                      refine q_sld rfl dL_law_864 (fun h168 => ?_)
                                      refine q_cVMI (Y2 := Y_X12_box) (As := [.int (xs (a3 + (1 : Int32)).toNatClampNeg)]) (b := a2) (st := [.int r167.1]) cl_X12 mv_X12_box qw_1354 dL_law_865 ⟨Nat.le_of_ble_eq_true rfl, Nat.le_of_ble_eq_true rfl⟩ rfl (fun _ _ => rfl) (Nat.le_of_ble_eq_true rfl) ⟨Nat.le_of_ble_eq_true rfl, Nat.le_of_ble_eq_true rfl⟩ (fun r170 h169 => q_ob_is h169) (fun r170 h169 => m_X12_box h169) (fun r170 h169 => ?_)
                                      refine q_icmp_eq (tgt := 2161) dL_law_868 (by decide) (fun c171 => ?_) (fun c171 => ?_)
                                      · refine q_iinc 3 (y := (a3 + (6 : Int32))) (ls' := [(3, .int (a3 + (6 : Int32))), (0, .float 0), (1, .ref a1), (2, .ref a2)]) dL_law_2161 rfl rfl (by decide) rfl ?_
                                        refine q_goto (tgt := 18) dL_law_2164 (by decide) ?_
                                        refine q_sub (ls' := [(0, .float 0), (1, .ref a1), (2, .ref a2), (3, .int (a3 + (6 : Int32)))]) [1, 2, 3, 0] rfl ?_
                                        exact ih _ _
                                      · refine q_iconst (x := (0 : Int32)) dL_law_871 rfl ?_
                                        exact q_zretL dL_law_872 rfl (Or.inl rfl) rfl (Nat.le_of_ble_eq_true rfl) rfl
                                    · have b173 := q_step (c := 15) b164 c172 rfl (by decide)
                                      refine q_ifV (fun c185 => ?_) (fun c185 => ?_)
                                      · refine q_tabIn (tgt := 873) 15 dL_law_33 c185 (by decide) (by decide) rfl (by decide) ?_
                                        refine q_aload_n 1 dL_law_873 rfl ?_
                                        refine q_aload_s 0 dL_law_874 rfl ?_
                                        refine q_iload_n 3 dL_law_875 rfl ?_
                                        refine q_iconst (x := (1 : Int32)) dL_law_876 rfl ?_
                                        refine q_iadd dL_law_877 ?_
                                        refine q_sld rfl dL_law_878 (fun h174 => ?_)
                                        refine q_aload_s 0 dL_law_879 rfl ?_
                                        refine q_iload_n 3 dL_law_880 rfl ?_
                                        refine q_iconst (x := (2 : Int32)) dL_law_881 rfl ?_
                                        refine q_iadd dL_law_882 ?_
                                        refine q_sld rfl dL_law_883 (fun h175 => ?_)
                                        refine q_aload_s 0 dL_law_884 rfl ?_
                                        refine q_iload_n 3 dL_law_885 rfl ?_
                                        refine q_iconst (x := (3 : Int32)) dL_law_886 rfl ?_
                                        refine q_iadd dL_law_887 ?_
                                        refine q_sld rfl dL_law_888 (fun h176 => ?_)
                                        refine q_cVMI (Y2 := Y_X11_sell) (As := [.int (xs (a3 + (1 : Int32)).toNatClampNeg), .int (xs (a3 + (2 : Int32)).toNatClampNeg), .int (xs (a3 + (3 : Int32)).toNatClampNeg)]) (b := a1) (st := []) cl_X11 mv_X11_sell qw_589 dL_law_889 ⟨Nat.le_of_ble_eq_true rfl, Nat.le_of_ble_eq_true rfl⟩ rfl (fun _ _ => rfl) (Nat.le_of_ble_eq_true rfl) ⟨Nat.le_of_ble_eq_true rfl, Nat.le_of_ble_eq_true rfl⟩ (fun r178 h177 => q_ob_is h177) (fun r178 h177 => m_X11_sell h177) (fun r178 h177 => ?_)
                                        refine q_aload_n 2 dL_law_892 rfl ?_
                                        refine q_aload_s 0 dL_law_893 rfl ?_
                                        refine q_iload_n 3 dL_law_894 rfl ?_
                                        refine q_iconst (x := (1 : Int32)) dL_law_895 rfl ?_
                                        refine q_iadd dL_law_896 ?_
                                        refine q_sld rfl dL_law_897 (fun h179 => ?_)
                                        refine q_aload_s 0 dL_law_898 rfl ?_
                                        refine q_iload_n 3 dL_law_899 rfl ?_
                                        refine q_iconst (x := (2 : Int32)) dL_law_900 rfl ?_
                                        refine q_iadd dL_law_901 ?_
                                        refine q_sld rfl dL_law_902 (fun h180 => ?_)
                                        refine q_aload_s 0 dL_law_903 rfl ?_
                                        refine q_iload_n 3 dL_law_904 rfl ?_
                                        refine q_iconst (x := (3 : Int32)) dL_law_905 rfl ?_
                                        refine q_iadd dL_law_906 ?_
                                        refine q_sld rfl dL_law_907 (fun h181 => ?_)
                                        refine q_cVMI (Y2 := Y_X12_sell) (As := [.int (xs (a3 + (1 : Int32)).toNatClampNeg), .int (xs (a3 + (2 : Int32)).toNatClampNeg), .int (xs (a3 + (3 : Int32)).toNatClampNeg)]) (b := a2) (st := [.int r178.1]) cl_X12 mv_X12_sell qw_1358 dL_law_908 ⟨Nat.le_of_ble_eq_true rfl, Nat.le_of_ble_eq_true rfl⟩ rfl (fun _ _ => rfl) (Nat.le_of_ble_eq_true rfl) ⟨Nat.le_of_ble_eq_true rfl, Nat.le_of_ble_eq_true rfl⟩ (fun r183 h182 => q_ob_is h182) (fun r183 h182 => m_X12_sell h182) (fun r183 h182 => ?_)
                                        refine q_icmp_eq (tgt := 2161) dL_law_911 (by decide) (fun c184 => ?_) (fun c184 => ?_)
                                        · refine q_iinc 3 (y := (a3 + (6 : Int32))) (ls' := [(3, .int (a3 + (6 : Int32))), (0, .float 0), (1, .ref a1), (2, .ref a2)]) dL_law_2161 rfl rfl (by decide) rfl ?_
                                          refine q_goto (tgt := 18) dL_law_2164 (by decide) ?_
                                          refine q_sub (ls' := [(0, .float 0), (1, .ref a1), (2, .ref a2), (3, .int (a3 + (6 : Int32)))]) [1, 2, 3, 0] rfl ?_
                                          exact ih _ _
                                        · refine q_iconst (x := (0 : Int32)) dL_law_914 rfl ?_
                                          exact q_zretL dL_law_915 rfl (Or.inl rfl) rfl (Nat.le_of_ble_eq_true rfl) rfl
                                      · have b186 := q_step (c := 16) b173 c185 rfl (by decide)
                                        refine q_ifV (fun c198 => ?_) (fun c198 => ?_)
                                        · refine q_tabIn (tgt := 916) 16 dL_law_33 c198 (by decide) (by decide) rfl (by decide) ?_
                                          refine q_aload_n 1 dL_law_916 rfl ?_
                                          refine q_aload_s 0 dL_law_917 rfl ?_
                                          refine q_iload_n 3 dL_law_918 rfl ?_
                                          refine q_iconst (x := (1 : Int32)) dL_law_919 rfl ?_
                                          refine q_iadd dL_law_920 ?_
                                          refine q_sld rfl dL_law_921 (fun h187 => ?_)
                                          refine q_aload_s 0 dL_law_922 rfl ?_
                                          refine q_iload_n 3 dL_law_923 rfl ?_
                                          refine q_iconst (x := (2 : Int32)) dL_law_924 rfl ?_
                                          refine q_iadd dL_law_925 ?_
                                          refine q_sld rfl dL_law_926 (fun h188 => ?_)
                                          refine q_aload_s 0 dL_law_927 rfl ?_
                                          refine q_iload_n 3 dL_law_928 rfl ?_
                                          refine q_iconst (x := (3 : Int32)) dL_law_929 rfl ?_
                                          refine q_iadd dL_law_930 ?_
                                          refine q_sld rfl dL_law_931 (fun h189 => ?_)
                                          refine q_cVMI (Y2 := Y_X11_grade) (As := [.int (xs (a3 + (1 : Int32)).toNatClampNeg), .int (xs (a3 + (2 : Int32)).toNatClampNeg), .int (xs (a3 + (3 : Int32)).toNatClampNeg)]) (b := a1) (st := []) cl_X11 mv_X11_grade qw_594 dL_law_932 ⟨Nat.le_of_ble_eq_true rfl, Nat.le_of_ble_eq_true rfl⟩ rfl (fun _ _ => rfl) (Nat.le_of_ble_eq_true rfl) ⟨Nat.le_of_ble_eq_true rfl, Nat.le_of_ble_eq_true rfl⟩ (fun r191 h190 => q_ob_is h190) (fun r191 h190 => m_X11_grade h190) (fun r191 h190 => ?_)
                                          refine q_aload_n 2 dL_law_935 rfl ?_
                                          refine q_aload_s 0 dL_law_936 rfl ?_
                                          refine q_iload_n 3 dL_law_937 rfl ?_
                                          refine q_iconst (x := (1 : Int32)) dL_law_938 rfl ?_
                                          refine q_iadd dL_law_939 ?_
                                          refine q_sld rfl dL_law_940 (fun h192 => ?_)
                                          refine q_aload_s 0 dL_law_941 rfl ?_
                                          refine q_iload_n 3 dL_law_942 rfl ?_
                                          refine q_iconst (x := (2 : Int32)) dL_law_943 rfl ?_
                                          refine q_iadd dL_law_944 ?_
                                          refine q_sld rfl dL_law_945 (fun h193 => ?_)
                                          refine q_aload_s 0 dL_law_946 rfl ?_
                                          refine q_iload_n 3 dL_law_947 rfl ?_
                                          refine q_iconst (x := (3 : Int32)) dL_law_948 rfl ?_
                                          refine q_iadd dL_law_949 ?_
                                          refine q_sld rfl dL_law_950 (fun h194 => ?_)
                                          refine q_cVMI (Y2 := Y_X12_grade) (As := [.int (xs (a3 + (1 : Int32)).toNatClampNeg), .int (xs (a3 + (2 : Int32)).toNatClampNeg), .int (xs (a3 + (3 : Int32)).toNatClampNeg)]) (b := a2) (st := [.int r191.1]) cl_X12 mv_X12_grade qw_1363 dL_law_951 ⟨Nat.le_of_ble_eq_true rfl, Nat.le_of_ble_eq_true rfl⟩ rfl (fun _ _ => rfl) (Nat.le_of_ble_eq_true rfl) ⟨Nat.le_of_ble_eq_true rfl, Nat.le_of_ble_eq_true rfl⟩ (fun r196 h195 => q_ob_is h195) (fun r196 h195 => m_X12_grade h195) (fun r196 h195 => ?_)
                                          refine q_icmp_eq (tgt := 2161) dL_law_954 (by decide) (fun c197 => ?_) (fun c197 => ?_)
                                          · refine q_iinc 3 (y := (a3 + (6 : Int32))) (ls' := [(3, .int (a3 + (6 : Int32))), (0, .float 0), (1, .ref a1), (2, .ref a2)]) dL_law_2161 rfl rfl (by decide) rfl ?_
                                            refine q_goto (tgt := 18) dL_law_2164 (by decide) ?_
                                            refine q_sub (ls' := [(0, .float 0), (1, .ref a1), (2, .ref a2), (3, .int (a3 + (6 : Int32)))]) [1, 2, 3, 0] rfl ?_
                                            exact ih _ _
                                          · refine q_iconst (x := (0 : Int32)) dL_law_957 rfl ?_
                                            exact q_zretL dL_law_958 rfl (Or.inl rfl) rfl (Nat.le_of_ble_eq_true rfl) rfl
                                        · have b199 := q_step (c := 17) b186 c198 rfl (by decide)
                                          refine q_ifV (fun c205 => ?_) (fun c205 => ?_)
                                          · refine q_tabIn (tgt := 959) 17 dL_law_33 c205 (by decide) (by decide) rfl (by decide) ?_
                                            refine q_aload_n 1 dL_law_959 rfl ?_
                                            refine q_cVI (Y2 := Y_X11_lean) (As := []) (b := a1) (st := []) cl_X11 mv_X11_lean qw_598 dL_law_960 ⟨Nat.le_of_ble_eq_true rfl, Nat.le_of_ble_eq_true rfl⟩ rfl (fun _ _ => rfl) (Nat.le_of_ble_eq_true rfl) ⟨Nat.le_of_ble_eq_true rfl, Nat.le_of_ble_eq_true rfl⟩ (fun v201 h200 => q_ob_is h200) (fun v201 h200 => m_X11_lean h200) (fun v201 h200 => ?_)
                                            refine q_aload_n 2 dL_law_963 rfl ?_
                                            refine q_cVI (Y2 := Y_X12_lean) (As := []) (b := a2) (st := [.int v201]) cl_X12 mv_X12_lean qw_1367 dL_law_964 ⟨Nat.le_of_ble_eq_true rfl, Nat.le_of_ble_eq_true rfl⟩ rfl (fun _ _ => rfl) (Nat.le_of_ble_eq_true rfl) ⟨Nat.le_of_ble_eq_true rfl, Nat.le_of_ble_eq_true rfl⟩ (fun v203 h202 => q_ob_is h202) (fun v203 h202 => m_X12_lean h202) (fun v203 h202 => ?_)
                                            refine q_icmp_eq (tgt := 2161) dL_law_967 (by decide) (fun c204 => ?_) (fun c204 => ?_)
                                            · refine q_iinc 3 (y := (a3 + (6 : Int32))) (ls' := [(3, .int (a3 + (6 : Int32))), (0, .float 0), (1, .ref a1), (2, .ref a2)]) dL_law_2161 rfl rfl (by decide) rfl ?_
                                              refine q_goto (tgt := 18) dL_law_2164 (by decide) ?_
                                              refine q_sub (ls' := [(0, .float 0), (1, .ref a1), (2, .ref a2), (3, .int (a3 + (6 : Int32)))]) [1, 2, 3, 0] rfl ?_
                                              exact ih _ _
                                            · refine q_iconst (x := (0 : Int32)) dL_law_970 rfl ?_
                                              exact q_zretL dL_law_971 rfl (Or.inl rfl) rfl (Nat.le_of_ble_eq_true rfl) rfl
                                          · have b206 := q_step (c := 18) b199 c205 rfl (by decide)
                                            refine q_ifV (fun c216 => ?_) (fun c216 => ?_)
                                            · refine q_tabIn (tgt := 972) 18 dL_law_33 c216 (by decide) (by decide) rfl (by decide) ?_
                                              refine q_aload_n 1 dL_law_972 rfl ?_
                                              refine q_aload_s 0 dL_law_973 rfl ?_
                                              refine q_iload_n 3 dL_law_974 rfl ?_
                                              refine q_iconst (x := (1 : Int32)) dL_law_975 rfl ?_
                                              refine q_iadd dL_law_976 ?_
                                              refine q_sld rfl dL_law_977 (fun h207 => ?_)
                                              refine q_aload_s 0 dL_law_978 rfl ?_
                                              refine q_iload_n 3 dL_law_979 rfl ?_
                                              refine q_iconst (x := (2 : Int32)) dL_law_980 rfl ?_
                                              refine q_iadd dL_law_981 ?_
                                              refine q_sld rfl dL_law_982 (fun h208 => ?_)
                                              refine q_cVI (Y2 := Y_X11_lot) (As := [.int (xs (a3 + (1 : Int32)).toNatClampNeg), .int (xs (a3 + (2 : Int32)).toNatClampNeg)]) (b := a1) (st := []) cl_X11 mv_X11_lot qw_606 dL_law_983 ⟨Nat.le_of_ble_eq_true rfl, Nat.le_of_ble_eq_true rfl⟩ rfl (fun _ _ => rfl) (Nat.le_of_ble_eq_true rfl) ⟨Nat.le_of_ble_eq_true rfl, Nat.le_of_ble_eq_true rfl⟩ (fun v210 h209 => q_ob_is h209) (fun v210 h209 => m_X11_lot h209) (fun v210 h209 => ?_)
                                              refine q_aload_n 2 dL_law_986 rfl ?_
                                              refine q_aload_s 0 dL_law_987 rfl ?_
                                              refine q_iload_n 3 dL_law_988 rfl ?_
                                              refine q_iconst (x := (1 : Int32)) dL_law_989 rfl ?_
                                              refine q_iadd dL_law_990 ?_
                                              refine q_sld rfl dL_law_991 (fun h211 => ?_)
                                              refine q_aload_s 0 dL_law_992 rfl ?_
                                              refine q_iload_n 3 dL_law_993 rfl ?_
                                              refine q_iconst (x := (2 : Int32)) dL_law_994 rfl ?_
                                              refine q_iadd dL_law_995 ?_
                                              refine q_sld rfl dL_law_996 (fun h212 => ?_)
                                              refine q_cVI (Y2 := Y_X12_lot) (As := [.int (xs (a3 + (1 : Int32)).toNatClampNeg), .int (xs (a3 + (2 : Int32)).toNatClampNeg)]) (b := a2) (st := [.int v210]) cl_X12 mv_X12_lot qw_1371 dL_law_997 ⟨Nat.le_of_ble_eq_true rfl, Nat.le_of_ble_eq_true rfl⟩ rfl (fun _ _ => rfl) (Nat.le_of_ble_eq_true rfl) ⟨Nat.le_of_ble_eq_true rfl, Nat.le_of_ble_eq_true rfl⟩ (fun v214 h213 => q_ob_is h213) (fun v214 h213 => m_X12_lot h213) (fun v214 h213 => ?_)
                                              refine q_icmp_eq (tgt := 2161) dL_law_1000 (by decide) (fun c215 => ?_) (fun c215 => ?_)
                                              · refine q_iinc 3 (y := (a3 + (6 : Int32))) (ls' := [(3, .int (a3 + (6 : Int32))), (0, .float 0), (1, .ref a1), (2, .ref a2)]) dL_law_2161 rfl rfl (by decide) rfl ?_
                                                refine q_goto (tgt := 18) dL_law_2164 (by decide) ?_
                                                refine q_sub (ls' := [(0, .float 0), (1, .ref a1), (2, .ref a2), (3, .int (a3 + (6 : Int32)))]) [1, 2, 3, 0] rfl ?_
                                                exact ih _ _
                                              · refine q_iconst (x := (0 : Int32)) dL_law_1003 rfl ?_
                                                exact q_zretL dL_law_1004 rfl (Or.inl rfl) rfl (Nat.le_of_ble_eq_true rfl) rfl
                                            · have b217 := q_step (c := 19) b206 c216 rfl (by decide)
                                              refine q_ifV (fun c229 => ?_) (fun c229 => ?_)
                                              · refine q_tabIn (tgt := 1005) 19 dL_law_33 c229 (by decide) (by decide) rfl (by decide) ?_
                                                refine q_aload_n 1 dL_law_1005 rfl ?_
                                                refine q_aload_s 0 dL_law_1006 rfl ?_
                                                refine q_iload_n 3 dL_law_1007 rfl ?_
                                                refine q_iconst (x := (1 : Int32)) dL_law_1008 rfl ?_
                                                refine q_iadd dL_law_1009 ?_
                                                refine q_sld rfl dL_law_1010 (fun h218 => ?_)
                                                refine q_aload_s 0 dL_law_1011 rfl ?_
                                                refine q_iload_n 3 dL_law_1012 rfl ?_
                                                refine q_iconst (x := (2 : Int32)) dL_law_1013 rfl ?_
                                                refine q_iadd dL_law_1014 ?_
                                                refine q_sld rfl dL_law_1015 (fun h219 => ?_)
                                                refine q_aload_s 0 dL_law_1016 rfl ?_
                                                refine q_iload_n 3 dL_law_1017 rfl ?_
                                                refine q_iconst (x := (3 : Int32)) dL_law_1018 rfl ?_
                                                refine q_iadd dL_law_1019 ?_
                                                refine q_sld rfl dL_law_1020 (fun h220 => ?_)
                                                refine q_cVMJ (Y2 := Y_X11_lead) (As := [.int (xs (a3 + (1 : Int32)).toNatClampNeg), .int (xs (a3 + (2 : Int32)).toNatClampNeg), .int (xs (a3 + (3 : Int32)).toNatClampNeg)]) (b := a1) (st := []) cl_X11 mv_X11_lead qw_616 dL_law_1021 ⟨Nat.le_of_ble_eq_true rfl, Nat.le_of_ble_eq_true rfl⟩ rfl (fun _ _ => rfl) (Nat.le_of_ble_eq_true rfl) ⟨Nat.le_of_ble_eq_true rfl, Nat.le_of_ble_eq_true rfl⟩ (fun r222 h221 => q_ob_is h221) (fun r222 h221 => m_X11_lead h221) (fun r222 h221 => ?_)
                                                refine q_aload_n 2 dL_law_1024 rfl ?_
                                                refine q_aload_s 0 dL_law_1025 rfl ?_
                                                refine q_iload_n 3 dL_law_1026 rfl ?_
                                                refine q_iconst (x := (1 : Int32)) dL_law_1027 rfl ?_
                                                refine q_iadd dL_law_1028 ?_
                                                refine q_sld rfl dL_law_1029 (fun h223 => ?_)
                                                refine q_aload_s 0 dL_law_1030 rfl ?_
                                                refine q_iload_n 3 dL_law_1031 rfl ?_
                                                refine q_iconst (x := (2 : Int32)) dL_law_1032 rfl ?_
                                                refine q_iadd dL_law_1033 ?_
                                                refine q_sld rfl dL_law_1034 (fun h224 => ?_)
                                                refine q_aload_s 0 dL_law_1035 rfl ?_
                                                refine q_iload_n 3 dL_law_1036 rfl ?_
                                                refine q_iconst (x := (3 : Int32)) dL_law_1037 rfl ?_
                                                refine q_iadd dL_law_1038 ?_
                                                refine q_sld rfl dL_law_1039 (fun h225 => ?_)
                                                refine q_cVMJ (Y2 := Y_X12_lead) (As := [.int (xs (a3 + (1 : Int32)).toNatClampNeg), .int (xs (a3 + (2 : Int32)).toNatClampNeg), .int (xs (a3 + (3 : Int32)).toNatClampNeg)]) (b := a2) (st := [.long r222.1]) cl_X12 mv_X12_lead qw_1376 dL_law_1040 ⟨Nat.le_of_ble_eq_true rfl, Nat.le_of_ble_eq_true rfl⟩ rfl (fun _ _ => rfl) (Nat.le_of_ble_eq_true rfl) ⟨Nat.le_of_ble_eq_true rfl, Nat.le_of_ble_eq_true rfl⟩ (fun r227 h226 => q_ob_is h226) (fun r227 h226 => m_X12_lead h226) (fun r227 h226 => ?_)
                                                refine q_lcmp_eq (tgt := 2161) dL_law_1043 dL_law_1044 (by decide) (fun c228 => ?_) (fun c228 => ?_)
                                                · refine q_iinc 3 (y := (a3 + (6 : Int32))) (ls' := [(3, .int (a3 + (6 : Int32))), (0, .float 0), (1, .ref a1), (2, .ref a2)]) dL_law_2161 rfl rfl (by decide) rfl ?_
                                                  refine q_goto (tgt := 18) dL_law_2164 (by decide) ?_
                                                  refine q_sub (ls' := [(0, .float 0), (1, .ref a1), (2, .ref a2), (3, .int (a3 + (6 : Int32)))]) [1, 2, 3, 0] rfl ?_
                                                  exact ih _ _
                                                · refine q_iconst (x := (0 : Int32)) dL_law_1047 rfl ?_
                                                  exact q_zretL dL_law_1048 rfl (Or.inl rfl) rfl (Nat.le_of_ble_eq_true rfl) rfl
                                              · have b230 := q_step (c := 20) b217 c229 rfl (by decide)
                                                refine q_ifV (fun c240 => ?_) (fun c240 => ?_)
                                                · refine q_tabIn (tgt := 1049) 20 dL_law_33 c240 (by decide) (by decide) rfl (by decide) ?_
                                                  refine q_aload_n 1 dL_law_1049 rfl ?_
                                                  refine q_aload_s 0 dL_law_1050 rfl ?_
                                                  refine q_iload_n 3 dL_law_1051 rfl ?_
                                                  refine q_iconst (x := (1 : Int32)) dL_law_1052 rfl ?_
                                                  refine q_iadd dL_law_1053 ?_
                                                  refine q_sld rfl dL_law_1054 (fun h231 => ?_)
                                                  refine q_aload_s 0 dL_law_1055 rfl ?_
                                                  refine q_iload_n 3 dL_law_1056 rfl ?_
                                                  refine q_iconst (x := (2 : Int32)) dL_law_1057 rfl ?_
                                                  refine q_iadd dL_law_1058 ?_
                                                  refine q_sld rfl dL_law_1059 (fun h232 => ?_)
                                                  refine q_cVMI (Y2 := Y_X11_write) (As := [.int (xs (a3 + (1 : Int32)).toNatClampNeg), .int (xs (a3 + (2 : Int32)).toNatClampNeg)]) (b := a1) (st := []) cl_X11 mv_X11_write qw_620 dL_law_1060 ⟨Nat.le_of_ble_eq_true rfl, Nat.le_of_ble_eq_true rfl⟩ rfl (fun _ _ => rfl) (Nat.le_of_ble_eq_true rfl) ⟨Nat.le_of_ble_eq_true rfl, Nat.le_of_ble_eq_true rfl⟩ (fun r234 h233 => q_ob_is h233) (fun r234 h233 => m_X11_write h233) (fun r234 h233 => ?_)
                                                  refine q_aload_n 2 dL_law_1063 rfl ?_
                                                  refine q_aload_s 0 dL_law_1064 rfl ?_
                                                  refine q_iload_n 3 dL_law_1065 rfl ?_
                                                  refine q_iconst (x := (1 : Int32)) dL_law_1066 rfl ?_
                                                  refine q_iadd dL_law_1067 ?_
                                                  refine q_sld rfl dL_law_1068 (fun h235 => ?_)
                                                  refine q_aload_s 0 dL_law_1069 rfl ?_
                                                  refine q_iload_n 3 dL_law_1070 rfl ?_
                                                  refine q_iconst (x := (2 : Int32)) dL_law_1071 rfl ?_
                                                  refine q_iadd dL_law_1072 ?_
                                                  refine q_sld rfl dL_law_1073 (fun h236 => ?_)
                                                  refine q_cVMI (Y2 := Y_X12_write) (As := [.int (xs (a3 + (1 : Int32)).toNatClampNeg), .int (xs (a3 + (2 : Int32)).toNatClampNeg)]) (b := a2) (st := [.int r234.1]) cl_X12 mv_X12_write qw_1380 dL_law_1074 ⟨Nat.le_of_ble_eq_true rfl, Nat.le_of_ble_eq_true rfl⟩ rfl (fun _ _ => rfl) (Nat.le_of_ble_eq_true rfl) ⟨Nat.le_of_ble_eq_true rfl, Nat.le_of_ble_eq_true rfl⟩ (fun r238 h237 => q_ob_is h237) (fun r238 h237 => m_X12_write h237) (fun r238 h237 => ?_)
                                                  refine q_icmp_eq (tgt := 2161) dL_law_1077 (by decide) (fun c239 => ?_) (fun c239 => ?_)
                                                  · refine q_iinc 3 (y := (a3 + (6 : Int32))) (ls' := [(3, .int (a3 + (6 : Int32))), (0, .float 0), (1, .ref a1), (2, .ref a2)]) dL_law_2161 rfl rfl (by decide) rfl ?_
                                                    refine q_goto (tgt := 18) dL_law_2164 (by decide) ?_
                                                    refine q_sub (ls' := [(0, .float 0), (1, .ref a1), (2, .ref a2), (3, .int (a3 + (6 : Int32)))]) [1, 2, 3, 0] rfl ?_
                                                    exact ih _ _
                                                  · refine q_iconst (x := (0 : Int32)) dL_law_1080 rfl ?_
                                                    exact q_zretL dL_law_1081 rfl (Or.inl rfl) rfl (Nat.le_of_ble_eq_true rfl) rfl
                                                · have b241 := q_step (c := 21) b230 c240 rfl (by decide)
                                                  refine q_ifV (fun c249 => ?_) (fun c249 => ?_)
                                                  · refine q_tabIn (tgt := 1082) 21 dL_law_33 c249 (by decide) (by decide) rfl (by decide) ?_
                                                    refine q_aload_n 1 dL_law_1082 rfl ?_
                                                    refine q_aload_s 0 dL_law_1083 rfl ?_
                                                    refine q_iload_n 3 dL_law_1084 rfl ?_
                                                    refine q_iconst (x := (1 : Int32)) dL_law_1085 rfl ?_
                                                    refine q_iadd dL_law_1086 ?_
                                                    refine q_sld rfl dL_law_1087 (fun h242 => ?_)
                                                    refine q_cVMI (Y2 := Y_X11_erase) (As := [.int (xs (a3 + (1 : Int32)).toNatClampNeg)]) (b := a1) (st := []) cl_X11 mv_X11_erase qw_624 dL_law_1088 ⟨Nat.le_of_ble_eq_true rfl, Nat.le_of_ble_eq_true rfl⟩ rfl (fun _ _ => rfl) (Nat.le_of_ble_eq_true rfl) ⟨Nat.le_of_ble_eq_true rfl, Nat.le_of_ble_eq_true rfl⟩ (fun r244 h243 => q_ob_is h243) (fun r244 h243 => m_X11_erase h243) (fun r244 h243 => ?_)
                                                    refine q_aload_n 2 dL_law_1091 rfl ?_
                                                    refine q_aload_s 0 dL_law_1092 rfl ?_
                                                    refine q_iload_n 3 dL_law_1093 rfl ?_
                                                    refine q_iconst (x := (1 : Int32)) dL_law_1094 rfl ?_
                                                    refine q_iadd dL_law_1095 ?_
                                                    refine q_sld rfl dL_law_1096 (fun h245 => ?_)
                                                    refine q_cVMI (Y2 := Y_X12_erase) (As := [.int (xs (a3 + (1 : Int32)).toNatClampNeg)]) (b := a2) (st := [.int r244.1]) cl_X12 mv_X12_erase qw_1387 dL_law_1097 ⟨Nat.le_of_ble_eq_true rfl, Nat.le_of_ble_eq_true rfl⟩ rfl (fun _ _ => rfl) (Nat.le_of_ble_eq_true rfl) ⟨Nat.le_of_ble_eq_true rfl, Nat.le_of_ble_eq_true rfl⟩ (fun r247 h246 => q_ob_is h246) (fun r247 h246 => m_X12_erase h246) (fun r247 h246 => ?_)
                                                    refine q_icmp_eq (tgt := 2161) dL_law_1100 (by decide) (fun c248 => ?_) (fun c248 => ?_)
                                                    · refine q_iinc 3 (y := (a3 + (6 : Int32))) (ls' := [(3, .int (a3 + (6 : Int32))), (0, .float 0), (1, .ref a1), (2, .ref a2)]) dL_law_2161 rfl rfl (by decide) rfl ?_
                                                      refine q_goto (tgt := 18) dL_law_2164 (by decide) ?_
                                                      refine q_sub (ls' := [(0, .float 0), (1, .ref a1), (2, .ref a2), (3, .int (a3 + (6 : Int32)))]) [1, 2, 3, 0] rfl ?_
                                                      exact ih _ _
                                                    · refine q_iconst (x := (0 : Int32)) dL_law_1103 rfl ?_
                                                      exact q_zretL dL_law_1104 rfl (Or.inl rfl) rfl (Nat.le_of_ble_eq_true rfl) rfl
                                                  · have b250 := q_step (c := 22) b241 c249 rfl (by decide)
                                                    refine q_ifV (fun c258 => ?_) (fun c258 => ?_)
                                                    · refine q_tabIn (tgt := 1105) 22 dL_law_33 c258 (by decide) (by decide) rfl (by decide) ?_
                                                      refine q_aload_n 1 dL_law_1105 rfl ?_
                                                      refine q_aload_s 0 dL_law_1106 rfl ?_
                                                      refine q_iload_n 3 dL_law_1107 rfl ?_
                                                      refine q_iconst (x := (1 : Int32)) dL_law_1108 rfl ?_
                                                      refine q_iadd dL_law_1109 ?_
                                                      refine q_sld rfl dL_law_1110 (fun h251 => ?_)
                                                      refine q_cVMI (Y2 := Y_X11_fault) (As := [.int (xs (a3 + (1 : Int32)).toNatClampNeg)]) (b := a1) (st := []) cl_X11 mv_X11_fault qw_628 dL_law_1111 ⟨Nat.le_of_ble_eq_true rfl, Nat.le_of_ble_eq_true rfl⟩ rfl (fun _ _ => rfl) (Nat.le_of_ble_eq_true rfl) ⟨Nat.le_of_ble_eq_true rfl, Nat.le_of_ble_eq_true rfl⟩ (fun r253 h252 => q_ob_is h252) (fun r253 h252 => m_X11_fault h252) (fun r253 h252 => ?_)
                                                      refine q_aload_n 2 dL_law_1114 rfl ?_
                                                      refine q_aload_s 0 dL_law_1115 rfl ?_
                                                      refine q_iload_n 3 dL_law_1116 rfl ?_
                                                      refine q_iconst (x := (1 : Int32)) dL_law_1117 rfl ?_
                                                      refine q_iadd dL_law_1118 ?_
                                                      refine q_sld rfl dL_law_1119 (fun h254 => ?_)
                                                      refine q_cVMI (Y2 := Y_X12_fault) (As := [.int (xs (a3 + (1 : Int32)).toNatClampNeg)]) (b := a2) (st := [.int r253.1]) cl_X12 mv_X12_fault qw_1391 dL_law_1120 ⟨Nat.le_of_ble_eq_true rfl, Nat.le_of_ble_eq_true rfl⟩ rfl (fun _ _ => rfl) (Nat.le_of_ble_eq_true rfl) ⟨Nat.le_of_ble_eq_true rfl, Nat.le_of_ble_eq_true rfl⟩ (fun r256 h255 => q_ob_is h255) (fun r256 h255 => m_X12_fault h255) (fun r256 h255 => ?_)
                                                      refine q_icmp_eq (tgt := 2161) dL_law_1123 (by decide) (fun c257 => ?_) (fun c257 => ?_)
                                                      · refine q_iinc 3 (y := (a3 + (6 : Int32))) (ls' := [(3, .int (a3 + (6 : Int32))), (0, .float 0), (1, .ref a1), (2, .ref a2)]) dL_law_2161 rfl rfl (by decide) rfl ?_
                                                        refine q_goto (tgt := 18) dL_law_2164 (by decide) ?_
                                                        refine q_sub (ls' := [(0, .float 0), (1, .ref a1), (2, .ref a2), (3, .int (a3 + (6 : Int32)))]) [1, 2, 3, 0] rfl ?_
                                                        exact ih _ _
                                                      · refine q_iconst (x := (0 : Int32)) dL_law_1126 rfl ?_
                                                        exact q_zretL dL_law_1127 rfl (Or.inl rfl) rfl (Nat.le_of_ble_eq_true rfl) rfl
                                                    · have b259 := q_step (c := 23) b250 c258 rfl (by decide)
                                                      refine q_ifV (fun c273 => ?_) (fun c273 => ?_)
                                                      · refine q_tabIn (tgt := 1128) 23 dL_law_33 c273 (by decide) (by decide) rfl (by decide) ?_
                                                        refine q_aload_n 1 dL_law_1128 rfl ?_
                                                        refine q_aload_s 0 dL_law_1129 rfl ?_
                                                        refine q_iload_n 3 dL_law_1130 rfl ?_
                                                        refine q_iconst (x := (1 : Int32)) dL_law_1131 rfl ?_
                                                        refine q_iadd dL_law_1132 ?_
                                                        refine q_sld rfl dL_law_1133 (fun h260 => ?_)
                                                        refine q_aload_s 0 dL_law_1134 rfl ?_
                                                        refine q_iload_n 3 dL_law_1135 rfl ?_
                                                        refine q_iconst (x := (2 : Int32)) dL_law_1136 rfl ?_
                                                        refine q_iadd dL_law_1137 ?_
                                                        refine q_sld rfl dL_law_1138 (fun h261 => ?_)
                                                        refine q_aload_s 0 dL_law_1139 rfl ?_
                                                        refine q_iload_n 3 dL_law_1140 rfl ?_
                                                        refine q_iconst (x := (3 : Int32)) dL_law_1141 rfl ?_
                                                        refine q_iadd dL_law_1142 ?_
                                                        refine q_sld rfl dL_law_1143 (fun h262 => ?_)
                                                        refine q_aload_s 0 dL_law_1144 rfl ?_
                                                        refine q_iload_n 3 dL_law_1145 rfl ?_
                                                        refine q_iconst (x := (4 : Int32)) dL_law_1146 rfl ?_
                                                        refine q_iadd dL_law_1147 ?_
                                                        refine q_sld rfl dL_law_1148 (fun h263 => ?_)
                                                        refine q_cVMJ (Y2 := Y_X11_tells) (As := [.int (xs (a3 + (1 : Int32)).toNatClampNeg), .int (xs (a3 + (2 : Int32)).toNatClampNeg), .int (xs (a3 + (3 : Int32)).toNatClampNeg), .int (xs (a3 + (4 : Int32)).toNatClampNeg)]) (b := a1) (st := []) cl_X11 mv_X11_tells qw_731 dL_law_1149 ⟨Nat.le_of_ble_eq_true rfl, Nat.le_of_ble_eq_true rfl⟩ rfl (fun _ _ => rfl) (Nat.le_of_ble_eq_true rfl) ⟨Nat.le_of_ble_eq_true rfl, Nat.le_of_ble_eq_true rfl⟩ (fun r265 h264 => q_ob_is h264) (fun r265 h264 => m_X11_tells h264) (fun r265 h264 => ?_)
                                                        refine q_aload_n 2 dL_law_1152 rfl ?_
                                                        refine q_aload_s 0 dL_law_1153 rfl ?_
                                                        refine q_iload_n 3 dL_law_1154 rfl ?_
                                                        refine q_iconst (x := (1 : Int32)) dL_law_1155 rfl ?_
                                                        refine q_iadd dL_law_1156 ?_
                                                        refine q_sld rfl dL_law_1157 (fun h266 => ?_)
                                                        refine q_aload_s 0 dL_law_1158 rfl ?_
                                                        refine q_iload_n 3 dL_law_1159 rfl ?_
                                                        refine q_iconst (x := (2 : Int32)) dL_law_1160 rfl ?_
                                                        refine q_iadd dL_law_1161 ?_
                                                        refine q_sld rfl dL_law_1162 (fun h267 => ?_)
                                                        refine q_aload_s 0 dL_law_1163 rfl ?_
                                                        refine q_iload_n 3 dL_law_1164 rfl ?_
                                                        refine q_iconst (x := (3 : Int32)) dL_law_1165 rfl ?_
                                                        refine q_iadd dL_law_1166 ?_
                                                        refine q_sld rfl dL_law_1167 (fun h268 => ?_)
                                                        refine q_aload_s 0 dL_law_1168 rfl ?_
                                                        refine q_iload_n 3 dL_law_1169 rfl ?_
                                                        refine q_iconst (x := (4 : Int32)) dL_law_1170 rfl ?_
                                                        refine q_iadd dL_law_1171 ?_
                                                        refine q_sld rfl dL_law_1172 (fun h269 => ?_)
                                                        refine q_cVMJ (Y2 := Y_X12_tells) (As := [.int (xs (a3 + (1 : Int32)).toNatClampNeg), .int (xs (a3 + (2 : Int32)).toNatClampNeg), .int (xs (a3 + (3 : Int32)).toNatClampNeg), .int (xs (a3 + (4 : Int32)).toNatClampNeg)]) (b := a2) (st := [.long r265.1]) cl_X12 mv_X12_tells qw_1432 dL_law_1173 ⟨Nat.le_of_ble_eq_true rfl, Nat.le_of_ble_eq_true rfl⟩ rfl (fun _ _ => rfl) (Nat.le_of_ble_eq_true rfl) ⟨Nat.le_of_ble_eq_true rfl, Nat.le_of_ble_eq_true rfl⟩ (fun r271 h270 => q_ob_is h270) (fun r271 h270 => m_X12_tells h270) (fun r271 h270 => ?_)
                                                        refine q_lcmp_eq (tgt := 2161) dL_law_1176 dL_law_1177 (by decide) (fun c272 => ?_) (fun c272 => ?_)
                                                        · refine q_iinc 3 (y := (a3 + (6 : Int32))) (ls' := [(3, .int (a3 + (6 : Int32))), (0, .float 0), (1, .ref a1), (2, .ref a2)]) dL_law_2161 rfl rfl (by decide) rfl ?_
                                                          refine q_goto (tgt := 18) dL_law_2164 (by decide) ?_
                                                          refine q_sub (ls' := [(0, .float 0), (1, .ref a1), (2, .ref a2), (3, .int (a3 + (6 : Int32)))]) [1, 2, 3, 0] rfl ?_
                                                          exact ih _ _
                                                        · refine q_iconst (x := (0 : Int32)) dL_law_1180 rfl ?_
                                                          exact q_zretL dL_law_1181 rfl (Or.inl rfl) rfl (Nat.le_of_ble_eq_true rfl) rfl
                                                      · have b274 := q_step (c := 24) b259 c273 rfl (by decide)
                                                        refine q_ifV (fun c279 => ?_) (fun c279 => ?_)
                                                        · refine q_tabIn (tgt := 1182) 24 dL_law_33 c279 (by decide) (by decide) rfl (by decide) ?_
                                                          refine q_aload_n 1 dL_law_1182 rfl ?_
                                                          refine q_aload_s 0 dL_law_1183 rfl ?_
                                                          refine q_iload_n 3 dL_law_1184 rfl ?_
                                                          refine q_iconst (x := (1 : Int32)) dL_law_1185 rfl ?_
                                                          refine q_iadd dL_law_1186 ?_
                                                          refine q_sld rfl dL_law_1187 (fun h275 => ?_)
                                                          refine q_aload_s 0 dL_law_1188 rfl ?_
                                                          refine q_iload_n 3 dL_law_1189 rfl ?_
                                                          refine q_iconst (x := (2 : Int32)) dL_law_1190 rfl ?_
                                                          refine q_iadd dL_law_1191 ?_
                                                          refine q_sld rfl dL_law_1192 (fun h276 => ?_)
                                                          refine q_aload_s 0 dL_law_1193 rfl ?_
                                                          refine q_iload_n 3 dL_law_1194 rfl ?_
                                                          refine q_iconst (x := (3 : Int32)) dL_law_1195 rfl ?_
                                                          refine q_iadd dL_law_1196 ?_
                                                          refine q_sld rfl dL_law_1197 (fun h277 => ?_)
                                                          refine q_if_eq (tgt := 1205) dL_law_1198 (by decide) (fun c278 => ?_) (fun c278 => ?_)
                                                          · refine q_iconst (x := (0 : Int32)) dL_law_1205 rfl ?_
                                                            exact v_L_law_b1206 (ih)
                                                          · refine q_iconst (x := (1 : Int32)) dL_law_1201 rfl ?_
                                                            refine q_goto (tgt := 1206) dL_law_1202 (by decide) ?_
                                                            exact v_L_law_b1206 (ih)
                                                        · have b280 := q_step (c := 25) b274 c279 rfl (by decide)
                                                          refine q_ifV (fun c292 => ?_) (fun c292 => ?_)
                                                          · refine q_tabIn (tgt := 1241) 25 dL_law_33 c292 (by decide) (by decide) rfl (by decide) ?_
                                                            refine q_aload_n 1 dL_law_1241 rfl ?_
                                                            refine q_aload_s 0 dL_law_1242 rfl ?_
                                                            refine q_iload_n 3 dL_law_1243 rfl ?_
                                                            refine q_iconst (x := (1 : Int32)) dL_law_1244 rfl ?_
                                                            refine q_iadd dL_law_1245 ?_
                                                            refine q_sld rfl dL_law_1246 (fun h281 => ?_)
                                                            refine q_aload_s 0 dL_law_1247 rfl ?_
                                                            refine q_iload_n 3 dL_law_1248 rfl ?_
                                                            refine q_iconst (x := (2 : Int32)) dL_law_1249 rfl ?_
                                                            refine q_iadd dL_law_1250 ?_
                                                            refine q_sld rfl dL_law_1251 (fun h282 => ?_)
                                                            refine q_aload_s 0 dL_law_1252 rfl ?_
                                                            refine q_iload_n 3 dL_law_1253 rfl ?_
                                                            refine q_iconst (x := (3 : Int32)) dL_law_1254 rfl ?_
                                                            refine q_iadd dL_law_1255 ?_
                                                            refine q_sld rfl dL_law_1256 (fun h283 => ?_)
                                                            refine q_cVMI (Y2 := Y_X11_vote) (As := [.int (xs (a3 + (1 : Int32)).toNatClampNeg), .int (xs (a3 + (2 : Int32)).toNatClampNeg), .int (xs (a3 + (3 : Int32)).toNatClampNeg)]) (b := a1) (st := []) cl_X11 mv_X11_vote qw_780 dL_law_1257 ⟨Nat.le_of_ble_eq_true rfl, Nat.le_of_ble_eq_true rfl⟩ rfl (fun _ _ => rfl) (Nat.le_of_ble_eq_true rfl) ⟨Nat.le_of_ble_eq_true rfl, Nat.le_of_ble_eq_true rfl⟩ (fun r285 h284 => q_ob_is h284) (fun r285 h284 => m_X11_vote h284) (fun r285 h284 => ?_)
                                                            refine q_aload_n 2 dL_law_1260 rfl ?_
                                                            refine q_aload_s 0 dL_law_1261 rfl ?_
                                                            refine q_iload_n 3 dL_law_1262 rfl ?_
                                                            refine q_iconst (x := (1 : Int32)) dL_law_1263 rfl ?_
                                                            refine q_iadd dL_law_1264 ?_
                                                            refine q_sld rfl dL_law_1265 (fun h286 => ?_)
                                                            refine q_aload_s 0 dL_law_1266 rfl ?_
                                                            refine q_iload_n 3 dL_law_1267 rfl ?_
                                                            refine q_iconst (x := (2 : Int32)) dL_law_1268 rfl ?_
                                                            refine q_iadd dL_law_1269 ?_
                                                            refine q_sld rfl dL_law_1270 (fun h287 => ?_)
                                                            refine q_aload_s 0 dL_law_1271 rfl ?_
                                                            refine q_iload_n 3 dL_law_1272 rfl ?_
                                                            refine q_iconst (x := (3 : Int32)) dL_law_1273 rfl ?_
                                                            refine q_iadd dL_law_1274 ?_
                                                            refine q_sld rfl dL_law_1275 (fun h288 => ?_)
                                                            refine q_cVMI (Y2 := Y_X12_vote) (As := [.int (xs (a3 + (1 : Int32)).toNatClampNeg), .int (xs (a3 + (2 : Int32)).toNatClampNeg), .int (xs (a3 + (3 : Int32)).toNatClampNeg)]) (b := a2) (st := [.int r285.1]) cl_X12 mv_X12_vote qw_1483 dL_law_1276 ⟨Nat.le_of_ble_eq_true rfl, Nat.le_of_ble_eq_true rfl⟩ rfl (fun _ _ => rfl) (Nat.le_of_ble_eq_true rfl) ⟨Nat.le_of_ble_eq_true rfl, Nat.le_of_ble_eq_true rfl⟩ (fun r290 h289 => q_ob_is h289) (fun r290 h289 => m_X12_vote h289) (fun r290 h289 => ?_)
                                                            refine q_icmp_eq (tgt := 2161) dL_law_1279 (by decide) (fun c291 => ?_) (fun c291 => ?_)
                                                            · refine q_iinc 3 (y := (a3 + (6 : Int32))) (ls' := [(3, .int (a3 + (6 : Int32))), (0, .float 0), (1, .ref a1), (2, .ref a2)]) dL_law_2161 rfl rfl (by decide) rfl ?_
                                                              refine q_goto (tgt := 18) dL_law_2164 (by decide) ?_
                                                              refine q_sub (ls' := [(0, .float 0), (1, .ref a1), (2, .ref a2), (3, .int (a3 + (6 : Int32)))]) [1, 2, 3, 0] rfl ?_
                                                              exact ih _ _
                                                            · refine q_iconst (x := (0 : Int32)) dL_law_1282 rfl ?_
                                                              exact q_zretL dL_law_1283 rfl (Or.inl rfl) rfl (Nat.le_of_ble_eq_true rfl) rfl
                                                          · have b293 := q_step (c := 26) b280 c292 rfl (by decide)
                                                            refine q_ifV (fun c297 => ?_) (fun c297 => ?_)
                                                            · refine q_tabIn (tgt := 1284) 26 dL_law_33 c297 (by decide) (by decide) rfl (by decide) ?_
                                                              refine q_aload_n 1 dL_law_1284 rfl ?_
                                                              refine q_aload_s 0 dL_law_1285 rfl ?_
                                                              refine q_iload_n 3 dL_law_1286 rfl ?_
                                                              refine q_iconst (x := (1 : Int32)) dL_law_1287 rfl ?_
                                                              refine q_iadd dL_law_1288 ?_
                                                              refine q_sld rfl dL_law_1289 (fun h294 => ?_)
                                                              refine q_aload_s 0 dL_law_1290 rfl ?_
                                                              refine q_iload_n 3 dL_law_1291 rfl ?_
                                                              refine q_iconst (x := (2 : Int32)) dL_law_1292 rfl ?_
                                                              refine q_iadd dL_law_1293 ?_
                                                              refine q_sld rfl dL_law_1294 (fun h295 => ?_)
                                                              refine q_if_eq (tgt := 1302) dL_law_1295 (by decide) (fun c296 => ?_) (fun c296 => ?_)
                                                              · refine q_iconst (x := (0 : Int32)) dL_law_1302 rfl ?_
                                                                exact v_L_law_b1303 (ih)
                                                              · refine q_iconst (x := (1 : Int32)) dL_law_1298 rfl ?_
                                                                refine q_goto (tgt := 1303) dL_law_1299 (by decide) ?_
                                                                exact v_L_law_b1303 (ih)
                                                            · have b298 := q_step (c := 27) b293 c297 rfl (by decide)
                                                              refine q_ifV (fun c308 => ?_) (fun c308 => ?_)
                                                              · refine q_tabIn (tgt := 1333) 27 dL_law_33 c308 (by decide) (by decide) rfl (by decide) ?_
                                                                refine q_aload_n 1 dL_law_1333 rfl ?_
                                                                refine q_aload_s 0 dL_law_1334 rfl ?_
                                                                refine q_iload_n 3 dL_law_1335 rfl ?_
                                                                refine q_iconst (x := (1 : Int32)) dL_law_1336 rfl ?_
                                                                refine q_iadd dL_law_1337 ?_
                                                                refine q_sld rfl dL_law_1338 (fun h299 => ?_)
                                                                refine q_aload_s 0 dL_law_1339 rfl ?_
                                                                refine q_iload_n 3 dL_law_1340 rfl ?_
                                                                refine q_iconst (x := (2 : Int32)) dL_law_1341 rfl ?_
                                                                refine q_iadd dL_law_1342 ?_
                                                                refine q_sld rfl dL_law_1343 (fun h300 => ?_)
                                                                refine q_cVI (Y2 := Y_X11_motionAt) (As := [.int (xs (a3 + (1 : Int32)).toNatClampNeg), .int (xs (a3 + (2 : Int32)).toNatClampNeg)]) (b := a1) (st := []) cl_X11 mv_X11_motionAt qw_788 dL_law_1344 ⟨Nat.le_of_ble_eq_true rfl, Nat.le_of_ble_eq_true rfl⟩ rfl (fun _ _ => rfl) (Nat.le_of_ble_eq_true rfl) ⟨Nat.le_of_ble_eq_true rfl, Nat.le_of_ble_eq_true rfl⟩ (fun v302 h301 => q_ob_is h301) (fun v302 h301 => m_X11_motionAt h301) (fun v302 h301 => ?_)
                                                                refine q_aload_n 2 dL_law_1347 rfl ?_
                                                                refine q_aload_s 0 dL_law_1348 rfl ?_
                                                                refine q_iload_n 3 dL_law_1349 rfl ?_
                                                                refine q_iconst (x := (1 : Int32)) dL_law_1350 rfl ?_
                                                                refine q_iadd dL_law_1351 ?_
                                                                refine q_sld rfl dL_law_1352 (fun h303 => ?_)
                                                                refine q_aload_s 0 dL_law_1353 rfl ?_
                                                                refine q_iload_n 3 dL_law_1354 rfl ?_
                                                                refine q_iconst (x := (2 : Int32)) dL_law_1355 rfl ?_
                                                                refine q_iadd dL_law_1356 ?_
                                                                refine q_sld rfl dL_law_1357 (fun h304 => ?_)
                                                                refine q_cVI (Y2 := Y_X12_motionAt) (As := [.int (xs (a3 + (1 : Int32)).toNatClampNeg), .int (xs (a3 + (2 : Int32)).toNatClampNeg)]) (b := a2) (st := [.int v302]) cl_X12 mv_X12_motionAt qw_1491 dL_law_1358 ⟨Nat.le_of_ble_eq_true rfl, Nat.le_of_ble_eq_true rfl⟩ rfl (fun _ _ => rfl) (Nat.le_of_ble_eq_true rfl) ⟨Nat.le_of_ble_eq_true rfl, Nat.le_of_ble_eq_true rfl⟩ (fun v306 h305 => q_ob_is h305) (fun v306 h305 => m_X12_motionAt h305) (fun v306 h305 => ?_)
                                                                refine q_icmp_eq (tgt := 2161) dL_law_1361 (by decide) (fun c307 => ?_) (fun c307 => ?_)
                                                                · refine q_iinc 3 (y := (a3 + (6 : Int32))) (ls' := [(3, .int (a3 + (6 : Int32))), (0, .float 0), (1, .ref a1), (2, .ref a2)]) dL_law_2161 rfl rfl (by decide) rfl ?_
                                                                  refine q_goto (tgt := 18) dL_law_2164 (by decide) ?_
                                                                  refine q_sub (ls' := [(0, .float 0), (1, .ref a1), (2, .ref a2), (3, .int (a3 + (6 : Int32)))]) [1, 2, 3, 0] rfl ?_
                                                                  exact ih _ _
                                                                · refine q_iconst (x := (0 : Int32)) dL_law_1364 rfl ?_
                                                                  exact q_zretL dL_law_1365 rfl (Or.inl rfl) rfl (Nat.le_of_ble_eq_true rfl) rfl
                                                              · have b309 := q_step (c := 28) b298 c308 rfl (by decide)
                                                                refine q_ifV (fun c317 => ?_) (fun c317 => ?_)
                                                                · refine q_tabIn (tgt := 1366) 28 dL_law_33 c317 (by decide) (by decide) rfl (by decide) ?_
                                                                  refine q_aload_n 1 dL_law_1366 rfl ?_
                                                                  refine q_aload_s 0 dL_law_1367 rfl ?_
                                                                  refine q_iload_n 3 dL_law_1368 rfl ?_
                                                                  refine q_iconst (x := (1 : Int32)) dL_law_1369 rfl ?_
                                                                  refine q_iadd dL_law_1370 ?_
                                                                  refine q_sld rfl dL_law_1371 (fun h310 => ?_)
                                                                  refine q_cVI (Y2 := Y_X11_force) (As := [.int (xs (a3 + (1 : Int32)).toNatClampNeg)]) (b := a1) (st := []) cl_X11 mv_X11_force qw_805 dL_law_1372 ⟨Nat.le_of_ble_eq_true rfl, Nat.le_of_ble_eq_true rfl⟩ rfl (fun _ _ => rfl) (Nat.le_of_ble_eq_true rfl) ⟨Nat.le_of_ble_eq_true rfl, Nat.le_of_ble_eq_true rfl⟩ (fun v312 h311 => q_ob_is h311) (fun v312 h311 => m_X11_force h311) (fun v312 h311 => ?_)
                                                                  refine q_aload_n 2 dL_law_1375 rfl ?_
                                                                  refine q_aload_s 0 dL_law_1376 rfl ?_
                                                                  refine q_iload_n 3 dL_law_1377 rfl ?_
                                                                  refine q_iconst (x := (1 : Int32)) dL_law_1378 rfl ?_
                                                                  refine q_iadd dL_law_1379 ?_
                                                                  refine q_sld rfl dL_law_1380 (fun h313 => ?_)
                                                                  refine q_cVI (Y2 := Y_X12_force) (As := [.int (xs (a3 + (1 : Int32)).toNatClampNeg)]) (b := a2) (st := [.int v312]) cl_X12 mv_X12_force qw_1507 dL_law_1381 ⟨Nat.le_of_ble_eq_true rfl, Nat.le_of_ble_eq_true rfl⟩ rfl (fun _ _ => rfl) (Nat.le_of_ble_eq_true rfl) ⟨Nat.le_of_ble_eq_true rfl, Nat.le_of_ble_eq_true rfl⟩ (fun v315 h314 => q_ob_is h314) (fun v315 h314 => m_X12_force h314) (fun v315 h314 => ?_)
                                                                  refine q_icmp_eq (tgt := 2161) dL_law_1384 (by decide) (fun c316 => ?_) (fun c316 => ?_)
                                                                  · refine q_iinc 3 (y := (a3 + (6 : Int32))) (ls' := [(3, .int (a3 + (6 : Int32))), (0, .float 0), (1, .ref a1), (2, .ref a2)]) dL_law_2161 rfl rfl (by decide) rfl ?_
                                                                    refine q_goto (tgt := 18) dL_law_2164 (by decide) ?_
                                                                    refine q_sub (ls' := [(0, .float 0), (1, .ref a1), (2, .ref a2), (3, .int (a3 + (6 : Int32)))]) [1, 2, 3, 0] rfl ?_
                                                                    exact ih _ _
                                                                  · refine q_iconst (x := (0 : Int32)) dL_law_1387 rfl ?_
                                                                    exact q_zretL dL_law_1388 rfl (Or.inl rfl) rfl (Nat.le_of_ble_eq_true rfl) rfl
                                                                · have b318 := q_step (c := 29) b309 c317 rfl (by decide)
                                                                  refine q_ifV (fun c328 => ?_) (fun c328 => ?_)
                                                                  · refine q_tabIn (tgt := 1389) 29 dL_law_33 c328 (by decide) (by decide) rfl (by decide) ?_
                                                                    refine q_aload_n 1 dL_law_1389 rfl ?_
                                                                    refine q_aload_s 0 dL_law_1390 rfl ?_
                                                                    refine q_iload_n 3 dL_law_1391 rfl ?_
                                                                    refine q_iconst (x := (1 : Int32)) dL_law_1392 rfl ?_
                                                                    refine q_iadd dL_law_1393 ?_
                                                                    refine q_sld rfl dL_law_1394 (fun h319 => ?_)
                                                                    refine q_aload_s 0 dL_law_1395 rfl ?_
                                                                    refine q_iload_n 3 dL_law_1396 rfl ?_
                                                                    refine q_iconst (x := (2 : Int32)) dL_law_1397 rfl ?_
                                                                    refine q_iadd dL_law_1398 ?_
                                                                    refine q_sld rfl dL_law_1399 (fun h320 => ?_)
                                                                    refine q_cVJ (Y2 := Y_X11_money) (As := [.int (xs (a3 + (1 : Int32)).toNatClampNeg), .int (xs (a3 + (2 : Int32)).toNatClampNeg)]) (b := a1) (st := []) cl_X11 mv_X11_money qw_813 dL_law_1400 ⟨Nat.le_of_ble_eq_true rfl, Nat.le_of_ble_eq_true rfl⟩ rfl (fun _ _ => rfl) (Nat.le_of_ble_eq_true rfl) ⟨Nat.le_of_ble_eq_true rfl, Nat.le_of_ble_eq_true rfl⟩ (fun v322 h321 => q_ob_is h321) (fun v322 h321 => m_X11_money h321) (fun v322 h321 => ?_)
                                                                    refine q_aload_n 2 dL_law_1403 rfl ?_
                                                                    refine q_aload_s 0 dL_law_1404 rfl ?_
                                                                    refine q_iload_n 3 dL_law_1405 rfl ?_
                                                                    refine q_iconst (x := (1 : Int32)) dL_law_1406 rfl ?_
                                                                    refine q_iadd dL_law_1407 ?_
                                                                    refine q_sld rfl dL_law_1408 (fun h323 => ?_)
                                                                    refine q_aload_s 0 dL_law_1409 rfl ?_
                                                                    refine q_iload_n 3 dL_law_1410 rfl ?_
                                                                    refine q_iconst (x := (2 : Int32)) dL_law_1411 rfl ?_
                                                                    refine q_iadd dL_law_1412 ?_
                                                                    refine q_sld rfl dL_law_1413 (fun h324 => ?_)
                                                                    refine q_cVJ (Y2 := Y_X12_money) (As := [.int (xs (a3 + (1 : Int32)).toNatClampNeg), .int (xs (a3 + (2 : Int32)).toNatClampNeg)]) (b := a2) (st := [.long v322]) cl_X12 mv_X12_money qw_1515 dL_law_1414 ⟨Nat.le_of_ble_eq_true rfl, Nat.le_of_ble_eq_true rfl⟩ rfl (fun _ _ => rfl) (Nat.le_of_ble_eq_true rfl) ⟨Nat.le_of_ble_eq_true rfl, Nat.le_of_ble_eq_true rfl⟩ (fun v326 h325 => q_ob_is h325) (fun v326 h325 => m_X12_money h325) (fun v326 h325 => ?_)
                                                                    refine q_lcmp_eq (tgt := 2161) dL_law_1417 dL_law_1418 (by decide) (fun c327 => ?_) (fun c327 => ?_)
                                                                    · refine q_iinc 3 (y := (a3 + (6 : Int32))) (ls' := [(3, .int (a3 + (6 : Int32))), (0, .float 0), (1, .ref a1), (2, .ref a2)]) dL_law_2161 rfl rfl (by decide) rfl ?_
                                                                      refine q_goto (tgt := 18) dL_law_2164 (by decide) ?_
                                                                      refine q_sub (ls' := [(0, .float 0), (1, .ref a1), (2, .ref a2), (3, .int (a3 + (6 : Int32)))]) [1, 2, 3, 0] rfl ?_
                                                                      exact ih _ _
                                                                    · refine q_iconst (x := (0 : Int32)) dL_law_1421 rfl ?_
                                                                      exact q_zretL dL_law_1422 rfl (Or.inl rfl) rfl (Nat.le_of_ble_eq_true rfl) rfl
                                                                  · have b329 := q_step (c := 30) b318 c328 rfl (by decide)
                                                                    refine q_ifV (fun c341 => ?_) (fun c341 => ?_)
                                                                    · refine q_tabIn (tgt := 1423) 30 dL_law_33 c341 (by decide) (by decide) rfl (by decide) ?_
                                                                      refine q_aload_n 1 dL_law_1423 rfl ?_
                                                                      refine q_aload_s 0 dL_law_1424 rfl ?_
                                                                      refine q_iload_n 3 dL_law_1425 rfl ?_
                                                                      refine q_iconst (x := (1 : Int32)) dL_law_1426 rfl ?_
                                                                      refine q_iadd dL_law_1427 ?_
                                                                      refine q_sld rfl dL_law_1428 (fun h330 => ?_)
                                                                      refine q_aload_s 0 dL_law_1429 rfl ?_
                                                                      refine q_iload_n 3 dL_law_1430 rfl ?_
                                                                      refine q_iconst (x := (2 : Int32)) dL_law_1431 rfl ?_
                                                                      refine q_iadd dL_law_1432 ?_
                                                                      refine q_sld rfl dL_law_1433 (fun h331 => ?_)
                                                                      refine q_aload_s 0 dL_law_1434 rfl ?_
                                                                      refine q_iload_n 3 dL_law_1435 rfl ?_
                                                                      refine q_iconst (x := (3 : Int32)) dL_law_1436 rfl ?_
                                                                      refine q_iadd dL_law_1437 ?_
                                                                      refine q_sld rfl dL_law_1438 (fun h332 => ?_)
                                                                      refine q_cVMJ (Y2 := Y_X11_pay) (As := [.int (xs (a3 + (1 : Int32)).toNatClampNeg), .int (xs (a3 + (2 : Int32)).toNatClampNeg), .int (xs (a3 + (3 : Int32)).toNatClampNeg)]) (b := a1) (st := []) cl_X11 mv_X11_pay qw_821 dL_law_1439 ⟨Nat.le_of_ble_eq_true rfl, Nat.le_of_ble_eq_true rfl⟩ rfl (fun _ _ => rfl) (Nat.le_of_ble_eq_true rfl) ⟨Nat.le_of_ble_eq_true rfl, Nat.le_of_ble_eq_true rfl⟩ (fun r334 h333 => q_ob_is h333) (fun r334 h333 => m_X11_pay h333) (fun r334 h333 => ?_)
                                                                      refine q_aload_n 2 dL_law_1442 rfl ?_
                                                                      refine q_aload_s 0 dL_law_1443 rfl ?_
                                                                      refine q_iload_n 3 dL_law_1444 rfl ?_
                                                                      refine q_iconst (x := (1 : Int32)) dL_law_1445 rfl ?_
                                                                      refine q_iadd dL_law_1446 ?_
                                                                      refine q_sld rfl dL_law_1447 (fun h335 => ?_)
                                                                      refine q_aload_s 0 dL_law_1448 rfl ?_
                                                                      refine q_iload_n 3 dL_law_1449 rfl ?_
                                                                      refine q_iconst (x := (2 : Int32)) dL_law_1450 rfl ?_
                                                                      refine q_iadd dL_law_1451 ?_
                                                                      refine q_sld rfl dL_law_1452 (fun h336 => ?_)
                                                                      refine q_aload_s 0 dL_law_1453 rfl ?_
                                                                      refine q_iload_n 3 dL_law_1454 rfl ?_
                                                                      refine q_iconst (x := (3 : Int32)) dL_law_1455 rfl ?_
                                                                      refine q_iadd dL_law_1456 ?_
                                                                      refine q_sld rfl dL_law_1457 (fun h337 => ?_)
                                                                      refine q_cVMJ (Y2 := Y_X12_pay) (As := [.int (xs (a3 + (1 : Int32)).toNatClampNeg), .int (xs (a3 + (2 : Int32)).toNatClampNeg), .int (xs (a3 + (3 : Int32)).toNatClampNeg)]) (b := a2) (st := [.long r334.1]) cl_X12 mv_X12_pay qw_1532 dL_law_1458 ⟨Nat.le_of_ble_eq_true rfl, Nat.le_of_ble_eq_true rfl⟩ rfl (fun _ _ => rfl) (Nat.le_of_ble_eq_true rfl) ⟨Nat.le_of_ble_eq_true rfl, Nat.le_of_ble_eq_true rfl⟩ (fun r339 h338 => q_ob_is h338) (fun r339 h338 => m_X12_pay h338) (fun r339 h338 => ?_)
                                                                      refine q_lcmp_eq (tgt := 2161) dL_law_1461 dL_law_1462 (by decide) (fun c340 => ?_) (fun c340 => ?_)
                                                                      · refine q_iinc 3 (y := (a3 + (6 : Int32))) (ls' := [(3, .int (a3 + (6 : Int32))), (0, .float 0), (1, .ref a1), (2, .ref a2)]) dL_law_2161 rfl rfl (by decide) rfl ?_
                                                                        refine q_goto (tgt := 18) dL_law_2164 (by decide) ?_
                                                                        refine q_sub (ls' := [(0, .float 0), (1, .ref a1), (2, .ref a2), (3, .int (a3 + (6 : Int32)))]) [1, 2, 3, 0] rfl ?_
                                                                        exact ih _ _
                                                                      · refine q_iconst (x := (0 : Int32)) dL_law_1465 rfl ?_
                                                                        exact q_zretL dL_law_1466 rfl (Or.inl rfl) rfl (Nat.le_of_ble_eq_true rfl) rfl
                                                                    · have b342 := q_step (c := 31) b329 c341 rfl (by decide)
                                                                      refine q_ifV (fun c354 => ?_) (fun c354 => ?_)
                                                                      · refine q_tabIn (tgt := 1467) 31 dL_law_33 c354 (by decide) (by decide) rfl (by decide) ?_
                                                                        refine q_aload_n 1 dL_law_1467 rfl ?_
                                                                        refine q_aload_s 0 dL_law_1468 rfl ?_
                                                                        refine q_iload_n 3 dL_law_1469 rfl ?_
                                                                        refine q_iconst (x := (1 : Int32)) dL_law_1470 rfl ?_
                                                                        refine q_iadd dL_law_1471 ?_
                                                                        refine q_sld rfl dL_law_1472 (fun h343 => ?_)
                                                                        refine q_aload_s 0 dL_law_1473 rfl ?_
                                                                        refine q_iload_n 3 dL_law_1474 rfl ?_
                                                                        refine q_iconst (x := (2 : Int32)) dL_law_1475 rfl ?_
                                                                        refine q_iadd dL_law_1476 ?_
                                                                        refine q_sld rfl dL_law_1477 (fun h344 => ?_)
                                                                        refine q_aload_s 0 dL_law_1478 rfl ?_
                                                                        refine q_iload_n 3 dL_law_1479 rfl ?_
                                                                        refine q_iconst (x := (3 : Int32)) dL_law_1480 rfl ?_
                                                                        refine q_iadd dL_law_1481 ?_
                                                                        refine q_sld rfl dL_law_1482 (fun h345 => ?_)
                                                                        refine q_cVMJ (Y2 := Y_X11_share) (As := [.int (xs (a3 + (1 : Int32)).toNatClampNeg), .int (xs (a3 + (2 : Int32)).toNatClampNeg), .int (xs (a3 + (3 : Int32)).toNatClampNeg)]) (b := a1) (st := []) cl_X11 mv_X11_share qw_845 dL_law_1483 ⟨Nat.le_of_ble_eq_true rfl, Nat.le_of_ble_eq_true rfl⟩ rfl (fun _ _ => rfl) (Nat.le_of_ble_eq_true rfl) ⟨Nat.le_of_ble_eq_true rfl, Nat.le_of_ble_eq_true rfl⟩ (fun r347 h346 => q_ob_is h346) (fun r347 h346 => m_X11_share h346) (fun r347 h346 => ?_)
                                                                        refine q_aload_n 2 dL_law_1486 rfl ?_
                                                                        refine q_aload_s 0 dL_law_1487 rfl ?_
                                                                        refine q_iload_n 3 dL_law_1488 rfl ?_
                                                                        refine q_iconst (x := (1 : Int32)) dL_law_1489 rfl ?_
                                                                        refine q_iadd dL_law_1490 ?_
                                                                        refine q_sld rfl dL_law_1491 (fun h348 => ?_)
                                                                        refine q_aload_s 0 dL_law_1492 rfl ?_
                                                                        refine q_iload_n 3 dL_law_1493 rfl ?_
                                                                        refine q_iconst (x := (2 : Int32)) dL_law_1494 rfl ?_
                                                                        refine q_iadd dL_law_1495 ?_
                                                                        refine q_sld rfl dL_law_1496 (fun h349 => ?_)
                                                                        refine q_aload_s 0 dL_law_1497 rfl ?_
                                                                        refine q_iload_n 3 dL_law_1498 rfl ?_
                                                                        refine q_iconst (x := (3 : Int32)) dL_law_1499 rfl ?_
                                                                        refine q_iadd dL_law_1500 ?_
                                                                        refine q_sld rfl dL_law_1501 (fun h350 => ?_)
                                                                        refine q_cVMJ (Y2 := Y_X12_share) (As := [.int (xs (a3 + (1 : Int32)).toNatClampNeg), .int (xs (a3 + (2 : Int32)).toNatClampNeg), .int (xs (a3 + (3 : Int32)).toNatClampNeg)]) (b := a2) (st := [.long r347.1]) cl_X12 mv_X12_share qw_1523 dL_law_1502 ⟨Nat.le_of_ble_eq_true rfl, Nat.le_of_ble_eq_true rfl⟩ rfl (fun _ _ => rfl) (Nat.le_of_ble_eq_true rfl) ⟨Nat.le_of_ble_eq_true rfl, Nat.le_of_ble_eq_true rfl⟩ (fun r352 h351 => q_ob_is h351) (fun r352 h351 => m_X12_share h351) (fun r352 h351 => ?_)
                                                                        refine q_lcmp_eq (tgt := 2161) dL_law_1505 dL_law_1506 (by decide) (fun c353 => ?_) (fun c353 => ?_)
                                                                        · refine q_iinc 3 (y := (a3 + (6 : Int32))) (ls' := [(3, .int (a3 + (6 : Int32))), (0, .float 0), (1, .ref a1), (2, .ref a2)]) dL_law_2161 rfl rfl (by decide) rfl ?_
                                                                          refine q_goto (tgt := 18) dL_law_2164 (by decide) ?_
                                                                          refine q_sub (ls' := [(0, .float 0), (1, .ref a1), (2, .ref a2), (3, .int (a3 + (6 : Int32)))]) [1, 2, 3, 0] rfl ?_
                                                                          exact ih _ _
                                                                        · refine q_iconst (x := (0 : Int32)) dL_law_1509 rfl ?_
                                                                          exact q_zretL dL_law_1510 rfl (Or.inl rfl) rfl (Nat.le_of_ble_eq_true rfl) rfl
                                                                      · have b355 := q_step (c := 32) b342 c354 rfl (by decide)
                                                                        refine q_ifV (fun c367 => ?_) (fun c367 => ?_)
                                                                        · refine q_tabIn (tgt := 1511) 32 dL_law_33 c367 (by decide) (by decide) rfl (by decide) ?_
                                                                          refine q_aload_n 1 dL_law_1511 rfl ?_
                                                                          refine q_aload_s 0 dL_law_1512 rfl ?_
                                                                          refine q_iload_n 3 dL_law_1513 rfl ?_
                                                                          refine q_iconst (x := (1 : Int32)) dL_law_1514 rfl ?_
                                                                          refine q_iadd dL_law_1515 ?_
                                                                          refine q_sld rfl dL_law_1516 (fun h356 => ?_)
                                                                          refine q_aload_s 0 dL_law_1517 rfl ?_
                                                                          refine q_iload_n 3 dL_law_1518 rfl ?_
                                                                          refine q_iconst (x := (2 : Int32)) dL_law_1519 rfl ?_
                                                                          refine q_iadd dL_law_1520 ?_
                                                                          refine q_sld rfl dL_law_1521 (fun h357 => ?_)
                                                                          refine q_aload_s 0 dL_law_1522 rfl ?_
                                                                          refine q_iload_n 3 dL_law_1523 rfl ?_
                                                                          refine q_iconst (x := (3 : Int32)) dL_law_1524 rfl ?_
                                                                          refine q_iadd dL_law_1525 ?_
                                                                          refine q_sld rfl dL_law_1526 (fun h358 => ?_)
                                                                          refine q_cVMI (Y2 := Y_X11_watered) (As := [.int (xs (a3 + (1 : Int32)).toNatClampNeg), .int (xs (a3 + (2 : Int32)).toNatClampNeg), .int (xs (a3 + (3 : Int32)).toNatClampNeg)]) (b := a1) (st := []) cl_X11 mv_X11_watered qw_849 dL_law_1527 ⟨Nat.le_of_ble_eq_true rfl, Nat.le_of_ble_eq_true rfl⟩ rfl (fun _ _ => rfl) (Nat.le_of_ble_eq_true rfl) ⟨Nat.le_of_ble_eq_true rfl, Nat.le_of_ble_eq_true rfl⟩ (fun r360 h359 => q_ob_is h359) (fun r360 h359 => m_X11_watered h359) (fun r360 h359 => ?_)
                                                                          refine q_aload_n 2 dL_law_1530 rfl ?_
                                                                          refine q_aload_s 0 dL_law_1531 rfl ?_
                                                                          refine q_iload_n 3 dL_law_1532 rfl ?_
                                                                          refine q_iconst (x := (1 : Int32)) dL_law_1533 rfl ?_
                                                                          refine q_iadd dL_law_1534 ?_
                                                                          refine q_sld rfl dL_law_1535 (fun h361 => ?_)
                                                                          refine q_aload_s 0 dL_law_1536 rfl ?_
                                                                          refine q_iload_n 3 dL_law_1537 rfl ?_
                                                                          refine q_iconst (x := (2 : Int32)) dL_law_1538 rfl ?_
                                                                          refine q_iadd dL_law_1539 ?_
                                                                          refine q_sld rfl dL_law_1540 (fun h362 => ?_)
                                                                          refine q_aload_s 0 dL_law_1541 rfl ?_
                                                                          refine q_iload_n 3 dL_law_1542 rfl ?_
                                                                          refine q_iconst (x := (3 : Int32)) dL_law_1543 rfl ?_
                                                                          refine q_iadd dL_law_1544 ?_
                                                                          refine q_sld rfl dL_law_1545 (fun h363 => ?_)
                                                                          refine q_cVMI (Y2 := Y_X12_watered) (As := [.int (xs (a3 + (1 : Int32)).toNatClampNeg), .int (xs (a3 + (2 : Int32)).toNatClampNeg), .int (xs (a3 + (3 : Int32)).toNatClampNeg)]) (b := a2) (st := [.int r360.1]) cl_X12 mv_X12_watered qw_1536 dL_law_1546 ⟨Nat.le_of_ble_eq_true rfl, Nat.le_of_ble_eq_true rfl⟩ rfl (fun _ _ => rfl) (Nat.le_of_ble_eq_true rfl) ⟨Nat.le_of_ble_eq_true rfl, Nat.le_of_ble_eq_true rfl⟩ (fun r365 h364 => q_ob_is h364) (fun r365 h364 => m_X12_watered h364) (fun r365 h364 => ?_)
                                                                          refine q_icmp_eq (tgt := 2161) dL_law_1549 (by decide) (fun c366 => ?_) (fun c366 => ?_)
                                                                          · refine q_iinc 3 (y := (a3 + (6 : Int32))) (ls' := [(3, .int (a3 + (6 : Int32))), (0, .float 0), (1, .ref a1), (2, .ref a2)]) dL_law_2161 rfl rfl (by decide) rfl ?_
                                                                            refine q_goto (tgt := 18) dL_law_2164 (by decide) ?_
                                                                            refine q_sub (ls' := [(0, .float 0), (1, .ref a1), (2, .ref a2), (3, .int (a3 + (6 : Int32)))]) [1, 2, 3, 0] rfl ?_
                                                                            exact ih _ _
                                                                          · refine q_iconst (x := (0 : Int32)) dL_law_1552 rfl ?_
                                                                            exact q_zretL dL_law_1553 rfl (Or.inl rfl) rfl (Nat.le_of_ble_eq_true rfl) rfl
                                                                        · have b368 := q_step (c := 33) b355 c367 rfl (by decide)
                                                                          refine q_ifV (fun c376 => ?_) (fun c376 => ?_)
                                                                          · refine q_tabIn (tgt := 1554) 33 dL_law_33 c376 (by decide) (by decide) rfl (by decide) ?_
                                                                            refine q_aload_n 1 dL_law_1554 rfl ?_
                                                                            refine q_aload_s 0 dL_law_1555 rfl ?_
                                                                            refine q_iload_n 3 dL_law_1556 rfl ?_
                                                                            refine q_iconst (x := (1 : Int32)) dL_law_1557 rfl ?_
                                                                            refine q_iadd dL_law_1558 ?_
                                                                            refine q_sld rfl dL_law_1559 (fun h369 => ?_)
                                                                            refine q_cVMI (Y2 := Y_X11_sour) (As := [.int (xs (a3 + (1 : Int32)).toNatClampNeg)]) (b := a1) (st := []) cl_X11 mv_X11_sour qw_861 dL_law_1560 ⟨Nat.le_of_ble_eq_true rfl, Nat.le_of_ble_eq_true rfl⟩ rfl (fun _ _ => rfl) (Nat.le_of_ble_eq_true rfl) ⟨Nat.le_of_ble_eq_true rfl, Nat.le_of_ble_eq_true rfl⟩ (fun r371 h370 => q_ob_is h370) (fun r371 h370 => m_X11_sour h370) (fun r371 h370 => ?_)
                                                                            refine q_aload_n 2 dL_law_1563 rfl ?_
                                                                            refine q_aload_s 0 dL_law_1564 rfl ?_
                                                                            refine q_iload_n 3 dL_law_1565 rfl ?_
                                                                            refine q_iconst (x := (1 : Int32)) dL_law_1566 rfl ?_
                                                                            refine q_iadd dL_law_1567 ?_
                                                                            refine q_sld rfl dL_law_1568 (fun h372 => ?_)
                                                                            refine q_cVMI (Y2 := Y_X12_sour) (As := [.int (xs (a3 + (1 : Int32)).toNatClampNeg)]) (b := a2) (st := [.int r371.1]) cl_X12 mv_X12_sour qw_1540 dL_law_1569 ⟨Nat.le_of_ble_eq_true rfl, Nat.le_of_ble_eq_true rfl⟩ rfl (fun _ _ => rfl) (Nat.le_of_ble_eq_true rfl) ⟨Nat.le_of_ble_eq_true rfl, Nat.le_of_ble_eq_true rfl⟩ (fun r374 h373 => q_ob_is h373) (fun r374 h373 => m_X12_sour h373) (fun r374 h373 => ?_)
                                                                            refine q_icmp_eq (tgt := 2161) dL_law_1572 (by decide) (fun c375 => ?_) (fun c375 => ?_)
                                                                            · refine q_iinc 3 (y := (a3 + (6 : Int32))) (ls' := [(3, .int (a3 + (6 : Int32))), (0, .float 0), (1, .ref a1), (2, .ref a2)]) dL_law_2161 rfl rfl (by decide) rfl ?_
                                                                              refine q_goto (tgt := 18) dL_law_2164 (by decide) ?_
                                                                              refine q_sub (ls' := [(0, .float 0), (1, .ref a1), (2, .ref a2), (3, .int (a3 + (6 : Int32)))]) [1, 2, 3, 0] rfl ?_
                                                                              exact ih _ _
                                                                            · refine q_iconst (x := (0 : Int32)) dL_law_1575 rfl ?_
                                                                              exact q_zretL dL_law_1576 rfl (Or.inl rfl) rfl (Nat.le_of_ble_eq_true rfl) rfl
                                                                          · have b377 := q_step (c := 34) b368 c376 rfl (by decide)
                                                                            refine q_ifV (fun c385 => ?_) (fun c385 => ?_)
                                                                            · refine q_tabIn (tgt := 1577) 34 dL_law_33 c385 (by decide) (by decide) rfl (by decide) ?_
                                                                              refine q_aload_n 1 dL_law_1577 rfl ?_
                                                                              refine q_aload_s 0 dL_law_1578 rfl ?_
                                                                              refine q_iload_n 3 dL_law_1579 rfl ?_
                                                                              refine q_iconst (x := (1 : Int32)) dL_law_1580 rfl ?_
                                                                              refine q_iadd dL_law_1581 ?_
                                                                              refine q_sld rfl dL_law_1582 (fun h378 => ?_)
                                                                              refine q_cVMI (Y2 := Y_X11_route) (As := [.int (xs (a3 + (1 : Int32)).toNatClampNeg)]) (b := a1) (st := []) cl_X11 mv_X11_route qw_865 dL_law_1583 ⟨Nat.le_of_ble_eq_true rfl, Nat.le_of_ble_eq_true rfl⟩ rfl (fun _ _ => rfl) (Nat.le_of_ble_eq_true rfl) ⟨Nat.le_of_ble_eq_true rfl, Nat.le_of_ble_eq_true rfl⟩ (fun r380 h379 => q_ob_is h379) (fun r380 h379 => m_X11_route h379) (fun r380 h379 => ?_)
                                                                              refine q_aload_n 2 dL_law_1586 rfl ?_
                                                                              refine q_aload_s 0 dL_law_1587 rfl ?_
                                                                              refine q_iload_n 3 dL_law_1588 rfl ?_
                                                                              refine q_iconst (x := (1 : Int32)) dL_law_1589 rfl ?_
                                                                              refine q_iadd dL_law_1590 ?_
                                                                              refine q_sld rfl dL_law_1591 (fun h381 => ?_)
                                                                              refine q_cVMI (Y2 := Y_X12_route) (As := [.int (xs (a3 + (1 : Int32)).toNatClampNeg)]) (b := a2) (st := [.int r380.1]) cl_X12 mv_X12_route qw_1544 dL_law_1592 ⟨Nat.le_of_ble_eq_true rfl, Nat.le_of_ble_eq_true rfl⟩ rfl (fun _ _ => rfl) (Nat.le_of_ble_eq_true rfl) ⟨Nat.le_of_ble_eq_true rfl, Nat.le_of_ble_eq_true rfl⟩ (fun r383 h382 => q_ob_is h382) (fun r383 h382 => m_X12_route h382) (fun r383 h382 => ?_)
                                                                              refine q_icmp_eq (tgt := 2161) dL_law_1595 (by decide) (fun c384 => ?_) (fun c384 => ?_)
                                                                              · refine q_iinc 3 (y := (a3 + (6 : Int32))) (ls' := [(3, .int (a3 + (6 : Int32))), (0, .float 0), (1, .ref a1), (2, .ref a2)]) dL_law_2161 rfl rfl (by decide) rfl ?_
                                                                                refine q_goto (tgt := 18) dL_law_2164 (by decide) ?_
                                                                                refine q_sub (ls' := [(0, .float 0), (1, .ref a1), (2, .ref a2), (3, .int (a3 + (6 : Int32)))]) [1, 2, 3, 0] rfl ?_
                                                                                exact ih _ _
                                                                              · refine q_iconst (x := (0 : Int32)) dL_law_1598 rfl ?_
                                                                                exact q_zretL dL_law_1599 rfl (Or.inl rfl) rfl (Nat.le_of_ble_eq_true rfl) rfl
                                                                            · have b386 := q_step (c := 35) b377 c385 rfl (by decide)
                                                                              refine q_ifV (fun c396 => ?_) (fun c396 => ?_)
                                                                              · refine q_tabIn (tgt := 1600) 35 dL_law_33 c396 (by decide) (by decide) rfl (by decide) ?_
                                                                                refine q_aload_n 1 dL_law_1600 rfl ?_
                                                                                refine q_aload_s 0 dL_law_1601 rfl ?_
                                                                                refine q_iload_n 3 dL_law_1602 rfl ?_
                                                                                refine q_iconst (x := (1 : Int32)) dL_law_1603 rfl ?_
                                                                                refine q_iadd dL_law_1604 ?_
                                                                                refine q_sld rfl dL_law_1605 (fun h387 => ?_)
                                                                                refine q_aload_s 0 dL_law_1606 rfl ?_
                                                                                refine q_iload_n 3 dL_law_1607 rfl ?_
                                                                                refine q_iconst (x := (2 : Int32)) dL_law_1608 rfl ?_
                                                                                refine q_iadd dL_law_1609 ?_
                                                                                refine q_sld rfl dL_law_1610 (fun h388 => ?_)
                                                                                refine q_cVMI (Y2 := Y_X11_routeAt) (As := [.int (xs (a3 + (1 : Int32)).toNatClampNeg), .int (xs (a3 + (2 : Int32)).toNatClampNeg)]) (b := a1) (st := []) cl_X11 mv_X11_routeAt qw_934 dL_law_1611 ⟨Nat.le_of_ble_eq_true rfl, Nat.le_of_ble_eq_true rfl⟩ rfl (fun _ _ => rfl) (Nat.le_of_ble_eq_true rfl) ⟨Nat.le_of_ble_eq_true rfl, Nat.le_of_ble_eq_true rfl⟩ (fun r390 h389 => q_ob_is h389) (fun r390 h389 => m_X11_routeAt h389) (fun r390 h389 => ?_)
                                                                                refine q_aload_n 2 dL_law_1614 rfl ?_
                                                                                refine q_aload_s 0 dL_law_1615 rfl ?_
                                                                                refine q_iload_n 3 dL_law_1616 rfl ?_
                                                                                refine q_iconst (x := (1 : Int32)) dL_law_1617 rfl ?_
                                                                                refine q_iadd dL_law_1618 ?_
                                                                                refine q_sld rfl dL_law_1619 (fun h391 => ?_)
                                                                                refine q_aload_s 0 dL_law_1620 rfl ?_
                                                                                refine q_iload_n 3 dL_law_1621 rfl ?_
                                                                                refine q_iconst (x := (2 : Int32)) dL_law_1622 rfl ?_
                                                                                refine q_iadd dL_law_1623 ?_
                                                                                refine q_sld rfl dL_law_1624 (fun h392 => ?_)
                                                                                refine q_cVMI (Y2 := Y_X12_routeAt) (As := [.int (xs (a3 + (1 : Int32)).toNatClampNeg), .int (xs (a3 + (2 : Int32)).toNatClampNeg)]) (b := a2) (st := [.int r390.1]) cl_X12 mv_X12_routeAt qw_1574 dL_law_1625 ⟨Nat.le_of_ble_eq_true rfl, Nat.le_of_ble_eq_true rfl⟩ rfl (fun _ _ => rfl) (Nat.le_of_ble_eq_true rfl) ⟨Nat.le_of_ble_eq_true rfl, Nat.le_of_ble_eq_true rfl⟩ (fun r394 h393 => q_ob_is h393) (fun r394 h393 => m_X12_routeAt h393) (fun r394 h393 => ?_)
                                                                                refine q_icmp_eq (tgt := 2161) dL_law_1628 (by decide) (fun c395 => ?_) (fun c395 => ?_)
                                                                                · refine q_iinc 3 (y := (a3 + (6 : Int32))) (ls' := [(3, .int (a3 + (6 : Int32))), (0, .float 0), (1, .ref a1), (2, .ref a2)]) dL_law_2161 rfl rfl (by decide) rfl ?_
                                                                                  refine q_goto (tgt := 18) dL_law_2164 (by decide) ?_
                                                                                  refine q_sub (ls' := [(0, .float 0), (1, .ref a1), (2, .ref a2), (3, .int (a3 + (6 : Int32)))]) [1, 2, 3, 0] rfl ?_
                                                                                  exact ih _ _
                                                                                · refine q_iconst (x := (0 : Int32)) dL_law_1631 rfl ?_
                                                                                  exact q_zretL dL_law_1632 rfl (Or.inl rfl) rfl (Nat.le_of_ble_eq_true rfl) rfl
                                                                              · have b397 := q_step (c := 36) b386 c396 rfl (by decide)
                                                                                refine q_ifV (fun c409 => ?_) (fun c409 => ?_)
                                                                                · refine q_tabIn (tgt := 1633) 36 dL_law_33 c409 (by decide) (by decide) rfl (by decide) ?_
                                                                                  refine q_aload_n 1 dL_law_1633 rfl ?_
                                                                                  refine q_aload_s 0 dL_law_1634 rfl ?_
                                                                                  refine q_iload_n 3 dL_law_1635 rfl ?_
                                                                                  refine q_iconst (x := (1 : Int32)) dL_law_1636 rfl ?_
                                                                                  refine q_iadd dL_law_1637 ?_
                                                                                  refine q_sld rfl dL_law_1638 (fun h398 => ?_)
                                                                                  refine q_aload_s 0 dL_law_1639 rfl ?_
                                                                                  refine q_iload_n 3 dL_law_1640 rfl ?_
                                                                                  refine q_iconst (x := (2 : Int32)) dL_law_1641 rfl ?_
                                                                                  refine q_iadd dL_law_1642 ?_
                                                                                  refine q_sld rfl dL_law_1643 (fun h399 => ?_)
                                                                                  refine q_aload_s 0 dL_law_1644 rfl ?_
                                                                                  refine q_iload_n 3 dL_law_1645 rfl ?_
                                                                                  refine q_iconst (x := (3 : Int32)) dL_law_1646 rfl ?_
                                                                                  refine q_iadd dL_law_1647 ?_
                                                                                  refine q_sld rfl dL_law_1648 (fun h400 => ?_)
                                                                                  refine q_cVMI (Y2 := Y_X11_cream) (As := [.int (xs (a3 + (1 : Int32)).toNatClampNeg), .int (xs (a3 + (2 : Int32)).toNatClampNeg), .int (xs (a3 + (3 : Int32)).toNatClampNeg)]) (b := a1) (st := []) cl_X11 mv_X11_cream qw_942 dL_law_1649 ⟨Nat.le_of_ble_eq_true rfl, Nat.le_of_ble_eq_true rfl⟩ rfl (fun _ _ => rfl) (Nat.le_of_ble_eq_true rfl) ⟨Nat.le_of_ble_eq_true rfl, Nat.le_of_ble_eq_true rfl⟩ (fun r402 h401 => q_ob_is h401) (fun r402 h401 => m_X11_cream h401) (fun r402 h401 => ?_)
                                                                                  refine q_aload_n 2 dL_law_1652 rfl ?_
                                                                                  refine q_aload_s 0 dL_law_1653 rfl ?_
                                                                                  refine q_iload_n 3 dL_law_1654 rfl ?_
                                                                                  refine q_iconst (x := (1 : Int32)) dL_law_1655 rfl ?_
                                                                                  refine q_iadd dL_law_1656 ?_
                                                                                  refine q_sld rfl dL_law_1657 (fun h403 => ?_)
                                                                                  refine q_aload_s 0 dL_law_1658 rfl ?_
                                                                                  refine q_iload_n 3 dL_law_1659 rfl ?_
                                                                                  refine q_iconst (x := (2 : Int32)) dL_law_1660 rfl ?_
                                                                                  refine q_iadd dL_law_1661 ?_
                                                                                  refine q_sld rfl dL_law_1662 (fun h404 => ?_)
                                                                                  refine q_aload_s 0 dL_law_1663 rfl ?_
                                                                                  refine q_iload_n 3 dL_law_1664 rfl ?_
                                                                                  refine q_iconst (x := (3 : Int32)) dL_law_1665 rfl ?_
                                                                                  refine q_iadd dL_law_1666 ?_
                                                                                  refine q_sld rfl dL_law_1667 (fun h405 => ?_)
                                                                                  refine q_cVMI (Y2 := Y_X12_cream) (As := [.int (xs (a3 + (1 : Int32)).toNatClampNeg), .int (xs (a3 + (2 : Int32)).toNatClampNeg), .int (xs (a3 + (3 : Int32)).toNatClampNeg)]) (b := a2) (st := [.int r402.1]) cl_X12 mv_X12_cream qw_1578 dL_law_1668 ⟨Nat.le_of_ble_eq_true rfl, Nat.le_of_ble_eq_true rfl⟩ rfl (fun _ _ => rfl) (Nat.le_of_ble_eq_true rfl) ⟨Nat.le_of_ble_eq_true rfl, Nat.le_of_ble_eq_true rfl⟩ (fun r407 h406 => q_ob_is h406) (fun r407 h406 => m_X12_cream h406) (fun r407 h406 => ?_)
                                                                                  refine q_icmp_eq (tgt := 2161) dL_law_1671 (by decide) (fun c408 => ?_) (fun c408 => ?_)
                                                                                  · refine q_iinc 3 (y := (a3 + (6 : Int32))) (ls' := [(3, .int (a3 + (6 : Int32))), (0, .float 0), (1, .ref a1), (2, .ref a2)]) dL_law_2161 rfl rfl (by decide) rfl ?_
                                                                                    refine q_goto (tgt := 18) dL_law_2164 (by decide) ?_
                                                                                    refine q_sub (ls' := [(0, .float 0), (1, .ref a1), (2, .ref a2), (3, .int (a3 + (6 : Int32)))]) [1, 2, 3, 0] rfl ?_
                                                                                    exact ih _ _
                                                                                  · refine q_iconst (x := (0 : Int32)) dL_law_1674 rfl ?_
                                                                                    exact q_zretL dL_law_1675 rfl (Or.inl rfl) rfl (Nat.le_of_ble_eq_true rfl) rfl
                                                                                · have b410 := q_step (c := 37) b397 c409 rfl (by decide)
                                                                                  refine q_ifV (fun c416 => ?_) (fun c416 => ?_)
                                                                                  · refine q_tabIn (tgt := 1676) 37 dL_law_33 c416 (by decide) (by decide) rfl (by decide) ?_
                                                                                    refine q_aload_n 1 dL_law_1676 rfl ?_
                                                                                    refine q_cVMI (Y2 := Y_X11_drain) (As := []) (b := a1) (st := []) cl_X11 mv_X11_drain qw_946 dL_law_1677 ⟨Nat.le_of_ble_eq_true rfl, Nat.le_of_ble_eq_true rfl⟩ rfl (fun _ _ => rfl) (Nat.le_of_ble_eq_true rfl) ⟨Nat.le_of_ble_eq_true rfl, Nat.le_of_ble_eq_true rfl⟩ (fun r412 h411 => q_ob_is h411) (fun r412 h411 => m_X11_drain h411) (fun r412 h411 => ?_)
                                                                                    refine q_aload_n 2 dL_law_1680 rfl ?_
                                                                                    refine q_cVMI (Y2 := Y_X12_drain) (As := []) (b := a2) (st := [.int r412.1]) cl_X12 mv_X12_drain qw_1582 dL_law_1681 ⟨Nat.le_of_ble_eq_true rfl, Nat.le_of_ble_eq_true rfl⟩ rfl (fun _ _ => rfl) (Nat.le_of_ble_eq_true rfl) ⟨Nat.le_of_ble_eq_true rfl, Nat.le_of_ble_eq_true rfl⟩ (fun r414 h413 => q_ob_is h413) (fun r414 h413 => m_X12_drain h413) (fun r414 h413 => ?_)
                                                                                    refine q_icmp_eq (tgt := 2161) dL_law_1684 (by decide) (fun c415 => ?_) (fun c415 => ?_)
                                                                                    · refine q_iinc 3 (y := (a3 + (6 : Int32))) (ls' := [(3, .int (a3 + (6 : Int32))), (0, .float 0), (1, .ref a1), (2, .ref a2)]) dL_law_2161 rfl rfl (by decide) rfl ?_
                                                                                      refine q_goto (tgt := 18) dL_law_2164 (by decide) ?_
                                                                                      refine q_sub (ls' := [(0, .float 0), (1, .ref a1), (2, .ref a2), (3, .int (a3 + (6 : Int32)))]) [1, 2, 3, 0] rfl ?_
                                                                                      exact ih _ _
                                                                                    · refine q_iconst (x := (0 : Int32)) dL_law_1687 rfl ?_
                                                                                      exact q_zretL dL_law_1688 rfl (Or.inl rfl) rfl (Nat.le_of_ble_eq_true rfl) rfl
                                                                                  · have b417 := q_step (c := 38) b410 c416 rfl (by decide)
                                                                                    refine q_ifV (fun c425 => ?_) (fun c425 => ?_)
                                                                                    · refine q_tabIn (tgt := 1689) 38 dL_law_33 c425 (by decide) (by decide) rfl (by decide) ?_
                                                                                      refine q_aload_n 1 dL_law_1689 rfl ?_
                                                                                      refine q_aload_s 0 dL_law_1690 rfl ?_
                                                                                      refine q_iload_n 3 dL_law_1691 rfl ?_
                                                                                      refine q_iconst (x := (1 : Int32)) dL_law_1692 rfl ?_
                                                                                      refine q_iadd dL_law_1693 ?_
                                                                                      refine q_sld rfl dL_law_1694 (fun h418 => ?_)
                                                                                      refine q_cVMJ (Y2 := Y_X11_together) (As := [.int (xs (a3 + (1 : Int32)).toNatClampNeg)]) (b := a1) (st := []) cl_X11 mv_X11_together qw_950 dL_law_1695 ⟨Nat.le_of_ble_eq_true rfl, Nat.le_of_ble_eq_true rfl⟩ rfl (fun _ _ => rfl) (Nat.le_of_ble_eq_true rfl) ⟨Nat.le_of_ble_eq_true rfl, Nat.le_of_ble_eq_true rfl⟩ (fun r420 h419 => q_ob_is h419) (fun r420 h419 => m_X11_together h419) (fun r420 h419 => ?_)
                                                                                      refine q_aload_n 2 dL_law_1698 rfl ?_
                                                                                      refine q_aload_s 0 dL_law_1699 rfl ?_
                                                                                      refine q_iload_n 3 dL_law_1700 rfl ?_
                                                                                      refine q_iconst (x := (1 : Int32)) dL_law_1701 rfl ?_
                                                                                      refine q_iadd dL_law_1702 ?_
                                                                                      refine q_sld rfl dL_law_1703 (fun h421 => ?_)
                                                                                      refine q_cVMJ (Y2 := Y_X12_together) (As := [.int (xs (a3 + (1 : Int32)).toNatClampNeg)]) (b := a2) (st := [.long r420.1]) cl_X12 mv_X12_together qw_1586 dL_law_1704 ⟨Nat.le_of_ble_eq_true rfl, Nat.le_of_ble_eq_true rfl⟩ rfl (fun _ _ => rfl) (Nat.le_of_ble_eq_true rfl) ⟨Nat.le_of_ble_eq_true rfl, Nat.le_of_ble_eq_true rfl⟩ (fun r423 h422 => q_ob_is h422) (fun r423 h422 => m_X12_together h422) (fun r423 h422 => ?_)
                                                                                      refine q_lcmp_eq (tgt := 2161) dL_law_1707 dL_law_1708 (by decide) (fun c424 => ?_) (fun c424 => ?_)
                                                                                      · refine q_iinc 3 (y := (a3 + (6 : Int32))) (ls' := [(3, .int (a3 + (6 : Int32))), (0, .float 0), (1, .ref a1), (2, .ref a2)]) dL_law_2161 rfl rfl (by decide) rfl ?_
                                                                                        refine q_goto (tgt := 18) dL_law_2164 (by decide) ?_
                                                                                        refine q_sub (ls' := [(0, .float 0), (1, .ref a1), (2, .ref a2), (3, .int (a3 + (6 : Int32)))]) [1, 2, 3, 0] rfl ?_
                                                                                        exact ih _ _
                                                                                      · refine q_iconst (x := (0 : Int32)) dL_law_1711 rfl ?_
                                                                                        exact q_zretL dL_law_1712 rfl (Or.inl rfl) rfl (Nat.le_of_ble_eq_true rfl) rfl
                                                                                    · have b426 := q_step (c := 39) b417 c425 rfl (by decide)
                                                                                      refine q_ifV (fun c436 => ?_) (fun c436 => ?_)
                                                                                      · refine q_tabIn (tgt := 1713) 39 dL_law_33 c436 (by decide) (by decide) rfl (by decide) ?_
                                                                                        refine q_aload_n 1 dL_law_1713 rfl ?_
                                                                                        refine q_aload_s 0 dL_law_1714 rfl ?_
                                                                                        refine q_iload_n 3 dL_law_1715 rfl ?_
                                                                                        refine q_iconst (x := (1 : Int32)) dL_law_1716 rfl ?_
                                                                                        refine q_iadd dL_law_1717 ?_
                                                                                        refine q_sld rfl dL_law_1718 (fun h427 => ?_)
                                                                                        refine q_aload_s 0 dL_law_1719 rfl ?_
                                                                                        refine q_iload_n 3 dL_law_1720 rfl ?_
                                                                                        refine q_iconst (x := (2 : Int32)) dL_law_1721 rfl ?_
                                                                                        refine q_iadd dL_law_1722 ?_
                                                                                        refine q_sld rfl dL_law_1723 (fun h428 => ?_)
                                                                                        refine q_cVMI (Y2 := Y_X11_heap) (As := [.int (xs (a3 + (1 : Int32)).toNatClampNeg), .int (xs (a3 + (2 : Int32)).toNatClampNeg)]) (b := a1) (st := []) cl_X11 mv_X11_heap qw_997 dL_law_1724 ⟨Nat.le_of_ble_eq_true rfl, Nat.le_of_ble_eq_true rfl⟩ rfl (fun _ _ => rfl) (Nat.le_of_ble_eq_true rfl) ⟨Nat.le_of_ble_eq_true rfl, Nat.le_of_ble_eq_true rfl⟩ (fun r430 h429 => q_ob_is h429) (fun r430 h429 => m_X11_heap h429) (fun r430 h429 => ?_)
                                                                                        refine q_aload_n 2 dL_law_1727 rfl ?_
                                                                                        refine q_aload_s 0 dL_law_1728 rfl ?_
                                                                                        refine q_iload_n 3 dL_law_1729 rfl ?_
                                                                                        refine q_iconst (x := (1 : Int32)) dL_law_1730 rfl ?_
                                                                                        refine q_iadd dL_law_1731 ?_
                                                                                        refine q_sld rfl dL_law_1732 (fun h431 => ?_)
                                                                                        refine q_aload_s 0 dL_law_1733 rfl ?_
                                                                                        refine q_iload_n 3 dL_law_1734 rfl ?_
                                                                                        refine q_iconst (x := (2 : Int32)) dL_law_1735 rfl ?_
                                                                                        refine q_iadd dL_law_1736 ?_
                                                                                        refine q_sld rfl dL_law_1737 (fun h432 => ?_)
                                                                                        refine q_cVMI (Y2 := Y_X12_heap) (As := [.int (xs (a3 + (1 : Int32)).toNatClampNeg), .int (xs (a3 + (2 : Int32)).toNatClampNeg)]) (b := a2) (st := [.int r430.1]) cl_X12 mv_X12_heap qw_1607 dL_law_1738 ⟨Nat.le_of_ble_eq_true rfl, Nat.le_of_ble_eq_true rfl⟩ rfl (fun _ _ => rfl) (Nat.le_of_ble_eq_true rfl) ⟨Nat.le_of_ble_eq_true rfl, Nat.le_of_ble_eq_true rfl⟩ (fun r434 h433 => q_ob_is h433) (fun r434 h433 => m_X12_heap h433) (fun r434 h433 => ?_)
                                                                                        refine q_icmp_eq (tgt := 2161) dL_law_1741 (by decide) (fun c435 => ?_) (fun c435 => ?_)
                                                                                        · refine q_iinc 3 (y := (a3 + (6 : Int32))) (ls' := [(3, .int (a3 + (6 : Int32))), (0, .float 0), (1, .ref a1), (2, .ref a2)]) dL_law_2161 rfl rfl (by decide) rfl ?_
                                                                                          refine q_goto (tgt := 18) dL_law_2164 (by decide) ?_
                                                                                          refine q_sub (ls' := [(0, .float 0), (1, .ref a1), (2, .ref a2), (3, .int (a3 + (6 : Int32)))]) [1, 2, 3, 0] rfl ?_
                                                                                          exact ih _ _
                                                                                        · refine q_iconst (x := (0 : Int32)) dL_law_1744 rfl ?_
                                                                                          exact q_zretL dL_law_1745 rfl (Or.inl rfl) rfl (Nat.le_of_ble_eq_true rfl) rfl
                                                                                      · have b437 := q_step (c := 40) b426 c436 rfl (by decide)
                                                                                        refine q_ifV (fun c447 => ?_) (fun c447 => ?_)
                                                                                        · refine q_tabIn (tgt := 1746) 40 dL_law_33 c447 (by decide) (by decide) rfl (by decide) ?_
                                                                                          refine q_aload_n 1 dL_law_1746 rfl ?_
                                                                                          refine q_aload_s 0 dL_law_1747 rfl ?_
                                                                                          refine q_iload_n 3 dL_law_1748 rfl ?_
                                                                                          refine q_iconst (x := (1 : Int32)) dL_law_1749 rfl ?_
                                                                                          refine q_iadd dL_law_1750 ?_
                                                                                          refine q_sld rfl dL_law_1751 (fun h438 => ?_)
                                                                                          refine q_aload_s 0 dL_law_1752 rfl ?_
                                                                                          refine q_iload_n 3 dL_law_1753 rfl ?_
                                                                                          refine q_iconst (x := (2 : Int32)) dL_law_1754 rfl ?_
                                                                                          refine q_iadd dL_law_1755 ?_
                                                                                          refine q_sld rfl dL_law_1756 (fun h439 => ?_)
                                                                                          refine q_cVMI (Y2 := Y_X11_gives) (As := [.int (xs (a3 + (1 : Int32)).toNatClampNeg), .int (xs (a3 + (2 : Int32)).toNatClampNeg)]) (b := a1) (st := []) cl_X11 mv_X11_gives qw_1005 dL_law_1757 ⟨Nat.le_of_ble_eq_true rfl, Nat.le_of_ble_eq_true rfl⟩ rfl (fun _ _ => rfl) (Nat.le_of_ble_eq_true rfl) ⟨Nat.le_of_ble_eq_true rfl, Nat.le_of_ble_eq_true rfl⟩ (fun r441 h440 => q_ob_is h440) (fun r441 h440 => m_X11_gives h440) (fun r441 h440 => ?_)
                                                                                          refine q_aload_n 2 dL_law_1760 rfl ?_
                                                                                          refine q_aload_s 0 dL_law_1761 rfl ?_
                                                                                          refine q_iload_n 3 dL_law_1762 rfl ?_
                                                                                          refine q_iconst (x := (1 : Int32)) dL_law_1763 rfl ?_
                                                                                          refine q_iadd dL_law_1764 ?_
                                                                                          refine q_sld rfl dL_law_1765 (fun h442 => ?_)
                                                                                          refine q_aload_s 0 dL_law_1766 rfl ?_
                                                                                          refine q_iload_n 3 dL_law_1767 rfl ?_
                                                                                          refine q_iconst (x := (2 : Int32)) dL_law_1768 rfl ?_
                                                                                          refine q_iadd dL_law_1769 ?_
                                                                                          refine q_sld rfl dL_law_1770 (fun h443 => ?_)
                                                                                          refine q_cVMI (Y2 := Y_X12_gives) (As := [.int (xs (a3 + (1 : Int32)).toNatClampNeg), .int (xs (a3 + (2 : Int32)).toNatClampNeg)]) (b := a2) (st := [.int r441.1]) cl_X12 mv_X12_gives qw_1611 dL_law_1771 ⟨Nat.le_of_ble_eq_true rfl, Nat.le_of_ble_eq_true rfl⟩ rfl (fun _ _ => rfl) (Nat.le_of_ble_eq_true rfl) ⟨Nat.le_of_ble_eq_true rfl, Nat.le_of_ble_eq_true rfl⟩ (fun r445 h444 => q_ob_is h444) (fun r445 h444 => m_X12_gives h444) (fun r445 h444 => ?_)
                                                                                          refine q_icmp_eq (tgt := 2161) dL_law_1774 (by decide) (fun c446 => ?_) (fun c446 => ?_)
                                                                                          · refine q_iinc 3 (y := (a3 + (6 : Int32))) (ls' := [(3, .int (a3 + (6 : Int32))), (0, .float 0), (1, .ref a1), (2, .ref a2)]) dL_law_2161 rfl rfl (by decide) rfl ?_
                                                                                            refine q_goto (tgt := 18) dL_law_2164 (by decide) ?_
                                                                                            refine q_sub (ls' := [(0, .float 0), (1, .ref a1), (2, .ref a2), (3, .int (a3 + (6 : Int32)))]) [1, 2, 3, 0] rfl ?_
                                                                                            exact ih _ _
                                                                                          · refine q_iconst (x := (0 : Int32)) dL_law_1777 rfl ?_
                                                                                            exact q_zretL dL_law_1778 rfl (Or.inl rfl) rfl (Nat.le_of_ble_eq_true rfl) rfl
                                                                                        · have b448 := q_step (c := 41) b437 c447 rfl (by decide)
                                                                                          refine q_ifV (fun c460 => ?_) (fun c460 => ?_)
                                                                                          · refine q_tabIn (tgt := 1779) 41 dL_law_33 c460 (by decide) (by decide) rfl (by decide) ?_
                                                                                            refine q_aload_n 1 dL_law_1779 rfl ?_
                                                                                            refine q_aload_s 0 dL_law_1780 rfl ?_
                                                                                            refine q_iload_n 3 dL_law_1781 rfl ?_
                                                                                            refine q_iconst (x := (1 : Int32)) dL_law_1782 rfl ?_
                                                                                            refine q_iadd dL_law_1783 ?_
                                                                                            refine q_sld rfl dL_law_1784 (fun h449 => ?_)
                                                                                            refine q_aload_s 0 dL_law_1785 rfl ?_
                                                                                            refine q_iload_n 3 dL_law_1786 rfl ?_
                                                                                            refine q_iconst (x := (2 : Int32)) dL_law_1787 rfl ?_
                                                                                            refine q_iadd dL_law_1788 ?_
                                                                                            refine q_sld rfl dL_law_1789 (fun h450 => ?_)
                                                                                            refine q_aload_s 0 dL_law_1790 rfl ?_
                                                                                            refine q_iload_n 3 dL_law_1791 rfl ?_
                                                                                            refine q_iconst (x := (3 : Int32)) dL_law_1792 rfl ?_
                                                                                            refine q_iadd dL_law_1793 ?_
                                                                                            refine q_sld rfl dL_law_1794 (fun h451 => ?_)
                                                                                            refine q_cVMI (Y2 := Y_X11_calved) (As := [.int (xs (a3 + (1 : Int32)).toNatClampNeg), .int (xs (a3 + (2 : Int32)).toNatClampNeg), .int (xs (a3 + (3 : Int32)).toNatClampNeg)]) (b := a1) (st := []) cl_X11 mv_X11_calved qw_1009 dL_law_1795 ⟨Nat.le_of_ble_eq_true rfl, Nat.le_of_ble_eq_true rfl⟩ rfl (fun _ _ => rfl) (Nat.le_of_ble_eq_true rfl) ⟨Nat.le_of_ble_eq_true rfl, Nat.le_of_ble_eq_true rfl⟩ (fun r453 h452 => q_ob_is h452) (fun r453 h452 => m_X11_calved h452) (fun r453 h452 => ?_)
                                                                                            refine q_aload_n 2 dL_law_1798 rfl ?_
                                                                                            refine q_aload_s 0 dL_law_1799 rfl ?_
                                                                                            refine q_iload_n 3 dL_law_1800 rfl ?_
                                                                                            refine q_iconst (x := (1 : Int32)) dL_law_1801 rfl ?_
                                                                                            refine q_iadd dL_law_1802 ?_
                                                                                            refine q_sld rfl dL_law_1803 (fun h454 => ?_)
                                                                                            refine q_aload_s 0 dL_law_1804 rfl ?_
                                                                                            refine q_iload_n 3 dL_law_1805 rfl ?_
                                                                                            refine q_iconst (x := (2 : Int32)) dL_law_1806 rfl ?_
                                                                                            refine q_iadd dL_law_1807 ?_
                                                                                            refine q_sld rfl dL_law_1808 (fun h455 => ?_)
                                                                                            refine q_aload_s 0 dL_law_1809 rfl ?_
                                                                                            refine q_iload_n 3 dL_law_1810 rfl ?_
                                                                                            refine q_iconst (x := (3 : Int32)) dL_law_1811 rfl ?_
                                                                                            refine q_iadd dL_law_1812 ?_
                                                                                            refine q_sld rfl dL_law_1813 (fun h456 => ?_)
                                                                                            refine q_cVMI (Y2 := Y_X12_calved) (As := [.int (xs (a3 + (1 : Int32)).toNatClampNeg), .int (xs (a3 + (2 : Int32)).toNatClampNeg), .int (xs (a3 + (3 : Int32)).toNatClampNeg)]) (b := a2) (st := [.int r453.1]) cl_X12 mv_X12_calved qw_1615 dL_law_1814 ⟨Nat.le_of_ble_eq_true rfl, Nat.le_of_ble_eq_true rfl⟩ rfl (fun _ _ => rfl) (Nat.le_of_ble_eq_true rfl) ⟨Nat.le_of_ble_eq_true rfl, Nat.le_of_ble_eq_true rfl⟩ (fun r458 h457 => q_ob_is h457) (fun r458 h457 => m_X12_calved h457) (fun r458 h457 => ?_)
                                                                                            refine q_icmp_eq (tgt := 2161) dL_law_1817 (by decide) (fun c459 => ?_) (fun c459 => ?_)
                                                                                            · refine q_iinc 3 (y := (a3 + (6 : Int32))) (ls' := [(3, .int (a3 + (6 : Int32))), (0, .float 0), (1, .ref a1), (2, .ref a2)]) dL_law_2161 rfl rfl (by decide) rfl ?_
                                                                                              refine q_goto (tgt := 18) dL_law_2164 (by decide) ?_
                                                                                              refine q_sub (ls' := [(0, .float 0), (1, .ref a1), (2, .ref a2), (3, .int (a3 + (6 : Int32)))]) [1, 2, 3, 0] rfl ?_
                                                                                              exact ih _ _
                                                                                            · refine q_iconst (x := (0 : Int32)) dL_law_1820 rfl ?_
                                                                                              exact q_zretL dL_law_1821 rfl (Or.inl rfl) rfl (Nat.le_of_ble_eq_true rfl) rfl
                                                                                          · have b461 := q_step (c := 42) b448 c460 rfl (by decide)
                                                                                            refine q_ifV (fun c471 => ?_) (fun c471 => ?_)
                                                                                            · refine q_tabIn (tgt := 1822) 42 dL_law_33 c471 (by decide) (by decide) rfl (by decide) ?_
                                                                                              refine q_aload_n 1 dL_law_1822 rfl ?_
                                                                                              refine q_aload_s 0 dL_law_1823 rfl ?_
                                                                                              refine q_iload_n 3 dL_law_1824 rfl ?_
                                                                                              refine q_iconst (x := (1 : Int32)) dL_law_1825 rfl ?_
                                                                                              refine q_iadd dL_law_1826 ?_
                                                                                              refine q_sld rfl dL_law_1827 (fun h462 => ?_)
                                                                                              refine q_aload_s 0 dL_law_1828 rfl ?_
                                                                                              refine q_iload_n 3 dL_law_1829 rfl ?_
                                                                                              refine q_iconst (x := (2 : Int32)) dL_law_1830 rfl ?_
                                                                                              refine q_iadd dL_law_1831 ?_
                                                                                              refine q_sld rfl dL_law_1832 (fun h463 => ?_)
                                                                                              refine q_cVI (Y2 := Y_X11_foretold) (As := [.int (xs (a3 + (1 : Int32)).toNatClampNeg), .int (xs (a3 + (2 : Int32)).toNatClampNeg)]) (b := a1) (st := []) cl_X11 mv_X11_foretold qw_1013 dL_law_1833 ⟨Nat.le_of_ble_eq_true rfl, Nat.le_of_ble_eq_true rfl⟩ rfl (fun _ _ => rfl) (Nat.le_of_ble_eq_true rfl) ⟨Nat.le_of_ble_eq_true rfl, Nat.le_of_ble_eq_true rfl⟩ (fun v465 h464 => q_ob_is h464) (fun v465 h464 => m_X11_foretold h464) (fun v465 h464 => ?_)
                                                                                              refine q_aload_n 2 dL_law_1836 rfl ?_
                                                                                              refine q_aload_s 0 dL_law_1837 rfl ?_
                                                                                              refine q_iload_n 3 dL_law_1838 rfl ?_
                                                                                              refine q_iconst (x := (1 : Int32)) dL_law_1839 rfl ?_
                                                                                              refine q_iadd dL_law_1840 ?_
                                                                                              refine q_sld rfl dL_law_1841 (fun h466 => ?_)
                                                                                              refine q_aload_s 0 dL_law_1842 rfl ?_
                                                                                              refine q_iload_n 3 dL_law_1843 rfl ?_
                                                                                              refine q_iconst (x := (2 : Int32)) dL_law_1844 rfl ?_
                                                                                              refine q_iadd dL_law_1845 ?_
                                                                                              refine q_sld rfl dL_law_1846 (fun h467 => ?_)
                                                                                              refine q_cVI (Y2 := Y_X12_foretold) (As := [.int (xs (a3 + (1 : Int32)).toNatClampNeg), .int (xs (a3 + (2 : Int32)).toNatClampNeg)]) (b := a2) (st := [.int v465]) cl_X12 mv_X12_foretold qw_1619 dL_law_1847 ⟨Nat.le_of_ble_eq_true rfl, Nat.le_of_ble_eq_true rfl⟩ rfl (fun _ _ => rfl) (Nat.le_of_ble_eq_true rfl) ⟨Nat.le_of_ble_eq_true rfl, Nat.le_of_ble_eq_true rfl⟩ (fun v469 h468 => q_ob_is h468) (fun v469 h468 => m_X12_foretold h468) (fun v469 h468 => ?_)
                                                                                              refine q_icmp_eq (tgt := 2161) dL_law_1850 (by decide) (fun c470 => ?_) (fun c470 => ?_)
                                                                                              · refine q_iinc 3 (y := (a3 + (6 : Int32))) (ls' := [(3, .int (a3 + (6 : Int32))), (0, .float 0), (1, .ref a1), (2, .ref a2)]) dL_law_2161 rfl rfl (by decide) rfl ?_
                                                                                                refine q_goto (tgt := 18) dL_law_2164 (by decide) ?_
                                                                                                refine q_sub (ls' := [(0, .float 0), (1, .ref a1), (2, .ref a2), (3, .int (a3 + (6 : Int32)))]) [1, 2, 3, 0] rfl ?_
                                                                                                exact ih _ _
                                                                                              · refine q_iconst (x := (0 : Int32)) dL_law_1853 rfl ?_
                                                                                                exact q_zretL dL_law_1854 rfl (Or.inl rfl) rfl (Nat.le_of_ble_eq_true rfl) rfl
                                                                                            · have b472 := q_step (c := 43) b461 c471 rfl (by decide)
                                                                                              refine q_ifV (fun c484 => ?_) (fun c484 => ?_)
                                                                                              · refine q_tabIn (tgt := 1855) 43 dL_law_33 c484 (by decide) (by decide) rfl (by decide) ?_
                                                                                                refine q_aload_n 1 dL_law_1855 rfl ?_
                                                                                                refine q_aload_s 0 dL_law_1856 rfl ?_
                                                                                                refine q_iload_n 3 dL_law_1857 rfl ?_
                                                                                                refine q_iconst (x := (1 : Int32)) dL_law_1858 rfl ?_
                                                                                                refine q_iadd dL_law_1859 ?_
                                                                                                refine q_sld rfl dL_law_1860 (fun h473 => ?_)
                                                                                                refine q_aload_s 0 dL_law_1861 rfl ?_
                                                                                                refine q_iload_n 3 dL_law_1862 rfl ?_
                                                                                                refine q_iconst (x := (2 : Int32)) dL_law_1863 rfl ?_
                                                                                                refine q_iadd dL_law_1864 ?_
                                                                                                refine q_sld rfl dL_law_1865 (fun h474 => ?_)
                                                                                                refine q_aload_s 0 dL_law_1866 rfl ?_
                                                                                                refine q_iload_n 3 dL_law_1867 rfl ?_
                                                                                                refine q_iconst (x := (3 : Int32)) dL_law_1868 rfl ?_
                                                                                                refine q_iadd dL_law_1869 ?_
                                                                                                refine q_sld rfl dL_law_1870 (fun h475 => ?_)
                                                                                                refine q_cVMI (Y2 := Y_X11_site) (As := [.int (xs (a3 + (1 : Int32)).toNatClampNeg), .int (xs (a3 + (2 : Int32)).toNatClampNeg), .int (xs (a3 + (3 : Int32)).toNatClampNeg)]) (b := a1) (st := []) cl_X11 mv_X11_site qw_1017 dL_law_1871 ⟨Nat.le_of_ble_eq_true rfl, Nat.le_of_ble_eq_true rfl⟩ rfl (fun _ _ => rfl) (Nat.le_of_ble_eq_true rfl) ⟨Nat.le_of_ble_eq_true rfl, Nat.le_of_ble_eq_true rfl⟩ (fun r477 h476 => q_ob_is h476) (fun r477 h476 => m_X11_site h476) (fun r477 h476 => ?_)
                                                                                                refine q_aload_n 2 dL_law_1874 rfl ?_
                                                                                                refine q_aload_s 0 dL_law_1875 rfl ?_
                                                                                                refine q_iload_n 3 dL_law_1876 rfl ?_
                                                                                                refine q_iconst (x := (1 : Int32)) dL_law_1877 rfl ?_
                                                                                                refine q_iadd dL_law_1878 ?_
                                                                                                refine q_sld rfl dL_law_1879 (fun h478 => ?_)
                                                                                                refine q_aload_s 0 dL_law_1880 rfl ?_
                                                                                                refine q_iload_n 3 dL_law_1881 rfl ?_
                                                                                                refine q_iconst (x := (2 : Int32)) dL_law_1882 rfl ?_
                                                                                                refine q_iadd dL_law_1883 ?_
                                                                                                refine q_sld rfl dL_law_1884 (fun h479 => ?_)
                                                                                                refine q_aload_s 0 dL_law_1885 rfl ?_
                                                                                                refine q_iload_n 3 dL_law_1886 rfl ?_
                                                                                                refine q_iconst (x := (3 : Int32)) dL_law_1887 rfl ?_
                                                                                                refine q_iadd dL_law_1888 ?_
                                                                                                refine q_sld rfl dL_law_1889 (fun h480 => ?_)
                                                                                                refine q_cVMI (Y2 := Y_X12_site) (As := [.int (xs (a3 + (1 : Int32)).toNatClampNeg), .int (xs (a3 + (2 : Int32)).toNatClampNeg), .int (xs (a3 + (3 : Int32)).toNatClampNeg)]) (b := a2) (st := [.int r477.1]) cl_X12 mv_X12_site qw_1623 dL_law_1890 ⟨Nat.le_of_ble_eq_true rfl, Nat.le_of_ble_eq_true rfl⟩ rfl (fun _ _ => rfl) (Nat.le_of_ble_eq_true rfl) ⟨Nat.le_of_ble_eq_true rfl, Nat.le_of_ble_eq_true rfl⟩ (fun r482 h481 => q_ob_is h481) (fun r482 h481 => m_X12_site h481) (fun r482 h481 => ?_)
                                                                                                refine q_icmp_eq (tgt := 2161) dL_law_1893 (by decide) (fun c483 => ?_) (fun c483 => ?_)
                                                                                                · refine q_iinc 3 (y := (a3 + (6 : Int32))) (ls' := [(3, .int (a3 + (6 : Int32))), (0, .float 0), (1, .ref a1), (2, .ref a2)]) dL_law_2161 rfl rfl (by decide) rfl ?_
                                                                                                  refine q_goto (tgt := 18) dL_law_2164 (by decide) ?_
                                                                                                  refine q_sub (ls' := [(0, .float 0), (1, .ref a1), (2, .ref a2), (3, .int (a3 + (6 : Int32)))]) [1, 2, 3, 0] rfl ?_
                                                                                                  exact ih _ _
                                                                                                · refine q_iconst (x := (0 : Int32)) dL_law_1896 rfl ?_
                                                                                                  exact q_zretL dL_law_1897 rfl (Or.inl rfl) rfl (Nat.le_of_ble_eq_true rfl) rfl
                                                                                              · have b485 := q_step (c := 44) b472 c484 rfl (by decide)
                                                                                                refine q_ifV (fun c493 => ?_) (fun c493 => ?_)
                                                                                                · refine q_tabIn (tgt := 1898) 44 dL_law_33 c493 (by decide) (by decide) rfl (by decide) ?_
                                                                                                  refine q_aload_n 1 dL_law_1898 rfl ?_
                                                                                                  refine q_aload_s 0 dL_law_1899 rfl ?_
                                                                                                  refine q_iload_n 3 dL_law_1900 rfl ?_
                                                                                                  refine q_iconst (x := (1 : Int32)) dL_law_1901 rfl ?_
                                                                                                  refine q_iadd dL_law_1902 ?_
                                                                                                  refine q_sld rfl dL_law_1903 (fun h486 => ?_)
                                                                                                  refine q_cVMI (Y2 := Y_X11_freight) (As := [.int (xs (a3 + (1 : Int32)).toNatClampNeg)]) (b := a1) (st := []) cl_X11 mv_X11_freight qw_1021 dL_law_1904 ⟨Nat.le_of_ble_eq_true rfl, Nat.le_of_ble_eq_true rfl⟩ rfl (fun _ _ => rfl) (Nat.le_of_ble_eq_true rfl) ⟨Nat.le_of_ble_eq_true rfl, Nat.le_of_ble_eq_true rfl⟩ (fun r488 h487 => q_ob_is h487) (fun r488 h487 => m_X11_freight h487) (fun r488 h487 => ?_)
                                                                                                  refine q_aload_n 2 dL_law_1907 rfl ?_
                                                                                                  refine q_aload_s 0 dL_law_1908 rfl ?_
                                                                                                  refine q_iload_n 3 dL_law_1909 rfl ?_
                                                                                                  refine q_iconst (x := (1 : Int32)) dL_law_1910 rfl ?_
                                                                                                  refine q_iadd dL_law_1911 ?_
                                                                                                  refine q_sld rfl dL_law_1912 (fun h489 => ?_)
                                                                                                  refine q_cVMI (Y2 := Y_X12_freight) (As := [.int (xs (a3 + (1 : Int32)).toNatClampNeg)]) (b := a2) (st := [.int r488.1]) cl_X12 mv_X12_freight qw_1627 dL_law_1913 ⟨Nat.le_of_ble_eq_true rfl, Nat.le_of_ble_eq_true rfl⟩ rfl (fun _ _ => rfl) (Nat.le_of_ble_eq_true rfl) ⟨Nat.le_of_ble_eq_true rfl, Nat.le_of_ble_eq_true rfl⟩ (fun r491 h490 => q_ob_is h490) (fun r491 h490 => m_X12_freight h490) (fun r491 h490 => ?_)
                                                                                                  refine q_icmp_eq (tgt := 2161) dL_law_1916 (by decide) (fun c492 => ?_) (fun c492 => ?_)
                                                                                                  · refine q_iinc 3 (y := (a3 + (6 : Int32))) (ls' := [(3, .int (a3 + (6 : Int32))), (0, .float 0), (1, .ref a1), (2, .ref a2)]) dL_law_2161 rfl rfl (by decide) rfl ?_
                                                                                                    refine q_goto (tgt := 18) dL_law_2164 (by decide) ?_
                                                                                                    refine q_sub (ls' := [(0, .float 0), (1, .ref a1), (2, .ref a2), (3, .int (a3 + (6 : Int32)))]) [1, 2, 3, 0] rfl ?_
                                                                                                    exact ih _ _
                                                                                                  · refine q_iconst (x := (0 : Int32)) dL_law_1919 rfl ?_
                                                                                                    exact q_zretL dL_law_1920 rfl (Or.inl rfl) rfl (Nat.le_of_ble_eq_true rfl) rfl
                                                                                                · have b494 := q_step (c := 45) b485 c493 rfl (by decide)
                                                                                                  refine q_ifV (fun c502 => ?_) (fun c502 => ?_)
                                                                                                  · refine q_tabIn (tgt := 1921) 45 dL_law_33 c502 (by decide) (by decide) rfl (by decide) ?_
                                                                                                    refine q_aload_n 1 dL_law_1921 rfl ?_
                                                                                                    refine q_aload_s 0 dL_law_1922 rfl ?_
                                                                                                    refine q_iload_n 3 dL_law_1923 rfl ?_
                                                                                                    refine q_iconst (x := (1 : Int32)) dL_law_1924 rfl ?_
                                                                                                    refine q_iadd dL_law_1925 ?_
                                                                                                    refine q_sld rfl dL_law_1926 (fun h495 => ?_)
                                                                                                    refine q_cVMJ (Y2 := Y_X11_open) (As := [.int (xs (a3 + (1 : Int32)).toNatClampNeg)]) (b := a1) (st := []) cl_X11 mv_X11_open qw_1025 dL_law_1927 ⟨Nat.le_of_ble_eq_true rfl, Nat.le_of_ble_eq_true rfl⟩ rfl (fun _ _ => rfl) (Nat.le_of_ble_eq_true rfl) ⟨Nat.le_of_ble_eq_true rfl, Nat.le_of_ble_eq_true rfl⟩ (fun r497 h496 => q_ob_is h496) (fun r497 h496 => m_X11_open h496) (fun r497 h496 => ?_)
                                                                                                    refine q_aload_n 2 dL_law_1930 rfl ?_
                                                                                                    refine q_aload_s 0 dL_law_1931 rfl ?_
                                                                                                    refine q_iload_n 3 dL_law_1932 rfl ?_
                                                                                                    refine q_iconst (x := (1 : Int32)) dL_law_1933 rfl ?_
                                                                                                    refine q_iadd dL_law_1934 ?_
                                                                                                    refine q_sld rfl dL_law_1935 (fun h498 => ?_)
                                                                                                    refine q_cVJ (Y2 := Y_X12_open) (As := [.int (xs (a3 + (1 : Int32)).toNatClampNeg)]) (b := a2) (st := [.long r497.1]) cl_X12 mv_X12_open qw_1631 dL_law_1936 ⟨Nat.le_of_ble_eq_true rfl, Nat.le_of_ble_eq_true rfl⟩ rfl (fun _ _ => rfl) (Nat.le_of_ble_eq_true rfl) ⟨Nat.le_of_ble_eq_true rfl, Nat.le_of_ble_eq_true rfl⟩ (fun v500 h499 => q_ob_is h499) (fun v500 h499 => m_X12_open h499) (fun v500 h499 => ?_)
                                                                                                    refine q_lcmp_eq (tgt := 2161) dL_law_1939 dL_law_1940 (by decide) (fun c501 => ?_) (fun c501 => ?_)
                                                                                                    · refine q_iinc 3 (y := (a3 + (6 : Int32))) (ls' := [(3, .int (a3 + (6 : Int32))), (0, .float 0), (1, .ref a1), (2, .ref a2)]) dL_law_2161 rfl rfl (by decide) rfl ?_
                                                                                                      refine q_goto (tgt := 18) dL_law_2164 (by decide) ?_
                                                                                                      refine q_sub (ls' := [(0, .float 0), (1, .ref a1), (2, .ref a2), (3, .int (a3 + (6 : Int32)))]) [1, 2, 3, 0] rfl ?_
                                                                                                      exact ih _ _
                                                                                                    · refine q_iconst (x := (0 : Int32)) dL_law_1943 rfl ?_
                                                                                                      exact q_zretL dL_law_1944 rfl (Or.inl rfl) rfl (Nat.le_of_ble_eq_true rfl) rfl
                                                                                                  · have b503 := q_step (c := 46) b494 c502 rfl (by decide)
                                                                                                    refine q_ifV (fun c513 => ?_) (fun c513 => ?_)
                                                                                                    · refine q_tabIn (tgt := 1945) 46 dL_law_33 c513 (by decide) (by decide) rfl (by decide) ?_
                                                                                                      refine q_aload_n 1 dL_law_1945 rfl ?_
                                                                                                      refine q_aload_s 0 dL_law_1946 rfl ?_
                                                                                                      refine q_iload_n 3 dL_law_1947 rfl ?_
                                                                                                      refine q_iconst (x := (1 : Int32)) dL_law_1948 rfl ?_
                                                                                                      refine q_iadd dL_law_1949 ?_
                                                                                                      refine q_sld rfl dL_law_1950 (fun h504 => ?_)
                                                                                                      refine q_aload_s 0 dL_law_1951 rfl ?_
                                                                                                      refine q_iload_n 3 dL_law_1952 rfl ?_
                                                                                                      refine q_iconst (x := (2 : Int32)) dL_law_1953 rfl ?_
                                                                                                      refine q_iadd dL_law_1954 ?_
                                                                                                      refine q_sld rfl dL_law_1955 (fun h505 => ?_)
                                                                                                      refine q_cVI (Y2 := Y_X11_nearest) (As := [.int (xs (a3 + (1 : Int32)).toNatClampNeg), .int (xs (a3 + (2 : Int32)).toNatClampNeg)]) (b := a1) (st := []) cl_X11 mv_X11_nearest qw_1045 dL_law_1956 ⟨Nat.le_of_ble_eq_true rfl, Nat.le_of_ble_eq_true rfl⟩ rfl (fun _ _ => rfl) (Nat.le_of_ble_eq_true rfl) ⟨Nat.le_of_ble_eq_true rfl, Nat.le_of_ble_eq_true rfl⟩ (fun v507 h506 => q_ob_is h506) (fun v507 h506 => m_X11_nearest h506) (fun v507 h506 => ?_)
                                                                                                      refine q_aload_n 2 dL_law_1959 rfl ?_
                                                                                                      refine q_aload_s 0 dL_law_1960 rfl ?_
                                                                                                      refine q_iload_n 3 dL_law_1961 rfl ?_
                                                                                                      refine q_iconst (x := (1 : Int32)) dL_law_1962 rfl ?_
                                                                                                      refine q_iadd dL_law_1963 ?_
                                                                                                      refine q_sld rfl dL_law_1964 (fun h508 => ?_)
                                                                                                      refine q_aload_s 0 dL_law_1965 rfl ?_
                                                                                                      refine q_iload_n 3 dL_law_1966 rfl ?_
                                                                                                      refine q_iconst (x := (2 : Int32)) dL_law_1967 rfl ?_
                                                                                                      refine q_iadd dL_law_1968 ?_
                                                                                                      refine q_sld rfl dL_law_1969 (fun h509 => ?_)
                                                                                                      refine q_cVI (Y2 := Y_X12_nearest) (As := [.int (xs (a3 + (1 : Int32)).toNatClampNeg), .int (xs (a3 + (2 : Int32)).toNatClampNeg)]) (b := a2) (st := [.int v507]) cl_X12 mv_X12_nearest qw_1648 dL_law_1970 ⟨Nat.le_of_ble_eq_true rfl, Nat.le_of_ble_eq_true rfl⟩ rfl (fun _ _ => rfl) (Nat.le_of_ble_eq_true rfl) ⟨Nat.le_of_ble_eq_true rfl, Nat.le_of_ble_eq_true rfl⟩ (fun v511 h510 => q_ob_is h510) (fun v511 h510 => m_X12_nearest h510) (fun v511 h510 => ?_)
                                                                                                      refine q_icmp_eq (tgt := 2161) dL_law_1973 (by decide) (fun c512 => ?_) (fun c512 => ?_)
                                                                                                      · refine q_iinc 3 (y := (a3 + (6 : Int32))) (ls' := [(3, .int (a3 + (6 : Int32))), (0, .float 0), (1, .ref a1), (2, .ref a2)]) dL_law_2161 rfl rfl (by decide) rfl ?_
                                                                                                        refine q_goto (tgt := 18) dL_law_2164 (by decide) ?_
                                                                                                        refine q_sub (ls' := [(0, .float 0), (1, .ref a1), (2, .ref a2), (3, .int (a3 + (6 : Int32)))]) [1, 2, 3, 0] rfl ?_
                                                                                                        exact ih _ _
                                                                                                      · refine q_iconst (x := (0 : Int32)) dL_law_1976 rfl ?_
                                                                                                        exact q_zretL dL_law_1977 rfl (Or.inl rfl) rfl (Nat.le_of_ble_eq_true rfl) rfl
                                                                                                    · have b514 := q_step (c := 47) b503 c513 rfl (by decide)
                                                                                                      refine q_ifV (fun c526 => ?_) (fun c526 => ?_)
                                                                                                      · refine q_tabIn (tgt := 1978) 47 dL_law_33 c526 (by decide) (by decide) rfl (by decide) ?_
                                                                                                        refine q_aload_n 1 dL_law_1978 rfl ?_
                                                                                                        refine q_aload_s 0 dL_law_1979 rfl ?_
                                                                                                        refine q_iload_n 3 dL_law_1980 rfl ?_
                                                                                                        refine q_iconst (x := (1 : Int32)) dL_law_1981 rfl ?_
                                                                                                        refine q_iadd dL_law_1982 ?_
                                                                                                        refine q_sld rfl dL_law_1983 (fun h515 => ?_)
                                                                                                        refine q_aload_s 0 dL_law_1984 rfl ?_
                                                                                                        refine q_iload_n 3 dL_law_1985 rfl ?_
                                                                                                        refine q_iconst (x := (2 : Int32)) dL_law_1986 rfl ?_
                                                                                                        refine q_iadd dL_law_1987 ?_
                                                                                                        refine q_sld rfl dL_law_1988 (fun h516 => ?_)
                                                                                                        refine q_aload_s 0 dL_law_1989 rfl ?_
                                                                                                        refine q_iload_n 3 dL_law_1990 rfl ?_
                                                                                                        refine q_iconst (x := (3 : Int32)) dL_law_1991 rfl ?_
                                                                                                        refine q_iadd dL_law_1992 ?_
                                                                                                        refine q_sld rfl dL_law_1993 (fun h517 => ?_)
                                                                                                        refine q_cVMI (Y2 := Y_X11_loan) (As := [.int (xs (a3 + (1 : Int32)).toNatClampNeg), .int (xs (a3 + (2 : Int32)).toNatClampNeg), .int (xs (a3 + (3 : Int32)).toNatClampNeg)]) (b := a1) (st := []) cl_X11 mv_X11_loan qw_1050 dL_law_1994 ⟨Nat.le_of_ble_eq_true rfl, Nat.le_of_ble_eq_true rfl⟩ rfl (fun _ _ => rfl) (Nat.le_of_ble_eq_true rfl) ⟨Nat.le_of_ble_eq_true rfl, Nat.le_of_ble_eq_true rfl⟩ (fun r519 h518 => q_ob_is h518) (fun r519 h518 => m_X11_loan h518) (fun r519 h518 => ?_)
                                                                                                        refine q_aload_n 2 dL_law_1997 rfl ?_
                                                                                                        refine q_aload_s 0 dL_law_1998 rfl ?_
                                                                                                        refine q_iload_n 3 dL_law_1999 rfl ?_
                                                                                                        refine q_iconst (x := (1 : Int32)) dL_law_2000 rfl ?_
                                                                                                        refine q_iadd dL_law_2001 ?_
                                                                                                        refine q_sld rfl dL_law_2002 (fun h520 => ?_)
                                                                                                        refine q_aload_s 0 dL_law_2003 rfl ?_
                                                                                                        refine q_iload_n 3 dL_law_2004 rfl ?_
                                                                                                        refine q_iconst (x := (2 : Int32)) dL_law_2005 rfl ?_
                                                                                                        refine q_iadd dL_law_2006 ?_
                                                                                                        refine q_sld rfl dL_law_2007 (fun h521 => ?_)
                                                                                                        refine q_aload_s 0 dL_law_2008 rfl ?_
                                                                                                        refine q_iload_n 3 dL_law_2009 rfl ?_
                                                                                                        refine q_iconst (x := (3 : Int32)) dL_law_2010 rfl ?_
                                                                                                        refine q_iadd dL_law_2011 ?_
                                                                                                        refine q_sld rfl dL_law_2012 (fun h522 => ?_)
                                                                                                        refine q_cVMI (Y2 := Y_X12_loan) (As := [.int (xs (a3 + (1 : Int32)).toNatClampNeg), .int (xs (a3 + (2 : Int32)).toNatClampNeg), .int (xs (a3 + (3 : Int32)).toNatClampNeg)]) (b := a2) (st := [.int r519.1]) cl_X12 mv_X12_loan qw_1652 dL_law_2013 ⟨Nat.le_of_ble_eq_true rfl, Nat.le_of_ble_eq_true rfl⟩ rfl (fun _ _ => rfl) (Nat.le_of_ble_eq_true rfl) ⟨Nat.le_of_ble_eq_true rfl, Nat.le_of_ble_eq_true rfl⟩ (fun r524 h523 => q_ob_is h523) (fun r524 h523 => m_X12_loan h523) (fun r524 h523 => ?_)
                                                                                                        refine q_icmp_eq (tgt := 2161) dL_law_2016 (by decide) (fun c525 => ?_) (fun c525 => ?_)
                                                                                                        · refine q_iinc 3 (y := (a3 + (6 : Int32))) (ls' := [(3, .int (a3 + (6 : Int32))), (0, .float 0), (1, .ref a1), (2, .ref a2)]) dL_law_2161 rfl rfl (by decide) rfl ?_
                                                                                                          refine q_goto (tgt := 18) dL_law_2164 (by decide) ?_
                                                                                                          refine q_sub (ls' := [(0, .float 0), (1, .ref a1), (2, .ref a2), (3, .int (a3 + (6 : Int32)))]) [1, 2, 3, 0] rfl ?_
                                                                                                          exact ih _ _
                                                                                                        · refine q_iconst (x := (0 : Int32)) dL_law_2019 rfl ?_
                                                                                                          exact q_zretL dL_law_2020 rfl (Or.inl rfl) rfl (Nat.le_of_ble_eq_true rfl) rfl
                                                                                                      · have b527 := q_step (c := 48) b514 c526 rfl (by decide)
                                                                                                        refine q_ifV (fun c537 => ?_) (fun c537 => ?_)
                                                                                                        · refine q_tabIn (tgt := 2021) 48 dL_law_33 c537 (by decide) (by decide) rfl (by decide) ?_
                                                                                                          refine q_aload_n 1 dL_law_2021 rfl ?_
                                                                                                          refine q_aload_s 0 dL_law_2022 rfl ?_
                                                                                                          refine q_iload_n 3 dL_law_2023 rfl ?_
                                                                                                          refine q_iconst (x := (1 : Int32)) dL_law_2024 rfl ?_
                                                                                                          refine q_iadd dL_law_2025 ?_
                                                                                                          refine q_sld rfl dL_law_2026 (fun h528 => ?_)
                                                                                                          refine q_aload_s 0 dL_law_2027 rfl ?_
                                                                                                          refine q_iload_n 3 dL_law_2028 rfl ?_
                                                                                                          refine q_iconst (x := (2 : Int32)) dL_law_2029 rfl ?_
                                                                                                          refine q_iadd dL_law_2030 ?_
                                                                                                          refine q_sld rfl dL_law_2031 (fun h529 => ?_)
                                                                                                          refine q_cVJ (Y2 := Y_X11_owed) (As := [.int (xs (a3 + (1 : Int32)).toNatClampNeg), .int (xs (a3 + (2 : Int32)).toNatClampNeg)]) (b := a1) (st := []) cl_X11 mv_X11_owed qw_1055 dL_law_2032 ⟨Nat.le_of_ble_eq_true rfl, Nat.le_of_ble_eq_true rfl⟩ rfl (fun _ _ => rfl) (Nat.le_of_ble_eq_true rfl) ⟨Nat.le_of_ble_eq_true rfl, Nat.le_of_ble_eq_true rfl⟩ (fun v531 h530 => q_ob_is h530) (fun v531 h530 => m_X11_owed h530) (fun v531 h530 => ?_)
                                                                                                          refine q_aload_n 2 dL_law_2035 rfl ?_
                                                                                                          refine q_aload_s 0 dL_law_2036 rfl ?_
                                                                                                          refine q_iload_n 3 dL_law_2037 rfl ?_
                                                                                                          refine q_iconst (x := (1 : Int32)) dL_law_2038 rfl ?_
                                                                                                          refine q_iadd dL_law_2039 ?_
                                                                                                          refine q_sld rfl dL_law_2040 (fun h532 => ?_)
                                                                                                          refine q_aload_s 0 dL_law_2041 rfl ?_
                                                                                                          refine q_iload_n 3 dL_law_2042 rfl ?_
                                                                                                          refine q_iconst (x := (2 : Int32)) dL_law_2043 rfl ?_
                                                                                                          refine q_iadd dL_law_2044 ?_
                                                                                                          refine q_sld rfl dL_law_2045 (fun h533 => ?_)
                                                                                                          refine q_cVJ (Y2 := Y_X12_owed) (As := [.int (xs (a3 + (1 : Int32)).toNatClampNeg), .int (xs (a3 + (2 : Int32)).toNatClampNeg)]) (b := a2) (st := [.long v531]) cl_X12 mv_X12_owed qw_1657 dL_law_2046 ⟨Nat.le_of_ble_eq_true rfl, Nat.le_of_ble_eq_true rfl⟩ rfl (fun _ _ => rfl) (Nat.le_of_ble_eq_true rfl) ⟨Nat.le_of_ble_eq_true rfl, Nat.le_of_ble_eq_true rfl⟩ (fun v535 h534 => q_ob_is h534) (fun v535 h534 => m_X12_owed h534) (fun v535 h534 => ?_)
                                                                                                          refine q_lcmp_eq (tgt := 2161) dL_law_2049 dL_law_2050 (by decide) (fun c536 => ?_) (fun c536 => ?_)
                                                                                                          · refine q_iinc 3 (y := (a3 + (6 : Int32))) (ls' := [(3, .int (a3 + (6 : Int32))), (0, .float 0), (1, .ref a1), (2, .ref a2)]) dL_law_2161 rfl rfl (by decide) rfl ?_
                                                                                                            refine q_goto (tgt := 18) dL_law_2164 (by decide) ?_
                                                                                                            refine q_sub (ls' := [(0, .float 0), (1, .ref a1), (2, .ref a2), (3, .int (a3 + (6 : Int32)))]) [1, 2, 3, 0] rfl ?_
                                                                                                            exact ih _ _
                                                                                                          · refine q_iconst (x := (0 : Int32)) dL_law_2053 rfl ?_
                                                                                                            exact q_zretL dL_law_2054 rfl (Or.inl rfl) rfl (Nat.le_of_ble_eq_true rfl) rfl
                                                                                                        · have b538 := q_step (c := 49) b527 c537 rfl (by decide)
                                                                                                          refine q_ifV (fun c546 => ?_) (fun c546 => ?_)
                                                                                                          · refine q_tabIn (tgt := 2055) 49 dL_law_33 c546 (by decide) (by decide) rfl (by decide) ?_
                                                                                                            refine q_aload_n 1 dL_law_2055 rfl ?_
                                                                                                            refine q_aload_s 0 dL_law_2056 rfl ?_
                                                                                                            refine q_iload_n 3 dL_law_2057 rfl ?_
                                                                                                            refine q_iconst (x := (1 : Int32)) dL_law_2058 rfl ?_
                                                                                                            refine q_iadd dL_law_2059 ?_
                                                                                                            refine q_sld rfl dL_law_2060 (fun h539 => ?_)
                                                                                                            refine q_cVI (Y2 := Y_X11_ends) (As := [.int (xs (a3 + (1 : Int32)).toNatClampNeg)]) (b := a1) (st := []) cl_X11 mv_X11_ends qw_1066 dL_law_2061 ⟨Nat.le_of_ble_eq_true rfl, Nat.le_of_ble_eq_true rfl⟩ rfl (fun _ _ => rfl) (Nat.le_of_ble_eq_true rfl) ⟨Nat.le_of_ble_eq_true rfl, Nat.le_of_ble_eq_true rfl⟩ (fun v541 h540 => q_ob_is h540) (fun v541 h540 => m_X11_ends h540) (fun v541 h540 => ?_)
                                                                                                            refine q_aload_n 2 dL_law_2064 rfl ?_
                                                                                                            refine q_aload_s 0 dL_law_2065 rfl ?_
                                                                                                            refine q_iload_n 3 dL_law_2066 rfl ?_
                                                                                                            refine q_iconst (x := (1 : Int32)) dL_law_2067 rfl ?_
                                                                                                            refine q_iadd dL_law_2068 ?_
                                                                                                            refine q_sld rfl dL_law_2069 (fun h542 => ?_)
                                                                                                            refine q_cVI (Y2 := Y_X12_ends) (As := [.int (xs (a3 + (1 : Int32)).toNatClampNeg)]) (b := a2) (st := [.int v541]) cl_X12 mv_X12_ends qw_1667 dL_law_2070 ⟨Nat.le_of_ble_eq_true rfl, Nat.le_of_ble_eq_true rfl⟩ rfl (fun _ _ => rfl) (Nat.le_of_ble_eq_true rfl) ⟨Nat.le_of_ble_eq_true rfl, Nat.le_of_ble_eq_true rfl⟩ (fun v544 h543 => q_ob_is h543) (fun v544 h543 => m_X12_ends h543) (fun v544 h543 => ?_)
                                                                                                            refine q_icmp_eq (tgt := 2161) dL_law_2073 (by decide) (fun c545 => ?_) (fun c545 => ?_)
                                                                                                            · refine q_iinc 3 (y := (a3 + (6 : Int32))) (ls' := [(3, .int (a3 + (6 : Int32))), (0, .float 0), (1, .ref a1), (2, .ref a2)]) dL_law_2161 rfl rfl (by decide) rfl ?_
                                                                                                              refine q_goto (tgt := 18) dL_law_2164 (by decide) ?_
                                                                                                              refine q_sub (ls' := [(0, .float 0), (1, .ref a1), (2, .ref a2), (3, .int (a3 + (6 : Int32)))]) [1, 2, 3, 0] rfl ?_
                                                                                                              exact ih _ _
                                                                                                            · refine q_iconst (x := (0 : Int32)) dL_law_2076 rfl ?_
                                                                                                              exact q_zretL dL_law_2077 rfl (Or.inl rfl) rfl (Nat.le_of_ble_eq_true rfl) rfl
                                                                                                          · have b547 := q_step (c := 50) b538 c546 rfl (by decide)
                                                                                                            refine q_ifV (fun c555 => ?_) (fun c555 => ?_)
                                                                                                            · refine q_tabIn (tgt := 2078) 50 dL_law_33 c555 (by decide) (by decide) rfl (by decide) ?_
                                                                                                              refine q_aload_n 1 dL_law_2078 rfl ?_
                                                                                                              refine q_aload_s 0 dL_law_2079 rfl ?_
                                                                                                              refine q_iload_n 3 dL_law_2080 rfl ?_
                                                                                                              refine q_iconst (x := (1 : Int32)) dL_law_2081 rfl ?_
                                                                                                              refine q_iadd dL_law_2082 ?_
                                                                                                              refine q_sld rfl dL_law_2083 (fun h548 => ?_)
                                                                                                              refine q_cVMI (Y2 := Y_X11_image) (As := [.int (xs (a3 + (1 : Int32)).toNatClampNeg)]) (b := a1) (st := []) cl_X11 mv_X11_image qw_1070 dL_law_2084 ⟨Nat.le_of_ble_eq_true rfl, Nat.le_of_ble_eq_true rfl⟩ rfl (fun _ _ => rfl) (Nat.le_of_ble_eq_true rfl) ⟨Nat.le_of_ble_eq_true rfl, Nat.le_of_ble_eq_true rfl⟩ (fun r550 h549 => q_ob_is h549) (fun r550 h549 => m_X11_image h549) (fun r550 h549 => ?_)
                                                                                                              refine q_aload_n 2 dL_law_2087 rfl ?_
                                                                                                              refine q_aload_s 0 dL_law_2088 rfl ?_
                                                                                                              refine q_iload_n 3 dL_law_2089 rfl ?_
                                                                                                              refine q_iconst (x := (1 : Int32)) dL_law_2090 rfl ?_
                                                                                                              refine q_iadd dL_law_2091 ?_
                                                                                                              refine q_sld rfl dL_law_2092 (fun h551 => ?_)
                                                                                                              refine q_cVMI (Y2 := Y_X12_image) (As := [.int (xs (a3 + (1 : Int32)).toNatClampNeg)]) (b := a2) (st := [.int r550.1]) cl_X12 mv_X12_image qw_1671 dL_law_2093 ⟨Nat.le_of_ble_eq_true rfl, Nat.le_of_ble_eq_true rfl⟩ rfl (fun _ _ => rfl) (Nat.le_of_ble_eq_true rfl) ⟨Nat.le_of_ble_eq_true rfl, Nat.le_of_ble_eq_true rfl⟩ (fun r553 h552 => q_ob_is h552) (fun r553 h552 => m_X12_image h552) (fun r553 h552 => ?_)
                                                                                                              refine q_icmp_eq (tgt := 2161) dL_law_2096 (by decide) (fun c554 => ?_) (fun c554 => ?_)
                                                                                                              · refine q_iinc 3 (y := (a3 + (6 : Int32))) (ls' := [(3, .int (a3 + (6 : Int32))), (0, .float 0), (1, .ref a1), (2, .ref a2)]) dL_law_2161 rfl rfl (by decide) rfl ?_
                                                                                                                refine q_goto (tgt := 18) dL_law_2164 (by decide) ?_
                                                                                                                refine q_sub (ls' := [(0, .float 0), (1, .ref a1), (2, .ref a2), (3, .int (a3 + (6 : Int32)))]) [1, 2, 3, 0] rfl ?_
                                                                                                                exact ih _ _
                                                                                                              · refine q_iconst (x := (0 : Int32)) dL_law_2099 rfl ?_
                                                                                                                exact q_zretL dL_law_2100 rfl (Or.inl rfl) rfl (Nat.le_of_ble_eq_true rfl) rfl
                                                                                                            · have b556 := q_step (c := 51) b547 c555 rfl (by decide)
                                                                                                              refine q_ifV (fun c564 => ?_) (fun c564 => ?_)
                                                                                                              · refine q_tabIn (tgt := 2101) 51 dL_law_33 c564 (by decide) (by decide) rfl (by decide) ?_
                                                                                                                refine q_aload_n 1 dL_law_2101 rfl ?_
                                                                                                                refine q_aload_s 0 dL_law_2102 rfl ?_
                                                                                                                refine q_iload_n 3 dL_law_2103 rfl ?_
                                                                                                                refine q_iconst (x := (1 : Int32)) dL_law_2104 rfl ?_
                                                                                                                refine q_iadd dL_law_2105 ?_
                                                                                                                refine q_sld rfl dL_law_2106 (fun h557 => ?_)
                                                                                                                refine q_cVMI (Y2 := Y_X11_from) (As := [.int (xs (a3 + (1 : Int32)).toNatClampNeg)]) (b := a1) (st := []) cl_X11 mv_X11_from qw_1086 dL_law_2107 ⟨Nat.le_of_ble_eq_true rfl, Nat.le_of_ble_eq_true rfl⟩ rfl (fun _ _ => rfl) (Nat.le_of_ble_eq_true rfl) ⟨Nat.le_of_ble_eq_true rfl, Nat.le_of_ble_eq_true rfl⟩ (fun r559 h558 => q_ob_is h558) (fun r559 h558 => m_X11_from h558) (fun r559 h558 => ?_)
                                                                                                                refine q_aload_n 2 dL_law_2110 rfl ?_
                                                                                                                refine q_aload_s 0 dL_law_2111 rfl ?_
                                                                                                                refine q_iload_n 3 dL_law_2112 rfl ?_
                                                                                                                refine q_iconst (x := (1 : Int32)) dL_law_2113 rfl ?_
                                                                                                                refine q_iadd dL_law_2114 ?_
                                                                                                                refine q_sld rfl dL_law_2115 (fun h560 => ?_)
                                                                                                                refine q_cVMI (Y2 := Y_X12_from) (As := [.int (xs (a3 + (1 : Int32)).toNatClampNeg)]) (b := a2) (st := [.int r559.1]) cl_X12 mv_X12_from qw_1675 dL_law_2116 ⟨Nat.le_of_ble_eq_true rfl, Nat.le_of_ble_eq_true rfl⟩ rfl (fun _ _ => rfl) (Nat.le_of_ble_eq_true rfl) ⟨Nat.le_of_ble_eq_true rfl, Nat.le_of_ble_eq_true rfl⟩ (fun r562 h561 => q_ob_is h561) (fun r562 h561 => m_X12_from h561) (fun r562 h561 => ?_)
                                                                                                                refine q_icmp_eq (tgt := 2161) dL_law_2119 (by decide) (fun c563 => ?_) (fun c563 => ?_)
                                                                                                                · refine q_iinc 3 (y := (a3 + (6 : Int32))) (ls' := [(3, .int (a3 + (6 : Int32))), (0, .float 0), (1, .ref a1), (2, .ref a2)]) dL_law_2161 rfl rfl (by decide) rfl ?_
                                                                                                                  refine q_goto (tgt := 18) dL_law_2164 (by decide) ?_
                                                                                                                  refine q_sub (ls' := [(0, .float 0), (1, .ref a1), (2, .ref a2), (3, .int (a3 + (6 : Int32)))]) [1, 2, 3, 0] rfl ?_
                                                                                                                  exact ih _ _
                                                                                                                · refine q_iconst (x := (0 : Int32)) dL_law_2122 rfl ?_
                                                                                                                  exact q_zretL dL_law_2123 rfl (Or.inl rfl) rfl (Nat.le_of_ble_eq_true rfl) rfl
                                                                                                              · have b565 := q_step (c := 52) b556 c564 rfl (by decide)
                                                                                                                refine q_ifV (fun c573 => ?_) (fun c573 => ?_)
                                                                                                                · refine q_tabIn (tgt := 2124) 52 dL_law_33 c573 (by decide) (by decide) rfl (by decide) ?_
                                                                                                                  refine q_aload_n 1 dL_law_2124 rfl ?_
                                                                                                                  refine q_aload_s 0 dL_law_2125 rfl ?_
                                                                                                                  refine q_iload_n 3 dL_law_2126 rfl ?_
                                                                                                                  refine q_iconst (x := (1 : Int32)) dL_law_2127 rfl ?_
                                                                                                                  refine q_iadd dL_law_2128 ?_
                                                                                                                  refine q_sld rfl dL_law_2129 (fun h566 => ?_)
                                                                                                                  refine q_cVI (Y2 := Y_X11_count) (As := [.int (xs (a3 + (1 : Int32)).toNatClampNeg)]) (b := a1) (st := []) cl_X11 mv_X11_count qw_1090 dL_law_2130 ⟨Nat.le_of_ble_eq_true rfl, Nat.le_of_ble_eq_true rfl⟩ rfl (fun _ _ => rfl) (Nat.le_of_ble_eq_true rfl) ⟨Nat.le_of_ble_eq_true rfl, Nat.le_of_ble_eq_true rfl⟩ (fun v568 h567 => q_ob_is h567) (fun v568 h567 => m_X11_count h567) (fun v568 h567 => ?_)
                                                                                                                  refine q_aload_n 2 dL_law_2133 rfl ?_
                                                                                                                  refine q_aload_s 0 dL_law_2134 rfl ?_
                                                                                                                  refine q_iload_n 3 dL_law_2135 rfl ?_
                                                                                                                  refine q_iconst (x := (1 : Int32)) dL_law_2136 rfl ?_
                                                                                                                  refine q_iadd dL_law_2137 ?_
                                                                                                                  refine q_sld rfl dL_law_2138 (fun h569 => ?_)
                                                                                                                  refine q_cVI (Y2 := Y_X12_count) (As := [.int (xs (a3 + (1 : Int32)).toNatClampNeg)]) (b := a2) (st := [.int v568]) cl_X12 mv_X12_count qw_1679 dL_law_2139 ⟨Nat.le_of_ble_eq_true rfl, Nat.le_of_ble_eq_true rfl⟩ rfl (fun _ _ => rfl) (Nat.le_of_ble_eq_true rfl) ⟨Nat.le_of_ble_eq_true rfl, Nat.le_of_ble_eq_true rfl⟩ (fun v571 h570 => q_ob_is h570) (fun v571 h570 => m_X12_count h570) (fun v571 h570 => ?_)
                                                                                                                  refine q_icmp_eq (tgt := 2161) dL_law_2142 (by decide) (fun c572 => ?_) (fun c572 => ?_)
                                                                                                                  · refine q_iinc 3 (y := (a3 + (6 : Int32))) (ls' := [(3, .int (a3 + (6 : Int32))), (0, .float 0), (1, .ref a1), (2, .ref a2)]) dL_law_2161 rfl rfl (by decide) rfl ?_
                                                                                                                    refine q_goto (tgt := 18) dL_law_2164 (by decide) ?_
                                                                                                                    refine q_sub (ls' := [(0, .float 0), (1, .ref a1), (2, .ref a2), (3, .int (a3 + (6 : Int32)))]) [1, 2, 3, 0] rfl ?_
                                                                                                                    exact ih _ _
                                                                                                                  · refine q_iconst (x := (0 : Int32)) dL_law_2145 rfl ?_
                                                                                                                    exact q_zretL dL_law_2146 rfl (Or.inl rfl) rfl (Nat.le_of_ble_eq_true rfl) rfl
                                                                                                                · have b574 := q_step (c := 53) b565 c573 rfl (by decide)
                                                                                                                  refine q_ifV (fun c580 => ?_) (fun c580 => ?_)
                                                                                                                  · refine q_tabIn (tgt := 2147) 53 dL_law_33 c580 (by decide) (by decide) rfl (by decide) ?_
                                                                                                                    refine q_aload_n 1 dL_law_2147 rfl ?_
                                                                                                                    refine q_cVJ (Y2 := Y_X11_digest) (As := []) (b := a1) (st := []) cl_X11 mv_X11_digest qw_1094 dL_law_2148 ⟨Nat.le_of_ble_eq_true rfl, Nat.le_of_ble_eq_true rfl⟩ rfl (fun _ _ => rfl) (Nat.le_of_ble_eq_true rfl) ⟨Nat.le_of_ble_eq_true rfl, Nat.le_of_ble_eq_true rfl⟩ (fun v576 h575 => q_ob_is h575) (fun v576 h575 => m_X11_digest h575) (fun v576 h575 => ?_)
                                                                                                                    refine q_aload_n 2 dL_law_2151 rfl ?_
                                                                                                                    refine q_cVJ (Y2 := Y_X12_digest) (As := []) (b := a2) (st := [.long v576]) cl_X12 mv_X12_digest qw_1683 dL_law_2152 ⟨Nat.le_of_ble_eq_true rfl, Nat.le_of_ble_eq_true rfl⟩ rfl (fun _ _ => rfl) (Nat.le_of_ble_eq_true rfl) ⟨Nat.le_of_ble_eq_true rfl, Nat.le_of_ble_eq_true rfl⟩ (fun v578 h577 => q_ob_is h577) (fun v578 h577 => m_X12_digest h577) (fun v578 h577 => ?_)
                                                                                                                    refine q_lcmp_eq (tgt := 2161) dL_law_2155 dL_law_2156 (by decide) (fun c579 => ?_) (fun c579 => ?_)
                                                                                                                    · refine q_iinc 3 (y := (a3 + (6 : Int32))) (ls' := [(3, .int (a3 + (6 : Int32))), (0, .float 0), (1, .ref a1), (2, .ref a2)]) dL_law_2161 rfl rfl (by decide) rfl ?_
                                                                                                                      refine q_goto (tgt := 18) dL_law_2164 (by decide) ?_
                                                                                                                      refine q_sub (ls' := [(0, .float 0), (1, .ref a1), (2, .ref a2), (3, .int (a3 + (6 : Int32)))]) [1, 2, 3, 0] rfl ?_
                                                                                                                      exact ih _ _
                                                                                                                    · refine q_iconst (x := (0 : Int32)) dL_law_2159 rfl ?_
                                                                                                                      exact q_zretL dL_law_2160 rfl (Or.inl rfl) rfl (Nat.le_of_ble_eq_true rfl) rfl
                                                                                                                  · have b581 := q_step (c := 54) b574 c580 rfl (by decide)
                                                                                                                    refine q_tabOut (tgt := 2161) dL_law_33 (Or.inr (Int.lt_of_lt_of_le (by decide) b581)) (by decide) ?_
                                                                                                                    refine q_iinc 3 (y := (a3 + (6 : Int32))) (ls' := [(3, .int (a3 + (6 : Int32))), (0, .float 0), (1, .ref a1), (2, .ref a2)]) dL_law_2161 rfl rfl (by decide) rfl ?_
                                                                                                                    refine q_goto (tgt := 18) dL_law_2164 (by decide) ?_
                                                                                                                    refine q_sub (ls' := [(0, .float 0), (1, .ref a1), (2, .ref a2), (3, .int (a3 + (6 : Int32)))]) [1, 2, 3, 0] rfl ?_
                                                                                                                    exact ih _ _
set_option maxRecDepth 20000 in
theorem v_L_law (L : Nat) (xs : Nat → Int32) (M : q_Mem) : q_V Y_L_law (some (L, xs)) (fun x : Int32 × q_Mem => (some (.int x.1), x.2)) 0 0 0 [(0, .float 0)] [] M (f_L_law L xs M) := by
  unfold f_L_law
  refine q_new cl_X11 qw_18 qw_19 qw_1 q_dv_X11 (Nat.le_of_ble_eq_true rfl) (Nat.le_of_ble_eq_true rfl) dL_law_0 ?_
  refine q_dup dL_law_3 rfl ?_
  refine q_cI2 (Y2 := Y_X11_init) (As := []) (b := M.1) (st := [.ref M.1]) (k' := 108) (n' := 22311) mi_X11_init qw_20 dL_law_4 ⟨Nat.le_of_ble_eq_true rfl, Nat.le_of_ble_eq_true rfl⟩ rfl (fun _ _ => rfl) (Nat.le_of_ble_eq_true rfl) rfl rfl ⟨Nat.le_of_ble_eq_true rfl, Nat.le_of_ble_eq_true rfl⟩ (fun M2 h1 => m_X11_init h1) (fun M2 h1 => ?_)
  refine q_astore_n (ls' := [(1, .ref M.1), (0, .float 0)]) dL_law_7 (by decide) rfl ?_
  refine q_new cl_X12 qw_1111 qw_1112 qw_13 q_dv_X12 (Nat.le_of_ble_eq_true rfl) (Nat.le_of_ble_eq_true rfl) dL_law_8 ?_
  refine q_dup dL_law_11 rfl ?_
  refine q_cI2 (Y2 := Y_X12_init) (As := []) (b := M2.1) (st := [.ref M2.1]) (k' := 131) (n' := 39214) mi_X12_init qw_1113 dL_law_12 ⟨Nat.le_of_ble_eq_true rfl, Nat.le_of_ble_eq_true rfl⟩ rfl (fun _ _ => rfl) (Nat.le_of_ble_eq_true rfl) rfl rfl ⟨Nat.le_of_ble_eq_true rfl, Nat.le_of_ble_eq_true rfl⟩ (fun M4 h3 => m_X12_init h3) (fun M4 h3 => ?_)
  refine q_astore_n (ls' := [(2, .ref M2.1), (1, .ref M.1), (0, .float 0)]) dL_law_15 (by decide) rfl ?_
  refine q_iconst (x := (0 : Int32)) dL_law_16 rfl ?_
  refine q_istore_n (ls' := [(3, .int (0 : Int32)), (2, .ref M2.1), (1, .ref M.1), (0, .float 0)]) dL_law_17 (by decide) rfl ?_
  refine q_sub (ls' := [(0, .float 0), (1, .ref M.1), (2, .ref M2.1), (3, .int (0 : Int32))]) [3, 2, 1, 0] rfl ?_
  exact v_L_law_b18 _ _ _
