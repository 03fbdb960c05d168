theorem d_LA_law_284 : decode code 284 = .ok (.aload_n 1, 1) := by decide +kernel
theorem d_LA_law_285 : decode code 285 = .ok (.aload_n 0, 1) := by decide +kernel
theorem d_LA_law_286 : decode code 286 = .ok (.iload 4, 2) := by decide +kernel
theorem d_LA_law_288 : decode code 288 = .ok (.iconst 1, 1) := by decide +kernel
theorem d_LA_law_289 : decode code 289 = .ok (.iadd, 1) := by decide +kernel
theorem d_LA_law_290 : decode code 290 = .ok (.iaload, 1) := by decide +kernel
theorem d_LA_law_291 : decode code 291 = .ok (.aload_n 0, 1) := by decide +kernel
theorem d_LA_law_292 : decode code 292 = .ok (.iload 4, 2) := by decide +kernel
theorem d_LA_law_294 : decode code 294 = .ok (.iconst 2, 1) := by decide +kernel
theorem d_LA_law_295 : decode code 295 = .ok (.iadd, 1) := by decide +kernel
theorem d_LA_law_296 : decode code 296 = .ok (.iaload, 1) := by decide +kernel
theorem d_LA_law_297 : decode code 297 = .ok (.i2l, 1) := by decide +kernel
theorem d_LA_law_298 : decode code 298 = .ok (.bipush 32, 2) := by decide +kernel
theorem d_LA_law_300 : decode code 300 = .ok (.lshl, 1) := by decide +kernel
theorem d_LA_law_301 : decode code 301 = .ok (.aload_n 0, 1) := by decide +kernel
theorem d_LA_law_302 : decode code 302 = .ok (.iload 4, 2) := by decide +kernel
theorem d_LA_law_304 : decode code 304 = .ok (.iconst 3, 1) := by decide +kernel
theorem d_LA_law_305 : decode code 305 = .ok (.iadd, 1) := by decide +kernel
theorem d_LA_law_306 : decode code 306 = .ok (.iaload, 1) := by decide +kernel
theorem d_LA_law_307 : decode code 307 = .ok (.i2l, 1) := by decide +kernel
theorem d_LA_law_308 : decode code 308 = .ok (.ldc2_w 74, 3) := by decide +kernel
theorem d_LA_law_311 : decode code 311 = .ok (.land, 1) := by decide +kernel
theorem d_LA_law_312 : decode code 312 = .ok (.lor, 1) := by decide +kernel
theorem d_LA_law_313 : decode code 313 = .ok (.aload_n 0, 1) := by decide +kernel
theorem d_LA_law_314 : decode code 314 = .ok (.iload 4, 2) := by decide +kernel
theorem d_LA_law_316 : decode code 316 = .ok (.iconst 4, 1) := by decide +kernel
theorem d_LA_law_317 : decode code 317 = .ok (.iadd, 1) := by decide +kernel
theorem d_LA_law_318 : decode code 318 = .ok (.iaload, 1) := by decide +kernel
theorem d_LA_law_319 : decode code 319 = .ok (.i2l, 1) := by decide +kernel
theorem d_LA_law_320 : decode code 320 = .ok (.bipush 32, 2) := by decide +kernel
theorem d_LA_law_322 : decode code 322 = .ok (.lshl, 1) := by decide +kernel
theorem d_LA_law_323 : decode code 323 = .ok (.aload_n 0, 1) := by decide +kernel
theorem d_LA_law_324 : decode code 324 = .ok (.iload 4, 2) := by decide +kernel
theorem d_LA_law_326 : decode code 326 = .ok (.iconst 5, 1) := by decide +kernel
theorem d_LA_law_327 : decode code 327 = .ok (.iadd, 1) := by decide +kernel
theorem d_LA_law_328 : decode code 328 = .ok (.iaload, 1) := by decide +kernel
theorem d_LA_law_329 : decode code 329 = .ok (.i2l, 1) := by decide +kernel
theorem d_LA_law_330 : decode code 330 = .ok (.ldc2_w 74, 3) := by decide +kernel
theorem d_LA_law_333 : decode code 333 = .ok (.land, 1) := by decide +kernel
theorem d_LA_law_334 : decode code 334 = .ok (.lor, 1) := by decide +kernel
theorem d_LA_law_335 : decode code 335 = .ok (.aload_n 3, 1) := by decide +kernel
theorem d_LA_law_336 : decode code 336 = .ok (.invokestatic 84, 3) := by decide +kernel
theorem d_LA_law_339 : decode code 339 = .ok (.istore 5, 2) := by decide +kernel
theorem d_LA_law_341 : decode code 341 = .ok (.aload_n 2, 1) := by decide +kernel
theorem d_LA_law_342 : decode code 342 = .ok (.aload_n 0, 1) := by decide +kernel
theorem d_LA_law_343 : decode code 343 = .ok (.iload 4, 2) := by decide +kernel
theorem d_LA_law_345 : decode code 345 = .ok (.iconst 1, 1) := by decide +kernel
theorem d_LA_law_346 : decode code 346 = .ok (.iadd, 1) := by decide +kernel
theorem d_LA_law_347 : decode code 347 = .ok (.iaload, 1) := by decide +kernel
theorem d_LA_law_348 : decode code 348 = .ok (.aload_n 0, 1) := by decide +kernel
theorem d_LA_law_349 : decode code 349 = .ok (.iload 4, 2) := by decide +kernel
theorem d_LA_law_351 : decode code 351 = .ok (.iconst 2, 1) := by decide +kernel
theorem d_LA_law_352 : decode code 352 = .ok (.iadd, 1) := by decide +kernel
theorem d_LA_law_353 : decode code 353 = .ok (.iaload, 1) := by decide +kernel
theorem d_LA_law_354 : decode code 354 = .ok (.i2l, 1) := by decide +kernel
theorem d_LA_law_355 : decode code 355 = .ok (.bipush 32, 2) := by decide +kernel
theorem d_LA_law_357 : decode code 357 = .ok (.lshl, 1) := by decide +kernel
theorem d_LA_law_358 : decode code 358 = .ok (.aload_n 0, 1) := by decide +kernel
theorem d_LA_law_359 : decode code 359 = .ok (.iload 4, 2) := by decide +kernel
theorem d_LA_law_361 : decode code 361 = .ok (.iconst 3, 1) := by decide +kernel
theorem d_LA_law_362 : decode code 362 = .ok (.iadd, 1) := by decide +kernel
theorem d_LA_law_363 : decode code 363 = .ok (.iaload, 1) := by decide +kernel
theorem d_LA_law_364 : decode code 364 = .ok (.i2l, 1) := by decide +kernel
theorem d_LA_law_365 : decode code 365 = .ok (.ldc2_w 74, 3) := by decide +kernel
theorem d_LA_law_368 : decode code 368 = .ok (.land, 1) := by decide +kernel
theorem d_LA_law_369 : decode code 369 = .ok (.lor, 1) := by decide +kernel
theorem d_LA_law_370 : decode code 370 = .ok (.aload_n 0, 1) := by decide +kernel
theorem d_LA_law_371 : decode code 371 = .ok (.iload 4, 2) := by decide +kernel
theorem d_LA_law_373 : decode code 373 = .ok (.iconst 4, 1) := by decide +kernel
theorem d_LA_law_374 : decode code 374 = .ok (.iadd, 1) := by decide +kernel
theorem d_LA_law_375 : decode code 375 = .ok (.iaload, 1) := by decide +kernel
theorem d_LA_law_376 : decode code 376 = .ok (.i2l, 1) := by decide +kernel
theorem d_LA_law_377 : decode code 377 = .ok (.bipush 32, 2) := by decide +kernel
theorem d_LA_law_379 : decode code 379 = .ok (.lshl, 1) := by decide +kernel
theorem d_LA_law_380 : decode code 380 = .ok (.aload_n 0, 1) := by decide +kernel
theorem d_LA_law_381 : decode code 381 = .ok (.iload 4, 2) := by decide +kernel
theorem d_LA_law_383 : decode code 383 = .ok (.iconst 5, 1) := by decide +kernel
theorem d_LA_law_384 : decode code 384 = .ok (.iadd, 1) := by decide +kernel
theorem d_LA_law_385 : decode code 385 = .ok (.iaload, 1) := by decide +kernel
theorem d_LA_law_386 : decode code 386 = .ok (.i2l, 1) := by decide +kernel
theorem d_LA_law_387 : decode code 387 = .ok (.ldc2_w 74, 3) := by decide +kernel
theorem d_LA_law_390 : decode code 390 = .ok (.land, 1) := by decide +kernel
theorem d_LA_law_391 : decode code 391 = .ok (.lor, 1) := by decide +kernel
theorem d_LA_law_392 : decode code 392 = .ok (.invokevirtual 87, 3) := by decide +kernel
theorem d_LA_law_395 : decode code 395 = .ok (.istore 6, 2) := by decide +kernel
theorem d_LA_law_397 : decode code 397 = .ok (.aload_n 2, 1) := by decide +kernel
theorem d_LA_law_398 : decode code 398 = .ok (.invokevirtual 80, 3) := by decide +kernel
theorem d_LA_law_401 : decode code 401 = .ok (.iload 5, 2) := by decide +kernel
theorem d_LA_law_403 : decode code 403 = .ok (.if_icmp .eq 5, 3) := by decide +kernel
theorem d_LA_law_406 : decode code 406 = .ok (.iconst 0, 1) := by decide +kernel
theorem d_LA_law_407 : decode code 407 = .ok (.ireturn, 1) := by decide +kernel
theorem d_LA_law_408 : decode code 408 = .ok (.iload 5, 2) := by decide +kernel
theorem d_LA_law_410 : decode code 410 = .ok (.ifCond .ne 22, 3) := by decide +kernel
theorem d_LA_law_413 : decode code 413 = .ok (.aload_n 3, 1) := by decide +kernel
theorem d_LA_law_414 : decode code 414 = .ok (.iconst 0, 1) := by decide +kernel
theorem d_LA_law_415 : decode code 415 = .ok (.laload, 1) := by decide +kernel
theorem d_LA_law_416 : decode code 416 = .ok (.iload 6, 2) := by decide +kernel
theorem d_LA_law_418 : decode code 418 = .ok (.ifCond .eq 7, 3) := by decide +kernel
theorem d_LA_law_421 : decode code 421 = .ok (.lconst 1, 1) := by decide +kernel
theorem d_LA_law_422 : decode code 422 = .ok (.goto 4, 3) := by decide +kernel
theorem d_LA_law_425 : decode code 425 = .ok (.lconst 0, 1) := by decide +kernel
theorem d_LA_law_426 : decode code 426 = .ok (.lcmp, 1) := by decide +kernel
theorem d_LA_law_427 : decode code 427 = .ok (.ifCond .eq 5, 3) := by decide +kernel
theorem d_LA_law_430 : decode code 430 = .ok (.iconst 0, 1) := by decide +kernel
theorem d_LA_law_431 : decode code 431 = .ok (.ireturn, 1) := by decide +kernel
theorem d_LA_law_432 : decode code 432 = .ok (.goto 789, 3) := by decide +kernel
theorem d_LA_law_435 : decode code 435 = .ok (.aload_n 1, 1) := by decide +kernel
theorem d_LA_law_436 : decode code 436 = .ok (.aload_n 0, 1) := by decide +kernel
theorem d_LA_law_437 : decode code 437 = .ok (.iload 4, 2) := by decide +kernel
theorem d_LA_law_439 : decode code 439 = .ok (.iconst 1, 1) := by decide +kernel
theorem d_LA_law_440 : decode code 440 = .ok (.iadd, 1) := by decide +kernel
theorem d_LA_law_441 : decode code 441 = .ok (.iaload, 1) := by decide +kernel
theorem d_LA_law_442 : decode code 442 = .ok (.aload_n 0, 1) := by decide +kernel
theorem d_LA_law_443 : decode code 443 = .ok (.iload 4, 2) := by decide +kernel
theorem d_LA_law_445 : decode code 445 = .ok (.iconst 2, 1) := by decide +kernel
theorem d_LA_law_446 : decode code 446 = .ok (.iadd, 1) := by decide +kernel
theorem d_LA_law_447 : decode code 447 = .ok (.iaload, 1) := by decide +kernel
theorem d_LA_law_448 : decode code 448 = .ok (.aload_n 3, 1) := by decide +kernel
theorem d_LA_law_449 : decode code 449 = .ok (.invokestatic 88, 3) := by decide +kernel
theorem d_LA_law_452 : decode code 452 = .ok (.istore 5, 2) := by decide +kernel
theorem d_LA_law_454 : decode code 454 = .ok (.aload_n 2, 1) := by decide +kernel
theorem d_LA_law_455 : decode code 455 = .ok (.aload_n 0, 1) := by decide +kernel
theorem d_LA_law_456 : decode code 456 = .ok (.iload 4, 2) := by decide +kernel
theorem d_LA_law_458 : decode code 458 = .ok (.iconst 1, 1) := by decide +kernel
theorem d_LA_law_459 : decode code 459 = .ok (.iadd, 1) := by decide +kernel
theorem d_LA_law_460 : decode code 460 = .ok (.iaload, 1) := by decide +kernel
theorem d_LA_law_461 : decode code 461 = .ok (.aload_n 0, 1) := by decide +kernel
theorem d_LA_law_462 : decode code 462 = .ok (.iload 4, 2) := by decide +kernel
theorem d_LA_law_464 : decode code 464 = .ok (.iconst 2, 1) := by decide +kernel
theorem d_LA_law_465 : decode code 465 = .ok (.iadd, 1) := by decide +kernel
theorem d_LA_law_466 : decode code 466 = .ok (.iaload, 1) := by decide +kernel
theorem d_LA_law_467 : decode code 467 = .ok (.invokevirtual 91, 3) := by decide +kernel
theorem d_LA_law_470 : decode code 470 = .ok (.istore 6, 2) := by decide +kernel
theorem d_LA_law_472 : decode code 472 = .ok (.aload_n 2, 1) := by decide +kernel
theorem d_LA_law_473 : decode code 473 = .ok (.invokevirtual 80, 3) := by decide +kernel
theorem d_LA_law_476 : decode code 476 = .ok (.iload 5, 2) := by decide +kernel
theorem d_LA_law_478 : decode code 478 = .ok (.if_icmp .eq 5, 3) := by decide +kernel
theorem d_LA_law_481 : decode code 481 = .ok (.iconst 0, 1) := by decide +kernel
theorem d_LA_law_482 : decode code 482 = .ok (.ireturn, 1) := by decide +kernel
theorem d_LA_law_483 : decode code 483 = .ok (.iload 5, 2) := by decide +kernel
theorem d_LA_law_485 : decode code 485 = .ok (.ifCond .ne 15, 3) := by decide +kernel
theorem d_LA_law_488 : decode code 488 = .ok (.aload_n 3, 1) := by decide +kernel
theorem d_LA_law_489 : decode code 489 = .ok (.iconst 0, 1) := by decide +kernel
theorem d_LA_law_490 : decode code 490 = .ok (.laload, 1) := by decide +kernel
theorem d_LA_law_491 : decode code 491 = .ok (.iload 6, 2) := by decide +kernel
theorem d_LA_law_493 : decode code 493 = .ok (.i2l, 1) := by decide +kernel
theorem d_LA_law_494 : decode code 494 = .ok (.lcmp, 1) := by decide +kernel
theorem d_LA_law_495 : decode code 495 = .ok (.ifCond .eq 5, 3) := by decide +kernel
theorem d_LA_law_498 : decode code 498 = .ok (.iconst 0, 1) := by decide +kernel
theorem d_LA_law_499 : decode code 499 = .ok (.ireturn, 1) := by decide +kernel
theorem d_LA_law_500 : decode code 500 = .ok (.goto 721, 3) := by decide +kernel
theorem d_LA_law_503 : decode code 503 = .ok (.aload_n 1, 1) := by decide +kernel
theorem d_LA_law_504 : decode code 504 = .ok (.aload_n 0, 1) := by decide +kernel
theorem d_LA_law_505 : decode code 505 = .ok (.iload 4, 2) := by decide +kernel
theorem d_LA_law_507 : decode code 507 = .ok (.iconst 1, 1) := by decide +kernel
theorem d_LA_law_508 : decode code 508 = .ok (.iadd, 1) := by decide +kernel
theorem d_LA_law_509 : decode code 509 = .ok (.iaload, 1) := by decide +kernel
theorem d_LA_law_510 : decode code 510 = .ok (.aload_n 0, 1) := by decide +kernel
theorem d_LA_law_511 : decode code 511 = .ok (.iload 4, 2) := by decide +kernel
theorem d_LA_law_513 : decode code 513 = .ok (.iconst 2, 1) := by decide +kernel
theorem d_LA_law_514 : decode code 514 = .ok (.iadd, 1) := by decide +kernel
theorem d_LA_law_515 : decode code 515 = .ok (.iaload, 1) := by decide +kernel
theorem d_LA_law_516 : decode code 516 = .ok (.aload_n 0, 1) := by decide +kernel
theorem d_LA_law_517 : decode code 517 = .ok (.iload 4, 2) := by decide +kernel
theorem d_LA_law_519 : decode code 519 = .ok (.iconst 3, 1) := by decide +kernel
theorem d_LA_law_520 : decode code 520 = .ok (.iadd, 1) := by decide +kernel
theorem d_LA_law_521 : decode code 521 = .ok (.iaload, 1) := by decide +kernel
theorem d_LA_law_522 : decode code 522 = .ok (.ifCond .eq 7, 3) := by decide +kernel
theorem d_LA_law_525 : decode code 525 = .ok (.iconst 1, 1) := by decide +kernel
theorem d_LA_law_526 : decode code 526 = .ok (.goto 4, 3) := by decide +kernel
theorem d_LA_law_529 : decode code 529 = .ok (.iconst 0, 1) := by decide +kernel
theorem d_LA_law_530 : decode code 530 = .ok (.aload_n 3, 1) := by decide +kernel
theorem d_LA_law_531 : decode code 531 = .ok (.invokestatic 92, 3) := by decide +kernel
theorem d_LA_law_534 : decode code 534 = .ok (.istore 5, 2) := by decide +kernel
theorem d_LA_law_536 : decode code 536 = .ok (.aload_n 2, 1) := by decide +kernel
theorem d_LA_law_537 : decode code 537 = .ok (.aload_n 0, 1) := by decide +kernel
theorem d_LA_law_538 : decode code 538 = .ok (.iload 4, 2) := by decide +kernel
theorem d_LA_law_540 : decode code 540 = .ok (.iconst 1, 1) := by decide +kernel
theorem d_LA_law_541 : decode code 541 = .ok (.iadd, 1) := by decide +kernel
theorem d_LA_law_542 : decode code 542 = .ok (.iaload, 1) := by decide +kernel
theorem d_LA_law_543 : decode code 543 = .ok (.aload_n 0, 1) := by decide +kernel
theorem d_LA_law_544 : decode code 544 = .ok (.iload 4, 2) := by decide +kernel
theorem d_LA_law_546 : decode code 546 = .ok (.iconst 2, 1) := by decide +kernel
theorem d_LA_law_547 : decode code 547 = .ok (.iadd, 1) := by decide +kernel
theorem d_LA_law_548 : decode code 548 = .ok (.iaload, 1) := by decide +kernel
theorem d_LA_law_549 : decode code 549 = .ok (.aload_n 0, 1) := by decide +kernel
theorem d_LA_law_550 : decode code 550 = .ok (.iload 4, 2) := by decide +kernel
theorem d_LA_law_552 : decode code 552 = .ok (.iconst 3, 1) := by decide +kernel
theorem d_LA_law_553 : decode code 553 = .ok (.iadd, 1) := by decide +kernel
theorem d_LA_law_554 : decode code 554 = .ok (.iaload, 1) := by decide +kernel
theorem d_LA_law_555 : decode code 555 = .ok (.ifCond .eq 7, 3) := by decide +kernel
theorem d_LA_law_558 : decode code 558 = .ok (.iconst 1, 1) := by decide +kernel
theorem d_LA_law_559 : decode code 559 = .ok (.goto 4, 3) := by decide +kernel
theorem d_LA_law_562 : decode code 562 = .ok (.iconst 0, 1) := by decide +kernel
theorem d_LA_law_563 : decode code 563 = .ok (.invokevirtual 95, 3) := by decide +kernel
theorem d_LA_law_566 : decode code 566 = .ok (.istore 6, 2) := by decide +kernel
theorem d_LA_law_568 : decode code 568 = .ok (.aload_n 2, 1) := by decide +kernel
theorem d_LA_law_569 : decode code 569 = .ok (.invokevirtual 80, 3) := by decide +kernel
theorem d_LA_law_572 : decode code 572 = .ok (.iload 5, 2) := by decide +kernel
theorem d_LA_law_574 : decode code 574 = .ok (.if_icmp .eq 5, 3) := by decide +kernel
theorem d_LA_law_577 : decode code 577 = .ok (.iconst 0, 1) := by decide +kernel
theorem d_LA_law_578 : decode code 578 = .ok (.ireturn, 1) := by decide +kernel
theorem d_LA_law_579 : decode code 579 = .ok (.iload 5, 2) := by decide +kernel
theorem d_LA_law_581 : decode code 581 = .ok (.ifCond .ne 15, 3) := by decide +kernel
theorem d_LA_law_584 : decode code 584 = .ok (.aload_n 3, 1) := by decide +kernel
theorem d_LA_law_585 : decode code 585 = .ok (.iconst 0, 1) := by decide +kernel
theorem d_LA_law_586 : decode code 586 = .ok (.laload, 1) := by decide +kernel
theorem d_LA_law_587 : decode code 587 = .ok (.iload 6, 2) := by decide +kernel
theorem d_LA_law_589 : decode code 589 = .ok (.i2l, 1) := by decide +kernel
theorem d_LA_law_590 : decode code 590 = .ok (.lcmp, 1) := by decide +kernel
theorem d_LA_law_591 : decode code 591 = .ok (.ifCond .eq 5, 3) := by decide +kernel
theorem d_LA_law_594 : decode code 594 = .ok (.iconst 0, 1) := by decide +kernel
theorem d_LA_law_595 : decode code 595 = .ok (.ireturn, 1) := by decide +kernel
theorem d_LA_law_596 : decode code 596 = .ok (.goto 625, 3) := by decide +kernel
