theorem d_law_326 : decode code 326 = .ok (.iconst 0, 1) := by decide +kernel
theorem d_law_327 : decode code 327 = .ok (.ireturn, 1) := by decide +kernel
theorem d_law_328 : decode code 328 = .ok (.goto 722, 3) := by decide +kernel
theorem d_law_331 : decode code 331 = .ok (.aload_n 1, 1) := by decide +kernel
theorem d_law_332 : decode code 332 = .ok (.aload_n 0, 1) := by decide +kernel
theorem d_law_333 : decode code 333 = .ok (.iload 4, 2) := by decide +kernel
theorem d_law_335 : decode code 335 = .ok (.iconst 1, 1) := by decide +kernel
theorem d_law_336 : decode code 336 = .ok (.iadd, 1) := by decide +kernel
theorem d_law_337 : decode code 337 = .ok (.iaload, 1) := by decide +kernel
theorem d_law_338 : decode code 338 = .ok (.aload_n 3, 1) := by decide +kernel
theorem d_law_339 : decode code 339 = .ok (.invokestatic 88, 3) := by decide +kernel
theorem d_law_342 : decode code 342 = .ok (.istore 5, 2) := by decide +kernel
theorem d_law_344 : decode code 344 = .ok (.aload_n 2, 1) := by decide +kernel
theorem d_law_345 : decode code 345 = .ok (.aload_n 0, 1) := by decide +kernel
theorem d_law_346 : decode code 346 = .ok (.iload 4, 2) := by decide +kernel
theorem d_law_348 : decode code 348 = .ok (.iconst 1, 1) := by decide +kernel
theorem d_law_349 : decode code 349 = .ok (.iadd, 1) := by decide +kernel
theorem d_law_350 : decode code 350 = .ok (.iaload, 1) := by decide +kernel
theorem d_law_351 : decode code 351 = .ok (.invokevirtual 90, 3) := by decide +kernel
theorem d_law_354 : decode code 354 = .ok (.istore 6, 2) := by decide +kernel
theorem d_law_356 : decode code 356 = .ok (.aload_n 2, 1) := by decide +kernel
theorem d_law_357 : decode code 357 = .ok (.invokevirtual 73, 3) := by decide +kernel
theorem d_law_360 : decode code 360 = .ok (.iload 5, 2) := by decide +kernel
theorem d_law_362 : decode code 362 = .ok (.if_icmp .eq 5, 3) := by decide +kernel
theorem d_law_365 : decode code 365 = .ok (.iconst 0, 1) := by decide +kernel
theorem d_law_366 : decode code 366 = .ok (.ireturn, 1) := by decide +kernel
theorem d_law_367 : decode code 367 = .ok (.iload 5, 2) := by decide +kernel
theorem d_law_369 : decode code 369 = .ok (.ifCond .ne 15, 3) := by decide +kernel
theorem d_law_372 : decode code 372 = .ok (.aload_n 3, 1) := by decide +kernel
theorem d_law_373 : decode code 373 = .ok (.iconst 0, 1) := by decide +kernel
theorem d_law_374 : decode code 374 = .ok (.laload, 1) := by decide +kernel
theorem d_law_375 : decode code 375 = .ok (.iload 6, 2) := by decide +kernel
theorem d_law_377 : decode code 377 = .ok (.i2l, 1) := by decide +kernel
theorem d_law_378 : decode code 378 = .ok (.lcmp, 1) := by decide +kernel
theorem d_law_379 : decode code 379 = .ok (.ifCond .eq 5, 3) := by decide +kernel
theorem d_law_382 : decode code 382 = .ok (.iconst 0, 1) := by decide +kernel
theorem d_law_383 : decode code 383 = .ok (.ireturn, 1) := by decide +kernel
theorem d_law_384 : decode code 384 = .ok (.goto 666, 3) := by decide +kernel
theorem d_law_387 : decode code 387 = .ok (.aload_n 1, 1) := by decide +kernel
theorem d_law_388 : decode code 388 = .ok (.aload_n 0, 1) := by decide +kernel
theorem d_law_389 : decode code 389 = .ok (.iload 4, 2) := by decide +kernel
theorem d_law_391 : decode code 391 = .ok (.iconst 1, 1) := by decide +kernel
theorem d_law_392 : decode code 392 = .ok (.iadd, 1) := by decide +kernel
theorem d_law_393 : decode code 393 = .ok (.iaload, 1) := by decide +kernel
theorem d_law_394 : decode code 394 = .ok (.aload_n 3, 1) := by decide +kernel
theorem d_law_395 : decode code 395 = .ok (.invokestatic 91, 3) := by decide +kernel
theorem d_law_398 : decode code 398 = .ok (.istore 5, 2) := by decide +kernel
theorem d_law_400 : decode code 400 = .ok (.aload_n 2, 1) := by decide +kernel
theorem d_law_401 : decode code 401 = .ok (.aload_n 0, 1) := by decide +kernel
theorem d_law_402 : decode code 402 = .ok (.iload 4, 2) := by decide +kernel
theorem d_law_404 : decode code 404 = .ok (.iconst 1, 1) := by decide +kernel
theorem d_law_405 : decode code 405 = .ok (.iadd, 1) := by decide +kernel
theorem d_law_406 : decode code 406 = .ok (.iaload, 1) := by decide +kernel
theorem d_law_407 : decode code 407 = .ok (.invokevirtual 93, 3) := by decide +kernel
theorem d_law_410 : decode code 410 = .ok (.istore 6, 2) := by decide +kernel
theorem d_law_412 : decode code 412 = .ok (.aload_n 2, 1) := by decide +kernel
theorem d_law_413 : decode code 413 = .ok (.invokevirtual 73, 3) := by decide +kernel
theorem d_law_416 : decode code 416 = .ok (.iload 5, 2) := by decide +kernel
theorem d_law_418 : decode code 418 = .ok (.if_icmp .eq 5, 3) := by decide +kernel
theorem d_law_421 : decode code 421 = .ok (.iconst 0, 1) := by decide +kernel
theorem d_law_422 : decode code 422 = .ok (.ireturn, 1) := by decide +kernel
theorem d_law_423 : decode code 423 = .ok (.iload 5, 2) := by decide +kernel
theorem d_law_425 : decode code 425 = .ok (.ifCond .ne 15, 3) := by decide +kernel
theorem d_law_428 : decode code 428 = .ok (.aload_n 3, 1) := by decide +kernel
theorem d_law_429 : decode code 429 = .ok (.iconst 0, 1) := by decide +kernel
theorem d_law_430 : decode code 430 = .ok (.laload, 1) := by decide +kernel
theorem d_law_431 : decode code 431 = .ok (.iload 6, 2) := by decide +kernel
theorem d_law_433 : decode code 433 = .ok (.i2l, 1) := by decide +kernel
theorem d_law_434 : decode code 434 = .ok (.lcmp, 1) := by decide +kernel
theorem d_law_435 : decode code 435 = .ok (.ifCond .eq 5, 3) := by decide +kernel
theorem d_law_438 : decode code 438 = .ok (.iconst 0, 1) := by decide +kernel
theorem d_law_439 : decode code 439 = .ok (.ireturn, 1) := by decide +kernel
theorem d_law_440 : decode code 440 = .ok (.goto 610, 3) := by decide +kernel
theorem d_law_443 : decode code 443 = .ok (.aload_n 1, 1) := by decide +kernel
theorem d_law_444 : decode code 444 = .ok (.aload_n 0, 1) := by decide +kernel
theorem d_law_445 : decode code 445 = .ok (.iload 4, 2) := by decide +kernel
theorem d_law_447 : decode code 447 = .ok (.iconst 1, 1) := by decide +kernel
theorem d_law_448 : decode code 448 = .ok (.iadd, 1) := by decide +kernel
theorem d_law_449 : decode code 449 = .ok (.iaload, 1) := by decide +kernel
theorem d_law_450 : decode code 450 = .ok (.aload_n 3, 1) := by decide +kernel
theorem d_law_451 : decode code 451 = .ok (.invokestatic 94, 3) := by decide +kernel
theorem d_law_454 : decode code 454 = .ok (.istore 5, 2) := by decide +kernel
theorem d_law_456 : decode code 456 = .ok (.aload_n 2, 1) := by decide +kernel
theorem d_law_457 : decode code 457 = .ok (.aload_n 0, 1) := by decide +kernel
theorem d_law_458 : decode code 458 = .ok (.iload 4, 2) := by decide +kernel
theorem d_law_460 : decode code 460 = .ok (.iconst 1, 1) := by decide +kernel
theorem d_law_461 : decode code 461 = .ok (.iadd, 1) := by decide +kernel
theorem d_law_462 : decode code 462 = .ok (.iaload, 1) := by decide +kernel
theorem d_law_463 : decode code 463 = .ok (.invokevirtual 96, 3) := by decide +kernel
theorem d_law_466 : decode code 466 = .ok (.istore 6, 2) := by decide +kernel
theorem d_law_468 : decode code 468 = .ok (.aload_n 2, 1) := by decide +kernel
theorem d_law_469 : decode code 469 = .ok (.invokevirtual 73, 3) := by decide +kernel
theorem d_law_472 : decode code 472 = .ok (.iload 5, 2) := by decide +kernel
theorem d_law_474 : decode code 474 = .ok (.if_icmp .eq 5, 3) := by decide +kernel
theorem d_law_477 : decode code 477 = .ok (.iconst 0, 1) := by decide +kernel
theorem d_law_478 : decode code 478 = .ok (.ireturn, 1) := by decide +kernel
theorem d_law_479 : decode code 479 = .ok (.iload 5, 2) := by decide +kernel
theorem d_law_481 : decode code 481 = .ok (.ifCond .ne 15, 3) := by decide +kernel
theorem d_law_484 : decode code 484 = .ok (.aload_n 3, 1) := by decide +kernel
theorem d_law_485 : decode code 485 = .ok (.iconst 0, 1) := by decide +kernel
theorem d_law_486 : decode code 486 = .ok (.laload, 1) := by decide +kernel
theorem d_law_487 : decode code 487 = .ok (.iload 6, 2) := by decide +kernel
theorem d_law_489 : decode code 489 = .ok (.i2l, 1) := by decide +kernel
theorem d_law_490 : decode code 490 = .ok (.lcmp, 1) := by decide +kernel
theorem d_law_491 : decode code 491 = .ok (.ifCond .eq 5, 3) := by decide +kernel
theorem d_law_494 : decode code 494 = .ok (.iconst 0, 1) := by decide +kernel
theorem d_law_495 : decode code 495 = .ok (.ireturn, 1) := by decide +kernel
theorem d_law_496 : decode code 496 = .ok (.goto 554, 3) := by decide +kernel
theorem d_law_499 : decode code 499 = .ok (.aload_n 1, 1) := by decide +kernel
theorem d_law_500 : decode code 500 = .ok (.aload_n 0, 1) := by decide +kernel
theorem d_law_501 : decode code 501 = .ok (.iload 4, 2) := by decide +kernel
theorem d_law_503 : decode code 503 = .ok (.iconst 1, 1) := by decide +kernel
theorem d_law_504 : decode code 504 = .ok (.iadd, 1) := by decide +kernel
theorem d_law_505 : decode code 505 = .ok (.iaload, 1) := by decide +kernel
theorem d_law_506 : decode code 506 = .ok (.aload_n 0, 1) := by decide +kernel
theorem d_law_507 : decode code 507 = .ok (.iload 4, 2) := by decide +kernel
theorem d_law_509 : decode code 509 = .ok (.iconst 2, 1) := by decide +kernel
theorem d_law_510 : decode code 510 = .ok (.iadd, 1) := by decide +kernel
theorem d_law_511 : decode code 511 = .ok (.iaload, 1) := by decide +kernel
theorem d_law_512 : decode code 512 = .ok (.aload_n 3, 1) := by decide +kernel
theorem d_law_513 : decode code 513 = .ok (.invokestatic 97, 3) := by decide +kernel
theorem d_law_516 : decode code 516 = .ok (.istore 5, 2) := by decide +kernel
theorem d_law_518 : decode code 518 = .ok (.aload_n 2, 1) := by decide +kernel
theorem d_law_519 : decode code 519 = .ok (.aload_n 0, 1) := by decide +kernel
theorem d_law_520 : decode code 520 = .ok (.iload 4, 2) := by decide +kernel
theorem d_law_522 : decode code 522 = .ok (.iconst 1, 1) := by decide +kernel
theorem d_law_523 : decode code 523 = .ok (.iadd, 1) := by decide +kernel
theorem d_law_524 : decode code 524 = .ok (.iaload, 1) := by decide +kernel
theorem d_law_525 : decode code 525 = .ok (.aload_n 0, 1) := by decide +kernel
theorem d_law_526 : decode code 526 = .ok (.iload 4, 2) := by decide +kernel
theorem d_law_528 : decode code 528 = .ok (.iconst 2, 1) := by decide +kernel
theorem d_law_529 : decode code 529 = .ok (.iadd, 1) := by decide +kernel
theorem d_law_530 : decode code 530 = .ok (.iaload, 1) := by decide +kernel
theorem d_law_531 : decode code 531 = .ok (.invokevirtual 99, 3) := by decide +kernel
theorem d_law_534 : decode code 534 = .ok (.istore 6, 2) := by decide +kernel
theorem d_law_536 : decode code 536 = .ok (.aload_n 2, 1) := by decide +kernel
theorem d_law_537 : decode code 537 = .ok (.invokevirtual 73, 3) := by decide +kernel
theorem d_law_540 : decode code 540 = .ok (.iload 5, 2) := by decide +kernel
theorem d_law_542 : decode code 542 = .ok (.if_icmp .eq 5, 3) := by decide +kernel
theorem d_law_545 : decode code 545 = .ok (.iconst 0, 1) := by decide +kernel
theorem d_law_546 : decode code 546 = .ok (.ireturn, 1) := by decide +kernel
theorem d_law_547 : decode code 547 = .ok (.iload 5, 2) := by decide +kernel
theorem d_law_549 : decode code 549 = .ok (.ifCond .ne 22, 3) := by decide +kernel
theorem d_law_552 : decode code 552 = .ok (.aload_n 3, 1) := by decide +kernel
theorem d_law_553 : decode code 553 = .ok (.iconst 0, 1) := by decide +kernel
theorem d_law_554 : decode code 554 = .ok (.laload, 1) := by decide +kernel
theorem d_law_555 : decode code 555 = .ok (.iload 6, 2) := by decide +kernel
theorem d_law_557 : decode code 557 = .ok (.ifCond .eq 7, 3) := by decide +kernel
theorem d_law_560 : decode code 560 = .ok (.lconst 1, 1) := by decide +kernel
theorem d_law_561 : decode code 561 = .ok (.goto 4, 3) := by decide +kernel
theorem d_law_564 : decode code 564 = .ok (.lconst 0, 1) := by decide +kernel
theorem d_law_565 : decode code 565 = .ok (.lcmp, 1) := by decide +kernel
theorem d_law_566 : decode code 566 = .ok (.ifCond .eq 5, 3) := by decide +kernel
theorem d_law_569 : decode code 569 = .ok (.iconst 0, 1) := by decide +kernel
theorem d_law_570 : decode code 570 = .ok (.ireturn, 1) := by decide +kernel
theorem d_law_571 : decode code 571 = .ok (.goto 479, 3) := by decide +kernel
theorem d_law_574 : decode code 574 = .ok (.aload_n 1, 1) := by decide +kernel
theorem d_law_575 : decode code 575 = .ok (.aload_n 0, 1) := by decide +kernel
theorem d_law_576 : decode code 576 = .ok (.iload 4, 2) := by decide +kernel
theorem d_law_578 : decode code 578 = .ok (.iconst 1, 1) := by decide +kernel
