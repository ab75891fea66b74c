theorem d_LA_law_319 : decode b_LA_law 319 = .ok (.iaload, 1) := by decide +kernel
theorem d_LA_law_320 : decode b_LA_law 320 = .ok (.invokevirtual 93, 3) := by decide +kernel
theorem d_LA_law_323 : decode b_LA_law 323 = .ok (.lstore 6, 2) := by decide +kernel
theorem d_LA_law_325 : decode b_LA_law 325 = .ok (.aload_n 2, 1) := by decide +kernel
theorem d_LA_law_326 : decode b_LA_law 326 = .ok (.invokevirtual 80, 3) := by decide +kernel
theorem d_LA_law_329 : decode b_LA_law 329 = .ok (.iload 5, 2) := by decide +kernel
theorem d_LA_law_331 : decode b_LA_law 331 = .ok (.if_icmp .eq 5, 3) := by decide +kernel
theorem d_LA_law_334 : decode b_LA_law 334 = .ok (.iconst 0, 1) := by decide +kernel
theorem d_LA_law_335 : decode b_LA_law 335 = .ok (.ireturn, 1) := by decide +kernel
theorem d_LA_law_336 : decode b_LA_law 336 = .ok (.iload 5, 2) := by decide +kernel
theorem d_LA_law_338 : decode b_LA_law 338 = .ok (.ifCond .ne 14, 3) := by decide +kernel
theorem d_LA_law_341 : decode b_LA_law 341 = .ok (.aload_n 3, 1) := by decide +kernel
theorem d_LA_law_342 : decode b_LA_law 342 = .ok (.iconst 0, 1) := by decide +kernel
theorem d_LA_law_343 : decode b_LA_law 343 = .ok (.laload, 1) := by decide +kernel
theorem d_LA_law_344 : decode b_LA_law 344 = .ok (.lload 6, 2) := by decide +kernel
theorem d_LA_law_346 : decode b_LA_law 346 = .ok (.lcmp, 1) := by decide +kernel
theorem d_LA_law_347 : decode b_LA_law 347 = .ok (.ifCond .eq 5, 3) := by decide +kernel
theorem d_LA_law_350 : decode b_LA_law 350 = .ok (.iconst 0, 1) := by decide +kernel
theorem d_LA_law_351 : decode b_LA_law 351 = .ok (.ireturn, 1) := by decide +kernel
theorem d_LA_law_352 : decode b_LA_law 352 = .ok (.goto 660, 3) := by decide +kernel
theorem d_LA_law_355 : decode b_LA_law 355 = .ok (.aload_n 1, 1) := by decide +kernel
theorem d_LA_law_356 : decode b_LA_law 356 = .ok (.aload_n 3, 1) := by decide +kernel
theorem d_LA_law_357 : decode b_LA_law 357 = .ok (.invokestatic 94, 3) := by decide +kernel
theorem d_LA_law_360 : decode b_LA_law 360 = .ok (.istore 5, 2) := by decide +kernel
theorem d_LA_law_362 : decode b_LA_law 362 = .ok (.aload_n 2, 1) := by decide +kernel
theorem d_LA_law_363 : decode b_LA_law 363 = .ok (.invokevirtual 96, 3) := by decide +kernel
theorem d_LA_law_366 : decode b_LA_law 366 = .ok (.istore 6, 2) := by decide +kernel
theorem d_LA_law_368 : decode b_LA_law 368 = .ok (.aload_n 2, 1) := by decide +kernel
theorem d_LA_law_369 : decode b_LA_law 369 = .ok (.invokevirtual 80, 3) := by decide +kernel
theorem d_LA_law_372 : decode b_LA_law 372 = .ok (.iload 5, 2) := by decide +kernel
theorem d_LA_law_374 : decode b_LA_law 374 = .ok (.if_icmp .eq 5, 3) := by decide +kernel
theorem d_LA_law_377 : decode b_LA_law 377 = .ok (.iconst 0, 1) := by decide +kernel
theorem d_LA_law_378 : decode b_LA_law 378 = .ok (.ireturn, 1) := by decide +kernel
theorem d_LA_law_379 : decode b_LA_law 379 = .ok (.iload 5, 2) := by decide +kernel
theorem d_LA_law_381 : decode b_LA_law 381 = .ok (.ifCond .ne 15, 3) := by decide +kernel
theorem d_LA_law_384 : decode b_LA_law 384 = .ok (.aload_n 3, 1) := by decide +kernel
theorem d_LA_law_385 : decode b_LA_law 385 = .ok (.iconst 0, 1) := by decide +kernel
theorem d_LA_law_386 : decode b_LA_law 386 = .ok (.laload, 1) := by decide +kernel
theorem d_LA_law_387 : decode b_LA_law 387 = .ok (.iload 6, 2) := by decide +kernel
theorem d_LA_law_389 : decode b_LA_law 389 = .ok (.i2l, 1) := by decide +kernel
theorem d_LA_law_390 : decode b_LA_law 390 = .ok (.lcmp, 1) := by decide +kernel
theorem d_LA_law_391 : decode b_LA_law 391 = .ok (.ifCond .eq 5, 3) := by decide +kernel
theorem d_LA_law_394 : decode b_LA_law 394 = .ok (.iconst 0, 1) := by decide +kernel
theorem d_LA_law_395 : decode b_LA_law 395 = .ok (.ireturn, 1) := by decide +kernel
theorem d_LA_law_396 : decode b_LA_law 396 = .ok (.goto 616, 3) := by decide +kernel
theorem d_LA_law_399 : decode b_LA_law 399 = .ok (.aload_n 1, 1) := by decide +kernel
theorem d_LA_law_400 : decode b_LA_law 400 = .ok (.aload_n 3, 1) := by decide +kernel
theorem d_LA_law_401 : decode b_LA_law 401 = .ok (.invokestatic 97, 3) := by decide +kernel
theorem d_LA_law_404 : decode b_LA_law 404 = .ok (.istore 5, 2) := by decide +kernel
theorem d_LA_law_406 : decode b_LA_law 406 = .ok (.aload_n 2, 1) := by decide +kernel
theorem d_LA_law_407 : decode b_LA_law 407 = .ok (.invokevirtual 99, 3) := by decide +kernel
theorem d_LA_law_410 : decode b_LA_law 410 = .ok (.istore 6, 2) := by decide +kernel
theorem d_LA_law_412 : decode b_LA_law 412 = .ok (.aload_n 2, 1) := by decide +kernel
theorem d_LA_law_413 : decode b_LA_law 413 = .ok (.invokevirtual 80, 3) := by decide +kernel
theorem d_LA_law_416 : decode b_LA_law 416 = .ok (.iload 5, 2) := by decide +kernel
theorem d_LA_law_418 : decode b_LA_law 418 = .ok (.if_icmp .eq 5, 3) := by decide +kernel
theorem d_LA_law_421 : decode b_LA_law 421 = .ok (.iconst 0, 1) := by decide +kernel
theorem d_LA_law_422 : decode b_LA_law 422 = .ok (.ireturn, 1) := by decide +kernel
theorem d_LA_law_423 : decode b_LA_law 423 = .ok (.iload 5, 2) := by decide +kernel
theorem d_LA_law_425 : decode b_LA_law 425 = .ok (.ifCond .ne 15, 3) := by decide +kernel
theorem d_LA_law_428 : decode b_LA_law 428 = .ok (.aload_n 3, 1) := by decide +kernel
theorem d_LA_law_429 : decode b_LA_law 429 = .ok (.iconst 0, 1) := by decide +kernel
theorem d_LA_law_430 : decode b_LA_law 430 = .ok (.laload, 1) := by decide +kernel
theorem d_LA_law_431 : decode b_LA_law 431 = .ok (.iload 6, 2) := by decide +kernel
theorem d_LA_law_433 : decode b_LA_law 433 = .ok (.i2l, 1) := by decide +kernel
theorem d_LA_law_434 : decode b_LA_law 434 = .ok (.lcmp, 1) := by decide +kernel
theorem d_LA_law_435 : decode b_LA_law 435 = .ok (.ifCond .eq 5, 3) := by decide +kernel
theorem d_LA_law_438 : decode b_LA_law 438 = .ok (.iconst 0, 1) := by decide +kernel
theorem d_LA_law_439 : decode b_LA_law 439 = .ok (.ireturn, 1) := by decide +kernel
theorem d_LA_law_440 : decode b_LA_law 440 = .ok (.goto 572, 3) := by decide +kernel
theorem d_LA_law_443 : decode b_LA_law 443 = .ok (.aload_n 1, 1) := by decide +kernel
theorem d_LA_law_444 : decode b_LA_law 444 = .ok (.aload_n 0, 1) := by decide +kernel
theorem d_LA_law_445 : decode b_LA_law 445 = .ok (.iload 4, 2) := by decide +kernel
theorem d_LA_law_447 : decode b_LA_law 447 = .ok (.iconst 1, 1) := by decide +kernel
theorem d_LA_law_448 : decode b_LA_law 448 = .ok (.iadd, 1) := by decide +kernel
theorem d_LA_law_449 : decode b_LA_law 449 = .ok (.iaload, 1) := by decide +kernel
theorem d_LA_law_450 : decode b_LA_law 450 = .ok (.aload_n 0, 1) := by decide +kernel
theorem d_LA_law_451 : decode b_LA_law 451 = .ok (.iload 4, 2) := by decide +kernel
theorem d_LA_law_453 : decode b_LA_law 453 = .ok (.iconst 2, 1) := by decide +kernel
theorem d_LA_law_454 : decode b_LA_law 454 = .ok (.iadd, 1) := by decide +kernel
theorem d_LA_law_455 : decode b_LA_law 455 = .ok (.iaload, 1) := by decide +kernel
theorem d_LA_law_456 : decode b_LA_law 456 = .ok (.aload_n 3, 1) := by decide +kernel
theorem d_LA_law_457 : decode b_LA_law 457 = .ok (.invokestatic 100, 3) := by decide +kernel
theorem d_LA_law_460 : decode b_LA_law 460 = .ok (.istore 5, 2) := by decide +kernel
theorem d_LA_law_462 : decode b_LA_law 462 = .ok (.aload_n 2, 1) := by decide +kernel
theorem d_LA_law_463 : decode b_LA_law 463 = .ok (.aload_n 0, 1) := by decide +kernel
theorem d_LA_law_464 : decode b_LA_law 464 = .ok (.iload 4, 2) := by decide +kernel
theorem d_LA_law_466 : decode b_LA_law 466 = .ok (.iconst 1, 1) := by decide +kernel
theorem d_LA_law_467 : decode b_LA_law 467 = .ok (.iadd, 1) := by decide +kernel
theorem d_LA_law_468 : decode b_LA_law 468 = .ok (.iaload, 1) := by decide +kernel
theorem d_LA_law_469 : decode b_LA_law 469 = .ok (.aload_n 0, 1) := by decide +kernel
theorem d_LA_law_470 : decode b_LA_law 470 = .ok (.iload 4, 2) := by decide +kernel
theorem d_LA_law_472 : decode b_LA_law 472 = .ok (.iconst 2, 1) := by decide +kernel
theorem d_LA_law_473 : decode b_LA_law 473 = .ok (.iadd, 1) := by decide +kernel
theorem d_LA_law_474 : decode b_LA_law 474 = .ok (.iaload, 1) := by decide +kernel
theorem d_LA_law_475 : decode b_LA_law 475 = .ok (.invokevirtual 102, 3) := by decide +kernel
theorem d_LA_law_478 : decode b_LA_law 478 = .ok (.lstore 6, 2) := by decide +kernel
theorem d_LA_law_480 : decode b_LA_law 480 = .ok (.aload_n 2, 1) := by decide +kernel
theorem d_LA_law_481 : decode b_LA_law 481 = .ok (.invokevirtual 80, 3) := by decide +kernel
theorem d_LA_law_484 : decode b_LA_law 484 = .ok (.iload 5, 2) := by decide +kernel
theorem d_LA_law_486 : decode b_LA_law 486 = .ok (.if_icmp .eq 5, 3) := by decide +kernel
theorem d_LA_law_489 : decode b_LA_law 489 = .ok (.iconst 0, 1) := by decide +kernel
theorem d_LA_law_490 : decode b_LA_law 490 = .ok (.ireturn, 1) := by decide +kernel
theorem d_LA_law_491 : decode b_LA_law 491 = .ok (.iload 5, 2) := by decide +kernel
theorem d_LA_law_493 : decode b_LA_law 493 = .ok (.ifCond .ne 14, 3) := by decide +kernel
theorem d_LA_law_496 : decode b_LA_law 496 = .ok (.aload_n 3, 1) := by decide +kernel
theorem d_LA_law_497 : decode b_LA_law 497 = .ok (.iconst 0, 1) := by decide +kernel
theorem d_LA_law_498 : decode b_LA_law 498 = .ok (.laload, 1) := by decide +kernel
theorem d_LA_law_499 : decode b_LA_law 499 = .ok (.lload 6, 2) := by decide +kernel
theorem d_LA_law_501 : decode b_LA_law 501 = .ok (.lcmp, 1) := by decide +kernel
theorem d_LA_law_502 : decode b_LA_law 502 = .ok (.ifCond .eq 5, 3) := by decide +kernel
theorem d_LA_law_505 : decode b_LA_law 505 = .ok (.iconst 0, 1) := by decide +kernel
theorem d_LA_law_506 : decode b_LA_law 506 = .ok (.ireturn, 1) := by decide +kernel
theorem d_LA_law_507 : decode b_LA_law 507 = .ok (.goto 505, 3) := by decide +kernel
theorem d_LA_law_510 : decode b_LA_law 510 = .ok (.aload_n 1, 1) := by decide +kernel
theorem d_LA_law_511 : decode b_LA_law 511 = .ok (.aload_n 0, 1) := by decide +kernel
theorem d_LA_law_512 : decode b_LA_law 512 = .ok (.iload 4, 2) := by decide +kernel
theorem d_LA_law_514 : decode b_LA_law 514 = .ok (.iconst 1, 1) := by decide +kernel
theorem d_LA_law_515 : decode b_LA_law 515 = .ok (.iadd, 1) := by decide +kernel
theorem d_LA_law_516 : decode b_LA_law 516 = .ok (.iaload, 1) := by decide +kernel
theorem d_LA_law_517 : decode b_LA_law 517 = .ok (.aload_n 0, 1) := by decide +kernel
theorem d_LA_law_518 : decode b_LA_law 518 = .ok (.iload 4, 2) := by decide +kernel
theorem d_LA_law_520 : decode b_LA_law 520 = .ok (.iconst 2, 1) := by decide +kernel
theorem d_LA_law_521 : decode b_LA_law 521 = .ok (.iadd, 1) := by decide +kernel
theorem d_LA_law_522 : decode b_LA_law 522 = .ok (.iaload, 1) := by decide +kernel
theorem d_LA_law_523 : decode b_LA_law 523 = .ok (.aload_n 3, 1) := by decide +kernel
theorem d_LA_law_524 : decode b_LA_law 524 = .ok (.invokestatic 103, 3) := by decide +kernel
theorem d_LA_law_527 : decode b_LA_law 527 = .ok (.istore 5, 2) := by decide +kernel
theorem d_LA_law_529 : decode b_LA_law 529 = .ok (.aload_n 2, 1) := by decide +kernel
theorem d_LA_law_530 : decode b_LA_law 530 = .ok (.aload_n 0, 1) := by decide +kernel
theorem d_LA_law_531 : decode b_LA_law 531 = .ok (.iload 4, 2) := by decide +kernel
theorem d_LA_law_533 : decode b_LA_law 533 = .ok (.iconst 1, 1) := by decide +kernel
theorem d_LA_law_534 : decode b_LA_law 534 = .ok (.iadd, 1) := by decide +kernel
theorem d_LA_law_535 : decode b_LA_law 535 = .ok (.iaload, 1) := by decide +kernel
theorem d_LA_law_536 : decode b_LA_law 536 = .ok (.aload_n 0, 1) := by decide +kernel
theorem d_LA_law_537 : decode b_LA_law 537 = .ok (.iload 4, 2) := by decide +kernel
theorem d_LA_law_539 : decode b_LA_law 539 = .ok (.iconst 2, 1) := by decide +kernel
theorem d_LA_law_540 : decode b_LA_law 540 = .ok (.iadd, 1) := by decide +kernel
theorem d_LA_law_541 : decode b_LA_law 541 = .ok (.iaload, 1) := by decide +kernel
theorem d_LA_law_542 : decode b_LA_law 542 = .ok (.invokevirtual 105, 3) := by decide +kernel
theorem d_LA_law_545 : decode b_LA_law 545 = .ok (.istore 6, 2) := by decide +kernel
theorem d_LA_law_547 : decode b_LA_law 547 = .ok (.aload_n 2, 1) := by decide +kernel
theorem d_LA_law_548 : decode b_LA_law 548 = .ok (.invokevirtual 80, 3) := by decide +kernel
theorem d_LA_law_551 : decode b_LA_law 551 = .ok (.iload 5, 2) := by decide +kernel
theorem d_LA_law_553 : decode b_LA_law 553 = .ok (.if_icmp .eq 5, 3) := by decide +kernel
theorem d_LA_law_556 : decode b_LA_law 556 = .ok (.iconst 0, 1) := by decide +kernel
theorem d_LA_law_557 : decode b_LA_law 557 = .ok (.ireturn, 1) := by decide +kernel
theorem d_LA_law_558 : decode b_LA_law 558 = .ok (.iload 5, 2) := by decide +kernel
theorem d_LA_law_560 : decode b_LA_law 560 = .ok (.ifCond .ne 15, 3) := by decide +kernel
theorem d_LA_law_563 : decode b_LA_law 563 = .ok (.aload_n 3, 1) := by decide +kernel
