theorem d_law_440 : decode code 440 = .ok (.iload_n 3, 1) := by decide +kernel
theorem d_law_441 : decode code 441 = .ok (.iconst 1, 1) := by decide +kernel
theorem d_law_442 : decode code 442 = .ok (.iadd, 1) := by decide +kernel
theorem d_law_443 : decode code 443 = .ok (.iaload, 1) := by decide +kernel
theorem d_law_444 : decode code 444 = .ok (.invokevirtual 54, 3) := by decide +kernel
theorem d_law_447 : decode code 447 = .ok (.aload_n 2, 1) := by decide +kernel
theorem d_law_448 : decode code 448 = .ok (.aload_n 0, 1) := by decide +kernel
theorem d_law_449 : decode code 449 = .ok (.iload_n 3, 1) := by decide +kernel
theorem d_law_450 : decode code 450 = .ok (.iconst 1, 1) := by decide +kernel
theorem d_law_451 : decode code 451 = .ok (.iadd, 1) := by decide +kernel
theorem d_law_452 : decode code 452 = .ok (.iaload, 1) := by decide +kernel
theorem d_law_453 : decode code 453 = .ok (.invokevirtual 57, 3) := by decide +kernel
theorem d_law_456 : decode code 456 = .ok (.if_icmp .eq 170, 3) := by decide +kernel
theorem d_law_459 : decode code 459 = .ok (.iconst 0, 1) := by decide +kernel
theorem d_law_460 : decode code 460 = .ok (.ireturn, 1) := by decide +kernel
theorem d_law_461 : decode code 461 = .ok (.aload_n 1, 1) := by decide +kernel
theorem d_law_462 : decode code 462 = .ok (.aload_n 0, 1) := by decide +kernel
theorem d_law_463 : decode code 463 = .ok (.iload_n 3, 1) := by decide +kernel
theorem d_law_464 : decode code 464 = .ok (.iconst 1, 1) := by decide +kernel
theorem d_law_465 : decode code 465 = .ok (.iadd, 1) := by decide +kernel
theorem d_law_466 : decode code 466 = .ok (.iaload, 1) := by decide +kernel
theorem d_law_467 : decode code 467 = .ok (.i2l, 1) := by decide +kernel
theorem d_law_468 : decode code 468 = .ok (.bipush 32, 2) := by decide +kernel
theorem d_law_470 : decode code 470 = .ok (.lshl, 1) := by decide +kernel
theorem d_law_471 : decode code 471 = .ok (.aload_n 0, 1) := by decide +kernel
theorem d_law_472 : decode code 472 = .ok (.iload_n 3, 1) := by decide +kernel
theorem d_law_473 : decode code 473 = .ok (.iconst 2, 1) := by decide +kernel
theorem d_law_474 : decode code 474 = .ok (.iadd, 1) := by decide +kernel
theorem d_law_475 : decode code 475 = .ok (.iaload, 1) := by decide +kernel
theorem d_law_476 : decode code 476 = .ok (.i2l, 1) := by decide +kernel
theorem d_law_477 : decode code 477 = .ok (.ldc2_w 13, 3) := by decide +kernel
theorem d_law_480 : decode code 480 = .ok (.land, 1) := by decide +kernel
theorem d_law_481 : decode code 481 = .ok (.lor, 1) := by decide +kernel
theorem d_law_482 : decode code 482 = .ok (.aload_n 0, 1) := by decide +kernel
theorem d_law_483 : decode code 483 = .ok (.iload_n 3, 1) := by decide +kernel
theorem d_law_484 : decode code 484 = .ok (.iconst 3, 1) := by decide +kernel
theorem d_law_485 : decode code 485 = .ok (.iadd, 1) := by decide +kernel
theorem d_law_486 : decode code 486 = .ok (.iaload, 1) := by decide +kernel
theorem d_law_487 : decode code 487 = .ok (.i2l, 1) := by decide +kernel
theorem d_law_488 : decode code 488 = .ok (.bipush 32, 2) := by decide +kernel
theorem d_law_490 : decode code 490 = .ok (.lshl, 1) := by decide +kernel
theorem d_law_491 : decode code 491 = .ok (.aload_n 0, 1) := by decide +kernel
theorem d_law_492 : decode code 492 = .ok (.iload_n 3, 1) := by decide +kernel
theorem d_law_493 : decode code 493 = .ok (.iconst 4, 1) := by decide +kernel
theorem d_law_494 : decode code 494 = .ok (.iadd, 1) := by decide +kernel
theorem d_law_495 : decode code 495 = .ok (.iaload, 1) := by decide +kernel
theorem d_law_496 : decode code 496 = .ok (.i2l, 1) := by decide +kernel
theorem d_law_497 : decode code 497 = .ok (.ldc2_w 13, 3) := by decide +kernel
theorem d_law_500 : decode code 500 = .ok (.land, 1) := by decide +kernel
theorem d_law_501 : decode code 501 = .ok (.lor, 1) := by decide +kernel
theorem d_law_502 : decode code 502 = .ok (.aload_n 0, 1) := by decide +kernel
theorem d_law_503 : decode code 503 = .ok (.iload_n 3, 1) := by decide +kernel
theorem d_law_504 : decode code 504 = .ok (.iconst 5, 1) := by decide +kernel
theorem d_law_505 : decode code 505 = .ok (.iadd, 1) := by decide +kernel
theorem d_law_506 : decode code 506 = .ok (.iaload, 1) := by decide +kernel
theorem d_law_507 : decode code 507 = .ok (.invokevirtual 58, 3) := by decide +kernel
theorem d_law_510 : decode code 510 = .ok (.aload_n 2, 1) := by decide +kernel
theorem d_law_511 : decode code 511 = .ok (.aload_n 0, 1) := by decide +kernel
theorem d_law_512 : decode code 512 = .ok (.iload_n 3, 1) := by decide +kernel
theorem d_law_513 : decode code 513 = .ok (.iconst 1, 1) := by decide +kernel
theorem d_law_514 : decode code 514 = .ok (.iadd, 1) := by decide +kernel
theorem d_law_515 : decode code 515 = .ok (.iaload, 1) := by decide +kernel
theorem d_law_516 : decode code 516 = .ok (.i2l, 1) := by decide +kernel
theorem d_law_517 : decode code 517 = .ok (.bipush 32, 2) := by decide +kernel
theorem d_law_519 : decode code 519 = .ok (.lshl, 1) := by decide +kernel
theorem d_law_520 : decode code 520 = .ok (.aload_n 0, 1) := by decide +kernel
theorem d_law_521 : decode code 521 = .ok (.iload_n 3, 1) := by decide +kernel
theorem d_law_522 : decode code 522 = .ok (.iconst 2, 1) := by decide +kernel
theorem d_law_523 : decode code 523 = .ok (.iadd, 1) := by decide +kernel
theorem d_law_524 : decode code 524 = .ok (.iaload, 1) := by decide +kernel
theorem d_law_525 : decode code 525 = .ok (.i2l, 1) := by decide +kernel
theorem d_law_526 : decode code 526 = .ok (.ldc2_w 13, 3) := by decide +kernel
theorem d_law_529 : decode code 529 = .ok (.land, 1) := by decide +kernel
theorem d_law_530 : decode code 530 = .ok (.lor, 1) := by decide +kernel
theorem d_law_531 : decode code 531 = .ok (.aload_n 0, 1) := by decide +kernel
theorem d_law_532 : decode code 532 = .ok (.iload_n 3, 1) := by decide +kernel
theorem d_law_533 : decode code 533 = .ok (.iconst 3, 1) := by decide +kernel
theorem d_law_534 : decode code 534 = .ok (.iadd, 1) := by decide +kernel
theorem d_law_535 : decode code 535 = .ok (.iaload, 1) := by decide +kernel
theorem d_law_536 : decode code 536 = .ok (.i2l, 1) := by decide +kernel
theorem d_law_537 : decode code 537 = .ok (.bipush 32, 2) := by decide +kernel
theorem d_law_539 : decode code 539 = .ok (.lshl, 1) := by decide +kernel
theorem d_law_540 : decode code 540 = .ok (.aload_n 0, 1) := by decide +kernel
theorem d_law_541 : decode code 541 = .ok (.iload_n 3, 1) := by decide +kernel
theorem d_law_542 : decode code 542 = .ok (.iconst 4, 1) := by decide +kernel
theorem d_law_543 : decode code 543 = .ok (.iadd, 1) := by decide +kernel
theorem d_law_544 : decode code 544 = .ok (.iaload, 1) := by decide +kernel
theorem d_law_545 : decode code 545 = .ok (.i2l, 1) := by decide +kernel
theorem d_law_546 : decode code 546 = .ok (.ldc2_w 13, 3) := by decide +kernel
theorem d_law_549 : decode code 549 = .ok (.land, 1) := by decide +kernel
