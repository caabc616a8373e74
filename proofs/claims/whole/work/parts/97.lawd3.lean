theorem dL_503 : decode code 503 = .ok (.iload_n 3, 1) := by decide +kernel
theorem dL_504 : decode code 504 = .ok (.iconst 2, 1) := by decide +kernel
theorem dL_505 : decode code 505 = .ok (.iadd, 1) := by decide +kernel
theorem dL_506 : decode code 506 = .ok (.iaload, 1) := by decide +kernel
theorem dL_507 : decode code 507 = .ok (.aload_n 0, 1) := by decide +kernel
theorem dL_508 : decode code 508 = .ok (.iload_n 3, 1) := by decide +kernel
theorem dL_509 : decode code 509 = .ok (.iconst 3, 1) := by decide +kernel
theorem dL_510 : decode code 510 = .ok (.iadd, 1) := by decide +kernel
theorem dL_511 : decode code 511 = .ok (.iaload, 1) := by decide +kernel
theorem dL_512 : decode code 512 = .ok (.aload_n 0, 1) := by decide +kernel
theorem dL_513 : decode code 513 = .ok (.iload_n 3, 1) := by decide +kernel
theorem dL_514 : decode code 514 = .ok (.iconst 4, 1) := by decide +kernel
theorem dL_515 : decode code 515 = .ok (.iadd, 1) := by decide +kernel
theorem dL_516 : decode code 516 = .ok (.iaload, 1) := by decide +kernel
theorem dL_517 : decode code 517 = .ok (.i2l, 1) := by decide +kernel
theorem dL_518 : decode code 518 = .ok (.bipush 32, 2) := by decide +kernel
theorem dL_520 : decode code 520 = .ok (.lshl, 1) := by decide +kernel
theorem dL_521 : decode code 521 = .ok (.aload_n 0, 1) := by decide +kernel
theorem dL_522 : decode code 522 = .ok (.iload_n 3, 1) := by decide +kernel
theorem dL_523 : decode code 523 = .ok (.iconst 5, 1) := by decide +kernel
theorem dL_524 : decode code 524 = .ok (.iadd, 1) := by decide +kernel
theorem dL_525 : decode code 525 = .ok (.iaload, 1) := by decide +kernel
theorem dL_526 : decode code 526 = .ok (.i2l, 1) := by decide +kernel
theorem dL_527 : decode code 527 = .ok (.ldc2_w 18, 3) := by decide +kernel
theorem dL_530 : decode code 530 = .ok (.land, 1) := by decide +kernel
theorem dL_531 : decode code 531 = .ok (.lor, 1) := by decide +kernel
theorem dL_532 : decode code 532 = .ok (.invokevirtual 55, 3) := by decide +kernel
theorem dL_535 : decode code 535 = .ok (.aload_n 2, 1) := by decide +kernel
theorem dL_536 : decode code 536 = .ok (.aload_n 0, 1) := by decide +kernel
theorem dL_537 : decode code 537 = .ok (.iload_n 3, 1) := by decide +kernel
theorem dL_538 : decode code 538 = .ok (.iconst 1, 1) := by decide +kernel
theorem dL_539 : decode code 539 = .ok (.iadd, 1) := by decide +kernel
theorem dL_540 : decode code 540 = .ok (.iaload, 1) := by decide +kernel
theorem dL_541 : decode code 541 = .ok (.aload_n 0, 1) := by decide +kernel
theorem dL_542 : decode code 542 = .ok (.iload_n 3, 1) := by decide +kernel
theorem dL_543 : decode code 543 = .ok (.iconst 2, 1) := by decide +kernel
theorem dL_544 : decode code 544 = .ok (.iadd, 1) := by decide +kernel
theorem dL_545 : decode code 545 = .ok (.iaload, 1) := by decide +kernel
theorem dL_546 : decode code 546 = .ok (.aload_n 0, 1) := by decide +kernel
theorem dL_547 : decode code 547 = .ok (.iload_n 3, 1) := by decide +kernel
theorem dL_548 : decode code 548 = .ok (.iconst 3, 1) := by decide +kernel
theorem dL_549 : decode code 549 = .ok (.iadd, 1) := by decide +kernel
theorem dL_550 : decode code 550 = .ok (.iaload, 1) := by decide +kernel
theorem dL_551 : decode code 551 = .ok (.aload_n 0, 1) := by decide +kernel
theorem dL_552 : decode code 552 = .ok (.iload_n 3, 1) := by decide +kernel
theorem dL_553 : decode code 553 = .ok (.iconst 4, 1) := by decide +kernel
theorem dL_554 : decode code 554 = .ok (.iadd, 1) := by decide +kernel
theorem dL_555 : decode code 555 = .ok (.iaload, 1) := by decide +kernel
theorem dL_556 : decode code 556 = .ok (.i2l, 1) := by decide +kernel
theorem dL_557 : decode code 557 = .ok (.bipush 32, 2) := by decide +kernel
theorem dL_559 : decode code 559 = .ok (.lshl, 1) := by decide +kernel
theorem dL_560 : decode code 560 = .ok (.aload_n 0, 1) := by decide +kernel
theorem dL_561 : decode code 561 = .ok (.iload_n 3, 1) := by decide +kernel
theorem dL_562 : decode code 562 = .ok (.iconst 5, 1) := by decide +kernel
theorem dL_563 : decode code 563 = .ok (.iadd, 1) := by decide +kernel
theorem dL_564 : decode code 564 = .ok (.iaload, 1) := by decide +kernel
theorem dL_565 : decode code 565 = .ok (.i2l, 1) := by decide +kernel
theorem dL_566 : decode code 566 = .ok (.ldc2_w 18, 3) := by decide +kernel
theorem dL_569 : decode code 569 = .ok (.land, 1) := by decide +kernel
theorem dL_570 : decode code 570 = .ok (.lor, 1) := by decide +kernel
theorem dL_571 : decode code 571 = .ok (.invokevirtual 59, 3) := by decide +kernel
theorem dL_574 : decode code 574 = .ok (.if_icmp .eq 556, 3) := by decide +kernel
theorem dL_577 : decode code 577 = .ok (.iconst 0, 1) := by decide +kernel
theorem dL_578 : decode code 578 = .ok (.ireturn, 1) := by decide +kernel
theorem dL_579 : decode code 579 = .ok (.aload_n 1, 1) := by decide +kernel
theorem dL_580 : decode code 580 = .ok (.aload_n 0, 1) := by decide +kernel
theorem dL_581 : decode code 581 = .ok (.iload_n 3, 1) := by decide +kernel
theorem dL_582 : decode code 582 = .ok (.iconst 1, 1) := by decide +kernel
theorem dL_583 : decode code 583 = .ok (.iadd, 1) := by decide +kernel
theorem dL_584 : decode code 584 = .ok (.iaload, 1) := by decide +kernel
theorem dL_585 : decode code 585 = .ok (.aload_n 0, 1) := by decide +kernel
theorem dL_586 : decode code 586 = .ok (.iload_n 3, 1) := by decide +kernel
theorem dL_587 : decode code 587 = .ok (.iconst 2, 1) := by decide +kernel
theorem dL_588 : decode code 588 = .ok (.iadd, 1) := by decide +kernel
theorem dL_589 : decode code 589 = .ok (.iaload, 1) := by decide +kernel
theorem dL_590 : decode code 590 = .ok (.invokevirtual 60, 3) := by decide +kernel
theorem dL_593 : decode code 593 = .ok (.aload_n 2, 1) := by decide +kernel
theorem dL_594 : decode code 594 = .ok (.aload_n 0, 1) := by decide +kernel
theorem dL_595 : decode code 595 = .ok (.iload_n 3, 1) := by decide +kernel
theorem dL_596 : decode code 596 = .ok (.iconst 1, 1) := by decide +kernel
theorem dL_597 : decode code 597 = .ok (.iadd, 1) := by decide +kernel
theorem dL_598 : decode code 598 = .ok (.iaload, 1) := by decide +kernel
theorem dL_599 : decode code 599 = .ok (.aload_n 0, 1) := by decide +kernel
theorem dL_600 : decode code 600 = .ok (.iload_n 3, 1) := by decide +kernel
theorem dL_601 : decode code 601 = .ok (.iconst 2, 1) := by decide +kernel
theorem dL_602 : decode code 602 = .ok (.iadd, 1) := by decide +kernel
theorem dL_603 : decode code 603 = .ok (.iaload, 1) := by decide +kernel
theorem dL_604 : decode code 604 = .ok (.invokevirtual 63, 3) := by decide +kernel
theorem dL_607 : decode code 607 = .ok (.if_icmp .eq 523, 3) := by decide +kernel
theorem dL_610 : decode code 610 = .ok (.iconst 0, 1) := by decide +kernel
theorem dL_611 : decode code 611 = .ok (.ireturn, 1) := by decide +kernel
theorem dL_612 : decode code 612 = .ok (.aload_n 1, 1) := by decide +kernel
theorem dL_613 : decode code 613 = .ok (.invokevirtual 64, 3) := by decide +kernel
theorem dL_616 : decode code 616 = .ok (.aload_n 2, 1) := by decide +kernel
theorem dL_617 : decode code 617 = .ok (.invokevirtual 68, 3) := by decide +kernel
theorem dL_620 : decode code 620 = .ok (.if_icmp .eq 510, 3) := by decide +kernel
theorem dL_623 : decode code 623 = .ok (.iconst 0, 1) := by decide +kernel
theorem dL_624 : decode code 624 = .ok (.ireturn, 1) := by decide +kernel
theorem dL_625 : decode code 625 = .ok (.aload_n 1, 1) := by decide +kernel
