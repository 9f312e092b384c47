theorem dl_524 : decode code 524 = .ok (.aload_n 0, 1) := by decide +kernel
theorem dl_525 : decode code 525 = .ok (.iload_n 3, 1) := by decide +kernel
theorem dl_526 : decode code 526 = .ok (.iconst 1, 1) := by decide +kernel
theorem dl_527 : decode code 527 = .ok (.iadd, 1) := by decide +kernel
theorem dl_528 : decode code 528 = .ok (.iaload, 1) := by decide +kernel
theorem dl_529 : decode code 529 = .ok (.invokevirtual 83, 3) := by decide +kernel
theorem dl_532 : decode code 532 = .ok (.if_icmp .eq 123, 3) := by decide +kernel
theorem dl_535 : decode code 535 = .ok (.iconst 0, 1) := by decide +kernel
theorem dl_536 : decode code 536 = .ok (.ireturn, 1) := by decide +kernel
theorem dl_537 : decode code 537 = .ok (.aload_n 1, 1) := by decide +kernel
theorem dl_538 : decode code 538 = .ok (.aload_n 0, 1) := by decide +kernel
theorem dl_539 : decode code 539 = .ok (.iload_n 3, 1) := by decide +kernel
theorem dl_540 : decode code 540 = .ok (.iconst 1, 1) := by decide +kernel
theorem dl_541 : decode code 541 = .ok (.iadd, 1) := by decide +kernel
theorem dl_542 : decode code 542 = .ok (.iaload, 1) := by decide +kernel
theorem dl_543 : decode code 543 = .ok (.invokevirtual 84, 3) := by decide +kernel
theorem dl_546 : decode code 546 = .ok (.aload_n 2, 1) := by decide +kernel
theorem dl_547 : decode code 547 = .ok (.aload_n 0, 1) := by decide +kernel
theorem dl_548 : decode code 548 = .ok (.iload_n 3, 1) := by decide +kernel
theorem dl_549 : decode code 549 = .ok (.iconst 1, 1) := by decide +kernel
theorem dl_550 : decode code 550 = .ok (.iadd, 1) := by decide +kernel
theorem dl_551 : decode code 551 = .ok (.iaload, 1) := by decide +kernel
theorem dl_552 : decode code 552 = .ok (.invokevirtual 87, 3) := by decide +kernel
theorem dl_555 : decode code 555 = .ok (.if_icmp .eq 100, 3) := by decide +kernel
theorem dl_558 : decode code 558 = .ok (.iconst 0, 1) := by decide +kernel
theorem dl_559 : decode code 559 = .ok (.ireturn, 1) := by decide +kernel
theorem dl_560 : decode code 560 = .ok (.aload_n 1, 1) := by decide +kernel
theorem dl_561 : decode code 561 = .ok (.aload_n 0, 1) := by decide +kernel
theorem dl_562 : decode code 562 = .ok (.iload_n 3, 1) := by decide +kernel
theorem dl_563 : decode code 563 = .ok (.iconst 1, 1) := by decide +kernel
theorem dl_564 : decode code 564 = .ok (.iadd, 1) := by decide +kernel
theorem dl_565 : decode code 565 = .ok (.iaload, 1) := by decide +kernel
theorem dl_566 : decode code 566 = .ok (.invokevirtual 88, 3) := by decide +kernel
theorem dl_569 : decode code 569 = .ok (.aload_n 2, 1) := by decide +kernel
theorem dl_570 : decode code 570 = .ok (.aload_n 0, 1) := by decide +kernel
theorem dl_571 : decode code 571 = .ok (.iload_n 3, 1) := by decide +kernel
theorem dl_572 : decode code 572 = .ok (.iconst 1, 1) := by decide +kernel
theorem dl_573 : decode code 573 = .ok (.iadd, 1) := by decide +kernel
theorem dl_574 : decode code 574 = .ok (.iaload, 1) := by decide +kernel
theorem dl_575 : decode code 575 = .ok (.invokevirtual 91, 3) := by decide +kernel
theorem dl_578 : decode code 578 = .ok (.if_icmp .eq 77, 3) := by decide +kernel
theorem dl_581 : decode code 581 = .ok (.iconst 0, 1) := by decide +kernel
theorem dl_582 : decode code 582 = .ok (.ireturn, 1) := by decide +kernel
theorem dl_583 : decode code 583 = .ok (.aload_n 1, 1) := by decide +kernel
theorem dl_584 : decode code 584 = .ok (.aload_n 0, 1) := by decide +kernel
theorem dl_585 : decode code 585 = .ok (.iload_n 3, 1) := by decide +kernel
theorem dl_586 : decode code 586 = .ok (.iconst 1, 1) := by decide +kernel
theorem dl_587 : decode code 587 = .ok (.iadd, 1) := by decide +kernel
theorem dl_588 : decode code 588 = .ok (.iaload, 1) := by decide +kernel
theorem dl_589 : decode code 589 = .ok (.invokevirtual 92, 3) := by decide +kernel
theorem dl_592 : decode code 592 = .ok (.aload_n 2, 1) := by decide +kernel
theorem dl_593 : decode code 593 = .ok (.aload_n 0, 1) := by decide +kernel
theorem dl_594 : decode code 594 = .ok (.iload_n 3, 1) := by decide +kernel
theorem dl_595 : decode code 595 = .ok (.iconst 1, 1) := by decide +kernel
theorem dl_596 : decode code 596 = .ok (.iadd, 1) := by decide +kernel
theorem dl_597 : decode code 597 = .ok (.iaload, 1) := by decide +kernel
theorem dl_598 : decode code 598 = .ok (.invokevirtual 95, 3) := by decide +kernel
theorem dl_601 : decode code 601 = .ok (.if_icmp .eq 54, 3) := by decide +kernel
theorem dl_604 : decode code 604 = .ok (.iconst 0, 1) := by decide +kernel
theorem dl_605 : decode code 605 = .ok (.ireturn, 1) := by decide +kernel
