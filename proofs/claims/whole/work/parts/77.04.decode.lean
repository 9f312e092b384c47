theorem dl_444 : decode code 444 = .ok (.iadd, 1) := by decide +kernel
theorem dl_445 : decode code 445 = .ok (.iaload, 1) := by decide +kernel
theorem dl_446 : decode code 446 = .ok (.invokevirtual 68, 3) := by decide +kernel
theorem dl_449 : decode code 449 = .ok (.aload_n 2, 1) := by decide +kernel
theorem dl_450 : decode code 450 = .ok (.aload_n 0, 1) := by decide +kernel
theorem dl_451 : decode code 451 = .ok (.iload_n 3, 1) := by decide +kernel
theorem dl_452 : decode code 452 = .ok (.iconst 1, 1) := by decide +kernel
theorem dl_453 : decode code 453 = .ok (.iadd, 1) := by decide +kernel
theorem dl_454 : decode code 454 = .ok (.iaload, 1) := by decide +kernel
theorem dl_455 : decode code 455 = .ok (.aload_n 0, 1) := by decide +kernel
theorem dl_456 : decode code 456 = .ok (.iload_n 3, 1) := by decide +kernel
theorem dl_457 : decode code 457 = .ok (.iconst 2, 1) := by decide +kernel
theorem dl_458 : decode code 458 = .ok (.iadd, 1) := by decide +kernel
theorem dl_459 : decode code 459 = .ok (.iaload, 1) := by decide +kernel
theorem dl_460 : decode code 460 = .ok (.invokevirtual 71, 3) := by decide +kernel
theorem dl_463 : decode code 463 = .ok (.if_icmp .eq 192, 3) := by decide +kernel
theorem dl_466 : decode code 466 = .ok (.iconst 0, 1) := by decide +kernel
theorem dl_467 : decode code 467 = .ok (.ireturn, 1) := by decide +kernel
theorem dl_468 : decode code 468 = .ok (.aload_n 1, 1) := by decide +kernel
theorem dl_469 : decode code 469 = .ok (.aload_n 0, 1) := by decide +kernel
theorem dl_470 : decode code 470 = .ok (.iload_n 3, 1) := by decide +kernel
theorem dl_471 : decode code 471 = .ok (.iconst 1, 1) := by decide +kernel
theorem dl_472 : decode code 472 = .ok (.iadd, 1) := by decide +kernel
theorem dl_473 : decode code 473 = .ok (.iaload, 1) := by decide +kernel
theorem dl_474 : decode code 474 = .ok (.invokevirtual 72, 3) := by decide +kernel
theorem dl_477 : decode code 477 = .ok (.aload_n 2, 1) := by decide +kernel
theorem dl_478 : decode code 478 = .ok (.aload_n 0, 1) := by decide +kernel
theorem dl_479 : decode code 479 = .ok (.iload_n 3, 1) := by decide +kernel
theorem dl_480 : decode code 480 = .ok (.iconst 1, 1) := by decide +kernel
theorem dl_481 : decode code 481 = .ok (.iadd, 1) := by decide +kernel
theorem dl_482 : decode code 482 = .ok (.iaload, 1) := by decide +kernel
theorem dl_483 : decode code 483 = .ok (.invokevirtual 75, 3) := by decide +kernel
theorem dl_486 : decode code 486 = .ok (.if_icmp .eq 169, 3) := by decide +kernel
theorem dl_489 : decode code 489 = .ok (.iconst 0, 1) := by decide +kernel
theorem dl_490 : decode code 490 = .ok (.ireturn, 1) := by decide +kernel
theorem dl_491 : decode code 491 = .ok (.aload_n 1, 1) := by decide +kernel
theorem dl_492 : decode code 492 = .ok (.aload_n 0, 1) := by decide +kernel
theorem dl_493 : decode code 493 = .ok (.iload_n 3, 1) := by decide +kernel
theorem dl_494 : decode code 494 = .ok (.iconst 1, 1) := by decide +kernel
theorem dl_495 : decode code 495 = .ok (.iadd, 1) := by decide +kernel
theorem dl_496 : decode code 496 = .ok (.iaload, 1) := by decide +kernel
theorem dl_497 : decode code 497 = .ok (.invokevirtual 76, 3) := by decide +kernel
theorem dl_500 : decode code 500 = .ok (.aload_n 2, 1) := by decide +kernel
theorem dl_501 : decode code 501 = .ok (.aload_n 0, 1) := by decide +kernel
theorem dl_502 : decode code 502 = .ok (.iload_n 3, 1) := by decide +kernel
theorem dl_503 : decode code 503 = .ok (.iconst 1, 1) := by decide +kernel
theorem dl_504 : decode code 504 = .ok (.iadd, 1) := by decide +kernel
theorem dl_505 : decode code 505 = .ok (.iaload, 1) := by decide +kernel
theorem dl_506 : decode code 506 = .ok (.invokevirtual 79, 3) := by decide +kernel
theorem dl_509 : decode code 509 = .ok (.if_icmp .eq 146, 3) := by decide +kernel
theorem dl_512 : decode code 512 = .ok (.iconst 0, 1) := by decide +kernel
theorem dl_513 : decode code 513 = .ok (.ireturn, 1) := by decide +kernel
theorem dl_514 : decode code 514 = .ok (.aload_n 1, 1) := by decide +kernel
theorem dl_515 : decode code 515 = .ok (.aload_n 0, 1) := by decide +kernel
theorem dl_516 : decode code 516 = .ok (.iload_n 3, 1) := by decide +kernel
theorem dl_517 : decode code 517 = .ok (.iconst 1, 1) := by decide +kernel
theorem dl_518 : decode code 518 = .ok (.iadd, 1) := by decide +kernel
theorem dl_519 : decode code 519 = .ok (.iaload, 1) := by decide +kernel
theorem dl_520 : decode code 520 = .ok (.invokevirtual 80, 3) := by decide +kernel
theorem dl_523 : decode code 523 = .ok (.aload_n 2, 1) := by decide +kernel
