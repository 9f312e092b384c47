theorem dl_606 : decode code 606 = .ok (.aload_n 1, 1) := by decide +kernel
theorem dl_607 : decode code 607 = .ok (.invokevirtual 96, 3) := by decide +kernel
theorem dl_610 : decode code 610 = .ok (.aload_n 2, 1) := by decide +kernel
theorem dl_611 : decode code 611 = .ok (.invokevirtual 99, 3) := by decide +kernel
theorem dl_614 : decode code 614 = .ok (.if_icmp .eq 41, 3) := by decide +kernel
theorem dl_617 : decode code 617 = .ok (.iconst 0, 1) := by decide +kernel
theorem dl_618 : decode code 618 = .ok (.ireturn, 1) := by decide +kernel
theorem dl_619 : decode code 619 = .ok (.aload_n 1, 1) := by decide +kernel
theorem dl_620 : decode code 620 = .ok (.invokevirtual 100, 3) := by decide +kernel
theorem dl_623 : decode code 623 = .ok (.aload_n 2, 1) := by decide +kernel
theorem dl_624 : decode code 624 = .ok (.invokevirtual 103, 3) := by decide +kernel
theorem dl_627 : decode code 627 = .ok (.if_icmp .eq 28, 3) := by decide +kernel
theorem dl_630 : decode code 630 = .ok (.iconst 0, 1) := by decide +kernel
theorem dl_631 : decode code 631 = .ok (.ireturn, 1) := by decide +kernel
theorem dl_632 : decode code 632 = .ok (.aload_n 1, 1) := by decide +kernel
theorem dl_633 : decode code 633 = .ok (.aload_n 0, 1) := by decide +kernel
theorem dl_634 : decode code 634 = .ok (.iload_n 3, 1) := by decide +kernel
theorem dl_635 : decode code 635 = .ok (.iconst 1, 1) := by decide +kernel
theorem dl_636 : decode code 636 = .ok (.iadd, 1) := by decide +kernel
theorem dl_637 : decode code 637 = .ok (.iaload, 1) := by decide +kernel
theorem dl_638 : decode code 638 = .ok (.invokevirtual 104, 3) := by decide +kernel
theorem dl_641 : decode code 641 = .ok (.aload_n 2, 1) := by decide +kernel
theorem dl_642 : decode code 642 = .ok (.aload_n 0, 1) := by decide +kernel
theorem dl_643 : decode code 643 = .ok (.iload_n 3, 1) := by decide +kernel
theorem dl_644 : decode code 644 = .ok (.iconst 1, 1) := by decide +kernel
theorem dl_645 : decode code 645 = .ok (.iadd, 1) := by decide +kernel
theorem dl_646 : decode code 646 = .ok (.iaload, 1) := by decide +kernel
theorem dl_647 : decode code 647 = .ok (.invokevirtual 107, 3) := by decide +kernel
theorem dl_650 : decode code 650 = .ok (.if_icmp .eq 5, 3) := by decide +kernel
theorem dl_653 : decode code 653 = .ok (.iconst 0, 1) := by decide +kernel
theorem dl_654 : decode code 654 = .ok (.ireturn, 1) := by decide +kernel
theorem dl_655 : decode code 655 = .ok (.iinc 3 4, 3) := by decide +kernel
theorem dl_658 : decode code 658 = .ok (.goto (-640), 3) := by decide +kernel
theorem dl_661 : decode code 661 = .ok (.iconst 1, 1) := by decide +kernel
theorem dl_662 : decode code 662 = .ok (.ireturn, 1) := by decide +kernel
