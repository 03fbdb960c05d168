theorem d_LA_law_599 : decode code 599 = .ok (.aload_n 1, 1) := by decide +kernel
theorem d_LA_law_600 : decode code 600 = .ok (.aload_n 0, 1) := by decide +kernel
theorem d_LA_law_601 : decode code 601 = .ok (.iload 4, 2) := by decide +kernel
theorem d_LA_law_603 : decode code 603 = .ok (.iconst 1, 1) := by decide +kernel
theorem d_LA_law_604 : decode code 604 = .ok (.iadd, 1) := by decide +kernel
theorem d_LA_law_605 : decode code 605 = .ok (.iaload, 1) := by decide +kernel
theorem d_LA_law_606 : decode code 606 = .ok (.aload_n 3, 1) := by decide +kernel
theorem d_LA_law_607 : decode code 607 = .ok (.invokestatic 96, 3) := by decide +kernel
theorem d_LA_law_610 : decode code 610 = .ok (.istore 5, 2) := by decide +kernel
theorem d_LA_law_612 : decode code 612 = .ok (.aload_n 2, 1) := by decide +kernel
theorem d_LA_law_613 : decode code 613 = .ok (.aload_n 0, 1) := by decide +kernel
theorem d_LA_law_614 : decode code 614 = .ok (.iload 4, 2) := by decide +kernel
theorem d_LA_law_616 : decode code 616 = .ok (.iconst 1, 1) := by decide +kernel
theorem d_LA_law_617 : decode code 617 = .ok (.iadd, 1) := by decide +kernel
theorem d_LA_law_618 : decode code 618 = .ok (.iaload, 1) := by decide +kernel
theorem d_LA_law_619 : decode code 619 = .ok (.invokevirtual 99, 3) := by decide +kernel
theorem d_LA_law_622 : decode code 622 = .ok (.istore 6, 2) := by decide +kernel
theorem d_LA_law_624 : decode code 624 = .ok (.aload_n 2, 1) := by decide +kernel
theorem d_LA_law_625 : decode code 625 = .ok (.invokevirtual 80, 3) := by decide +kernel
theorem d_LA_law_628 : decode code 628 = .ok (.iload 5, 2) := by decide +kernel
theorem d_LA_law_630 : decode code 630 = .ok (.if_icmp .eq 5, 3) := by decide +kernel
theorem d_LA_law_633 : decode code 633 = .ok (.iconst 0, 1) := by decide +kernel
theorem d_LA_law_634 : decode code 634 = .ok (.ireturn, 1) := by decide +kernel
theorem d_LA_law_635 : decode code 635 = .ok (.iload 5, 2) := by decide +kernel
theorem d_LA_law_637 : decode code 637 = .ok (.ifCond .ne 15, 3) := by decide +kernel
theorem d_LA_law_640 : decode code 640 = .ok (.aload_n 3, 1) := by decide +kernel
theorem d_LA_law_641 : decode code 641 = .ok (.iconst 0, 1) := by decide +kernel
theorem d_LA_law_642 : decode code 642 = .ok (.laload, 1) := by decide +kernel
theorem d_LA_law_643 : decode code 643 = .ok (.iload 6, 2) := by decide +kernel
theorem d_LA_law_645 : decode code 645 = .ok (.i2l, 1) := by decide +kernel
theorem d_LA_law_646 : decode code 646 = .ok (.lcmp, 1) := by decide +kernel
theorem d_LA_law_647 : decode code 647 = .ok (.ifCond .eq 5, 3) := by decide +kernel
theorem d_LA_law_650 : decode code 650 = .ok (.iconst 0, 1) := by decide +kernel
theorem d_LA_law_651 : decode code 651 = .ok (.ireturn, 1) := by decide +kernel
theorem d_LA_law_652 : decode code 652 = .ok (.goto 569, 3) := by decide +kernel
