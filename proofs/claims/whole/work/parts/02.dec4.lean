theorem dLw_law_579 : decode zbLw_law 579 = .ok (.aload_n 0, 1) := by decide +kernel
theorem dLw_law_580 : decode zbLw_law 580 = .ok (.iload 4, 2) := by decide +kernel
theorem dLw_law_582 : decode zbLw_law 582 = .ok (.iconst 2, 1) := by decide +kernel
theorem dLw_law_583 : decode zbLw_law 583 = .ok (.iadd, 1) := by decide +kernel
theorem dLw_law_584 : decode zbLw_law 584 = .ok (.iaload, 1) := by decide +kernel
theorem dLw_law_585 : decode zbLw_law 585 = .ok (.aload_n 3, 1) := by decide +kernel
theorem dLw_law_586 : decode zbLw_law 586 = .ok (.invokestatic 106, 3) := by decide +kernel
theorem dLw_law_589 : decode zbLw_law 589 = .ok (.istore 5, 2) := by decide +kernel
theorem dLw_law_591 : decode zbLw_law 591 = .ok (.aload_n 2, 1) := by decide +kernel
theorem dLw_law_592 : decode zbLw_law 592 = .ok (.aload_n 0, 1) := by decide +kernel
theorem dLw_law_593 : decode zbLw_law 593 = .ok (.iload 4, 2) := by decide +kernel
theorem dLw_law_595 : decode zbLw_law 595 = .ok (.iconst 1, 1) := by decide +kernel
theorem dLw_law_596 : decode zbLw_law 596 = .ok (.iadd, 1) := by decide +kernel
theorem dLw_law_597 : decode zbLw_law 597 = .ok (.iaload, 1) := by decide +kernel
theorem dLw_law_598 : decode zbLw_law 598 = .ok (.aload_n 0, 1) := by decide +kernel
theorem dLw_law_599 : decode zbLw_law 599 = .ok (.iload 4, 2) := by decide +kernel
theorem dLw_law_601 : decode zbLw_law 601 = .ok (.iconst 2, 1) := by decide +kernel
theorem dLw_law_602 : decode zbLw_law 602 = .ok (.iadd, 1) := by decide +kernel
theorem dLw_law_603 : decode zbLw_law 603 = .ok (.iaload, 1) := by decide +kernel
theorem dLw_law_604 : decode zbLw_law 604 = .ok (.invokevirtual 108, 3) := by decide +kernel
theorem dLw_law_607 : decode zbLw_law 607 = .ok (.istore 6, 2) := by decide +kernel
theorem dLw_law_609 : decode zbLw_law 609 = .ok (.aload_n 2, 1) := by decide +kernel
theorem dLw_law_610 : decode zbLw_law 610 = .ok (.invokevirtual 58, 3) := by decide +kernel
theorem dLw_law_613 : decode zbLw_law 613 = .ok (.iload 5, 2) := by decide +kernel
theorem dLw_law_615 : decode zbLw_law 615 = .ok (.if_icmp .eq 5, 3) := by decide +kernel
theorem dLw_law_618 : decode zbLw_law 618 = .ok (.iconst 0, 1) := by decide +kernel
theorem dLw_law_619 : decode zbLw_law 619 = .ok (.ireturn, 1) := by decide +kernel
theorem dLw_law_620 : decode zbLw_law 620 = .ok (.iload 5, 2) := by decide +kernel
theorem dLw_law_622 : decode zbLw_law 622 = .ok (.ifCond .ne 15, 3) := by decide +kernel
theorem dLw_law_625 : decode zbLw_law 625 = .ok (.aload_n 3, 1) := by decide +kernel
theorem dLw_law_626 : decode zbLw_law 626 = .ok (.iconst 0, 1) := by decide +kernel
theorem dLw_law_627 : decode zbLw_law 627 = .ok (.laload, 1) := by decide +kernel
theorem dLw_law_628 : decode zbLw_law 628 = .ok (.iload 6, 2) := by decide +kernel
theorem dLw_law_630 : decode zbLw_law 630 = .ok (.i2l, 1) := by decide +kernel
theorem dLw_law_631 : decode zbLw_law 631 = .ok (.lcmp, 1) := by decide +kernel
theorem dLw_law_632 : decode zbLw_law 632 = .ok (.ifCond .eq 5, 3) := by decide +kernel
theorem dLw_law_635 : decode zbLw_law 635 = .ok (.iconst 0, 1) := by decide +kernel
theorem dLw_law_636 : decode zbLw_law 636 = .ok (.ireturn, 1) := by decide +kernel
theorem dLw_law_637 : decode zbLw_law 637 = .ok (.goto 71, 3) := by decide +kernel
theorem dLw_law_640 : decode zbLw_law 640 = .ok (.aload_n 1, 1) := by decide +kernel
theorem dLw_law_641 : decode zbLw_law 641 = .ok (.aload_n 0, 1) := by decide +kernel
theorem dLw_law_642 : decode zbLw_law 642 = .ok (.iload 4, 2) := by decide +kernel
theorem dLw_law_644 : decode zbLw_law 644 = .ok (.iconst 1, 1) := by decide +kernel
theorem dLw_law_645 : decode zbLw_law 645 = .ok (.iadd, 1) := by decide +kernel
theorem dLw_law_646 : decode zbLw_law 646 = .ok (.iaload, 1) := by decide +kernel
theorem dLw_law_647 : decode zbLw_law 647 = .ok (.aload_n 0, 1) := by decide +kernel
theorem dLw_law_648 : decode zbLw_law 648 = .ok (.iload 4, 2) := by decide +kernel
theorem dLw_law_650 : decode zbLw_law 650 = .ok (.iconst 2, 1) := by decide +kernel
theorem dLw_law_651 : decode zbLw_law 651 = .ok (.iadd, 1) := by decide +kernel
theorem dLw_law_652 : decode zbLw_law 652 = .ok (.iaload, 1) := by decide +kernel
theorem dLw_law_653 : decode zbLw_law 653 = .ok (.aload_n 3, 1) := by decide +kernel
theorem dLw_law_654 : decode zbLw_law 654 = .ok (.invokestatic 109, 3) := by decide +kernel
theorem dLw_law_657 : decode zbLw_law 657 = .ok (.istore 5, 2) := by decide +kernel
theorem dLw_law_659 : decode zbLw_law 659 = .ok (.aload_n 2, 1) := by decide +kernel
theorem dLw_law_660 : decode zbLw_law 660 = .ok (.aload_n 0, 1) := by decide +kernel
theorem dLw_law_661 : decode zbLw_law 661 = .ok (.iload 4, 2) := by decide +kernel
theorem dLw_law_663 : decode zbLw_law 663 = .ok (.iconst 1, 1) := by decide +kernel
theorem dLw_law_664 : decode zbLw_law 664 = .ok (.iadd, 1) := by decide +kernel
theorem dLw_law_665 : decode zbLw_law 665 = .ok (.iaload, 1) := by decide +kernel
theorem dLw_law_666 : decode zbLw_law 666 = .ok (.aload_n 0, 1) := by decide +kernel
theorem dLw_law_667 : decode zbLw_law 667 = .ok (.iload 4, 2) := by decide +kernel
theorem dLw_law_669 : decode zbLw_law 669 = .ok (.iconst 2, 1) := by decide +kernel
theorem dLw_law_670 : decode zbLw_law 670 = .ok (.iadd, 1) := by decide +kernel
theorem dLw_law_671 : decode zbLw_law 671 = .ok (.iaload, 1) := by decide +kernel
theorem dLw_law_672 : decode zbLw_law 672 = .ok (.invokevirtual 111, 3) := by decide +kernel
theorem dLw_law_675 : decode zbLw_law 675 = .ok (.istore 6, 2) := by decide +kernel
theorem dLw_law_677 : decode zbLw_law 677 = .ok (.aload_n 2, 1) := by decide +kernel
theorem dLw_law_678 : decode zbLw_law 678 = .ok (.invokevirtual 58, 3) := by decide +kernel
theorem dLw_law_681 : decode zbLw_law 681 = .ok (.iload 5, 2) := by decide +kernel
theorem dLw_law_683 : decode zbLw_law 683 = .ok (.if_icmp .eq 5, 3) := by decide +kernel
theorem dLw_law_686 : decode zbLw_law 686 = .ok (.iconst 0, 1) := by decide +kernel
theorem dLw_law_687 : decode zbLw_law 687 = .ok (.ireturn, 1) := by decide +kernel
theorem dLw_law_688 : decode zbLw_law 688 = .ok (.iload 5, 2) := by decide +kernel
theorem dLw_law_690 : decode zbLw_law 690 = .ok (.ifCond .ne 15, 3) := by decide +kernel
theorem dLw_law_693 : decode zbLw_law 693 = .ok (.aload_n 3, 1) := by decide +kernel
theorem dLw_law_694 : decode zbLw_law 694 = .ok (.iconst 0, 1) := by decide +kernel
theorem dLw_law_695 : decode zbLw_law 695 = .ok (.laload, 1) := by decide +kernel
theorem dLw_law_696 : decode zbLw_law 696 = .ok (.iload 6, 2) := by decide +kernel
theorem dLw_law_698 : decode zbLw_law 698 = .ok (.i2l, 1) := by decide +kernel
theorem dLw_law_699 : decode zbLw_law 699 = .ok (.lcmp, 1) := by decide +kernel
theorem dLw_law_700 : decode zbLw_law 700 = .ok (.ifCond .eq 5, 3) := by decide +kernel
theorem dLw_law_703 : decode zbLw_law 703 = .ok (.iconst 0, 1) := by decide +kernel
theorem dLw_law_704 : decode zbLw_law 704 = .ok (.ireturn, 1) := by decide +kernel
theorem dLw_law_705 : decode zbLw_law 705 = .ok (.goto 3, 3) := by decide +kernel
theorem dLw_law_708 : decode zbLw_law 708 = .ok (.iinc 4 3, 3) := by decide +kernel
theorem dLw_law_711 : decode zbLw_law 711 = .ok (.goto (-688), 3) := by decide +kernel
theorem dLw_law_714 : decode zbLw_law 714 = .ok (.iconst 1, 1) := by decide +kernel
theorem dLw_law_715 : decode zbLw_law 715 = .ok (.ireturn, 1) := by decide +kernel
