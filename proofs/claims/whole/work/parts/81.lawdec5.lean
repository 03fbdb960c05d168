theorem d_LA_law_655 : decode code 655 = .ok (.aload_n 1, 1) := by decide +kernel
theorem d_LA_law_656 : decode code 656 = .ok (.aload_n 0, 1) := by decide +kernel
theorem d_LA_law_657 : decode code 657 = .ok (.iload 4, 2) := by decide +kernel
theorem d_LA_law_659 : decode code 659 = .ok (.iconst 1, 1) := by decide +kernel
theorem d_LA_law_660 : decode code 660 = .ok (.iadd, 1) := by decide +kernel
theorem d_LA_law_661 : decode code 661 = .ok (.iaload, 1) := by decide +kernel
theorem d_LA_law_662 : decode code 662 = .ok (.aload_n 0, 1) := by decide +kernel
theorem d_LA_law_663 : decode code 663 = .ok (.iload 4, 2) := by decide +kernel
theorem d_LA_law_665 : decode code 665 = .ok (.iconst 2, 1) := by decide +kernel
theorem d_LA_law_666 : decode code 666 = .ok (.iadd, 1) := by decide +kernel
theorem d_LA_law_667 : decode code 667 = .ok (.iaload, 1) := by decide +kernel
theorem d_LA_law_668 : decode code 668 = .ok (.aload_n 0, 1) := by decide +kernel
theorem d_LA_law_669 : decode code 669 = .ok (.iload 4, 2) := by decide +kernel
theorem d_LA_law_671 : decode code 671 = .ok (.iconst 3, 1) := by decide +kernel
theorem d_LA_law_672 : decode code 672 = .ok (.iadd, 1) := by decide +kernel
theorem d_LA_law_673 : decode code 673 = .ok (.iaload, 1) := by decide +kernel
theorem d_LA_law_674 : decode code 674 = .ok (.aload_n 3, 1) := by decide +kernel
theorem d_LA_law_675 : decode code 675 = .ok (.invokestatic 100, 3) := by decide +kernel
theorem d_LA_law_678 : decode code 678 = .ok (.istore 5, 2) := by decide +kernel
theorem d_LA_law_680 : decode code 680 = .ok (.aload_n 2, 1) := by decide +kernel
theorem d_LA_law_681 : decode code 681 = .ok (.aload_n 0, 1) := by decide +kernel
theorem d_LA_law_682 : decode code 682 = .ok (.iload 4, 2) := by decide +kernel
theorem d_LA_law_684 : decode code 684 = .ok (.iconst 1, 1) := by decide +kernel
theorem d_LA_law_685 : decode code 685 = .ok (.iadd, 1) := by decide +kernel
theorem d_LA_law_686 : decode code 686 = .ok (.iaload, 1) := by decide +kernel
theorem d_LA_law_687 : decode code 687 = .ok (.aload_n 0, 1) := by decide +kernel
theorem d_LA_law_688 : decode code 688 = .ok (.iload 4, 2) := by decide +kernel
theorem d_LA_law_690 : decode code 690 = .ok (.iconst 2, 1) := by decide +kernel
theorem d_LA_law_691 : decode code 691 = .ok (.iadd, 1) := by decide +kernel
theorem d_LA_law_692 : decode code 692 = .ok (.iaload, 1) := by decide +kernel
theorem d_LA_law_693 : decode code 693 = .ok (.aload_n 0, 1) := by decide +kernel
theorem d_LA_law_694 : decode code 694 = .ok (.iload 4, 2) := by decide +kernel
theorem d_LA_law_696 : decode code 696 = .ok (.iconst 3, 1) := by decide +kernel
theorem d_LA_law_697 : decode code 697 = .ok (.iadd, 1) := by decide +kernel
theorem d_LA_law_698 : decode code 698 = .ok (.iaload, 1) := by decide +kernel
theorem d_LA_law_699 : decode code 699 = .ok (.invokevirtual 103, 3) := by decide +kernel
theorem d_LA_law_702 : decode code 702 = .ok (.lstore 6, 2) := by decide +kernel
theorem d_LA_law_704 : decode code 704 = .ok (.aload_n 2, 1) := by decide +kernel
theorem d_LA_law_705 : decode code 705 = .ok (.invokevirtual 80, 3) := by decide +kernel
theorem d_LA_law_708 : decode code 708 = .ok (.iload 5, 2) := by decide +kernel
theorem d_LA_law_710 : decode code 710 = .ok (.if_icmp .eq 5, 3) := by decide +kernel
theorem d_LA_law_713 : decode code 713 = .ok (.iconst 0, 1) := by decide +kernel
theorem d_LA_law_714 : decode code 714 = .ok (.ireturn, 1) := by decide +kernel
theorem d_LA_law_715 : decode code 715 = .ok (.iload 5, 2) := by decide +kernel
theorem d_LA_law_717 : decode code 717 = .ok (.ifCond .ne 14, 3) := by decide +kernel
theorem d_LA_law_720 : decode code 720 = .ok (.aload_n 3, 1) := by decide +kernel
theorem d_LA_law_721 : decode code 721 = .ok (.iconst 0, 1) := by decide +kernel
theorem d_LA_law_722 : decode code 722 = .ok (.laload, 1) := by decide +kernel
theorem d_LA_law_723 : decode code 723 = .ok (.lload 6, 2) := by decide +kernel
theorem d_LA_law_725 : decode code 725 = .ok (.lcmp, 1) := by decide +kernel
theorem d_LA_law_726 : decode code 726 = .ok (.ifCond .eq 5, 3) := by decide +kernel
theorem d_LA_law_729 : decode code 729 = .ok (.iconst 0, 1) := by decide +kernel
theorem d_LA_law_730 : decode code 730 = .ok (.ireturn, 1) := by decide +kernel
theorem d_LA_law_731 : decode code 731 = .ok (.goto 490, 3) := by decide +kernel
theorem d_LA_law_734 : decode code 734 = .ok (.aload_n 1, 1) := by decide +kernel
theorem d_LA_law_735 : decode code 735 = .ok (.aload_n 0, 1) := by decide +kernel
theorem d_LA_law_736 : decode code 736 = .ok (.iload 4, 2) := by decide +kernel
theorem d_LA_law_738 : decode code 738 = .ok (.iconst 1, 1) := by decide +kernel
theorem d_LA_law_739 : decode code 739 = .ok (.iadd, 1) := by decide +kernel
theorem d_LA_law_740 : decode code 740 = .ok (.iaload, 1) := by decide +kernel
theorem d_LA_law_741 : decode code 741 = .ok (.aload_n 3, 1) := by decide +kernel
theorem d_LA_law_742 : decode code 742 = .ok (.invokestatic 104, 3) := by decide +kernel
theorem d_LA_law_745 : decode code 745 = .ok (.istore 5, 2) := by decide +kernel
theorem d_LA_law_747 : decode code 747 = .ok (.aload_n 2, 1) := by decide +kernel
theorem d_LA_law_748 : decode code 748 = .ok (.aload_n 0, 1) := by decide +kernel
theorem d_LA_law_749 : decode code 749 = .ok (.iload 4, 2) := by decide +kernel
theorem d_LA_law_751 : decode code 751 = .ok (.iconst 1, 1) := by decide +kernel
theorem d_LA_law_752 : decode code 752 = .ok (.iadd, 1) := by decide +kernel
theorem d_LA_law_753 : decode code 753 = .ok (.iaload, 1) := by decide +kernel
theorem d_LA_law_754 : decode code 754 = .ok (.invokevirtual 106, 3) := by decide +kernel
theorem d_LA_law_757 : decode code 757 = .ok (.lstore 6, 2) := by decide +kernel
theorem d_LA_law_759 : decode code 759 = .ok (.aload_n 2, 1) := by decide +kernel
theorem d_LA_law_760 : decode code 760 = .ok (.invokevirtual 80, 3) := by decide +kernel
theorem d_LA_law_763 : decode code 763 = .ok (.iload 5, 2) := by decide +kernel
theorem d_LA_law_765 : decode code 765 = .ok (.if_icmp .eq 5, 3) := by decide +kernel
theorem d_LA_law_768 : decode code 768 = .ok (.iconst 0, 1) := by decide +kernel
theorem d_LA_law_769 : decode code 769 = .ok (.ireturn, 1) := by decide +kernel
theorem d_LA_law_770 : decode code 770 = .ok (.iload 5, 2) := by decide +kernel
theorem d_LA_law_772 : decode code 772 = .ok (.ifCond .ne 14, 3) := by decide +kernel
theorem d_LA_law_775 : decode code 775 = .ok (.aload_n 3, 1) := by decide +kernel
theorem d_LA_law_776 : decode code 776 = .ok (.iconst 0, 1) := by decide +kernel
theorem d_LA_law_777 : decode code 777 = .ok (.laload, 1) := by decide +kernel
theorem d_LA_law_778 : decode code 778 = .ok (.lload 6, 2) := by decide +kernel
theorem d_LA_law_780 : decode code 780 = .ok (.lcmp, 1) := by decide +kernel
theorem d_LA_law_781 : decode code 781 = .ok (.ifCond .eq 5, 3) := by decide +kernel
theorem d_LA_law_784 : decode code 784 = .ok (.iconst 0, 1) := by decide +kernel
theorem d_LA_law_785 : decode code 785 = .ok (.ireturn, 1) := by decide +kernel
theorem d_LA_law_786 : decode code 786 = .ok (.goto 435, 3) := by decide +kernel
