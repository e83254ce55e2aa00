theorem d_L_law_628 : decode code 628 = .ok (.invokevirtual 87, 3) := by decide +kernel
theorem d_L_law_631 : decode code 631 = .ok (.if_icmp .eq 128, 3) := by decide +kernel
theorem d_L_law_634 : decode code 634 = .ok (.iconst 0, 1) := by decide +kernel
theorem d_L_law_635 : decode code 635 = .ok (.ireturn, 1) := by decide +kernel
theorem d_L_law_636 : decode code 636 = .ok (.aload_n 1, 1) := by decide +kernel
theorem d_L_law_637 : decode code 637 = .ok (.aload_n 0, 1) := by decide +kernel
theorem d_L_law_638 : decode code 638 = .ok (.iload_n 3, 1) := by decide +kernel
theorem d_L_law_639 : decode code 639 = .ok (.iconst 1, 1) := by decide +kernel
theorem d_L_law_640 : decode code 640 = .ok (.iadd, 1) := by decide +kernel
theorem d_L_law_641 : decode code 641 = .ok (.iaload, 1) := by decide +kernel
theorem d_L_law_642 : decode code 642 = .ok (.aload_n 0, 1) := by decide +kernel
theorem d_L_law_643 : decode code 643 = .ok (.iload_n 3, 1) := by decide +kernel
theorem d_L_law_644 : decode code 644 = .ok (.iconst 2, 1) := by decide +kernel
theorem d_L_law_645 : decode code 645 = .ok (.iadd, 1) := by decide +kernel
theorem d_L_law_646 : decode code 646 = .ok (.iaload, 1) := by decide +kernel
theorem d_L_law_647 : decode code 647 = .ok (.invokevirtual 88, 3) := by decide +kernel
theorem d_L_law_650 : decode code 650 = .ok (.aload_n 2, 1) := by decide +kernel
theorem d_L_law_651 : decode code 651 = .ok (.aload_n 0, 1) := by decide +kernel
theorem d_L_law_652 : decode code 652 = .ok (.iload_n 3, 1) := by decide +kernel
theorem d_L_law_653 : decode code 653 = .ok (.iconst 1, 1) := by decide +kernel
theorem d_L_law_654 : decode code 654 = .ok (.iadd, 1) := by decide +kernel
theorem d_L_law_655 : decode code 655 = .ok (.iaload, 1) := by decide +kernel
theorem d_L_law_656 : decode code 656 = .ok (.aload_n 0, 1) := by decide +kernel
theorem d_L_law_657 : decode code 657 = .ok (.iload_n 3, 1) := by decide +kernel
theorem d_L_law_658 : decode code 658 = .ok (.iconst 2, 1) := by decide +kernel
theorem d_L_law_659 : decode code 659 = .ok (.iadd, 1) := by decide +kernel
theorem d_L_law_660 : decode code 660 = .ok (.iaload, 1) := by decide +kernel
theorem d_L_law_661 : decode code 661 = .ok (.invokevirtual 92, 3) := by decide +kernel
theorem d_L_law_664 : decode code 664 = .ok (.lcmp, 1) := by decide +kernel
theorem d_L_law_665 : decode code 665 = .ok (.ifCond .eq 94, 3) := by decide +kernel
theorem d_L_law_668 : decode code 668 = .ok (.iconst 0, 1) := by decide +kernel
theorem d_L_law_669 : decode code 669 = .ok (.ireturn, 1) := by decide +kernel
theorem d_L_law_670 : decode code 670 = .ok (.aload_n 1, 1) := by decide +kernel
theorem d_L_law_671 : decode code 671 = .ok (.aload_n 0, 1) := by decide +kernel
theorem d_L_law_672 : decode code 672 = .ok (.iload_n 3, 1) := by decide +kernel
theorem d_L_law_673 : decode code 673 = .ok (.iconst 1, 1) := by decide +kernel
theorem d_L_law_674 : decode code 674 = .ok (.iadd, 1) := by decide +kernel
theorem d_L_law_675 : decode code 675 = .ok (.iaload, 1) := by decide +kernel
theorem d_L_law_676 : decode code 676 = .ok (.aload_n 0, 1) := by decide +kernel
theorem d_L_law_677 : decode code 677 = .ok (.iload_n 3, 1) := by decide +kernel
theorem d_L_law_678 : decode code 678 = .ok (.iconst 2, 1) := by decide +kernel
theorem d_L_law_679 : decode code 679 = .ok (.iadd, 1) := by decide +kernel
theorem d_L_law_680 : decode code 680 = .ok (.iaload, 1) := by decide +kernel
theorem d_L_law_681 : decode code 681 = .ok (.invokevirtual 93, 3) := by decide +kernel
theorem d_L_law_684 : decode code 684 = .ok (.aload_n 2, 1) := by decide +kernel
theorem d_L_law_685 : decode code 685 = .ok (.aload_n 0, 1) := by decide +kernel
theorem d_L_law_686 : decode code 686 = .ok (.iload_n 3, 1) := by decide +kernel
theorem d_L_law_687 : decode code 687 = .ok (.iconst 1, 1) := by decide +kernel
theorem d_L_law_688 : decode code 688 = .ok (.iadd, 1) := by decide +kernel
theorem d_L_law_689 : decode code 689 = .ok (.iaload, 1) := by decide +kernel
theorem d_L_law_690 : decode code 690 = .ok (.aload_n 0, 1) := by decide +kernel
theorem d_L_law_691 : decode code 691 = .ok (.iload_n 3, 1) := by decide +kernel
theorem d_L_law_692 : decode code 692 = .ok (.iconst 2, 1) := by decide +kernel
theorem d_L_law_693 : decode code 693 = .ok (.iadd, 1) := by decide +kernel
theorem d_L_law_694 : decode code 694 = .ok (.iaload, 1) := by decide +kernel
theorem d_L_law_695 : decode code 695 = .ok (.invokevirtual 97, 3) := by decide +kernel
theorem d_L_law_698 : decode code 698 = .ok (.if_icmp .eq 61, 3) := by decide +kernel
theorem d_L_law_701 : decode code 701 = .ok (.iconst 0, 1) := by decide +kernel
theorem d_L_law_702 : decode code 702 = .ok (.ireturn, 1) := by decide +kernel
theorem d_L_law_703 : decode code 703 = .ok (.aload_n 1, 1) := by decide +kernel
theorem d_L_law_704 : decode code 704 = .ok (.invokevirtual 98, 3) := by decide +kernel
theorem d_L_law_707 : decode code 707 = .ok (.aload_n 2, 1) := by decide +kernel
theorem d_L_law_708 : decode code 708 = .ok (.invokevirtual 101, 3) := by decide +kernel
theorem d_L_law_711 : decode code 711 = .ok (.if_icmp .eq 48, 3) := by decide +kernel
theorem d_L_law_714 : decode code 714 = .ok (.iconst 0, 1) := by decide +kernel
theorem d_L_law_715 : decode code 715 = .ok (.ireturn, 1) := by decide +kernel
theorem d_L_law_716 : decode code 716 = .ok (.aload_n 1, 1) := by decide +kernel
theorem d_L_law_717 : decode code 717 = .ok (.aload_n 0, 1) := by decide +kernel
theorem d_L_law_718 : decode code 718 = .ok (.iload_n 3, 1) := by decide +kernel
theorem d_L_law_719 : decode code 719 = .ok (.iconst 1, 1) := by decide +kernel
theorem d_L_law_720 : decode code 720 = .ok (.iadd, 1) := by decide +kernel
theorem d_L_law_721 : decode code 721 = .ok (.iaload, 1) := by decide +kernel
theorem d_L_law_722 : decode code 722 = .ok (.aload_n 0, 1) := by decide +kernel
theorem d_L_law_723 : decode code 723 = .ok (.iload_n 3, 1) := by decide +kernel
theorem d_L_law_724 : decode code 724 = .ok (.iconst 2, 1) := by decide +kernel
theorem d_L_law_725 : decode code 725 = .ok (.iadd, 1) := by decide +kernel
theorem d_L_law_726 : decode code 726 = .ok (.iaload, 1) := by decide +kernel
theorem d_L_law_727 : decode code 727 = .ok (.aload_n 0, 1) := by decide +kernel
theorem d_L_law_728 : decode code 728 = .ok (.iload_n 3, 1) := by decide +kernel
theorem d_L_law_729 : decode code 729 = .ok (.iconst 3, 1) := by decide +kernel
theorem d_L_law_730 : decode code 730 = .ok (.iadd, 1) := by decide +kernel
theorem d_L_law_731 : decode code 731 = .ok (.iaload, 1) := by decide +kernel
theorem d_L_law_732 : decode code 732 = .ok (.invokevirtual 102, 3) := by decide +kernel
theorem d_L_law_735 : decode code 735 = .ok (.aload_n 2, 1) := by decide +kernel
theorem d_L_law_736 : decode code 736 = .ok (.aload_n 0, 1) := by decide +kernel
theorem d_L_law_737 : decode code 737 = .ok (.iload_n 3, 1) := by decide +kernel
theorem d_L_law_738 : decode code 738 = .ok (.iconst 1, 1) := by decide +kernel
theorem d_L_law_739 : decode code 739 = .ok (.iadd, 1) := by decide +kernel
theorem d_L_law_740 : decode code 740 = .ok (.iaload, 1) := by decide +kernel
theorem d_L_law_741 : decode code 741 = .ok (.aload_n 0, 1) := by decide +kernel
theorem d_L_law_742 : decode code 742 = .ok (.iload_n 3, 1) := by decide +kernel
theorem d_L_law_743 : decode code 743 = .ok (.iconst 2, 1) := by decide +kernel
theorem d_L_law_744 : decode code 744 = .ok (.iadd, 1) := by decide +kernel
theorem d_L_law_745 : decode code 745 = .ok (.iaload, 1) := by decide +kernel
theorem d_L_law_746 : decode code 746 = .ok (.aload_n 0, 1) := by decide +kernel
theorem d_L_law_747 : decode code 747 = .ok (.iload_n 3, 1) := by decide +kernel
theorem d_L_law_748 : decode code 748 = .ok (.iconst 3, 1) := by decide +kernel
theorem d_L_law_749 : decode code 749 = .ok (.iadd, 1) := by decide +kernel
theorem d_L_law_750 : decode code 750 = .ok (.iaload, 1) := by decide +kernel
theorem d_L_law_751 : decode code 751 = .ok (.invokevirtual 106, 3) := by decide +kernel
theorem d_L_law_754 : decode code 754 = .ok (.if_icmp .eq 5, 3) := by decide +kernel
theorem d_L_law_757 : decode code 757 = .ok (.iconst 0, 1) := by decide +kernel
theorem d_L_law_758 : decode code 758 = .ok (.ireturn, 1) := by decide +kernel
theorem d_L_law_759 : decode code 759 = .ok (.iinc 3 9, 3) := by decide +kernel
theorem d_L_law_762 : decode code 762 = .ok (.goto (-734), 3) := by decide +kernel
theorem d_L_law_765 : decode code 765 = .ok (.iconst 1, 1) := by decide +kernel
theorem d_L_law_766 : decode code 766 = .ok (.ireturn, 1) := by decide +kernel
