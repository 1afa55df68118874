theorem dL_days_539 : decode cL_days 539 = .ok (.aload_n 0, 1) := by decide +kernel
theorem dL_days_540 : decode cL_days 540 = .ok (.bipush 9, 2) := by decide +kernel
theorem dL_days_542 : decode cL_days 542 = .ok (.invokevirtual 68, 3) := by decide +kernel
theorem dL_days_545 : decode cL_days 545 = .ok (.ifCond .ne 294, 3) := by decide +kernel
theorem dL_days_548 : decode cL_days 548 = .ok (.aload_n 0, 1) := by decide +kernel
theorem dL_days_549 : decode cL_days 549 = .ok (.iconst 0, 1) := by decide +kernel
theorem dL_days_550 : decode cL_days 550 = .ok (.bipush 10, 2) := by decide +kernel
theorem dL_days_552 : decode cL_days 552 = .ok (.bipush 60, 2) := by decide +kernel
theorem dL_days_554 : decode cL_days 554 = .ok (.iconst 1, 1) := by decide +kernel
theorem dL_days_555 : decode cL_days 555 = .ok (.iconst 2, 1) := by decide +kernel
theorem dL_days_556 : decode cL_days 556 = .ok (.iconst 0, 1) := by decide +kernel
theorem dL_days_557 : decode cL_days 557 = .ok (.invokestatic 233, 3) := by decide +kernel
theorem dL_days_560 : decode cL_days 560 = .ok (.ifCond .eq 279, 3) := by decide +kernel
theorem dL_days_563 : decode cL_days 563 = .ok (.aload_n 0, 1) := by decide +kernel
theorem dL_days_564 : decode cL_days 564 = .ok (.iconst 1, 1) := by decide +kernel
theorem dL_days_565 : decode cL_days 565 = .ok (.invokevirtual 68, 3) := by decide +kernel
theorem dL_days_568 : decode cL_days 568 = .ok (.iconst 1, 1) := by decide +kernel
theorem dL_days_569 : decode cL_days 569 = .ok (.if_icmp .ne 270, 3) := by decide +kernel
theorem dL_days_572 : decode cL_days 572 = .ok (.aload_n 0, 1) := by decide +kernel
theorem dL_days_573 : decode cL_days 573 = .ok (.iconst 0, 1) := by decide +kernel
theorem dL_days_574 : decode cL_days 574 = .ok (.bipush 8, 2) := by decide +kernel
theorem dL_days_576 : decode cL_days 576 = .ok (.bipush 78, 2) := by decide +kernel
theorem dL_days_578 : decode cL_days 578 = .ok (.iconst 1, 1) := by decide +kernel
theorem dL_days_579 : decode cL_days 579 = .ok (.iconst 3, 1) := by decide +kernel
theorem dL_days_580 : decode cL_days 580 = .ok (.iconst 0, 1) := by decide +kernel
theorem dL_days_581 : decode cL_days 581 = .ok (.invokestatic 233, 3) := by decide +kernel
theorem dL_days_584 : decode cL_days 584 = .ok (.ifCond .eq 255, 3) := by decide +kernel
theorem dL_days_587 : decode cL_days 587 = .ok (.aload_n 0, 1) := by decide +kernel
theorem dL_days_588 : decode cL_days 588 = .ok (.iconst 1, 1) := by decide +kernel
theorem dL_days_589 : decode cL_days 589 = .ok (.invokevirtual 102, 3) := by decide +kernel
theorem dL_days_592 : decode cL_days 592 = .ok (.iconst (-1), 1) := by decide +kernel
theorem dL_days_593 : decode cL_days 593 = .ok (.if_icmp .ne 246, 3) := by decide +kernel
theorem dL_days_596 : decode cL_days 596 = .ok (.aload_n 0, 1) := by decide +kernel
theorem dL_days_597 : decode cL_days 597 = .ok (.iconst 1, 1) := by decide +kernel
theorem dL_days_598 : decode cL_days 598 = .ok (.invokevirtual 68, 3) := by decide +kernel
theorem dL_days_601 : decode cL_days 601 = .ok (.iconst 1, 1) := by decide +kernel
theorem dL_days_602 : decode cL_days 602 = .ok (.if_icmp .ne 237, 3) := by decide +kernel
theorem dL_days_605 : decode cL_days 605 = .ok (.aload_n 0, 1) := by decide +kernel
theorem dL_days_606 : decode cL_days 606 = .ok (.iconst 0, 1) := by decide +kernel
theorem dL_days_607 : decode cL_days 607 = .ok (.bipush 6, 2) := by decide +kernel
theorem dL_days_609 : decode cL_days 609 = .ok (.bipush 68, 2) := by decide +kernel
theorem dL_days_611 : decode cL_days 611 = .ok (.iconst 1, 1) := by decide +kernel
theorem dL_days_612 : decode cL_days 612 = .ok (.iconst 3, 1) := by decide +kernel
theorem dL_days_613 : decode cL_days 613 = .ok (.iconst 4, 1) := by decide +kernel
theorem dL_days_614 : decode cL_days 614 = .ok (.invokestatic 233, 3) := by decide +kernel
theorem dL_days_617 : decode cL_days 617 = .ok (.ifCond .eq 222, 3) := by decide +kernel
theorem dL_days_620 : decode cL_days 620 = .ok (.aload_n 0, 1) := by decide +kernel
theorem dL_days_621 : decode cL_days 621 = .ok (.iconst 1, 1) := by decide +kernel
theorem dL_days_622 : decode cL_days 622 = .ok (.invokevirtual 68, 3) := by decide +kernel
theorem dL_days_625 : decode cL_days 625 = .ok (.ifCond .ne 214, 3) := by decide +kernel
theorem dL_days_628 : decode cL_days 628 = .ok (.aload_n 0, 1) := by decide +kernel
theorem dL_days_629 : decode cL_days 629 = .ok (.iconst 0, 1) := by decide +kernel
theorem dL_days_630 : decode cL_days 630 = .ok (.bipush 6, 2) := by decide +kernel
theorem dL_days_632 : decode cL_days 632 = .ok (.bipush 66, 2) := by decide +kernel
theorem dL_days_634 : decode cL_days 634 = .ok (.iconst 0, 1) := by decide +kernel
theorem dL_days_635 : decode cL_days 635 = .ok (.iconst 3, 1) := by decide +kernel
theorem dL_days_636 : decode cL_days 636 = .ok (.iconst 0, 1) := by decide +kernel
theorem dL_days_637 : decode cL_days 637 = .ok (.invokestatic 233, 3) := by decide +kernel
theorem dL_days_640 : decode cL_days 640 = .ok (.ifCond .eq 199, 3) := by decide +kernel
theorem dL_days_643 : decode cL_days 643 = .ok (.aload_n 0, 1) := by decide +kernel
theorem dL_days_644 : decode cL_days 644 = .ok (.iconst 2, 1) := by decide +kernel
theorem dL_days_645 : decode cL_days 645 = .ok (.invokevirtual 68, 3) := by decide +kernel
theorem dL_days_648 : decode cL_days 648 = .ok (.iconst 2, 1) := by decide +kernel
theorem dL_days_649 : decode cL_days 649 = .ok (.if_icmp .ne 190, 3) := by decide +kernel
theorem dL_days_652 : decode cL_days 652 = .ok (.aload_n 0, 1) := by decide +kernel
theorem dL_days_653 : decode cL_days 653 = .ok (.iconst 0, 1) := by decide +kernel
theorem dL_days_654 : decode cL_days 654 = .ok (.iconst 0, 1) := by decide +kernel
theorem dL_days_655 : decode cL_days 655 = .ok (.bipush 96, 2) := by decide +kernel
theorem dL_days_657 : decode cL_days 657 = .ok (.iconst 0, 1) := by decide +kernel
theorem dL_days_658 : decode cL_days 658 = .ok (.iconst 3, 1) := by decide +kernel
theorem dL_days_659 : decode cL_days 659 = .ok (.iconst 3, 1) := by decide +kernel
theorem dL_days_660 : decode cL_days 660 = .ok (.invokestatic 233, 3) := by decide +kernel
theorem dL_days_663 : decode cL_days 663 = .ok (.ifCond .eq 176, 3) := by decide +kernel
theorem dL_days_666 : decode cL_days 666 = .ok (.aload_n 0, 1) := by decide +kernel
theorem dL_days_667 : decode cL_days 667 = .ok (.iconst 0, 1) := by decide +kernel
theorem dL_days_668 : decode cL_days 668 = .ok (.invokevirtual 129, 3) := by decide +kernel
theorem dL_days_671 : decode cL_days 671 = .ok (.iconst 1, 1) := by decide +kernel
theorem dL_days_672 : decode cL_days 672 = .ok (.if_icmp .ne 167, 3) := by decide +kernel
theorem dL_days_675 : decode cL_days 675 = .ok (.aload_n 0, 1) := by decide +kernel
theorem dL_days_676 : decode cL_days 676 = .ok (.iconst 1, 1) := by decide +kernel
theorem dL_days_677 : decode cL_days 677 = .ok (.invokevirtual 68, 3) := by decide +kernel
theorem dL_days_680 : decode cL_days 680 = .ok (.ifCond .ne 159, 3) := by decide +kernel
theorem dL_days_683 : decode cL_days 683 = .ok (.aload_n 0, 1) := by decide +kernel
theorem dL_days_684 : decode cL_days 684 = .ok (.iconst 0, 1) := by decide +kernel
theorem dL_days_685 : decode cL_days 685 = .ok (.iconst 0, 1) := by decide +kernel
theorem dL_days_686 : decode cL_days 686 = .ok (.bipush 96, 2) := by decide +kernel
theorem dL_days_688 : decode cL_days 688 = .ok (.iconst (-1), 1) := by decide +kernel
theorem dL_days_689 : decode cL_days 689 = .ok (.iconst 3, 1) := by decide +kernel
theorem dL_days_690 : decode cL_days 690 = .ok (.iconst 1, 1) := by decide +kernel
theorem dL_days_691 : decode cL_days 691 = .ok (.invokestatic 233, 3) := by decide +kernel
theorem dL_days_694 : decode cL_days 694 = .ok (.ifCond .eq 145, 3) := by decide +kernel
theorem dL_days_697 : decode cL_days 697 = .ok (.aload_n 0, 1) := by decide +kernel
theorem dL_days_698 : decode cL_days 698 = .ok (.iconst 0, 1) := by decide +kernel
theorem dL_days_699 : decode cL_days 699 = .ok (.invokevirtual 120, 3) := by decide +kernel
theorem dL_days_702 : decode cL_days 702 = .ok (.ifCond .eq 137, 3) := by decide +kernel
theorem dL_days_705 : decode cL_days 705 = .ok (.aload_n 0, 1) := by decide +kernel
theorem dL_days_706 : decode cL_days 706 = .ok (.invokevirtual 182, 3) := by decide +kernel
theorem dL_days_709 : decode cL_days 709 = .ok (.bipush 31, 2) := by decide +kernel
theorem dL_days_711 : decode cL_days 711 = .ok (.if_icmp .ne 128, 3) := by decide +kernel
theorem dL_days_714 : decode cL_days 714 = .ok (.aload_n 0, 1) := by decide +kernel
theorem dL_days_715 : decode cL_days 715 = .ok (.invokevirtual 173, 3) := by decide +kernel
theorem dL_days_718 : decode cL_days 718 = .ok (.bipush 20, 2) := by decide +kernel
theorem dL_days_720 : decode cL_days 720 = .ok (.if_icmp .ne 119, 3) := by decide +kernel
theorem dL_days_723 : decode cL_days 723 = .ok (.aload_n 0, 1) := by decide +kernel
theorem dL_days_724 : decode cL_days 724 = .ok (.invokevirtual 240, 3) := by decide +kernel
theorem dL_days_727 : decode cL_days 727 = .ok (.bipush 20, 2) := by decide +kernel
theorem dL_days_729 : decode cL_days 729 = .ok (.if_icmp .ne 110, 3) := by decide +kernel
theorem dL_days_732 : decode cL_days 732 = .ok (.aload_n 0, 1) := by decide +kernel
theorem dL_days_733 : decode cL_days 733 = .ok (.iconst 0, 1) := by decide +kernel
theorem dL_days_734 : decode cL_days 734 = .ok (.invokevirtual 87, 3) := by decide +kernel
theorem dL_days_737 : decode cL_days 737 = .ok (.bipush 12, 2) := by decide +kernel
theorem dL_days_739 : decode cL_days 739 = .ok (.if_icmp .ne 100, 3) := by decide +kernel
theorem dL_days_742 : decode cL_days 742 = .ok (.aload_n 0, 1) := by decide +kernel
theorem dL_days_743 : decode cL_days 743 = .ok (.iconst 1, 1) := by decide +kernel
theorem dL_days_744 : decode cL_days 744 = .ok (.invokevirtual 87, 3) := by decide +kernel
theorem dL_days_747 : decode cL_days 747 = .ok (.bipush 25, 2) := by decide +kernel
theorem dL_days_749 : decode cL_days 749 = .ok (.if_icmp .ne 90, 3) := by decide +kernel
theorem dL_days_752 : decode cL_days 752 = .ok (.aload_n 0, 1) := by decide +kernel
theorem dL_days_753 : decode cL_days 753 = .ok (.bipush 9, 2) := by decide +kernel
theorem dL_days_755 : decode cL_days 755 = .ok (.invokevirtual 68, 3) := by decide +kernel
theorem dL_days_758 : decode cL_days 758 = .ok (.ifCond .ne 81, 3) := by decide +kernel
theorem dL_days_761 : decode cL_days 761 = .ok (.aload_n 0, 1) := by decide +kernel
theorem dL_days_762 : decode cL_days 762 = .ok (.invokevirtual 179, 3) := by decide +kernel
theorem dL_days_765 : decode cL_days 765 = .ok (.iconst 1, 1) := by decide +kernel
theorem dL_days_766 : decode cL_days 766 = .ok (.if_icmp .ne 73, 3) := by decide +kernel
theorem dL_days_769 : decode cL_days 769 = .ok (.aload_n 0, 1) := by decide +kernel
theorem dL_days_770 : decode cL_days 770 = .ok (.invokevirtual 182, 3) := by decide +kernel
theorem dL_days_773 : decode cL_days 773 = .ok (.ifCond .ne 66, 3) := by decide +kernel
theorem dL_days_776 : decode cL_days 776 = .ok (.aload_n 0, 1) := by decide +kernel
theorem dL_days_777 : decode cL_days 777 = .ok (.iconst 0, 1) := by decide +kernel
theorem dL_days_778 : decode cL_days 778 = .ok (.invokevirtual 87, 3) := by decide +kernel
theorem dL_days_781 : decode cL_days 781 = .ok (.iconst 4, 1) := by decide +kernel
theorem dL_days_782 : decode cL_days 782 = .ok (.if_icmp .ne 57, 3) := by decide +kernel
theorem dL_days_785 : decode cL_days 785 = .ok (.aload_n 0, 1) := by decide +kernel
theorem dL_days_786 : decode cL_days 786 = .ok (.iconst 1, 1) := by decide +kernel
theorem dL_days_787 : decode cL_days 787 = .ok (.invokevirtual 87, 3) := by decide +kernel
theorem dL_days_790 : decode cL_days 790 = .ok (.bipush 18, 2) := by decide +kernel
theorem dL_days_792 : decode cL_days 792 = .ok (.if_icmp .ne 47, 3) := by decide +kernel
theorem dL_days_795 : decode cL_days 795 = .ok (.aload_n 0, 1) := by decide +kernel
theorem dL_days_796 : decode cL_days 796 = .ok (.invokevirtual 167, 3) := by decide +kernel
theorem dL_days_799 : decode cL_days 799 = .ok (.bipush 15, 2) := by decide +kernel
theorem dL_days_801 : decode cL_days 801 = .ok (.if_icmp .ne 38, 3) := by decide +kernel
theorem dL_days_804 : decode cL_days 804 = .ok (.aload_n 0, 1) := by decide +kernel
theorem dL_days_805 : decode cL_days 805 = .ok (.invokevirtual 170, 3) := by decide +kernel
theorem dL_days_808 : decode cL_days 808 = .ok (.sipush 520, 3) := by decide +kernel
theorem dL_days_811 : decode cL_days 811 = .ok (.if_icmp .ne 28, 3) := by decide +kernel
theorem dL_days_814 : decode cL_days 814 = .ok (.aload_n 0, 1) := by decide +kernel
theorem dL_days_815 : decode cL_days 815 = .ok (.invokevirtual 217, 3) := by decide +kernel
theorem dL_days_818 : decode cL_days 818 = .ok (.sipush 520, 3) := by decide +kernel
theorem dL_days_821 : decode cL_days 821 = .ok (.if_icmp .ne 18, 3) := by decide +kernel
theorem dL_days_824 : decode cL_days 824 = .ok (.aload_n 0, 1) := by decide +kernel
theorem dL_days_825 : decode cL_days 825 = .ok (.invokevirtual 202, 3) := by decide +kernel
theorem dL_days_828 : decode cL_days 828 = .ok (.iconst 4, 1) := by decide +kernel
theorem dL_days_829 : decode cL_days 829 = .ok (.if_icmp .ne 10, 3) := by decide +kernel
theorem dL_days_832 : decode cL_days 832 = .ok (.aload_n 0, 1) := by decide +kernel
theorem dL_days_833 : decode cL_days 833 = .ok (.invokestatic 223, 3) := by decide +kernel
theorem dL_days_836 : decode cL_days 836 = .ok (.ifCond .ne 5, 3) := by decide +kernel
theorem dL_days_839 : decode cL_days 839 = .ok (.iconst 0, 1) := by decide +kernel
theorem dL_days_840 : decode cL_days 840 = .ok (.ireturn, 1) := by decide +kernel
theorem dL_days_841 : decode cL_days 841 = .ok (.aload_n 0, 1) := by decide +kernel
theorem dL_days_842 : decode cL_days 842 = .ok (.iconst 0, 1) := by decide +kernel
theorem dL_days_843 : decode cL_days 843 = .ok (.invokevirtual 58, 3) := by decide +kernel
theorem dL_days_846 : decode cL_days 846 = .ok (.iconst 4, 1) := by decide +kernel
theorem dL_days_847 : decode cL_days 847 = .ok (.if_icmp .ne 133, 3) := by decide +kernel
theorem dL_days_850 : decode cL_days 850 = .ok (.aload_n 0, 1) := by decide +kernel
theorem dL_days_851 : decode cL_days 851 = .ok (.bipush 40, 2) := by decide +kernel
theorem dL_days_853 : decode cL_days 853 = .ok (.invokevirtual 68, 3) := by decide +kernel
theorem dL_days_856 : decode cL_days 856 = .ok (.ifCond .ne 124, 3) := by decide +kernel
theorem dL_days_859 : decode cL_days 859 = .ok (.aload_n 0, 1) := by decide +kernel
theorem dL_days_860 : decode cL_days 860 = .ok (.iconst 0, 1) := by decide +kernel
theorem dL_days_861 : decode cL_days 861 = .ok (.invokevirtual 84, 3) := by decide +kernel
theorem dL_days_864 : decode cL_days 864 = .ok (.ifCond .ne 116, 3) := by decide +kernel
theorem dL_days_867 : decode cL_days 867 = .ok (.aload_n 0, 1) := by decide +kernel
theorem dL_days_868 : decode cL_days 868 = .ok (.iconst 0, 1) := by decide +kernel
theorem dL_days_869 : decode cL_days 869 = .ok (.invokevirtual 87, 3) := by decide +kernel
theorem dL_days_872 : decode cL_days 872 = .ok (.ifCond .ne 108, 3) := by decide +kernel
theorem dL_days_875 : decode cL_days 875 = .ok (.aload_n 0, 1) := by decide +kernel
theorem dL_days_876 : decode cL_days 876 = .ok (.iconst 1, 1) := by decide +kernel
theorem dL_days_877 : decode cL_days 877 = .ok (.invokevirtual 87, 3) := by decide +kernel
theorem dL_days_880 : decode cL_days 880 = .ok (.bipush 11, 2) := by decide +kernel
theorem dL_days_882 : decode cL_days 882 = .ok (.if_icmp .ne 98, 3) := by decide +kernel
theorem dL_days_885 : decode cL_days 885 = .ok (.aload_n 0, 1) := by decide +kernel
theorem dL_days_886 : decode cL_days 886 = .ok (.invokevirtual 167, 3) := by decide +kernel
theorem dL_days_889 : decode cL_days 889 = .ok (.bipush 22, 2) := by decide +kernel
theorem dL_days_891 : decode cL_days 891 = .ok (.if_icmp .ne 89, 3) := by decide +kernel
theorem dL_days_894 : decode cL_days 894 = .ok (.aload_n 0, 1) := by decide +kernel
theorem dL_days_895 : decode cL_days 895 = .ok (.iconst 0, 1) := by decide +kernel
theorem dL_days_896 : decode cL_days 896 = .ok (.invokevirtual 47, 3) := by decide +kernel
theorem dL_days_899 : decode cL_days 899 = .ok (.ifCond .eq 81, 3) := by decide +kernel
theorem dL_days_902 : decode cL_days 902 = .ok (.aload_n 0, 1) := by decide +kernel
theorem dL_days_903 : decode cL_days 903 = .ok (.invokevirtual 75, 3) := by decide +kernel
theorem dL_days_906 : decode cL_days 906 = .ok (.sipush 400, 3) := by decide +kernel
theorem dL_days_909 : decode cL_days 909 = .ok (.if_icmp .ne 71, 3) := by decide +kernel
theorem dL_days_912 : decode cL_days 912 = .ok (.aload_n 0, 1) := by decide +kernel
theorem dL_days_913 : decode cL_days 913 = .ok (.bipush 40, 2) := by decide +kernel
theorem dL_days_915 : decode cL_days 915 = .ok (.invokevirtual 68, 3) := by decide +kernel
theorem dL_days_918 : decode cL_days 918 = .ok (.bipush 8, 2) := by decide +kernel
theorem dL_days_920 : decode cL_days 920 = .ok (.if_icmp .ne 60, 3) := by decide +kernel
theorem dL_days_923 : decode cL_days 923 = .ok (.aload_n 0, 1) := by decide +kernel
theorem dL_days_924 : decode cL_days 924 = .ok (.invokevirtual 167, 3) := by decide +kernel
theorem dL_days_927 : decode cL_days 927 = .ok (.bipush 15, 2) := by decide +kernel
theorem dL_days_929 : decode cL_days 929 = .ok (.if_icmp .ne 51, 3) := by decide +kernel
theorem dL_days_932 : decode cL_days 932 = .ok (.aload_n 0, 1) := by decide +kernel
theorem dL_days_933 : decode cL_days 933 = .ok (.iconst 0, 1) := by decide +kernel
theorem dL_days_934 : decode cL_days 934 = .ok (.invokevirtual 39, 3) := by decide +kernel
theorem dL_days_937 : decode cL_days 937 = .ok (.iconst 4, 1) := by decide +kernel
theorem dL_days_938 : decode cL_days 938 = .ok (.if_icmp .ne 42, 3) := by decide +kernel
theorem dL_days_941 : decode cL_days 941 = .ok (.aload_n 0, 1) := by decide +kernel
theorem dL_days_942 : decode cL_days 942 = .ok (.iconst 1, 1) := by decide +kernel
theorem dL_days_943 : decode cL_days 943 = .ok (.invokevirtual 132, 3) := by decide +kernel
theorem dL_days_946 : decode cL_days 946 = .ok (.ifCond .ne 34, 3) := by decide +kernel
theorem dL_days_949 : decode cL_days 949 = .ok (.aload_n 0, 1) := by decide +kernel
theorem dL_days_950 : decode cL_days 950 = .ok (.invokevirtual 176, 3) := by decide +kernel
theorem dL_days_953 : decode cL_days 953 = .ok (.bipush 8, 2) := by decide +kernel
theorem dL_days_955 : decode cL_days 955 = .ok (.if_icmp .ne 25, 3) := by decide +kernel
theorem dL_days_958 : decode cL_days 958 = .ok (.invokestatic 243, 3) := by decide +kernel
theorem dL_days_961 : decode cL_days 961 = .ok (.ifCond .eq 19, 3) := by decide +kernel
theorem dL_days_964 : decode cL_days 964 = .ok (.invokestatic 246, 3) := by decide +kernel
theorem dL_days_967 : decode cL_days 967 = .ok (.ifCond .eq 13, 3) := by decide +kernel
theorem dL_days_970 : decode cL_days 970 = .ok (.invokestatic 249, 3) := by decide +kernel
theorem dL_days_973 : decode cL_days 973 = .ok (.ifCond .eq 7, 3) := by decide +kernel
theorem dL_days_976 : decode cL_days 976 = .ok (.iconst 1, 1) := by decide +kernel
theorem dL_days_977 : decode cL_days 977 = .ok (.goto 4, 3) := by decide +kernel
theorem dL_days_980 : decode cL_days 980 = .ok (.iconst 0, 1) := by decide +kernel
theorem dL_days_981 : decode cL_days 981 = .ok (.ireturn, 1) := by decide +kernel
theorem dL_games_0 : decode cL_games 0 = .ok (.new 34, 3) := by decide +kernel
theorem dL_games_3 : decode cL_games 3 = .ok (.dup, 1) := by decide +kernel
theorem dL_games_4 : decode cL_games 4 = .ok (.invokespecial 216, 3) := by decide +kernel
theorem dL_games_7 : decode cL_games 7 = .ok (.astore_n 0, 1) := by decide +kernel
theorem dL_games_8 : decode cL_games 8 = .ok (.aload_n 0, 1) := by decide +kernel
theorem dL_games_9 : decode cL_games 9 = .ok (.iconst 5, 1) := by decide +kernel
theorem dL_games_10 : decode cL_games 10 = .ok (.invokestatic 227, 3) := by decide +kernel
theorem dL_games_13 : decode cL_games 13 = .ok (.ifCond .eq 96, 3) := by decide +kernel
theorem dL_games_16 : decode cL_games 16 = .ok (.aload_n 0, 1) := by decide +kernel
theorem dL_games_17 : decode cL_games 17 = .ok (.iconst 0, 1) := by decide +kernel
theorem dL_games_18 : decode cL_games 18 = .ok (.iconst 0, 1) := by decide +kernel
theorem dL_games_19 : decode cL_games 19 = .ok (.iconst 1, 1) := by decide +kernel
theorem dL_games_20 : decode cL_games 20 = .ok (.iconst 1, 1) := by decide +kernel
theorem dL_games_21 : decode cL_games 21 = .ok (.invokevirtual 33, 3) := by decide +kernel
theorem dL_games_24 : decode cL_games 24 = .ok (.ifCond .ne 85, 3) := by decide +kernel
theorem dL_games_27 : decode cL_games 27 = .ok (.aload_n 0, 1) := by decide +kernel
theorem dL_games_28 : decode cL_games 28 = .ok (.iconst 0, 1) := by decide +kernel
theorem dL_games_29 : decode cL_games 29 = .ok (.bipush 99, 2) := by decide +kernel
theorem dL_games_31 : decode cL_games 31 = .ok (.invokevirtual 55, 3) := by decide +kernel
theorem dL_games_34 : decode cL_games 34 = .ok (.bipush 99, 2) := by decide +kernel
theorem dL_games_36 : decode cL_games 36 = .ok (.if_icmp .ne 73, 3) := by decide +kernel
theorem dL_games_39 : decode cL_games 39 = .ok (.aload_n 0, 1) := by decide +kernel
theorem dL_games_40 : decode cL_games 40 = .ok (.iconst 0, 1) := by decide +kernel
theorem dL_games_41 : decode cL_games 41 = .ok (.iconst 3, 1) := by decide +kernel
theorem dL_games_42 : decode cL_games 42 = .ok (.iconst 0, 1) := by decide +kernel
theorem dL_games_43 : decode cL_games 43 = .ok (.iconst 2, 1) := by decide +kernel
theorem dL_games_44 : decode cL_games 44 = .ok (.invokevirtual 51, 3) := by decide +kernel
theorem dL_games_47 : decode cL_games 47 = .ok (.bipush 79, 2) := by decide +kernel
theorem dL_games_49 : decode cL_games 49 = .ok (.if_icmp .ne 60, 3) := by decide +kernel
theorem dL_games_52 : decode cL_games 52 = .ok (.aload_n 0, 1) := by decide +kernel
theorem dL_games_53 : decode cL_games 53 = .ok (.iconst 0, 1) := by decide +kernel
theorem dL_games_54 : decode cL_games 54 = .ok (.iconst 2, 1) := by decide +kernel
theorem dL_games_55 : decode cL_games 55 = .ok (.iconst 1, 1) := by decide +kernel
theorem dL_games_56 : decode cL_games 56 = .ok (.iconst 1, 1) := by decide +kernel
theorem dL_games_57 : decode cL_games 57 = .ok (.invokevirtual 51, 3) := by decide +kernel
theorem dL_games_60 : decode cL_games 60 = .ok (.bipush 73, 2) := by decide +kernel
theorem dL_games_62 : decode cL_games 62 = .ok (.if_icmp .ne 47, 3) := by decide +kernel
theorem dL_games_65 : decode cL_games 65 = .ok (.aload_n 0, 1) := by decide +kernel
theorem dL_games_66 : decode cL_games 66 = .ok (.iconst 0, 1) := by decide +kernel
theorem dL_games_67 : decode cL_games 67 = .ok (.iconst 1, 1) := by decide +kernel
theorem dL_games_68 : decode cL_games 68 = .ok (.iconst 2, 1) := by decide +kernel
theorem dL_games_69 : decode cL_games 69 = .ok (.iconst 1, 1) := by decide +kernel
theorem dL_games_70 : decode cL_games 70 = .ok (.invokevirtual 51, 3) := by decide +kernel
theorem dL_games_73 : decode cL_games 73 = .ok (.bipush 70, 2) := by decide +kernel
theorem dL_games_75 : decode cL_games 75 = .ok (.if_icmp .ne 34, 3) := by decide +kernel
theorem dL_games_78 : decode cL_games 78 = .ok (.aload_n 0, 1) := by decide +kernel
theorem dL_games_79 : decode cL_games 79 = .ok (.iconst 0, 1) := by decide +kernel
theorem dL_games_80 : decode cL_games 80 = .ok (.iconst 1, 1) := by decide +kernel
theorem dL_games_81 : decode cL_games 81 = .ok (.iconst 0, 1) := by decide +kernel
theorem dL_games_82 : decode cL_games 82 = .ok (.iconst 1, 1) := by decide +kernel
theorem dL_games_83 : decode cL_games 83 = .ok (.invokevirtual 51, 3) := by decide +kernel
theorem dL_games_86 : decode cL_games 86 = .ok (.bipush 67, 2) := by decide +kernel
theorem dL_games_88 : decode cL_games 88 = .ok (.if_icmp .ne 21, 3) := by decide +kernel
theorem dL_games_91 : decode cL_games 91 = .ok (.aload_n 0, 1) := by decide +kernel
theorem dL_games_92 : decode cL_games 92 = .ok (.iconst 0, 1) := by decide +kernel
theorem dL_games_93 : decode cL_games 93 = .ok (.invokevirtual 102, 3) := by decide +kernel
theorem dL_games_96 : decode cL_games 96 = .ok (.iconst 2, 1) := by decide +kernel
theorem dL_games_97 : decode cL_games 97 = .ok (.if_icmp .ne 12, 3) := by decide +kernel
theorem dL_games_100 : decode cL_games 100 = .ok (.aload_n 0, 1) := by decide +kernel
theorem dL_games_101 : decode cL_games 101 = .ok (.iconst 0, 1) := by decide +kernel
theorem dL_games_102 : decode cL_games 102 = .ok (.invokevirtual 96, 3) := by decide +kernel
theorem dL_games_105 : decode cL_games 105 = .ok (.iconst 4, 1) := by decide +kernel
theorem dL_games_106 : decode cL_games 106 = .ok (.if_icmp .eq 5, 3) := by decide +kernel
theorem dL_games_109 : decode cL_games 109 = .ok (.iconst 0, 1) := by decide +kernel
theorem dL_games_110 : decode cL_games 110 = .ok (.ireturn, 1) := by decide +kernel
theorem dL_games_111 : decode cL_games 111 = .ok (.iconst 0, 1) := by decide +kernel
theorem dL_games_112 : decode cL_games 112 = .ok (.istore_n 1, 1) := by decide +kernel
theorem dL_games_113 : decode cL_games 113 = .ok (.iload_n 1, 1) := by decide +kernel
theorem dL_games_114 : decode cL_games 114 = .ok (.iconst 5, 1) := by decide +kernel
theorem dL_games_115 : decode cL_games 115 = .ok (.if_icmp .ge 42, 3) := by decide +kernel
theorem dL_games_118 : decode cL_games 118 = .ok (.aload_n 0, 1) := by decide +kernel
theorem dL_games_119 : decode cL_games 119 = .ok (.iload_n 1, 1) := by decide +kernel
theorem dL_games_120 : decode cL_games 120 = .ok (.iconst 4, 1) := by decide +kernel
theorem dL_games_121 : decode cL_games 121 = .ok (.if_icmp .ne 7, 3) := by decide +kernel
theorem dL_games_124 : decode cL_games 124 = .ok (.iconst 0, 1) := by decide +kernel
theorem dL_games_125 : decode cL_games 125 = .ok (.goto 5, 3) := by decide +kernel
theorem dL_games_128 : decode cL_games 128 = .ok (.bipush 9, 2) := by decide +kernel
theorem dL_games_130 : decode cL_games 130 = .ok (.iload_n 1, 1) := by decide +kernel
theorem dL_games_131 : decode cL_games 131 = .ok (.iconst 2, 1) := by decide +kernel
theorem dL_games_132 : decode cL_games 132 = .ok (.irem, 1) := by decide +kernel
theorem dL_games_133 : decode cL_games 133 = .ok (.ifCond .ne 7, 3) := by decide +kernel
theorem dL_games_136 : decode cL_games 136 = .ok (.iconst 0, 1) := by decide +kernel
theorem dL_games_137 : decode cL_games 137 = .ok (.goto 4, 3) := by decide +kernel
theorem dL_games_140 : decode cL_games 140 = .ok (.iconst 1, 1) := by decide +kernel
theorem dL_games_141 : decode cL_games 141 = .ok (.iconst 2, 1) := by decide +kernel
theorem dL_games_142 : decode cL_games 142 = .ok (.invokevirtual 61, 3) := by decide +kernel
theorem dL_games_145 : decode cL_games 145 = .ok (.iload_n 1, 1) := by decide +kernel
theorem dL_games_146 : decode cL_games 146 = .ok (.if_icmp .eq 5, 3) := by decide +kernel
theorem dL_games_149 : decode cL_games 149 = .ok (.iconst 0, 1) := by decide +kernel
theorem dL_games_150 : decode cL_games 150 = .ok (.ireturn, 1) := by decide +kernel
theorem dL_games_151 : decode cL_games 151 = .ok (.iinc 1 1, 3) := by decide +kernel
theorem dL_games_154 : decode cL_games 154 = .ok (.goto (-41), 3) := by decide +kernel
theorem dL_games_157 : decode cL_games 157 = .ok (.aload_n 0, 1) := by decide +kernel
theorem dL_games_158 : decode cL_games 158 = .ok (.iconst 0, 1) := by decide +kernel
theorem dL_games_159 : decode cL_games 159 = .ok (.invokevirtual 135, 3) := by decide +kernel
theorem dL_games_162 : decode cL_games 162 = .ok (.iconst 5, 1) := by decide +kernel
theorem dL_games_163 : decode cL_games 163 = .ok (.if_icmp .ne 238, 3) := by decide +kernel
theorem dL_games_166 : decode cL_games 166 = .ok (.aload_n 0, 1) := by decide +kernel
theorem dL_games_167 : decode cL_games 167 = .ok (.iconst 4, 1) := by decide +kernel
theorem dL_games_168 : decode cL_games 168 = .ok (.invokevirtual 126, 3) := by decide +kernel
theorem dL_games_171 : decode cL_games 171 = .ok (.iconst 3, 1) := by decide +kernel
theorem dL_games_172 : decode cL_games 172 = .ok (.if_icmp .ne 229, 3) := by decide +kernel
theorem dL_games_175 : decode cL_games 175 = .ok (.aload_n 0, 1) := by decide +kernel
theorem dL_games_176 : decode cL_games 176 = .ok (.iconst 1, 1) := by decide +kernel
theorem dL_games_177 : decode cL_games 177 = .ok (.invokevirtual 68, 3) := by decide +kernel
theorem dL_games_180 : decode cL_games 180 = .ok (.iconst 1, 1) := by decide +kernel
theorem dL_games_181 : decode cL_games 181 = .ok (.if_icmp .ne 220, 3) := by decide +kernel
theorem dL_games_184 : decode cL_games 184 = .ok (.aload_n 0, 1) := by decide +kernel
theorem dL_games_185 : decode cL_games 185 = .ok (.iconst 0, 1) := by decide +kernel
theorem dL_games_186 : decode cL_games 186 = .ok (.bipush 8, 2) := by decide +kernel
theorem dL_games_188 : decode cL_games 188 = .ok (.bipush 52, 2) := by decide +kernel
theorem dL_games_190 : decode cL_games 190 = .ok (.iconst 0, 1) := by decide +kernel
theorem dL_games_191 : decode cL_games 191 = .ok (.iconst 0, 1) := by decide +kernel
theorem dL_games_192 : decode cL_games 192 = .ok (.iconst 0, 1) := by decide +kernel
theorem dL_games_193 : decode cL_games 193 = .ok (.invokestatic 233, 3) := by decide +kernel
theorem dL_games_196 : decode cL_games 196 = .ok (.ifCond .eq 205, 3) := by decide +kernel
theorem dL_games_199 : decode cL_games 199 = .ok (.aload_n 0, 1) := by decide +kernel
theorem dL_games_200 : decode cL_games 200 = .ok (.iconst 1, 1) := by decide +kernel
theorem dL_games_201 : decode cL_games 201 = .ok (.invokevirtual 117, 3) := by decide +kernel
theorem dL_games_204 : decode cL_games 204 = .ok (.iconst 1, 1) := by decide +kernel
theorem dL_games_205 : decode cL_games 205 = .ok (.if_icmp .ne 196, 3) := by decide +kernel
theorem dL_games_208 : decode cL_games 208 = .ok (.aload_n 0, 1) := by decide +kernel
theorem dL_games_209 : decode cL_games 209 = .ok (.iconst 4, 1) := by decide +kernel
theorem dL_games_210 : decode cL_games 210 = .ok (.invokevirtual 117, 3) := by decide +kernel
theorem dL_games_213 : decode cL_games 213 = .ok (.iconst 1, 1) := by decide +kernel
theorem dL_games_214 : decode cL_games 214 = .ok (.if_icmp .ne 187, 3) := by decide +kernel
theorem dL_games_217 : decode cL_games 217 = .ok (.aload_n 0, 1) := by decide +kernel
theorem dL_games_218 : decode cL_games 218 = .ok (.iconst 1, 1) := by decide +kernel
theorem dL_games_219 : decode cL_games 219 = .ok (.invokevirtual 135, 3) := by decide +kernel
theorem dL_games_222 : decode cL_games 222 = .ok (.iconst 4, 1) := by decide +kernel
theorem dL_games_223 : decode cL_games 223 = .ok (.if_icmp .ne 178, 3) := by decide +kernel
theorem dL_games_226 : decode cL_games 226 = .ok (.aload_n 0, 1) := by decide +kernel
theorem dL_games_227 : decode cL_games 227 = .ok (.iconst 1, 1) := by decide +kernel
theorem dL_games_228 : decode cL_games 228 = .ok (.invokevirtual 68, 3) := by decide +kernel
theorem dL_games_231 : decode cL_games 231 = .ok (.iconst 1, 1) := by decide +kernel
theorem dL_games_232 : decode cL_games 232 = .ok (.if_icmp .ne 169, 3) := by decide +kernel
theorem dL_games_235 : decode cL_games 235 = .ok (.aload_n 0, 1) := by decide +kernel
theorem dL_games_236 : decode cL_games 236 = .ok (.iconst 0, 1) := by decide +kernel
theorem dL_games_237 : decode cL_games 237 = .ok (.bipush 7, 2) := by decide +kernel
theorem dL_games_239 : decode cL_games 239 = .ok (.bipush 44, 2) := by decide +kernel
theorem dL_games_241 : decode cL_games 241 = .ok (.iconst 0, 1) := by decide +kernel
theorem dL_games_242 : decode cL_games 242 = .ok (.iconst 0, 1) := by decide +kernel
theorem dL_games_243 : decode cL_games 243 = .ok (.iconst 4, 1) := by decide +kernel
theorem dL_games_244 : decode cL_games 244 = .ok (.invokestatic 233, 3) := by decide +kernel
theorem dL_games_247 : decode cL_games 247 = .ok (.ifCond .eq 154, 3) := by decide +kernel
theorem dL_games_250 : decode cL_games 250 = .ok (.aload_n 0, 1) := by decide +kernel
theorem dL_games_251 : decode cL_games 251 = .ok (.invokevirtual 252, 3) := by decide +kernel
theorem dL_games_254 : decode cL_games 254 = .ok (.iconst 1, 1) := by decide +kernel
theorem dL_games_255 : decode cL_games 255 = .ok (.if_icmp .ne 146, 3) := by decide +kernel
theorem dL_games_258 : decode cL_games 258 = .ok (.aload_n 0, 1) := by decide +kernel
theorem dL_games_259 : decode cL_games 259 = .ok (.invokevirtual 220, 3) := by decide +kernel
theorem dL_games_262 : decode cL_games 262 = .ok (.iconst 1, 1) := by decide +kernel
theorem dL_games_263 : decode cL_games 263 = .ok (.if_icmp .ne 138, 3) := by decide +kernel
theorem dL_games_266 : decode cL_games 266 = .ok (.aload_n 0, 1) := by decide +kernel
theorem dL_games_267 : decode cL_games 267 = .ok (.iconst 0, 1) := by decide +kernel
theorem dL_games_268 : decode cL_games 268 = .ok (.invokevirtual 96, 3) := by decide +kernel
theorem dL_games_271 : decode cL_games 271 = .ok (.iconst 2, 1) := by decide +kernel
theorem dL_games_272 : decode cL_games 272 = .ok (.if_icmp .ne 129, 3) := by decide +kernel
theorem dL_games_275 : decode cL_games 275 = .ok (.aload_n 0, 1) := by decide +kernel
theorem dL_games_276 : decode cL_games 276 = .ok (.bipush 9, 2) := by decide +kernel
theorem dL_games_278 : decode cL_games 278 = .ok (.iconst 4, 1) := by decide +kernel
theorem dL_games_279 : decode cL_games 279 = .ok (.iconst 2, 1) := by decide +kernel
theorem dL_games_280 : decode cL_games 280 = .ok (.invokevirtual 61, 3) := by decide +kernel
theorem dL_games_283 : decode cL_games 283 = .ok (.iconst 5, 1) := by decide +kernel
theorem dL_games_284 : decode cL_games 284 = .ok (.if_icmp .ne 117, 3) := by decide +kernel
theorem dL_games_287 : decode cL_games 287 = .ok (.aload_n 0, 1) := by decide +kernel
theorem dL_games_288 : decode cL_games 288 = .ok (.iconst 1, 1) := by decide +kernel
theorem dL_games_289 : decode cL_games 289 = .ok (.invokevirtual 68, 3) := by decide +kernel
theorem dL_games_292 : decode cL_games 292 = .ok (.iconst 1, 1) := by decide +kernel
theorem dL_games_293 : decode cL_games 293 = .ok (.if_icmp .ne 108, 3) := by decide +kernel
theorem dL_games_296 : decode cL_games 296 = .ok (.aload_n 0, 1) := by decide +kernel
theorem dL_games_297 : decode cL_games 297 = .ok (.iconst 0, 1) := by decide +kernel
theorem dL_games_298 : decode cL_games 298 = .ok (.invokevirtual 117, 3) := by decide +kernel
theorem dL_games_301 : decode cL_games 301 = .ok (.iconst 1, 1) := by decide +kernel
theorem dL_games_302 : decode cL_games 302 = .ok (.if_icmp .ne 99, 3) := by decide +kernel
theorem dL_games_305 : decode cL_games 305 = .ok (.aload_n 0, 1) := by decide +kernel
theorem dL_games_306 : decode cL_games 306 = .ok (.iconst 5, 1) := by decide +kernel
theorem dL_games_307 : decode cL_games 307 = .ok (.bipush 8, 2) := by decide +kernel
theorem dL_games_309 : decode cL_games 309 = .ok (.bipush 52, 2) := by decide +kernel
theorem dL_games_311 : decode cL_games 311 = .ok (.iconst 0, 1) := by decide +kernel
theorem dL_games_312 : decode cL_games 312 = .ok (.iconst 0, 1) := by decide +kernel
theorem dL_games_313 : decode cL_games 313 = .ok (.iconst 0, 1) := by decide +kernel
theorem dL_games_314 : decode cL_games 314 = .ok (.invokestatic 233, 3) := by decide +kernel
theorem dL_games_317 : decode cL_games 317 = .ok (.ifCond .eq 84, 3) := by decide +kernel
theorem dL_games_320 : decode cL_games 320 = .ok (.aload_n 0, 1) := by decide +kernel
theorem dL_games_321 : decode cL_games 321 = .ok (.iconst 0, 1) := by decide +kernel
theorem dL_games_322 : decode cL_games 322 = .ok (.invokevirtual 96, 3) := by decide +kernel
theorem dL_games_325 : decode cL_games 325 = .ok (.iconst 1, 1) := by decide +kernel
theorem dL_games_326 : decode cL_games 326 = .ok (.if_icmp .ne 75, 3) := by decide +kernel
theorem dL_games_329 : decode cL_games 329 = .ok (.aload_n 0, 1) := by decide +kernel
theorem dL_games_330 : decode cL_games 330 = .ok (.iconst 1, 1) := by decide +kernel
theorem dL_games_331 : decode cL_games 331 = .ok (.invokevirtual 68, 3) := by decide +kernel
theorem dL_games_334 : decode cL_games 334 = .ok (.iconst 1, 1) := by decide +kernel
theorem dL_games_335 : decode cL_games 335 = .ok (.if_icmp .ne 66, 3) := by decide +kernel
theorem dL_games_338 : decode cL_games 338 = .ok (.aload_n 0, 1) := by decide +kernel
theorem dL_games_339 : decode cL_games 339 = .ok (.iconst 5, 1) := by decide +kernel
theorem dL_games_340 : decode cL_games 340 = .ok (.bipush 7, 2) := by decide +kernel
theorem dL_games_342 : decode cL_games 342 = .ok (.bipush 72, 2) := by decide +kernel
theorem dL_games_344 : decode cL_games 344 = .ok (.iconst 0, 1) := by decide +kernel
theorem dL_games_345 : decode cL_games 345 = .ok (.iconst 1, 1) := by decide +kernel
theorem dL_games_346 : decode cL_games 346 = .ok (.iconst 4, 1) := by decide +kernel
theorem dL_games_347 : decode cL_games 347 = .ok (.invokestatic 233, 3) := by decide +kernel
theorem dL_games_350 : decode cL_games 350 = .ok (.ifCond .eq 51, 3) := by decide +kernel
theorem dL_games_353 : decode cL_games 353 = .ok (.aload_n 0, 1) := by decide +kernel
theorem dL_games_354 : decode cL_games 354 = .ok (.iconst 2, 1) := by decide +kernel
theorem dL_games_355 : decode cL_games 355 = .ok (.invokevirtual 138, 3) := by decide +kernel
theorem dL_games_358 : decode cL_games 358 = .ok (.iconst 1, 1) := by decide +kernel
theorem dL_games_359 : decode cL_games 359 = .ok (.if_icmp .ne 42, 3) := by decide +kernel
theorem dL_games_362 : decode cL_games 362 = .ok (.aload_n 0, 1) := by decide +kernel
theorem dL_games_363 : decode cL_games 363 = .ok (.iconst 0, 1) := by decide +kernel
theorem dL_games_364 : decode cL_games 364 = .ok (.iconst 2, 1) := by decide +kernel
theorem dL_games_365 : decode cL_games 365 = .ok (.iconst 1, 1) := by decide +kernel
theorem dL_games_366 : decode cL_games 366 = .ok (.invokevirtual 105, 3) := by decide +kernel
theorem dL_games_369 : decode cL_games 369 = .ok (.ifCond .ne 32, 3) := by decide +kernel
theorem dL_games_372 : decode cL_games 372 = .ok (.aload_n 0, 1) := by decide +kernel
theorem dL_games_373 : decode cL_games 373 = .ok (.iconst 0, 1) := by decide +kernel
theorem dL_games_374 : decode cL_games 374 = .ok (.invokevirtual 102, 3) := by decide +kernel
theorem dL_games_377 : decode cL_games 377 = .ok (.iconst 1, 1) := by decide +kernel
theorem dL_games_378 : decode cL_games 378 = .ok (.if_icmp .ne 23, 3) := by decide +kernel
theorem dL_games_381 : decode cL_games 381 = .ok (.aload_n 0, 1) := by decide +kernel
theorem dL_games_382 : decode cL_games 382 = .ok (.iconst 0, 1) := by decide +kernel
theorem dL_games_383 : decode cL_games 383 = .ok (.iconst 3, 1) := by decide +kernel
theorem dL_games_384 : decode cL_games 384 = .ok (.iconst 0, 1) := by decide +kernel
theorem dL_games_385 : decode cL_games 385 = .ok (.invokevirtual 105, 3) := by decide +kernel
theorem dL_games_388 : decode cL_games 388 = .ok (.iconst 2, 1) := by decide +kernel
theorem dL_games_389 : decode cL_games 389 = .ok (.if_icmp .ne 12, 3) := by decide +kernel
theorem dL_games_392 : decode cL_games 392 = .ok (.aload_n 0, 1) := by decide +kernel
theorem dL_games_393 : decode cL_games 393 = .ok (.iconst 0, 1) := by decide +kernel
theorem dL_games_394 : decode cL_games 394 = .ok (.invokevirtual 90, 3) := by decide +kernel
theorem dL_games_397 : decode cL_games 397 = .ok (.iconst 4, 1) := by decide +kernel
theorem dL_games_398 : decode cL_games 398 = .ok (.if_icmp .eq 5, 3) := by decide +kernel
theorem dL_games_401 : decode cL_games 401 = .ok (.iconst 0, 1) := by decide +kernel
theorem dL_games_402 : decode cL_games 402 = .ok (.ireturn, 1) := by decide +kernel
theorem dL_games_403 : decode cL_games 403 = .ok (.aload_n 0, 1) := by decide +kernel
theorem dL_games_404 : decode cL_games 404 = .ok (.iconst 0, 1) := by decide +kernel
theorem dL_games_405 : decode cL_games 405 = .ok (.bipush 9, 2) := by decide +kernel
theorem dL_games_407 : decode cL_games 407 = .ok (.invokevirtual 43, 3) := by decide +kernel
theorem dL_games_410 : decode cL_games 410 = .ok (.iconst 1, 1) := by decide +kernel
theorem dL_games_411 : decode cL_games 411 = .ok (.if_icmp .ne 113, 3) := by decide +kernel
theorem dL_games_414 : decode cL_games 414 = .ok (.aload_n 0, 1) := by decide +kernel
theorem dL_games_415 : decode cL_games 415 = .ok (.bipush 9, 2) := by decide +kernel
theorem dL_games_417 : decode cL_games 417 = .ok (.iconst 2, 1) := by decide +kernel
theorem dL_games_418 : decode cL_games 418 = .ok (.iconst 2, 1) := by decide +kernel
theorem dL_games_419 : decode cL_games 419 = .ok (.invokevirtual 61, 3) := by decide +kernel
theorem dL_games_422 : decode cL_games 422 = .ok (.bipush 6, 2) := by decide +kernel
theorem dL_games_424 : decode cL_games 424 = .ok (.if_icmp .ne 100, 3) := by decide +kernel
theorem dL_games_427 : decode cL_games 427 = .ok (.aload_n 0, 1) := by decide +kernel
theorem dL_games_428 : decode cL_games 428 = .ok (.bipush 99, 2) := by decide +kernel
theorem dL_games_430 : decode cL_games 430 = .ok (.iconst 2, 1) := by decide +kernel
theorem dL_games_431 : decode cL_games 431 = .ok (.iconst 0, 1) := by decide +kernel
theorem dL_games_432 : decode cL_games 432 = .ok (.invokevirtual 61, 3) := by decide +kernel
theorem dL_games_435 : decode cL_games 435 = .ok (.bipush 7, 2) := by decide +kernel
theorem dL_games_437 : decode cL_games 437 = .ok (.if_icmp .ne 87, 3) := by decide +kernel
theorem dL_games_440 : decode cL_games 440 = .ok (.aload_n 0, 1) := by decide +kernel
theorem dL_games_441 : decode cL_games 441 = .ok (.iconst 1, 1) := by decide +kernel
theorem dL_games_442 : decode cL_games 442 = .ok (.invokevirtual 68, 3) := by decide +kernel
theorem dL_games_445 : decode cL_games 445 = .ok (.iconst 1, 1) := by decide +kernel
theorem dL_games_446 : decode cL_games 446 = .ok (.if_icmp .ne 78, 3) := by decide +kernel
theorem dL_games_449 : decode cL_games 449 = .ok (.aload_n 0, 1) := by decide +kernel
theorem dL_games_450 : decode cL_games 450 = .ok (.bipush 6, 2) := by decide +kernel
theorem dL_games_452 : decode cL_games 452 = .ok (.iconst 0, 1) := by decide +kernel
theorem dL_games_453 : decode cL_games 453 = .ok (.bipush 52, 2) := by decide +kernel
theorem dL_games_455 : decode cL_games 455 = .ok (.iconst 0, 1) := by decide +kernel
theorem dL_games_456 : decode cL_games 456 = .ok (.iconst 0, 1) := by decide +kernel
theorem dL_games_457 : decode cL_games 457 = .ok (.iconst 3, 1) := by decide +kernel
theorem dL_games_458 : decode cL_games 458 = .ok (.invokestatic 233, 3) := by decide +kernel
theorem dL_games_461 : decode cL_games 461 = .ok (.ifCond .eq 63, 3) := by decide +kernel
theorem dL_games_464 : decode cL_games 464 = .ok (.aload_n 0, 1) := by decide +kernel
theorem dL_games_465 : decode cL_games 465 = .ok (.bipush 7, 2) := by decide +kernel
theorem dL_games_467 : decode cL_games 467 = .ok (.invokevirtual 117, 3) := by decide +kernel
theorem dL_games_470 : decode cL_games 470 = .ok (.iconst 1, 1) := by decide +kernel
theorem dL_games_471 : decode cL_games 471 = .ok (.if_icmp .ne 53, 3) := by decide +kernel
theorem dL_games_474 : decode cL_games 474 = .ok (.aload_n 0, 1) := by decide +kernel
theorem dL_games_475 : decode cL_games 475 = .ok (.iconst 0, 1) := by decide +kernel
theorem dL_games_476 : decode cL_games 476 = .ok (.invokevirtual 47, 3) := by decide +kernel
theorem dL_games_479 : decode cL_games 479 = .ok (.ifCond .ne 45, 3) := by decide +kernel
theorem dL_games_482 : decode cL_games 482 = .ok (.aload_n 0, 1) := by decide +kernel
theorem dL_games_483 : decode cL_games 483 = .ok (.bipush 50, 2) := by decide +kernel
theorem dL_games_485 : decode cL_games 485 = .ok (.iconst 0, 1) := by decide +kernel
theorem dL_games_486 : decode cL_games 486 = .ok (.iconst 0, 1) := by decide +kernel
theorem dL_games_487 : decode cL_games 487 = .ok (.invokevirtual 61, 3) := by decide +kernel
theorem dL_games_490 : decode cL_games 490 = .ok (.bipush 8, 2) := by decide +kernel
theorem dL_games_492 : decode cL_games 492 = .ok (.if_icmp .ne 32, 3) := by decide +kernel
theorem dL_games_495 : decode cL_games 495 = .ok (.aload_n 0, 1) := by decide +kernel
theorem dL_games_496 : decode cL_games 496 = .ok (.bipush 8, 2) := by decide +kernel
theorem dL_games_498 : decode cL_games 498 = .ok (.invokevirtual 126, 3) := by decide +kernel
theorem dL_games_501 : decode cL_games 501 = .ok (.iconst 2, 1) := by decide +kernel
theorem dL_games_502 : decode cL_games 502 = .ok (.if_icmp .ne 22, 3) := by decide +kernel
theorem dL_games_505 : decode cL_games 505 = .ok (.aload_n 0, 1) := by decide +kernel
theorem dL_games_506 : decode cL_games 506 = .ok (.bipush 6, 2) := by decide +kernel
theorem dL_games_508 : decode cL_games 508 = .ok (.invokevirtual 126, 3) := by decide +kernel
theorem dL_games_511 : decode cL_games 511 = .ok (.iconst 2, 1) := by decide +kernel
theorem dL_games_512 : decode cL_games 512 = .ok (.if_icmp .ne 12, 3) := by decide +kernel
theorem dL_games_515 : decode cL_games 515 = .ok (.aload_n 0, 1) := by decide +kernel
theorem dL_games_516 : decode cL_games 516 = .ok (.iconst 0, 1) := by decide +kernel
theorem dL_games_517 : decode cL_games 517 = .ok (.invokevirtual 102, 3) := by decide +kernel
theorem dL_games_520 : decode cL_games 520 = .ok (.iconst 1, 1) := by decide +kernel
theorem dL_games_521 : decode cL_games 521 = .ok (.if_icmp .eq 5, 3) := by decide +kernel
theorem dL_games_524 : decode cL_games 524 = .ok (.iconst 0, 1) := by decide +kernel
theorem dL_games_525 : decode cL_games 525 = .ok (.ireturn, 1) := by decide +kernel
theorem dL_games_526 : decode cL_games 526 = .ok (.aload_n 0, 1) := by decide +kernel
theorem dL_games_527 : decode cL_games 527 = .ok (.iconst 3, 1) := by decide +kernel
theorem dL_games_528 : decode cL_games 528 = .ok (.iconst 1, 1) := by decide +kernel
theorem dL_games_529 : decode cL_games 529 = .ok (.iconst 1, 1) := by decide +kernel
theorem dL_games_530 : decode cL_games 530 = .ok (.iconst 0, 1) := by decide +kernel
theorem dL_games_531 : decode cL_games 531 = .ok (.invokevirtual 33, 3) := by decide +kernel
theorem dL_games_534 : decode cL_games 534 = .ok (.iconst 1, 1) := by decide +kernel
theorem dL_games_535 : decode cL_games 535 = .ok (.if_icmp .ne 161, 3) := by decide +kernel
theorem dL_games_538 : decode cL_games 538 = .ok (.aload_n 0, 1) := by decide +kernel
theorem dL_games_539 : decode cL_games 539 = .ok (.iconst 1, 1) := by decide +kernel
theorem dL_games_540 : decode cL_games 540 = .ok (.invokevirtual 96, 3) := by decide +kernel
theorem dL_games_543 : decode cL_games 543 = .ok (.iconst 3, 1) := by decide +kernel
theorem dL_games_544 : decode cL_games 544 = .ok (.if_icmp .ne 152, 3) := by decide +kernel
theorem dL_games_547 : decode cL_games 547 = .ok (.aload_n 0, 1) := by decide +kernel
theorem dL_games_548 : decode cL_games 548 = .ok (.iconst 1, 1) := by decide +kernel
theorem dL_games_549 : decode cL_games 549 = .ok (.invokevirtual 102, 3) := by decide +kernel
theorem dL_games_552 : decode cL_games 552 = .ok (.iconst (-1), 1) := by decide +kernel
theorem dL_games_553 : decode cL_games 553 = .ok (.if_icmp .ne 143, 3) := by decide +kernel
theorem dL_games_556 : decode cL_games 556 = .ok (.aload_n 0, 1) := by decide +kernel
theorem dL_games_557 : decode cL_games 557 = .ok (.iconst 1, 1) := by decide +kernel
theorem dL_games_558 : decode cL_games 558 = .ok (.bipush 60, 2) := by decide +kernel
theorem dL_games_560 : decode cL_games 560 = .ok (.invokevirtual 55, 3) := by decide +kernel
theorem dL_games_563 : decode cL_games 563 = .ok (.bipush 60, 2) := by decide +kernel
theorem dL_games_565 : decode cL_games 565 = .ok (.if_icmp .ne 131, 3) := by decide +kernel
theorem dL_games_568 : decode cL_games 568 = .ok (.aload_n 0, 1) := by decide +kernel
theorem dL_games_569 : decode cL_games 569 = .ok (.iconst 1, 1) := by decide +kernel
theorem dL_games_570 : decode cL_games 570 = .ok (.iconst 2, 1) := by decide +kernel
theorem dL_games_571 : decode cL_games 571 = .ok (.iconst 0, 1) := by decide +kernel
theorem dL_games_572 : decode cL_games 572 = .ok (.iconst 3, 1) := by decide +kernel
theorem dL_games_573 : decode cL_games 573 = .ok (.invokevirtual 51, 3) := by decide +kernel
theorem dL_games_576 : decode cL_games 576 = .ok (.bipush 42, 2) := by decide +kernel
theorem dL_games_578 : decode cL_games 578 = .ok (.if_icmp .ne 118, 3) := by decide +kernel
theorem dL_games_581 : decode cL_games 581 = .ok (.aload_n 0, 1) := by decide +kernel
theorem dL_games_582 : decode cL_games 582 = .ok (.iconst 1, 1) := by decide +kernel
theorem dL_games_583 : decode cL_games 583 = .ok (.invokevirtual 102, 3) := by decide +kernel
theorem dL_games_586 : decode cL_games 586 = .ok (.iconst (-1), 1) := by decide +kernel
theorem dL_games_587 : decode cL_games 587 = .ok (.if_icmp .ne 109, 3) := by decide +kernel
theorem dL_games_590 : decode cL_games 590 = .ok (.aload_n 0, 1) := by decide +kernel
theorem dL_games_591 : decode cL_games 591 = .ok (.iconst 1, 1) := by decide +kernel
theorem dL_games_592 : decode cL_games 592 = .ok (.iconst 1, 1) := by decide +kernel
theorem dL_games_593 : decode cL_games 593 = .ok (.iconst 3, 1) := by decide +kernel
theorem dL_games_594 : decode cL_games 594 = .ok (.iconst 1, 1) := by decide +kernel
theorem dL_games_595 : decode cL_games 595 = .ok (.invokevirtual 51, 3) := by decide +kernel
theorem dL_games_598 : decode cL_games 598 = .ok (.bipush 39, 2) := by decide +kernel
theorem dL_games_600 : decode cL_games 600 = .ok (.if_icmp .ne 96, 3) := by decide +kernel
theorem dL_games_603 : decode cL_games 603 = .ok (.aload_n 0, 1) := by decide +kernel
theorem dL_games_604 : decode cL_games 604 = .ok (.iconst 1, 1) := by decide +kernel
theorem dL_games_605 : decode cL_games 605 = .ok (.invokevirtual 102, 3) := by decide +kernel
theorem dL_games_608 : decode cL_games 608 = .ok (.iconst 1, 1) := by decide +kernel
theorem dL_games_609 : decode cL_games 609 = .ok (.if_icmp .ne 87, 3) := by decide +kernel
theorem dL_games_612 : decode cL_games 612 = .ok (.aload_n 0, 1) := by decide +kernel
theorem dL_games_613 : decode cL_games 613 = .ok (.iconst 4, 1) := by decide +kernel
theorem dL_games_614 : decode cL_games 614 = .ok (.iconst 2, 1) := by decide +kernel
theorem dL_games_615 : decode cL_games 615 = .ok (.iconst 1, 1) := by decide +kernel
theorem dL_games_616 : decode cL_games 616 = .ok (.iconst 0, 1) := by decide +kernel
theorem dL_games_617 : decode cL_games 617 = .ok (.invokevirtual 33, 3) := by decide +kernel
theorem dL_games_620 : decode cL_games 620 = .ok (.iconst 2, 1) := by decide +kernel
theorem dL_games_621 : decode cL_games 621 = .ok (.if_icmp .ne 75, 3) := by decide +kernel
theorem dL_games_624 : decode cL_games 624 = .ok (.aload_n 0, 1) := by decide +kernel
theorem dL_games_625 : decode cL_games 625 = .ok (.iconst 2, 1) := by decide +kernel
theorem dL_games_626 : decode cL_games 626 = .ok (.invokevirtual 96, 3) := by decide +kernel
theorem dL_games_629 : decode cL_games 629 = .ok (.iconst 5, 1) := by decide +kernel
theorem dL_games_630 : decode cL_games 630 = .ok (.if_icmp .ne 66, 3) := by decide +kernel
theorem dL_games_633 : decode cL_games 633 = .ok (.aload_n 0, 1) := by decide +kernel
theorem dL_games_634 : decode cL_games 634 = .ok (.iconst 2, 1) := by decide +kernel
theorem dL_games_635 : decode cL_games 635 = .ok (.bipush 31, 2) := by decide +kernel
theorem dL_games_637 : decode cL_games 637 = .ok (.invokevirtual 55, 3) := by decide +kernel
theorem dL_games_640 : decode cL_games 640 = .ok (.bipush 31, 2) := by decide +kernel
theorem dL_games_642 : decode cL_games 642 = .ok (.if_icmp .ne 54, 3) := by decide +kernel
theorem dL_games_645 : decode cL_games 645 = .ok (.aload_n 0, 1) := by decide +kernel
theorem dL_games_646 : decode cL_games 646 = .ok (.iconst 2, 1) := by decide +kernel
theorem dL_games_647 : decode cL_games 647 = .ok (.iconst 3, 1) := by decide +kernel
theorem dL_games_648 : decode cL_games 648 = .ok (.iconst 3, 1) := by decide +kernel
theorem dL_games_649 : decode cL_games 649 = .ok (.iconst 3, 1) := by decide +kernel
theorem dL_games_650 : decode cL_games 650 = .ok (.invokevirtual 51, 3) := by decide +kernel
theorem dL_games_653 : decode cL_games 653 = .ok (.iconst 1, 1) := by decide +kernel
theorem dL_games_654 : decode cL_games 654 = .ok (.if_icmp .ne 42, 3) := by decide +kernel
theorem dL_games_657 : decode cL_games 657 = .ok (.aload_n 0, 1) := by decide +kernel
theorem dL_games_658 : decode cL_games 658 = .ok (.iconst 2, 1) := by decide +kernel
theorem dL_games_659 : decode cL_games 659 = .ok (.invokevirtual 102, 3) := by decide +kernel
theorem dL_games_662 : decode cL_games 662 = .ok (.iconst 3, 1) := by decide +kernel
theorem dL_games_663 : decode cL_games 663 = .ok (.if_icmp .ne 33, 3) := by decide +kernel
theorem dL_games_666 : decode cL_games 666 = .ok (.aload_n 0, 1) := by decide +kernel
theorem dL_games_667 : decode cL_games 667 = .ok (.iconst 4, 1) := by decide +kernel
theorem dL_games_668 : decode cL_games 668 = .ok (.iconst 2, 1) := by decide +kernel
theorem dL_games_669 : decode cL_games 669 = .ok (.iconst 3, 1) := by decide +kernel
theorem dL_games_670 : decode cL_games 670 = .ok (.iconst 3, 1) := by decide +kernel
theorem dL_games_671 : decode cL_games 671 = .ok (.iconst 1, 1) := by decide +kernel
theorem dL_games_672 : decode cL_games 672 = .ok (.invokestatic 191, 3) := by decide +kernel
theorem dL_games_675 : decode cL_games 675 = .ok (.sipush (-2013), 3) := by decide +kernel
theorem dL_games_678 : decode cL_games 678 = .ok (.if_icmp .ne 18, 3) := by decide +kernel
theorem dL_games_681 : decode cL_games 681 = .ok (.aload_n 0, 1) := by decide +kernel
theorem dL_games_682 : decode cL_games 682 = .ok (.invokevirtual 170, 3) := by decide +kernel
theorem dL_games_685 : decode cL_games 685 = .ok (.aload_n 0, 1) := by decide +kernel
theorem dL_games_686 : decode cL_games 686 = .ok (.invokevirtual 217, 3) := by decide +kernel
theorem dL_games_689 : decode cL_games 689 = .ok (.if_icmp .ne 7, 3) := by decide +kernel
theorem dL_games_692 : decode cL_games 692 = .ok (.iconst 1, 1) := by decide +kernel
theorem dL_games_693 : decode cL_games 693 = .ok (.goto 4, 3) := by decide +kernel
theorem dL_games_696 : decode cL_games 696 = .ok (.iconst 0, 1) := by decide +kernel
theorem dL_games_697 : decode cL_games 697 = .ok (.ireturn, 1) := by decide +kernel
theorem dL_walks_0 : decode cL_walks 0 = .ok (.new 34, 3) := by decide +kernel
theorem dL_walks_3 : decode cL_walks 3 = .ok (.dup, 1) := by decide +kernel
theorem dL_walks_4 : decode cL_walks 4 = .ok (.invokespecial 216, 3) := by decide +kernel
theorem dL_walks_7 : decode cL_walks 7 = .ok (.astore_n 0, 1) := by decide +kernel
theorem dL_walks_8 : decode cL_walks 8 = .ok (.aload_n 0, 1) := by decide +kernel
theorem dL_walks_9 : decode cL_walks 9 = .ok (.iconst 1, 1) := by decide +kernel
theorem dL_walks_10 : decode cL_walks 10 = .ok (.invokevirtual 68, 3) := by decide +kernel
theorem dL_walks_13 : decode cL_walks 13 = .ok (.ifCond .ne 218, 3) := by decide +kernel
theorem dL_walks_16 : decode cL_walks 16 = .ok (.aload_n 0, 1) := by decide +kernel
theorem dL_walks_17 : decode cL_walks 17 = .ok (.invokevirtual 188, 3) := by decide +kernel
theorem dL_walks_20 : decode cL_walks 20 = .ok (.iconst 1, 1) := by decide +kernel
theorem dL_walks_21 : decode cL_walks 21 = .ok (.if_icmp .ne 210, 3) := by decide +kernel
theorem dL_walks_24 : decode cL_walks 24 = .ok (.aload_n 0, 1) := by decide +kernel
theorem dL_walks_25 : decode cL_walks 25 = .ok (.iconst 0, 1) := by decide +kernel
theorem dL_walks_26 : decode cL_walks 26 = .ok (.iconst 5, 1) := by decide +kernel
theorem dL_walks_27 : decode cL_walks 27 = .ok (.bipush 60, 2) := by decide +kernel
theorem dL_walks_29 : decode cL_walks 29 = .ok (.iconst 1, 1) := by decide +kernel
theorem dL_walks_30 : decode cL_walks 30 = .ok (.iconst 0, 1) := by decide +kernel
theorem dL_walks_31 : decode cL_walks 31 = .ok (.iconst 2, 1) := by decide +kernel
theorem dL_walks_32 : decode cL_walks 32 = .ok (.invokestatic 233, 3) := by decide +kernel
theorem dL_walks_35 : decode cL_walks 35 = .ok (.ifCond .eq 196, 3) := by decide +kernel
theorem dL_walks_38 : decode cL_walks 38 = .ok (.aload_n 0, 1) := by decide +kernel
theorem dL_walks_39 : decode cL_walks 39 = .ok (.invokevirtual 212, 3) := by decide +kernel
theorem dL_walks_42 : decode cL_walks 42 = .ok (.ifCond .ne 189, 3) := by decide +kernel
theorem dL_walks_45 : decode cL_walks 45 = .ok (.aload_n 0, 1) := by decide +kernel
theorem dL_walks_46 : decode cL_walks 46 = .ok (.iconst 3, 1) := by decide +kernel
theorem dL_walks_47 : decode cL_walks 47 = .ok (.invokevirtual 68, 3) := by decide +kernel
theorem dL_walks_50 : decode cL_walks 50 = .ok (.ifCond .ne 181, 3) := by decide +kernel
theorem dL_walks_53 : decode cL_walks 53 = .ok (.aload_n 0, 1) := by decide +kernel
theorem dL_walks_54 : decode cL_walks 54 = .ok (.invokevirtual 212, 3) := by decide +kernel
theorem dL_walks_57 : decode cL_walks 57 = .ok (.ifCond .eq 174, 3) := by decide +kernel
theorem dL_walks_60 : decode cL_walks 60 = .ok (.aload_n 0, 1) := by decide +kernel
theorem dL_walks_61 : decode cL_walks 61 = .ok (.iconst 1, 1) := by decide +kernel
theorem dL_walks_62 : decode cL_walks 62 = .ok (.invokevirtual 68, 3) := by decide +kernel
theorem dL_walks_65 : decode cL_walks 65 = .ok (.ifCond .ne 166, 3) := by decide +kernel
theorem dL_walks_68 : decode cL_walks 68 = .ok (.aload_n 0, 1) := by decide +kernel
theorem dL_walks_69 : decode cL_walks 69 = .ok (.invokevirtual 188, 3) := by decide +kernel
theorem dL_walks_72 : decode cL_walks 72 = .ok (.iconst 2, 1) := by decide +kernel
theorem dL_walks_73 : decode cL_walks 73 = .ok (.if_icmp .ne 158, 3) := by decide +kernel
theorem dL_walks_76 : decode cL_walks 76 = .ok (.aload_n 0, 1) := by decide +kernel
theorem dL_walks_77 : decode cL_walks 77 = .ok (.iconst 1, 1) := by decide +kernel
theorem dL_walks_78 : decode cL_walks 78 = .ok (.bipush 12, 2) := by decide +kernel
theorem dL_walks_80 : decode cL_walks 80 = .ok (.bipush 60, 2) := by decide +kernel
theorem dL_walks_82 : decode cL_walks 82 = .ok (.iconst 1, 1) := by decide +kernel
theorem dL_walks_83 : decode cL_walks 83 = .ok (.iconst 0, 1) := by decide +kernel
theorem dL_walks_84 : decode cL_walks 84 = .ok (.iconst 2, 1) := by decide +kernel
theorem dL_walks_85 : decode cL_walks 85 = .ok (.invokestatic 233, 3) := by decide +kernel
theorem dL_walks_88 : decode cL_walks 88 = .ok (.ifCond .eq 143, 3) := by decide +kernel
theorem dL_walks_91 : decode cL_walks 91 = .ok (.aload_n 0, 1) := by decide +kernel
theorem dL_walks_92 : decode cL_walks 92 = .ok (.iconst 2, 1) := by decide +kernel
theorem dL_walks_93 : decode cL_walks 93 = .ok (.iconst 4, 1) := by decide +kernel
theorem dL_walks_94 : decode cL_walks 94 = .ok (.invokevirtual 65, 3) := by decide +kernel
theorem dL_walks_97 : decode cL_walks 97 = .ok (.ifCond .ne 134, 3) := by decide +kernel
theorem dL_walks_100 : decode cL_walks 100 = .ok (.aload_n 0, 1) := by decide +kernel
theorem dL_walks_101 : decode cL_walks 101 = .ok (.iconst 3, 1) := by decide +kernel
theorem dL_walks_102 : decode cL_walks 102 = .ok (.iconst 1, 1) := by decide +kernel
theorem dL_walks_103 : decode cL_walks 103 = .ok (.invokevirtual 65, 3) := by decide +kernel
theorem dL_walks_106 : decode cL_walks 106 = .ok (.ifCond .ne 125, 3) := by decide +kernel
theorem dL_walks_109 : decode cL_walks 109 = .ok (.aload_n 0, 1) := by decide +kernel
theorem dL_walks_110 : decode cL_walks 110 = .ok (.iconst 3, 1) := by decide +kernel
theorem dL_walks_111 : decode cL_walks 111 = .ok (.invokevirtual 68, 3) := by decide +kernel
theorem dL_walks_114 : decode cL_walks 114 = .ok (.ifCond .ne 117, 3) := by decide +kernel
theorem dL_walks_117 : decode cL_walks 117 = .ok (.aload_n 0, 1) := by decide +kernel
theorem dL_walks_118 : decode cL_walks 118 = .ok (.invokevirtual 212, 3) := by decide +kernel
theorem dL_walks_121 : decode cL_walks 121 = .ok (.ifCond .eq 110, 3) := by decide +kernel
theorem dL_walks_124 : decode cL_walks 124 = .ok (.aload_n 0, 1) := by decide +kernel
theorem dL_walks_125 : decode cL_walks 125 = .ok (.iconst 1, 1) := by decide +kernel
theorem dL_walks_126 : decode cL_walks 126 = .ok (.invokevirtual 68, 3) := by decide +kernel
theorem dL_walks_129 : decode cL_walks 129 = .ok (.ifCond .ne 102, 3) := by decide +kernel
theorem dL_walks_132 : decode cL_walks 132 = .ok (.aload_n 0, 1) := by decide +kernel
theorem dL_walks_133 : decode cL_walks 133 = .ok (.invokevirtual 188, 3) := by decide +kernel
theorem dL_walks_136 : decode cL_walks 136 = .ok (.iconst 3, 1) := by decide +kernel
theorem dL_walks_137 : decode cL_walks 137 = .ok (.if_icmp .ne 94, 3) := by decide +kernel
theorem dL_walks_140 : decode cL_walks 140 = .ok (.aload_n 0, 1) := by decide +kernel
theorem dL_walks_141 : decode cL_walks 141 = .ok (.iconst 2, 1) := by decide +kernel
theorem dL_walks_142 : decode cL_walks 142 = .ok (.bipush 19, 2) := by decide +kernel
theorem dL_walks_144 : decode cL_walks 144 = .ok (.bipush 58, 2) := by decide +kernel
theorem dL_walks_146 : decode cL_walks 146 = .ok (.iconst 1, 1) := by decide +kernel
theorem dL_walks_147 : decode cL_walks 147 = .ok (.iconst 0, 1) := by decide +kernel
theorem dL_walks_148 : decode cL_walks 148 = .ok (.iconst 2, 1) := by decide +kernel
theorem dL_walks_149 : decode cL_walks 149 = .ok (.invokestatic 233, 3) := by decide +kernel
theorem dL_walks_152 : decode cL_walks 152 = .ok (.ifCond .eq 79, 3) := by decide +kernel
theorem dL_walks_155 : decode cL_walks 155 = .ok (.aload_n 0, 1) := by decide +kernel
theorem dL_walks_156 : decode cL_walks 156 = .ok (.iconst 0, 1) := by decide +kernel
theorem dL_walks_157 : decode cL_walks 157 = .ok (.invokevirtual 114, 3) := by decide +kernel
theorem dL_walks_160 : decode cL_walks 160 = .ok (.bipush 58, 2) := by decide +kernel
theorem dL_walks_162 : decode cL_walks 162 = .ok (.if_icmp .ne 69, 3) := by decide +kernel
theorem dL_walks_165 : decode cL_walks 165 = .ok (.aload_n 0, 1) := by decide +kernel
theorem dL_walks_166 : decode cL_walks 166 = .ok (.iconst 3, 1) := by decide +kernel
theorem dL_walks_167 : decode cL_walks 167 = .ok (.invokevirtual 68, 3) := by decide +kernel
theorem dL_walks_170 : decode cL_walks 170 = .ok (.ifCond .ne 61, 3) := by decide +kernel
theorem dL_walks_173 : decode cL_walks 173 = .ok (.aload_n 0, 1) := by decide +kernel
theorem dL_walks_174 : decode cL_walks 174 = .ok (.invokevirtual 212, 3) := by decide +kernel
theorem dL_walks_177 : decode cL_walks 177 = .ok (.ifCond .ne 54, 3) := by decide +kernel
theorem dL_walks_180 : decode cL_walks 180 = .ok (.aload_n 0, 1) := by decide +kernel
theorem dL_walks_181 : decode cL_walks 181 = .ok (.iconst 1, 1) := by decide +kernel
theorem dL_walks_182 : decode cL_walks 182 = .ok (.invokevirtual 68, 3) := by decide +kernel
theorem dL_walks_185 : decode cL_walks 185 = .ok (.ifCond .ne 46, 3) := by decide +kernel
theorem dL_walks_188 : decode cL_walks 188 = .ok (.aload_n 0, 1) := by decide +kernel
theorem dL_walks_189 : decode cL_walks 189 = .ok (.iconst 2, 1) := by decide +kernel
theorem dL_walks_190 : decode cL_walks 190 = .ok (.invokevirtual 114, 3) := by decide +kernel
theorem dL_walks_193 : decode cL_walks 193 = .ok (.bipush 52, 2) := by decide +kernel
theorem dL_walks_195 : decode cL_walks 195 = .ok (.if_icmp .ne 36, 3) := by decide +kernel
theorem dL_walks_198 : decode cL_walks 198 = .ok (.aload_n 0, 1) := by decide +kernel
theorem dL_walks_199 : decode cL_walks 199 = .ok (.bipush 27, 2) := by decide +kernel
theorem dL_walks_201 : decode cL_walks 201 = .ok (.invokevirtual 68, 3) := by decide +kernel
theorem dL_walks_204 : decode cL_walks 204 = .ok (.ifCond .ne 27, 3) := by decide +kernel
theorem dL_walks_207 : decode cL_walks 207 = .ok (.aload_n 0, 1) := by decide +kernel
theorem dL_walks_208 : decode cL_walks 208 = .ok (.invokevirtual 179, 3) := by decide +kernel
theorem dL_walks_211 : decode cL_walks 211 = .ok (.iconst 1, 1) := by decide +kernel
theorem dL_walks_212 : decode cL_walks 212 = .ok (.if_icmp .ne 19, 3) := by decide +kernel
theorem dL_walks_215 : decode cL_walks 215 = .ok (.aload_n 0, 1) := by decide +kernel
theorem dL_walks_216 : decode cL_walks 216 = .ok (.invokevirtual 255, 3) := by decide +kernel
theorem dL_walks_219 : decode cL_walks 219 = .ok (.ifCond .ne 12, 3) := by decide +kernel
theorem dL_walks_222 : decode cL_walks 222 = .ok (.aload_n 0, 1) := by decide +kernel
theorem dL_walks_223 : decode cL_walks 223 = .ok (.invokevirtual 188, 3) := by decide +kernel
theorem dL_walks_226 : decode cL_walks 226 = .ok (.bipush 9, 2) := by decide +kernel
theorem dL_walks_228 : decode cL_walks 228 = .ok (.if_icmp .eq 5, 3) := by decide +kernel
theorem dL_walks_231 : decode cL_walks 231 = .ok (.iconst 0, 1) := by decide +kernel
theorem dL_walks_232 : decode cL_walks 232 = .ok (.ireturn, 1) := by decide +kernel
theorem dL_walks_233 : decode cL_walks 233 = .ok (.iconst 1, 1) := by decide +kernel
theorem dL_walks_234 : decode cL_walks 234 = .ok (.istore_n 1, 1) := by decide +kernel
theorem dL_walks_235 : decode cL_walks 235 = .ok (.iload_n 1, 1) := by decide +kernel
theorem dL_walks_236 : decode cL_walks 236 = .ok (.bipush 6, 2) := by decide +kernel
theorem dL_walks_238 : decode cL_walks 238 = .ok (.if_icmp .ge 44, 3) := by decide +kernel
theorem dL_walks_241 : decode cL_walks 241 = .ok (.aload_n 0, 1) := by decide +kernel
theorem dL_walks_242 : decode cL_walks 242 = .ok (.iconst 0, 1) := by decide +kernel
theorem dL_walks_243 : decode cL_walks 243 = .ok (.invokevirtual 141, 3) := by decide +kernel
theorem dL_walks_246 : decode cL_walks 246 = .ok (.ifCond .ne 28, 3) := by decide +kernel
theorem dL_walks_249 : decode cL_walks 249 = .ok (.aload_n 0, 1) := by decide +kernel
theorem dL_walks_250 : decode cL_walks 250 = .ok (.iconst 2, 1) := by decide +kernel
theorem dL_walks_251 : decode cL_walks 251 = .ok (.invokevirtual 141, 3) := by decide +kernel
theorem dL_walks_254 : decode cL_walks 254 = .ok (.iconst 4, 1) := by decide +kernel
theorem dL_walks_255 : decode cL_walks 255 = .ok (.if_icmp .ne 19, 3) := by decide +kernel
theorem dL_walks_258 : decode cL_walks 258 = .ok (.aload_n 0, 1) := by decide +kernel
theorem dL_walks_259 : decode cL_walks 259 = .ok (.bipush 40, 2) := by decide +kernel
theorem dL_walks_261 : decode cL_walks 261 = .ok (.invokevirtual 68, 3) := by decide +kernel
theorem dL_walks_264 : decode cL_walks 264 = .ok (.ifCond .ne 10, 3) := by decide +kernel
theorem dL_walks_267 : decode cL_walks 267 = .ok (.aload_n 0, 1) := by decide +kernel
theorem dL_walks_268 : decode cL_walks 268 = .ok (.invokevirtual 255, 3) := by decide +kernel
theorem dL_walks_271 : decode cL_walks 271 = .ok (.ifCond .eq 5, 3) := by decide +kernel
theorem dL_walks_274 : decode cL_walks 274 = .ok (.iconst 0, 1) := by decide +kernel
theorem dL_walks_275 : decode cL_walks 275 = .ok (.ireturn, 1) := by decide +kernel
theorem dL_walks_276 : decode cL_walks 276 = .ok (.iinc 1 1, 3) := by decide +kernel
theorem dL_walks_279 : decode cL_walks 279 = .ok (.goto (-44), 3) := by decide +kernel
theorem dL_walks_282 : decode cL_walks 282 = .ok (.aload_n 0, 1) := by decide +kernel
theorem dL_walks_283 : decode cL_walks 283 = .ok (.invokevirtual 179, 3) := by decide +kernel
theorem dL_walks_286 : decode cL_walks 286 = .ok (.bipush 6, 2) := by decide +kernel
theorem dL_walks_288 : decode cL_walks 288 = .ok (.if_icmp .ne 235, 3) := by decide +kernel
theorem dL_walks_291 : decode cL_walks 291 = .ok (.aload_n 0, 1) := by decide +kernel
theorem dL_walks_292 : decode cL_walks 292 = .ok (.iconst 0, 1) := by decide +kernel
theorem dL_walks_293 : decode cL_walks 293 = .ok (.invokevirtual 141, 3) := by decide +kernel
theorem dL_walks_296 : decode cL_walks 296 = .ok (.iconst 4, 1) := by decide +kernel
theorem dL_walks_297 : decode cL_walks 297 = .ok (.if_icmp .ne 226, 3) := by decide +kernel
theorem dL_walks_300 : decode cL_walks 300 = .ok (.aload_n 0, 1) := by decide +kernel
theorem dL_walks_301 : decode cL_walks 301 = .ok (.iconst 2, 1) := by decide +kernel
theorem dL_walks_302 : decode cL_walks 302 = .ok (.invokevirtual 141, 3) := by decide +kernel
theorem dL_walks_305 : decode cL_walks 305 = .ok (.bipush 8, 2) := by decide +kernel
theorem dL_walks_307 : decode cL_walks 307 = .ok (.if_icmp .ne 216, 3) := by decide +kernel
theorem dL_walks_310 : decode cL_walks 310 = .ok (.aload_n 0, 1) := by decide +kernel
theorem dL_walks_311 : decode cL_walks 311 = .ok (.iconst 3, 1) := by decide +kernel
theorem dL_walks_312 : decode cL_walks 312 = .ok (.invokevirtual 141, 3) := by decide +kernel
theorem dL_walks_315 : decode cL_walks 315 = .ok (.iconst 5, 1) := by decide +kernel
theorem dL_walks_316 : decode cL_walks 316 = .ok (.if_icmp .ne 207, 3) := by decide +kernel
theorem dL_walks_319 : decode cL_walks 319 = .ok (.aload_n 0, 1) := by decide +kernel
theorem dL_walks_320 : decode cL_walks 320 = .ok (.iconst 1, 1) := by decide +kernel
theorem dL_walks_321 : decode cL_walks 321 = .ok (.bipush 9, 2) := by decide +kernel
theorem dL_walks_323 : decode cL_walks 323 = .ok (.invokevirtual 65, 3) := by decide +kernel
theorem dL_walks_326 : decode cL_walks 326 = .ok (.ifCond .ne 197, 3) := by decide +kernel
theorem dL_walks_329 : decode cL_walks 329 = .ok (.aload_n 0, 1) := by decide +kernel
theorem dL_walks_330 : decode cL_walks 330 = .ok (.iconst 1, 1) := by decide +kernel
theorem dL_walks_331 : decode cL_walks 331 = .ok (.invokevirtual 141, 3) := by decide +kernel
theorem dL_walks_334 : decode cL_walks 334 = .ok (.bipush 9, 2) := by decide +kernel
theorem dL_walks_336 : decode cL_walks 336 = .ok (.if_icmp .ne 187, 3) := by decide +kernel
theorem dL_walks_339 : decode cL_walks 339 = .ok (.aload_n 0, 1) := by decide +kernel
theorem dL_walks_340 : decode cL_walks 340 = .ok (.invokevirtual 212, 3) := by decide +kernel
theorem dL_walks_343 : decode cL_walks 343 = .ok (.ifCond .eq 180, 3) := by decide +kernel
theorem dL_walks_346 : decode cL_walks 346 = .ok (.aload_n 0, 1) := by decide +kernel
theorem dL_walks_347 : decode cL_walks 347 = .ok (.invokevirtual 188, 3) := by decide +kernel
theorem dL_walks_350 : decode cL_walks 350 = .ok (.bipush 54, 2) := by decide +kernel
theorem dL_walks_352 : decode cL_walks 352 = .ok (.if_icmp .ne 171, 3) := by decide +kernel
theorem dL_walks_355 : decode cL_walks 355 = .ok (.aload_n 0, 1) := by decide +kernel
theorem dL_walks_356 : decode cL_walks 356 = .ok (.iconst 1, 1) := by decide +kernel
theorem dL_walks_357 : decode cL_walks 357 = .ok (.invokevirtual 68, 3) := by decide +kernel
theorem dL_walks_360 : decode cL_walks 360 = .ok (.ifCond .ne 163, 3) := by decide +kernel
theorem dL_walks_363 : decode cL_walks 363 = .ok (.aload_n 0, 1) := by decide +kernel
theorem dL_walks_364 : decode cL_walks 364 = .ok (.invokevirtual 188, 3) := by decide +kernel
theorem dL_walks_367 : decode cL_walks 367 = .ok (.bipush 55, 2) := by decide +kernel
theorem dL_walks_369 : decode cL_walks 369 = .ok (.if_icmp .ne 154, 3) := by decide +kernel
theorem dL_walks_372 : decode cL_walks 372 = .ok (.aload_n 0, 1) := by decide +kernel
theorem dL_walks_373 : decode cL_walks 373 = .ok (.bipush 54, 2) := by decide +kernel
theorem dL_walks_375 : decode cL_walks 375 = .ok (.bipush 8, 2) := by decide +kernel
theorem dL_walks_377 : decode cL_walks 377 = .ok (.bipush 58, 2) := by decide +kernel
theorem dL_walks_379 : decode cL_walks 379 = .ok (.iconst 1, 1) := by decide +kernel
theorem dL_walks_380 : decode cL_walks 380 = .ok (.iconst 0, 1) := by decide +kernel
theorem dL_walks_381 : decode cL_walks 381 = .ok (.iconst 2, 1) := by decide +kernel
theorem dL_walks_382 : decode cL_walks 382 = .ok (.invokestatic 233, 3) := by decide +kernel
theorem dL_walks_385 : decode cL_walks 385 = .ok (.ifCond .eq 138, 3) := by decide +kernel
theorem dL_walks_388 : decode cL_walks 388 = .ok (.aload_n 0, 1) := by decide +kernel
theorem dL_walks_389 : decode cL_walks 389 = .ok (.iconst 0, 1) := by decide +kernel
theorem dL_walks_390 : decode cL_walks 390 = .ok (.bipush 9, 2) := by decide +kernel
theorem dL_walks_392 : decode cL_walks 392 = .ok (.invokevirtual 65, 3) := by decide +kernel
theorem dL_walks_395 : decode cL_walks 395 = .ok (.ifCond .ne 128, 3) := by decide +kernel
theorem dL_walks_398 : decode cL_walks 398 = .ok (.aload_n 0, 1) := by decide +kernel
theorem dL_walks_399 : decode cL_walks 399 = .ok (.iconst 3, 1) := by decide +kernel
theorem dL_walks_400 : decode cL_walks 400 = .ok (.invokevirtual 68, 3) := by decide +kernel
theorem dL_walks_403 : decode cL_walks 403 = .ok (.ifCond .ne 120, 3) := by decide +kernel
theorem dL_walks_406 : decode cL_walks 406 = .ok (.aload_n 0, 1) := by decide +kernel
theorem dL_walks_407 : decode cL_walks 407 = .ok (.bipush 54, 2) := by decide +kernel
theorem dL_walks_409 : decode cL_walks 409 = .ok (.invokevirtual 114, 3) := by decide +kernel
theorem dL_walks_412 : decode cL_walks 412 = .ok (.bipush 46, 2) := by decide +kernel
theorem dL_walks_414 : decode cL_walks 414 = .ok (.if_icmp .ne 109, 3) := by decide +kernel
theorem dL_walks_417 : decode cL_walks 417 = .ok (.aload_n 0, 1) := by decide +kernel
theorem dL_walks_418 : decode cL_walks 418 = .ok (.iconst 4, 1) := by decide +kernel
theorem dL_walks_419 : decode cL_walks 419 = .ok (.invokevirtual 68, 3) := by decide +kernel
theorem dL_walks_422 : decode cL_walks 422 = .ok (.ifCond .ne 101, 3) := by decide +kernel
theorem dL_walks_425 : decode cL_walks 425 = .ok (.aload_n 0, 1) := by decide +kernel
theorem dL_walks_426 : decode cL_walks 426 = .ok (.bipush 54, 2) := by decide +kernel
theorem dL_walks_428 : decode cL_walks 428 = .ok (.invokevirtual 114, 3) := by decide +kernel
theorem dL_walks_431 : decode cL_walks 431 = .ok (.bipush 30, 2) := by decide +kernel
theorem dL_walks_433 : decode cL_walks 433 = .ok (.if_icmp .ne 90, 3) := by decide +kernel
theorem dL_walks_436 : decode cL_walks 436 = .ok (.aload_n 0, 1) := by decide +kernel
theorem dL_walks_437 : decode cL_walks 437 = .ok (.iconst 2, 1) := by decide +kernel
theorem dL_walks_438 : decode cL_walks 438 = .ok (.bipush 9, 2) := by decide +kernel
theorem dL_walks_440 : decode cL_walks 440 = .ok (.invokevirtual 65, 3) := by decide +kernel
theorem dL_walks_443 : decode cL_walks 443 = .ok (.iconst 4, 1) := by decide +kernel
theorem dL_walks_444 : decode cL_walks 444 = .ok (.if_icmp .ne 79, 3) := by decide +kernel
theorem dL_walks_447 : decode cL_walks 447 = .ok (.aload_n 0, 1) := by decide +kernel
theorem dL_walks_448 : decode cL_walks 448 = .ok (.iconst 3, 1) := by decide +kernel
theorem dL_walks_449 : decode cL_walks 449 = .ok (.bipush 9, 2) := by decide +kernel
theorem dL_walks_451 : decode cL_walks 451 = .ok (.invokevirtual 65, 3) := by decide +kernel
theorem dL_walks_454 : decode cL_walks 454 = .ok (.iconst 1, 1) := by decide +kernel
theorem dL_walks_455 : decode cL_walks 455 = .ok (.if_icmp .ne 68, 3) := by decide +kernel
theorem dL_walks_458 : decode cL_walks 458 = .ok (.aload_n 0, 1) := by decide +kernel
theorem dL_walks_459 : decode cL_walks 459 = .ok (.bipush 54, 2) := by decide +kernel
theorem dL_walks_461 : decode cL_walks 461 = .ok (.invokevirtual 129, 3) := by decide +kernel
theorem dL_walks_464 : decode cL_walks 464 = .ok (.bipush 8, 2) := by decide +kernel
theorem dL_walks_466 : decode cL_walks 466 = .ok (.if_icmp .ne 57, 3) := by decide +kernel
theorem dL_walks_469 : decode cL_walks 469 = .ok (.aload_n 0, 1) := by decide +kernel
theorem dL_walks_470 : decode cL_walks 470 = .ok (.bipush 7, 2) := by decide +kernel
theorem dL_walks_472 : decode cL_walks 472 = .ok (.invokevirtual 68, 3) := by decide +kernel
theorem dL_walks_475 : decode cL_walks 475 = .ok (.ifCond .ne 48, 3) := by decide +kernel
theorem dL_walks_478 : decode cL_walks 478 = .ok (.aload_n 0, 1) := by decide +kernel
theorem dL_walks_479 : decode cL_walks 479 = .ok (.bipush 54, 2) := by decide +kernel
theorem dL_walks_481 : decode cL_walks 481 = .ok (.invokevirtual 114, 3) := by decide +kernel
theorem dL_walks_484 : decode cL_walks 484 = .ok (.iconst 2, 1) := by decide +kernel
theorem dL_walks_485 : decode cL_walks 485 = .ok (.if_icmp .ne 38, 3) := by decide +kernel
theorem dL_walks_488 : decode cL_walks 488 = .ok (.aload_n 0, 1) := by decide +kernel
theorem dL_walks_489 : decode cL_walks 489 = .ok (.bipush 54, 2) := by decide +kernel
theorem dL_walks_491 : decode cL_walks 491 = .ok (.invokevirtual 108, 3) := by decide +kernel
theorem dL_walks_494 : decode cL_walks 494 = .ok (.ifCond .eq 29, 3) := by decide +kernel
theorem dL_walks_497 : decode cL_walks 497 = .ok (.aload_n 0, 1) := by decide +kernel
theorem dL_walks_498 : decode cL_walks 498 = .ok (.iconst 1, 1) := by decide +kernel
theorem dL_walks_499 : decode cL_walks 499 = .ok (.invokevirtual 68, 3) := by decide +kernel
theorem dL_walks_502 : decode cL_walks 502 = .ok (.ifCond .ne 21, 3) := by decide +kernel
theorem dL_walks_505 : decode cL_walks 505 = .ok (.aload_n 0, 1) := by decide +kernel
theorem dL_walks_506 : decode cL_walks 506 = .ok (.bipush 54, 2) := by decide +kernel
theorem dL_walks_508 : decode cL_walks 508 = .ok (.invokevirtual 114, 3) := by decide +kernel
theorem dL_walks_511 : decode cL_walks 511 = .ok (.ifCond .ne 12, 3) := by decide +kernel
theorem dL_walks_514 : decode cL_walks 514 = .ok (.aload_n 0, 1) := by decide +kernel
theorem dL_walks_515 : decode cL_walks 515 = .ok (.bipush 54, 2) := by decide +kernel
theorem dL_walks_517 : decode cL_walks 517 = .ok (.invokevirtual 108, 3) := by decide +kernel
theorem dL_walks_520 : decode cL_walks 520 = .ok (.ifCond .eq 5, 3) := by decide +kernel
theorem dL_walks_523 : decode cL_walks 523 = .ok (.iconst 0, 1) := by decide +kernel
theorem dL_walks_524 : decode cL_walks 524 = .ok (.ireturn, 1) := by decide +kernel
theorem dL_walks_525 : decode cL_walks 525 = .ok (.aload_n 0, 1) := by decide +kernel
theorem dL_walks_526 : decode cL_walks 526 = .ok (.bipush 54, 2) := by decide +kernel
theorem dL_walks_528 : decode cL_walks 528 = .ok (.invokevirtual 120, 3) := by decide +kernel
theorem dL_walks_531 : decode cL_walks 531 = .ok (.ifCond .eq 25, 3) := by decide +kernel
theorem dL_walks_534 : decode cL_walks 534 = .ok (.aload_n 0, 1) := by decide +kernel
theorem dL_walks_535 : decode cL_walks 535 = .ok (.bipush 54, 2) := by decide +kernel
theorem dL_walks_537 : decode cL_walks 537 = .ok (.invokevirtual 111, 3) := by decide +kernel
theorem dL_walks_540 : decode cL_walks 540 = .ok (.bipush 8, 2) := by decide +kernel
theorem dL_walks_542 : decode cL_walks 542 = .ok (.if_icmp .ne 14, 3) := by decide +kernel
theorem dL_walks_545 : decode cL_walks 545 = .ok (.aload_n 0, 1) := by decide +kernel
theorem dL_walks_546 : decode cL_walks 546 = .ok (.invokestatic 223, 3) := by decide +kernel
theorem dL_walks_549 : decode cL_walks 549 = .ok (.ifCond .eq 7, 3) := by decide +kernel
theorem dL_walks_552 : decode cL_walks 552 = .ok (.iconst 1, 1) := by decide +kernel
theorem dL_walks_553 : decode cL_walks 553 = .ok (.goto 4, 3) := by decide +kernel
theorem dL_walks_556 : decode cL_walks 556 = .ok (.iconst 0, 1) := by decide +kernel
theorem dL_walks_557 : decode cL_walks 557 = .ok (.ireturn, 1) := by decide +kernel
theorem dL_limits_0 : decode cL_limits 0 = .ok (.new 34, 3) := by decide +kernel
theorem dL_limits_3 : decode cL_limits 3 = .ok (.dup, 1) := by decide +kernel
theorem dL_limits_4 : decode cL_limits 4 = .ok (.invokespecial 216, 3) := by decide +kernel
theorem dL_limits_7 : decode cL_limits 7 = .ok (.astore_n 0, 1) := by decide +kernel
theorem dL_limits_8 : decode cL_limits 8 = .ok (.aload_n 0, 1) := by decide +kernel
theorem dL_limits_9 : decode cL_limits 9 = .ok (.bipush 9, 2) := by decide +kernel
theorem dL_limits_11 : decode cL_limits 11 = .ok (.invokestatic 227, 3) := by decide +kernel
theorem dL_limits_14 : decode cL_limits 14 = .ok (.ifCond .ne 5, 3) := by decide +kernel
theorem dL_limits_17 : decode cL_limits 17 = .ok (.iconst 0, 1) := by decide +kernel
theorem dL_limits_18 : decode cL_limits 18 = .ok (.ireturn, 1) := by decide +kernel
theorem dL_limits_19 : decode cL_limits 19 = .ok (.iconst 0, 1) := by decide +kernel
theorem dL_limits_20 : decode cL_limits 20 = .ok (.istore_n 1, 1) := by decide +kernel
theorem dL_limits_21 : decode cL_limits 21 = .ok (.iload_n 1, 1) := by decide +kernel
theorem dL_limits_22 : decode cL_limits 22 = .ok (.bipush 6, 2) := by decide +kernel
theorem dL_limits_24 : decode cL_limits 24 = .ok (.if_icmp .ge 34, 3) := by decide +kernel
theorem dL_limits_27 : decode cL_limits 27 = .ok (.aload_n 0, 1) := by decide +kernel
theorem dL_limits_28 : decode cL_limits 28 = .ok (.iconst 2, 1) := by decide +kernel
theorem dL_limits_29 : decode cL_limits 29 = .ok (.iload_n 1, 1) := by decide +kernel
theorem dL_limits_30 : decode cL_limits 30 = .ok (.imul, 1) := by decide +kernel
theorem dL_limits_31 : decode cL_limits 31 = .ok (.iconst 0, 1) := by decide +kernel
theorem dL_limits_32 : decode cL_limits 32 = .ok (.iconst 1, 1) := by decide +kernel
theorem dL_limits_33 : decode cL_limits 33 = .ok (.iload_n 1, 1) := by decide +kernel
theorem dL_limits_34 : decode cL_limits 34 = .ok (.iconst 2, 1) := by decide +kernel
theorem dL_limits_35 : decode cL_limits 35 = .ok (.if_icmp .ge 7, 3) := by decide +kernel
theorem dL_limits_38 : decode cL_limits 38 = .ok (.iconst 1, 1) := by decide +kernel
theorem dL_limits_39 : decode cL_limits 39 = .ok (.goto 4, 3) := by decide +kernel
theorem dL_limits_42 : decode cL_limits 42 = .ok (.iconst 0, 1) := by decide +kernel
theorem dL_limits_43 : decode cL_limits 43 = .ok (.invokevirtual 33, 3) := by decide +kernel
theorem dL_limits_46 : decode cL_limits 46 = .ok (.iload_n 1, 1) := by decide +kernel
theorem dL_limits_47 : decode cL_limits 47 = .ok (.if_icmp .eq 5, 3) := by decide +kernel
theorem dL_limits_50 : decode cL_limits 50 = .ok (.iconst 0, 1) := by decide +kernel
theorem dL_limits_51 : decode cL_limits 51 = .ok (.ireturn, 1) := by decide +kernel
theorem dL_limits_52 : decode cL_limits 52 = .ok (.iinc 1 1, 3) := by decide +kernel
theorem dL_limits_55 : decode cL_limits 55 = .ok (.goto (-34), 3) := by decide +kernel
theorem dL_limits_58 : decode cL_limits 58 = .ok (.aload_n 0, 1) := by decide +kernel
theorem dL_limits_59 : decode cL_limits 59 = .ok (.invokevirtual 164, 3) := by decide +kernel
theorem dL_limits_62 : decode cL_limits 62 = .ok (.sipush 280, 3) := by decide +kernel
theorem dL_limits_65 : decode cL_limits 65 = .ok (.if_icmp .ne 220, 3) := by decide +kernel
theorem dL_limits_68 : decode cL_limits 68 = .ok (.aload_n 0, 1) := by decide +kernel
theorem dL_limits_69 : decode cL_limits 69 = .ok (.iconst 0, 1) := by decide +kernel
theorem dL_limits_70 : decode cL_limits 70 = .ok (.iconst 1, 1) := by decide +kernel
theorem dL_limits_71 : decode cL_limits 71 = .ok (.iconst 0, 1) := by decide +kernel
theorem dL_limits_72 : decode cL_limits 72 = .ok (.iconst 1, 1) := by decide +kernel
theorem dL_limits_73 : decode cL_limits 73 = .ok (.iconst 0, 1) := by decide +kernel
theorem dL_limits_74 : decode cL_limits 74 = .ok (.invokestatic 191, 3) := by decide +kernel
theorem dL_limits_77 : decode cL_limits 77 = .ok (.sipush (-2013), 3) := by decide +kernel
theorem dL_limits_80 : decode cL_limits 80 = .ok (.if_icmp .ne 205, 3) := by decide +kernel
theorem dL_limits_83 : decode cL_limits 83 = .ok (.aload_n 0, 1) := by decide +kernel
theorem dL_limits_84 : decode cL_limits 84 = .ok (.iconst 4, 1) := by decide +kernel
theorem dL_limits_85 : decode cL_limits 85 = .ok (.bipush 9, 2) := by decide +kernel
theorem dL_limits_87 : decode cL_limits 87 = .ok (.invokevirtual 144, 3) := by decide +kernel
theorem dL_limits_90 : decode cL_limits 90 = .ok (.iconst 1, 1) := by decide +kernel
theorem dL_limits_91 : decode cL_limits 91 = .ok (.if_icmp .ne 194, 3) := by decide +kernel
theorem dL_limits_94 : decode cL_limits 94 = .ok (.aload_n 0, 1) := by decide +kernel
theorem dL_limits_95 : decode cL_limits 95 = .ok (.iconst 0, 1) := by decide +kernel
theorem dL_limits_96 : decode cL_limits 96 = .ok (.bipush 99, 2) := by decide +kernel
theorem dL_limits_98 : decode cL_limits 98 = .ok (.invokevirtual 55, 3) := by decide +kernel
theorem dL_limits_101 : decode cL_limits 101 = .ok (.bipush 99, 2) := by decide +kernel
theorem dL_limits_103 : decode cL_limits 103 = .ok (.if_icmp .ne 182, 3) := by decide +kernel
theorem dL_limits_106 : decode cL_limits 106 = .ok (.aload_n 0, 1) := by decide +kernel
theorem dL_limits_107 : decode cL_limits 107 = .ok (.iconst 0, 1) := by decide +kernel
theorem dL_limits_108 : decode cL_limits 108 = .ok (.bipush 99, 2) := by decide +kernel
theorem dL_limits_110 : decode cL_limits 110 = .ok (.invokevirtual 55, 3) := by decide +kernel
theorem dL_limits_113 : decode cL_limits 113 = .ok (.sipush 198, 3) := by decide +kernel
theorem dL_limits_116 : decode cL_limits 116 = .ok (.if_icmp .ne 169, 3) := by decide +kernel
theorem dL_limits_119 : decode cL_limits 119 = .ok (.aload_n 0, 1) := by decide +kernel
theorem dL_limits_120 : decode cL_limits 120 = .ok (.iconst 1, 1) := by decide +kernel
theorem dL_limits_121 : decode cL_limits 121 = .ok (.bipush 82, 2) := by decide +kernel
theorem dL_limits_123 : decode cL_limits 123 = .ok (.invokevirtual 55, 3) := by decide +kernel
theorem dL_limits_126 : decode cL_limits 126 = .ok (.bipush 82, 2) := by decide +kernel
theorem dL_limits_128 : decode cL_limits 128 = .ok (.if_icmp .ne 157, 3) := by decide +kernel
theorem dL_limits_131 : decode cL_limits 131 = .ok (.aload_n 0, 1) := by decide +kernel
theorem dL_limits_132 : decode cL_limits 132 = .ok (.iconst 5, 1) := by decide +kernel
theorem dL_limits_133 : decode cL_limits 133 = .ok (.iconst 1, 1) := by decide +kernel
theorem dL_limits_134 : decode cL_limits 134 = .ok (.iconst 1, 1) := by decide +kernel
theorem dL_limits_135 : decode cL_limits 135 = .ok (.iconst 0, 1) := by decide +kernel
theorem dL_limits_136 : decode cL_limits 136 = .ok (.iconst 0, 1) := by decide +kernel
theorem dL_limits_137 : decode cL_limits 137 = .ok (.invokestatic 191, 3) := by decide +kernel
theorem dL_limits_140 : decode cL_limits 140 = .ok (.sipush (-2013), 3) := by decide +kernel
theorem dL_limits_143 : decode cL_limits 143 = .ok (.if_icmp .ne 142, 3) := by decide +kernel
theorem dL_limits_146 : decode cL_limits 146 = .ok (.aload_n 0, 1) := by decide +kernel
theorem dL_limits_147 : decode cL_limits 147 = .ok (.iconst 0, 1) := by decide +kernel
theorem dL_limits_148 : decode cL_limits 148 = .ok (.iconst 0, 1) := by decide +kernel
theorem dL_limits_149 : decode cL_limits 149 = .ok (.iconst 0, 1) := by decide +kernel
theorem dL_limits_150 : decode cL_limits 150 = .ok (.bipush 39, 2) := by decide +kernel
theorem dL_limits_152 : decode cL_limits 152 = .ok (.invokevirtual 51, 3) := by decide +kernel
theorem dL_limits_155 : decode cL_limits 155 = .ok (.sipush 159, 3) := by decide +kernel
theorem dL_limits_158 : decode cL_limits 158 = .ok (.if_icmp .ne 127, 3) := by decide +kernel
theorem dL_limits_161 : decode cL_limits 161 = .ok (.aload_n 0, 1) := by decide +kernel
theorem dL_limits_162 : decode cL_limits 162 = .ok (.iconst 4, 1) := by decide +kernel
theorem dL_limits_163 : decode cL_limits 163 = .ok (.iconst 0, 1) := by decide +kernel
theorem dL_limits_164 : decode cL_limits 164 = .ok (.iconst 0, 1) := by decide +kernel
theorem dL_limits_165 : decode cL_limits 165 = .ok (.iconst 1, 1) := by decide +kernel
theorem dL_limits_166 : decode cL_limits 166 = .ok (.iconst 2, 1) := by decide +kernel
theorem dL_limits_167 : decode cL_limits 167 = .ok (.invokestatic 191, 3) := by decide +kernel
theorem dL_limits_170 : decode cL_limits 170 = .ok (.sipush (-2013), 3) := by decide +kernel
theorem dL_limits_173 : decode cL_limits 173 = .ok (.if_icmp .ne 112, 3) := by decide +kernel
theorem dL_limits_176 : decode cL_limits 176 = .ok (.aload_n 0, 1) := by decide +kernel
theorem dL_limits_177 : decode cL_limits 177 = .ok (.iconst 0, 1) := by decide +kernel
theorem dL_limits_178 : decode cL_limits 178 = .ok (.iconst 0, 1) := by decide +kernel
theorem dL_limits_179 : decode cL_limits 179 = .ok (.iconst 1, 1) := by decide +kernel
theorem dL_limits_180 : decode cL_limits 180 = .ok (.iconst 1, 1) := by decide +kernel
theorem dL_limits_181 : decode cL_limits 181 = .ok (.invokevirtual 51, 3) := by decide +kernel
theorem dL_limits_184 : decode cL_limits 184 = .ok (.sipush 158, 3) := by decide +kernel
theorem dL_limits_187 : decode cL_limits 187 = .ok (.if_icmp .ne 98, 3) := by decide +kernel
theorem dL_limits_190 : decode cL_limits 190 = .ok (.aload_n 0, 1) := by decide +kernel
theorem dL_limits_191 : decode cL_limits 191 = .ok (.iconst 4, 1) := by decide +kernel
theorem dL_limits_192 : decode cL_limits 192 = .ok (.iconst 0, 1) := by decide +kernel
theorem dL_limits_193 : decode cL_limits 193 = .ok (.iconst 0, 1) := by decide +kernel
theorem dL_limits_194 : decode cL_limits 194 = .ok (.iconst 1, 1) := by decide +kernel
theorem dL_limits_195 : decode cL_limits 195 = .ok (.iconst 1, 1) := by decide +kernel
theorem dL_limits_196 : decode cL_limits 196 = .ok (.invokestatic 191, 3) := by decide +kernel
theorem dL_limits_199 : decode cL_limits 199 = .ok (.sipush (-2013), 3) := by decide +kernel
theorem dL_limits_202 : decode cL_limits 202 = .ok (.if_icmp .ne 83, 3) := by decide +kernel
theorem dL_limits_205 : decode cL_limits 205 = .ok (.aload_n 0, 1) := by decide +kernel
theorem dL_limits_206 : decode cL_limits 206 = .ok (.iconst 2, 1) := by decide +kernel
theorem dL_limits_207 : decode cL_limits 207 = .ok (.invokevirtual 39, 3) := by decide +kernel
theorem dL_limits_210 : decode cL_limits 210 = .ok (.ifCond .ne 75, 3) := by decide +kernel
theorem dL_limits_213 : decode cL_limits 213 = .ok (.aload_n 0, 1) := by decide +kernel
theorem dL_limits_214 : decode cL_limits 214 = .ok (.iconst 2, 1) := by decide +kernel
theorem dL_limits_215 : decode cL_limits 215 = .ok (.invokevirtual 78, 3) := by decide +kernel
theorem dL_limits_218 : decode cL_limits 218 = .ok (.bipush 6, 2) := by decide +kernel
theorem dL_limits_220 : decode cL_limits 220 = .ok (.if_icmp .ne 65, 3) := by decide +kernel
theorem dL_limits_223 : decode cL_limits 223 = .ok (.aload_n 0, 1) := by decide +kernel
theorem dL_limits_224 : decode cL_limits 224 = .ok (.iconst 0, 1) := by decide +kernel
theorem dL_limits_225 : decode cL_limits 225 = .ok (.iconst 5, 1) := by decide +kernel
theorem dL_limits_226 : decode cL_limits 226 = .ok (.iconst 0, 1) := by decide +kernel
theorem dL_limits_227 : decode cL_limits 227 = .ok (.iconst 1, 1) := by decide +kernel
theorem dL_limits_228 : decode cL_limits 228 = .ok (.iconst 0, 1) := by decide +kernel
theorem dL_limits_229 : decode cL_limits 229 = .ok (.invokestatic 191, 3) := by decide +kernel
theorem dL_limits_232 : decode cL_limits 232 = .ok (.sipush (-2013), 3) := by decide +kernel
theorem dL_limits_235 : decode cL_limits 235 = .ok (.if_icmp .ne 50, 3) := by decide +kernel
theorem dL_limits_238 : decode cL_limits 238 = .ok (.aload_n 0, 1) := by decide +kernel
theorem dL_limits_239 : decode cL_limits 239 = .ok (.iconst 1, 1) := by decide +kernel
theorem dL_limits_240 : decode cL_limits 240 = .ok (.invokevirtual 58, 3) := by decide +kernel
theorem dL_limits_243 : decode cL_limits 243 = .ok (.bipush 82, 2) := by decide +kernel
theorem dL_limits_245 : decode cL_limits 245 = .ok (.if_icmp .ne 40, 3) := by decide +kernel
theorem dL_limits_248 : decode cL_limits 248 = .ok (.aload_n 0, 1) := by decide +kernel
theorem dL_limits_249 : decode cL_limits 249 = .ok (.iconst 5, 1) := by decide +kernel
theorem dL_limits_250 : decode cL_limits 250 = .ok (.iconst 0, 1) := by decide +kernel
theorem dL_limits_251 : decode cL_limits 251 = .ok (.iconst 1, 1) := by decide +kernel
theorem dL_limits_252 : decode cL_limits 252 = .ok (.iconst 1, 1) := by decide +kernel
theorem dL_limits_253 : decode cL_limits 253 = .ok (.invokevirtual 33, 3) := by decide +kernel
theorem dL_limits_256 : decode cL_limits 256 = .ok (.iconst 5, 1) := by decide +kernel
theorem dL_limits_257 : decode cL_limits 257 = .ok (.if_icmp .ne 28, 3) := by decide +kernel
theorem dL_limits_260 : decode cL_limits 260 = .ok (.aload_n 0, 1) := by decide +kernel
theorem dL_limits_261 : decode cL_limits 261 = .ok (.invokevirtual 164, 3) := by decide +kernel
theorem dL_limits_264 : decode cL_limits 264 = .ok (.bipush 32, 2) := by decide +kernel
theorem dL_limits_266 : decode cL_limits 266 = .ok (.if_icmp .ne 19, 3) := by decide +kernel
theorem dL_limits_269 : decode cL_limits 269 = .ok (.aload_n 0, 1) := by decide +kernel
theorem dL_limits_270 : decode cL_limits 270 = .ok (.iconst 0, 1) := by decide +kernel
theorem dL_limits_271 : decode cL_limits 271 = .ok (.bipush 7, 2) := by decide +kernel
theorem dL_limits_273 : decode cL_limits 273 = .ok (.iconst 0, 1) := by decide +kernel
theorem dL_limits_274 : decode cL_limits 274 = .ok (.iconst 1, 1) := by decide +kernel
theorem dL_limits_275 : decode cL_limits 275 = .ok (.iconst 0, 1) := by decide +kernel
theorem dL_limits_276 : decode cL_limits 276 = .ok (.invokestatic 191, 3) := by decide +kernel
theorem dL_limits_279 : decode cL_limits 279 = .ok (.sipush (-2013), 3) := by decide +kernel
theorem dL_limits_282 : decode cL_limits 282 = .ok (.if_icmp .eq 5, 3) := by decide +kernel
theorem dL_limits_285 : decode cL_limits 285 = .ok (.iconst 0, 1) := by decide +kernel
theorem dL_limits_286 : decode cL_limits 286 = .ok (.ireturn, 1) := by decide +kernel
theorem dL_limits_287 : decode cL_limits 287 = .ok (.iconst 0, 1) := by decide +kernel
theorem dL_limits_288 : decode cL_limits 288 = .ok (.istore_n 1, 1) := by decide +kernel
theorem dL_limits_289 : decode cL_limits 289 = .ok (.iload_n 1, 1) := by decide +kernel
theorem dL_limits_290 : decode cL_limits 290 = .ok (.sipush 200, 3) := by decide +kernel
theorem dL_limits_293 : decode cL_limits 293 = .ok (.if_icmp .ge 76, 3) := by decide +kernel
theorem dL_limits_296 : decode cL_limits 296 = .ok (.aload_n 0, 1) := by decide +kernel
theorem dL_limits_297 : decode cL_limits 297 = .ok (.iload_n 1, 1) := by decide +kernel
theorem dL_limits_298 : decode cL_limits 298 = .ok (.iconst 2, 1) := by decide +kernel
theorem dL_limits_299 : decode cL_limits 299 = .ok (.irem, 1) := by decide +kernel
theorem dL_limits_300 : decode cL_limits 300 = .ok (.iconst 1, 1) := by decide +kernel
theorem dL_limits_301 : decode cL_limits 301 = .ok (.iconst 0, 1) := by decide +kernel
theorem dL_limits_302 : decode cL_limits 302 = .ok (.invokevirtual 61, 3) := by decide +kernel
theorem dL_limits_305 : decode cL_limits 305 = .ok (.iload_n 1, 1) := by decide +kernel
theorem dL_limits_306 : decode cL_limits 306 = .ok (.if_icmp .eq 5, 3) := by decide +kernel
theorem dL_limits_309 : decode cL_limits 309 = .ok (.iconst 0, 1) := by decide +kernel
theorem dL_limits_310 : decode cL_limits 310 = .ok (.ireturn, 1) := by decide +kernel
theorem dL_limits_311 : decode cL_limits 311 = .ok (.iload_n 1, 1) := by decide +kernel
theorem dL_limits_312 : decode cL_limits 312 = .ok (.bipush 40, 2) := by decide +kernel
theorem dL_limits_314 : decode cL_limits 314 = .ok (.irem, 1) := by decide +kernel
theorem dL_limits_315 : decode cL_limits 315 = .ok (.bipush 39, 2) := by decide +kernel
theorem dL_limits_317 : decode cL_limits 317 = .ok (.if_icmp .ne 46, 3) := by decide +kernel
theorem dL_limits_320 : decode cL_limits 320 = .ok (.aload_n 0, 1) := by decide +kernel
theorem dL_limits_321 : decode cL_limits 321 = .ok (.bipush 7, 2) := by decide +kernel
theorem dL_limits_323 : decode cL_limits 323 = .ok (.iconst 5, 1) := by decide +kernel
theorem dL_limits_324 : decode cL_limits 324 = .ok (.iconst 0, 1) := by decide +kernel
theorem dL_limits_325 : decode cL_limits 325 = .ok (.iconst 0, 1) := by decide +kernel
theorem dL_limits_326 : decode cL_limits 326 = .ok (.iconst 0, 1) := by decide +kernel
theorem dL_limits_327 : decode cL_limits 327 = .ok (.invokestatic 191, 3) := by decide +kernel
theorem dL_limits_330 : decode cL_limits 330 = .ok (.sipush (-2013), 3) := by decide +kernel
theorem dL_limits_333 : decode cL_limits 333 = .ok (.if_icmp .ne 28, 3) := by decide +kernel
theorem dL_limits_336 : decode cL_limits 336 = .ok (.aload_n 0, 1) := by decide +kernel
theorem dL_limits_337 : decode cL_limits 337 = .ok (.invokevirtual 255, 3) := by decide +kernel
theorem dL_limits_340 : decode cL_limits 340 = .ok (.bipush 40, 2) := by decide +kernel
theorem dL_limits_342 : decode cL_limits 342 = .ok (.if_icmp .ne 19, 3) := by decide +kernel
