theorem dL_law_590 : decode code 590 = .ok (.iadd, 1) := by decide +kernel
theorem dL_law_591 : decode code 591 = .ok (.iaload, 1) := by decide +kernel
theorem dL_law_592 : decode code 592 = .ok (.aload_n 0, 1) := by decide +kernel
theorem dL_law_593 : decode code 593 = .ok (.iload_n 3, 1) := by decide +kernel
theorem dL_law_594 : decode code 594 = .ok (.iconst 2, 1) := by decide +kernel
theorem dL_law_595 : decode code 595 = .ok (.iadd, 1) := by decide +kernel
theorem dL_law_596 : decode code 596 = .ok (.iaload, 1) := by decide +kernel
theorem dL_law_597 : decode code 597 = .ok (.invokevirtual 85, 3) := by decide +kernel
theorem dL_law_600 : decode code 600 = .ok (.if_icmp .eq 402, 3) := by decide +kernel
theorem dL_law_603 : decode code 603 = .ok (.iconst 0, 1) := by decide +kernel
theorem dL_law_604 : decode code 604 = .ok (.ireturn, 1) := by decide +kernel
theorem dL_law_605 : decode code 605 = .ok (.aload_n 1, 1) := by decide +kernel
theorem dL_law_606 : decode code 606 = .ok (.aload_n 0, 1) := by decide +kernel
theorem dL_law_607 : decode code 607 = .ok (.iload_n 3, 1) := by decide +kernel
theorem dL_law_608 : decode code 608 = .ok (.iconst 1, 1) := by decide +kernel
theorem dL_law_609 : decode code 609 = .ok (.iadd, 1) := by decide +kernel
theorem dL_law_610 : decode code 610 = .ok (.iaload, 1) := by decide +kernel
theorem dL_law_611 : decode code 611 = .ok (.aload_n 0, 1) := by decide +kernel
theorem dL_law_612 : decode code 612 = .ok (.iload_n 3, 1) := by decide +kernel
theorem dL_law_613 : decode code 613 = .ok (.iconst 2, 1) := by decide +kernel
theorem dL_law_614 : decode code 614 = .ok (.iadd, 1) := by decide +kernel
theorem dL_law_615 : decode code 615 = .ok (.iaload, 1) := by decide +kernel
theorem dL_law_616 : decode code 616 = .ok (.invokevirtual 86, 3) := by decide +kernel
theorem dL_law_619 : decode code 619 = .ok (.aload_n 2, 1) := by decide +kernel
theorem dL_law_620 : decode code 620 = .ok (.aload_n 0, 1) := by decide +kernel
theorem dL_law_621 : decode code 621 = .ok (.iload_n 3, 1) := by decide +kernel
theorem dL_law_622 : decode code 622 = .ok (.iconst 1, 1) := by decide +kernel
theorem dL_law_623 : decode code 623 = .ok (.iadd, 1) := by decide +kernel
theorem dL_law_624 : decode code 624 = .ok (.iaload, 1) := by decide +kernel
theorem dL_law_625 : decode code 625 = .ok (.aload_n 0, 1) := by decide +kernel
theorem dL_law_626 : decode code 626 = .ok (.iload_n 3, 1) := by decide +kernel
theorem dL_law_627 : decode code 627 = .ok (.iconst 2, 1) := by decide +kernel
theorem dL_law_628 : decode code 628 = .ok (.iadd, 1) := by decide +kernel
theorem dL_law_629 : decode code 629 = .ok (.iaload, 1) := by decide +kernel
theorem dL_law_630 : decode code 630 = .ok (.invokevirtual 89, 3) := by decide +kernel
theorem dL_law_633 : decode code 633 = .ok (.if_icmp .eq 369, 3) := by decide +kernel
theorem dL_law_636 : decode code 636 = .ok (.iconst 0, 1) := by decide +kernel
theorem dL_law_637 : decode code 637 = .ok (.ireturn, 1) := by decide +kernel
theorem dL_law_638 : decode code 638 = .ok (.aload_n 1, 1) := by decide +kernel
theorem dL_law_639 : decode code 639 = .ok (.aload_n 0, 1) := by decide +kernel
theorem dL_law_640 : decode code 640 = .ok (.iload_n 3, 1) := by decide +kernel
theorem dL_law_641 : decode code 641 = .ok (.iconst 1, 1) := by decide +kernel
theorem dL_law_642 : decode code 642 = .ok (.iadd, 1) := by decide +kernel
theorem dL_law_643 : decode code 643 = .ok (.iaload, 1) := by decide +kernel
theorem dL_law_644 : decode code 644 = .ok (.invokevirtual 90, 3) := by decide +kernel
theorem dL_law_647 : decode code 647 = .ok (.aload_n 2, 1) := by decide +kernel
theorem dL_law_648 : decode code 648 = .ok (.aload_n 0, 1) := by decide +kernel
theorem dL_law_649 : decode code 649 = .ok (.iload_n 3, 1) := by decide +kernel
theorem dL_law_650 : decode code 650 = .ok (.iconst 1, 1) := by decide +kernel
theorem dL_law_651 : decode code 651 = .ok (.iadd, 1) := by decide +kernel
theorem dL_law_652 : decode code 652 = .ok (.iaload, 1) := by decide +kernel
theorem dL_law_653 : decode code 653 = .ok (.invokevirtual 93, 3) := by decide +kernel
theorem dL_law_656 : decode code 656 = .ok (.if_icmp .eq 346, 3) := by decide +kernel
theorem dL_law_659 : decode code 659 = .ok (.iconst 0, 1) := by decide +kernel
theorem dL_law_660 : decode code 660 = .ok (.ireturn, 1) := by decide +kernel
theorem dL_law_661 : decode code 661 = .ok (.aload_n 1, 1) := by decide +kernel
theorem dL_law_662 : decode code 662 = .ok (.invokevirtual 94, 3) := by decide +kernel
theorem dL_law_665 : decode code 665 = .ok (.aload_n 2, 1) := by decide +kernel
theorem dL_law_666 : decode code 666 = .ok (.invokevirtual 97, 3) := by decide +kernel
theorem dL_law_669 : decode code 669 = .ok (.if_icmp .eq 333, 3) := by decide +kernel
theorem dL_law_672 : decode code 672 = .ok (.iconst 0, 1) := by decide +kernel
theorem dL_law_673 : decode code 673 = .ok (.ireturn, 1) := by decide +kernel
theorem dL_law_674 : decode code 674 = .ok (.aload_n 1, 1) := by decide +kernel
theorem dL_law_675 : decode code 675 = .ok (.aload_n 0, 1) := by decide +kernel
theorem dL_law_676 : decode code 676 = .ok (.iload_n 3, 1) := by decide +kernel
theorem dL_law_677 : decode code 677 = .ok (.iconst 1, 1) := by decide +kernel
theorem dL_law_678 : decode code 678 = .ok (.iadd, 1) := by decide +kernel
theorem dL_law_679 : decode code 679 = .ok (.iaload, 1) := by decide +kernel
theorem dL_law_680 : decode code 680 = .ok (.aload_n 0, 1) := by decide +kernel
theorem dL_law_681 : decode code 681 = .ok (.iload_n 3, 1) := by decide +kernel
theorem dL_law_682 : decode code 682 = .ok (.iconst 2, 1) := by decide +kernel
theorem dL_law_683 : decode code 683 = .ok (.iadd, 1) := by decide +kernel
theorem dL_law_684 : decode code 684 = .ok (.iaload, 1) := by decide +kernel
theorem dL_law_685 : decode code 685 = .ok (.aload_n 0, 1) := by decide +kernel
theorem dL_law_686 : decode code 686 = .ok (.iload_n 3, 1) := by decide +kernel
theorem dL_law_687 : decode code 687 = .ok (.iconst 3, 1) := by decide +kernel
theorem dL_law_688 : decode code 688 = .ok (.iadd, 1) := by decide +kernel
theorem dL_law_689 : decode code 689 = .ok (.iaload, 1) := by decide +kernel
theorem dL_law_690 : decode code 690 = .ok (.invokevirtual 98, 3) := by decide +kernel
theorem dL_law_693 : decode code 693 = .ok (.aload_n 2, 1) := by decide +kernel
theorem dL_law_694 : decode code 694 = .ok (.aload_n 0, 1) := by decide +kernel
theorem dL_law_695 : decode code 695 = .ok (.iload_n 3, 1) := by decide +kernel
theorem dL_law_696 : decode code 696 = .ok (.iconst 1, 1) := by decide +kernel
theorem dL_law_697 : decode code 697 = .ok (.iadd, 1) := by decide +kernel
theorem dL_law_698 : decode code 698 = .ok (.iaload, 1) := by decide +kernel
theorem dL_law_699 : decode code 699 = .ok (.aload_n 0, 1) := by decide +kernel
theorem dL_law_700 : decode code 700 = .ok (.iload_n 3, 1) := by decide +kernel
theorem dL_law_701 : decode code 701 = .ok (.iconst 2, 1) := by decide +kernel
theorem dL_law_702 : decode code 702 = .ok (.iadd, 1) := by decide +kernel
theorem dL_law_703 : decode code 703 = .ok (.iaload, 1) := by decide +kernel
theorem dL_law_704 : decode code 704 = .ok (.aload_n 0, 1) := by decide +kernel
theorem dL_law_705 : decode code 705 = .ok (.iload_n 3, 1) := by decide +kernel
theorem dL_law_706 : decode code 706 = .ok (.iconst 3, 1) := by decide +kernel
theorem dL_law_707 : decode code 707 = .ok (.iadd, 1) := by decide +kernel
theorem dL_law_708 : decode code 708 = .ok (.iaload, 1) := by decide +kernel
theorem dL_law_709 : decode code 709 = .ok (.invokevirtual 102, 3) := by decide +kernel
theorem dL_law_712 : decode code 712 = .ok (.if_icmp .eq 290, 3) := by decide +kernel
theorem dL_law_715 : decode code 715 = .ok (.iconst 0, 1) := by decide +kernel
theorem dL_law_716 : decode code 716 = .ok (.ireturn, 1) := by decide +kernel
theorem dL_law_717 : decode code 717 = .ok (.aload_n 1, 1) := by decide +kernel
theorem dL_law_718 : decode code 718 = .ok (.aload_n 0, 1) := by decide +kernel
theorem dL_law_719 : decode code 719 = .ok (.iload_n 3, 1) := by decide +kernel
theorem dL_law_720 : decode code 720 = .ok (.iconst 1, 1) := by decide +kernel
theorem dL_law_721 : decode code 721 = .ok (.iadd, 1) := by decide +kernel
theorem dL_law_722 : decode code 722 = .ok (.iaload, 1) := by decide +kernel
theorem dL_law_723 : decode code 723 = .ok (.aload_n 0, 1) := by decide +kernel
theorem dL_law_724 : decode code 724 = .ok (.iload_n 3, 1) := by decide +kernel
theorem dL_law_725 : decode code 725 = .ok (.iconst 2, 1) := by decide +kernel
theorem dL_law_726 : decode code 726 = .ok (.iadd, 1) := by decide +kernel
theorem dL_law_727 : decode code 727 = .ok (.iaload, 1) := by decide +kernel
theorem dL_law_728 : decode code 728 = .ok (.aload_n 0, 1) := by decide +kernel
theorem dL_law_729 : decode code 729 = .ok (.iload_n 3, 1) := by decide +kernel
theorem dL_law_730 : decode code 730 = .ok (.iconst 3, 1) := by decide +kernel
theorem dL_law_731 : decode code 731 = .ok (.iadd, 1) := by decide +kernel
theorem dL_law_732 : decode code 732 = .ok (.iaload, 1) := by decide +kernel
theorem dL_law_733 : decode code 733 = .ok (.invokevirtual 103, 3) := by decide +kernel
theorem dL_law_736 : decode code 736 = .ok (.aload_n 2, 1) := by decide +kernel
theorem dL_law_737 : decode code 737 = .ok (.aload_n 0, 1) := by decide +kernel
theorem dL_law_738 : decode code 738 = .ok (.iload_n 3, 1) := by decide +kernel
theorem dL_law_739 : decode code 739 = .ok (.iconst 1, 1) := by decide +kernel
theorem dL_law_740 : decode code 740 = .ok (.iadd, 1) := by decide +kernel
theorem dL_law_741 : decode code 741 = .ok (.iaload, 1) := by decide +kernel
theorem dL_law_742 : decode code 742 = .ok (.aload_n 0, 1) := by decide +kernel
theorem dL_law_743 : decode code 743 = .ok (.iload_n 3, 1) := by decide +kernel
theorem dL_law_744 : decode code 744 = .ok (.iconst 2, 1) := by decide +kernel
theorem dL_law_745 : decode code 745 = .ok (.iadd, 1) := by decide +kernel
theorem dL_law_746 : decode code 746 = .ok (.iaload, 1) := by decide +kernel
theorem dL_law_747 : decode code 747 = .ok (.aload_n 0, 1) := by decide +kernel
theorem dL_law_748 : decode code 748 = .ok (.iload_n 3, 1) := by decide +kernel
theorem dL_law_749 : decode code 749 = .ok (.iconst 3, 1) := by decide +kernel
theorem dL_law_750 : decode code 750 = .ok (.iadd, 1) := by decide +kernel
theorem dL_law_751 : decode code 751 = .ok (.iaload, 1) := by decide +kernel
theorem dL_law_752 : decode code 752 = .ok (.invokevirtual 106, 3) := by decide +kernel
theorem dL_law_755 : decode code 755 = .ok (.if_icmp .eq 247, 3) := by decide +kernel
theorem dL_law_758 : decode code 758 = .ok (.iconst 0, 1) := by decide +kernel
theorem dL_law_759 : decode code 759 = .ok (.ireturn, 1) := by decide +kernel
theorem dL_law_760 : decode code 760 = .ok (.aload_n 1, 1) := by decide +kernel
theorem dL_law_761 : decode code 761 = .ok (.aload_n 0, 1) := by decide +kernel
theorem dL_law_762 : decode code 762 = .ok (.iload_n 3, 1) := by decide +kernel
theorem dL_law_763 : decode code 763 = .ok (.iconst 1, 1) := by decide +kernel
theorem dL_law_764 : decode code 764 = .ok (.iadd, 1) := by decide +kernel
theorem dL_law_765 : decode code 765 = .ok (.iaload, 1) := by decide +kernel
theorem dL_law_766 : decode code 766 = .ok (.invokevirtual 107, 3) := by decide +kernel
theorem dL_law_769 : decode code 769 = .ok (.aload_n 2, 1) := by decide +kernel
theorem dL_law_770 : decode code 770 = .ok (.aload_n 0, 1) := by decide +kernel
theorem dL_law_771 : decode code 771 = .ok (.iload_n 3, 1) := by decide +kernel
theorem dL_law_772 : decode code 772 = .ok (.iconst 1, 1) := by decide +kernel
theorem dL_law_773 : decode code 773 = .ok (.iadd, 1) := by decide +kernel
theorem dL_law_774 : decode code 774 = .ok (.iaload, 1) := by decide +kernel
theorem dL_law_775 : decode code 775 = .ok (.invokevirtual 110, 3) := by decide +kernel
theorem dL_law_778 : decode code 778 = .ok (.if_icmp .eq 224, 3) := by decide +kernel
theorem dL_law_781 : decode code 781 = .ok (.iconst 0, 1) := by decide +kernel
theorem dL_law_782 : decode code 782 = .ok (.ireturn, 1) := by decide +kernel
theorem dL_law_783 : decode code 783 = .ok (.aload_n 1, 1) := by decide +kernel
theorem dL_law_784 : decode code 784 = .ok (.aload_n 0, 1) := by decide +kernel
theorem dL_law_785 : decode code 785 = .ok (.iload_n 3, 1) := by decide +kernel
theorem dL_law_786 : decode code 786 = .ok (.iconst 1, 1) := by decide +kernel
theorem dL_law_787 : decode code 787 = .ok (.iadd, 1) := by decide +kernel
theorem dL_law_788 : decode code 788 = .ok (.iaload, 1) := by decide +kernel
theorem dL_law_789 : decode code 789 = .ok (.aload_n 0, 1) := by decide +kernel
theorem dL_law_790 : decode code 790 = .ok (.iload_n 3, 1) := by decide +kernel
theorem dL_law_791 : decode code 791 = .ok (.iconst 2, 1) := by decide +kernel
theorem dL_law_792 : decode code 792 = .ok (.iadd, 1) := by decide +kernel
theorem dL_law_793 : decode code 793 = .ok (.iaload, 1) := by decide +kernel
theorem dL_law_794 : decode code 794 = .ok (.aload_n 0, 1) := by decide +kernel
theorem dL_law_795 : decode code 795 = .ok (.iload_n 3, 1) := by decide +kernel
theorem dL_law_796 : decode code 796 = .ok (.iconst 3, 1) := by decide +kernel
theorem dL_law_797 : decode code 797 = .ok (.iadd, 1) := by decide +kernel
theorem dL_law_798 : decode code 798 = .ok (.iaload, 1) := by decide +kernel
theorem dL_law_799 : decode code 799 = .ok (.aload_n 0, 1) := by decide +kernel
theorem dL_law_800 : decode code 800 = .ok (.iload_n 3, 1) := by decide +kernel
theorem dL_law_801 : decode code 801 = .ok (.iconst 4, 1) := by decide +kernel
theorem dL_law_802 : decode code 802 = .ok (.iadd, 1) := by decide +kernel
theorem dL_law_803 : decode code 803 = .ok (.iaload, 1) := by decide +kernel
theorem dL_law_804 : decode code 804 = .ok (.invokevirtual 111, 3) := by decide +kernel
theorem dL_law_807 : decode code 807 = .ok (.aload_n 2, 1) := by decide +kernel
theorem dL_law_808 : decode code 808 = .ok (.aload_n 0, 1) := by decide +kernel
theorem dL_law_809 : decode code 809 = .ok (.iload_n 3, 1) := by decide +kernel
theorem dL_law_810 : decode code 810 = .ok (.iconst 1, 1) := by decide +kernel
theorem dL_law_811 : decode code 811 = .ok (.iadd, 1) := by decide +kernel
theorem dL_law_812 : decode code 812 = .ok (.iaload, 1) := by decide +kernel
theorem dL_law_813 : decode code 813 = .ok (.aload_n 0, 1) := by decide +kernel
theorem dL_law_814 : decode code 814 = .ok (.iload_n 3, 1) := by decide +kernel
theorem dL_law_815 : decode code 815 = .ok (.iconst 2, 1) := by decide +kernel
theorem dL_law_816 : decode code 816 = .ok (.iadd, 1) := by decide +kernel
theorem dL_law_817 : decode code 817 = .ok (.iaload, 1) := by decide +kernel
theorem dL_law_818 : decode code 818 = .ok (.aload_n 0, 1) := by decide +kernel
theorem dL_law_819 : decode code 819 = .ok (.iload_n 3, 1) := by decide +kernel
theorem dL_law_820 : decode code 820 = .ok (.iconst 3, 1) := by decide +kernel
theorem dL_law_821 : decode code 821 = .ok (.iadd, 1) := by decide +kernel
theorem dL_law_822 : decode code 822 = .ok (.iaload, 1) := by decide +kernel
theorem dL_law_823 : decode code 823 = .ok (.aload_n 0, 1) := by decide +kernel
theorem dL_law_824 : decode code 824 = .ok (.iload_n 3, 1) := by decide +kernel
theorem dL_law_825 : decode code 825 = .ok (.iconst 4, 1) := by decide +kernel
theorem dL_law_826 : decode code 826 = .ok (.iadd, 1) := by decide +kernel
theorem dL_law_827 : decode code 827 = .ok (.iaload, 1) := by decide +kernel
theorem dL_law_828 : decode code 828 = .ok (.invokevirtual 114, 3) := by decide +kernel
theorem dL_law_831 : decode code 831 = .ok (.if_icmp .eq 171, 3) := by decide +kernel
theorem dL_law_834 : decode code 834 = .ok (.iconst 0, 1) := by decide +kernel
theorem dL_law_835 : decode code 835 = .ok (.ireturn, 1) := by decide +kernel
theorem dL_law_836 : decode code 836 = .ok (.aload_n 1, 1) := by decide +kernel
theorem dL_law_837 : decode code 837 = .ok (.aload_n 0, 1) := by decide +kernel
theorem dL_law_838 : decode code 838 = .ok (.iload_n 3, 1) := by decide +kernel
theorem dL_law_839 : decode code 839 = .ok (.iconst 1, 1) := by decide +kernel
theorem dL_law_840 : decode code 840 = .ok (.iadd, 1) := by decide +kernel
theorem dL_law_841 : decode code 841 = .ok (.iaload, 1) := by decide +kernel
theorem dL_law_842 : decode code 842 = .ok (.aload_n 0, 1) := by decide +kernel
theorem dL_law_843 : decode code 843 = .ok (.iload_n 3, 1) := by decide +kernel
theorem dL_law_844 : decode code 844 = .ok (.iconst 2, 1) := by decide +kernel
theorem dL_law_845 : decode code 845 = .ok (.iadd, 1) := by decide +kernel
theorem dL_law_846 : decode code 846 = .ok (.iaload, 1) := by decide +kernel
theorem dL_law_847 : decode code 847 = .ok (.aload_n 0, 1) := by decide +kernel
theorem dL_law_848 : decode code 848 = .ok (.iload_n 3, 1) := by decide +kernel
theorem dL_law_849 : decode code 849 = .ok (.iconst 3, 1) := by decide +kernel
theorem dL_law_850 : decode code 850 = .ok (.iadd, 1) := by decide +kernel
theorem dL_law_851 : decode code 851 = .ok (.iaload, 1) := by decide +kernel
theorem dL_law_852 : decode code 852 = .ok (.invokevirtual 115, 3) := by decide +kernel
theorem dL_law_855 : decode code 855 = .ok (.aload_n 2, 1) := by decide +kernel
theorem dL_law_856 : decode code 856 = .ok (.aload_n 0, 1) := by decide +kernel
theorem dL_law_857 : decode code 857 = .ok (.iload_n 3, 1) := by decide +kernel
theorem dL_law_858 : decode code 858 = .ok (.iconst 1, 1) := by decide +kernel
theorem dL_law_859 : decode code 859 = .ok (.iadd, 1) := by decide +kernel
theorem dL_law_860 : decode code 860 = .ok (.iaload, 1) := by decide +kernel
theorem dL_law_861 : decode code 861 = .ok (.aload_n 0, 1) := by decide +kernel
theorem dL_law_862 : decode code 862 = .ok (.iload_n 3, 1) := by decide +kernel
theorem dL_law_863 : decode code 863 = .ok (.iconst 2, 1) := by decide +kernel
theorem dL_law_864 : decode code 864 = .ok (.iadd, 1) := by decide +kernel
theorem dL_law_865 : decode code 865 = .ok (.iaload, 1) := by decide +kernel
theorem dL_law_866 : decode code 866 = .ok (.aload_n 0, 1) := by decide +kernel
theorem dL_law_867 : decode code 867 = .ok (.iload_n 3, 1) := by decide +kernel
theorem dL_law_868 : decode code 868 = .ok (.iconst 3, 1) := by decide +kernel
theorem dL_law_869 : decode code 869 = .ok (.iadd, 1) := by decide +kernel
theorem dL_law_870 : decode code 870 = .ok (.iaload, 1) := by decide +kernel
theorem dL_law_871 : decode code 871 = .ok (.invokevirtual 118, 3) := by decide +kernel
theorem dL_law_874 : decode code 874 = .ok (.if_icmp .eq 128, 3) := by decide +kernel
theorem dL_law_877 : decode code 877 = .ok (.iconst 0, 1) := by decide +kernel
theorem dL_law_878 : decode code 878 = .ok (.ireturn, 1) := by decide +kernel
theorem dL_law_879 : decode code 879 = .ok (.aload_n 1, 1) := by decide +kernel
theorem dL_law_880 : decode code 880 = .ok (.aload_n 0, 1) := by decide +kernel
theorem dL_law_881 : decode code 881 = .ok (.iload_n 3, 1) := by decide +kernel
theorem dL_law_882 : decode code 882 = .ok (.iconst 1, 1) := by decide +kernel
theorem dL_law_883 : decode code 883 = .ok (.iadd, 1) := by decide +kernel
theorem dL_law_884 : decode code 884 = .ok (.iaload, 1) := by decide +kernel
theorem dL_law_885 : decode code 885 = .ok (.aload_n 0, 1) := by decide +kernel
theorem dL_law_886 : decode code 886 = .ok (.iload_n 3, 1) := by decide +kernel
theorem dL_law_887 : decode code 887 = .ok (.iconst 2, 1) := by decide +kernel
theorem dL_law_888 : decode code 888 = .ok (.iadd, 1) := by decide +kernel
theorem dL_law_889 : decode code 889 = .ok (.iaload, 1) := by decide +kernel
theorem dL_law_890 : decode code 890 = .ok (.aload_n 0, 1) := by decide +kernel
theorem dL_law_891 : decode code 891 = .ok (.iload_n 3, 1) := by decide +kernel
theorem dL_law_892 : decode code 892 = .ok (.iconst 3, 1) := by decide +kernel
theorem dL_law_893 : decode code 893 = .ok (.iadd, 1) := by decide +kernel
theorem dL_law_894 : decode code 894 = .ok (.iaload, 1) := by decide +kernel
theorem dL_law_895 : decode code 895 = .ok (.aload_n 0, 1) := by decide +kernel
theorem dL_law_896 : decode code 896 = .ok (.iload_n 3, 1) := by decide +kernel
theorem dL_law_897 : decode code 897 = .ok (.iconst 4, 1) := by decide +kernel
theorem dL_law_898 : decode code 898 = .ok (.iadd, 1) := by decide +kernel
theorem dL_law_899 : decode code 899 = .ok (.iaload, 1) := by decide +kernel
theorem dL_law_900 : decode code 900 = .ok (.aload_n 0, 1) := by decide +kernel
theorem dL_law_901 : decode code 901 = .ok (.iload_n 3, 1) := by decide +kernel
theorem dL_law_902 : decode code 902 = .ok (.iconst 5, 1) := by decide +kernel
theorem dL_law_903 : decode code 903 = .ok (.iadd, 1) := by decide +kernel
theorem dL_law_904 : decode code 904 = .ok (.iaload, 1) := by decide +kernel
theorem dL_law_905 : decode code 905 = .ok (.invokevirtual 119, 3) := by decide +kernel
theorem dL_law_908 : decode code 908 = .ok (.aload_n 2, 1) := by decide +kernel
theorem dL_law_909 : decode code 909 = .ok (.aload_n 0, 1) := by decide +kernel
theorem dL_law_910 : decode code 910 = .ok (.iload_n 3, 1) := by decide +kernel
theorem dL_law_911 : decode code 911 = .ok (.iconst 1, 1) := by decide +kernel
theorem dL_law_912 : decode code 912 = .ok (.iadd, 1) := by decide +kernel
theorem dL_law_913 : decode code 913 = .ok (.iaload, 1) := by decide +kernel
theorem dL_law_914 : decode code 914 = .ok (.aload_n 0, 1) := by decide +kernel
theorem dL_law_915 : decode code 915 = .ok (.iload_n 3, 1) := by decide +kernel
theorem dL_law_916 : decode code 916 = .ok (.iconst 2, 1) := by decide +kernel
theorem dL_law_917 : decode code 917 = .ok (.iadd, 1) := by decide +kernel
theorem dL_law_918 : decode code 918 = .ok (.iaload, 1) := by decide +kernel
theorem dL_law_919 : decode code 919 = .ok (.aload_n 0, 1) := by decide +kernel
theorem dL_law_920 : decode code 920 = .ok (.iload_n 3, 1) := by decide +kernel
theorem dL_law_921 : decode code 921 = .ok (.iconst 3, 1) := by decide +kernel
theorem dL_law_922 : decode code 922 = .ok (.iadd, 1) := by decide +kernel
theorem dL_law_923 : decode code 923 = .ok (.iaload, 1) := by decide +kernel
theorem dL_law_924 : decode code 924 = .ok (.aload_n 0, 1) := by decide +kernel
theorem dL_law_925 : decode code 925 = .ok (.iload_n 3, 1) := by decide +kernel
theorem dL_law_926 : decode code 926 = .ok (.iconst 4, 1) := by decide +kernel
theorem dL_law_927 : decode code 927 = .ok (.iadd, 1) := by decide +kernel
theorem dL_law_928 : decode code 928 = .ok (.iaload, 1) := by decide +kernel
theorem dL_law_929 : decode code 929 = .ok (.aload_n 0, 1) := by decide +kernel
theorem dL_law_930 : decode code 930 = .ok (.iload_n 3, 1) := by decide +kernel
theorem dL_law_931 : decode code 931 = .ok (.iconst 5, 1) := by decide +kernel
theorem dL_law_932 : decode code 932 = .ok (.iadd, 1) := by decide +kernel
theorem dL_law_933 : decode code 933 = .ok (.iaload, 1) := by decide +kernel
theorem dL_law_934 : decode code 934 = .ok (.invokevirtual 122, 3) := by decide +kernel
theorem dL_law_937 : decode code 937 = .ok (.if_icmp .eq 65, 3) := by decide +kernel
theorem dL_law_940 : decode code 940 = .ok (.iconst 0, 1) := by decide +kernel
theorem dL_law_941 : decode code 941 = .ok (.ireturn, 1) := by decide +kernel
theorem dL_law_942 : decode code 942 = .ok (.aload_n 1, 1) := by decide +kernel
theorem dL_law_943 : decode code 943 = .ok (.aload_n 0, 1) := by decide +kernel
theorem dL_law_944 : decode code 944 = .ok (.iload_n 3, 1) := by decide +kernel
theorem dL_law_945 : decode code 945 = .ok (.iconst 1, 1) := by decide +kernel
theorem dL_law_946 : decode code 946 = .ok (.iadd, 1) := by decide +kernel
theorem dL_law_947 : decode code 947 = .ok (.iaload, 1) := by decide +kernel
theorem dL_law_948 : decode code 948 = .ok (.invokevirtual 123, 3) := by decide +kernel
theorem dL_law_951 : decode code 951 = .ok (.aload_n 2, 1) := by decide +kernel
theorem dL_law_952 : decode code 952 = .ok (.aload_n 0, 1) := by decide +kernel
theorem dL_law_953 : decode code 953 = .ok (.iload_n 3, 1) := by decide +kernel
theorem dL_law_954 : decode code 954 = .ok (.iconst 1, 1) := by decide +kernel
theorem dL_law_955 : decode code 955 = .ok (.iadd, 1) := by decide +kernel
theorem dL_law_956 : decode code 956 = .ok (.iaload, 1) := by decide +kernel
theorem dL_law_957 : decode code 957 = .ok (.invokevirtual 126, 3) := by decide +kernel
theorem dL_law_960 : decode code 960 = .ok (.if_icmp .eq 42, 3) := by decide +kernel
theorem dL_law_963 : decode code 963 = .ok (.iconst 0, 1) := by decide +kernel
theorem dL_law_964 : decode code 964 = .ok (.ireturn, 1) := by decide +kernel
theorem dL_law_965 : decode code 965 = .ok (.aload_n 1, 1) := by decide +kernel
theorem dL_law_966 : decode code 966 = .ok (.aload_n 0, 1) := by decide +kernel
theorem dL_law_967 : decode code 967 = .ok (.iload_n 3, 1) := by decide +kernel
theorem dL_law_968 : decode code 968 = .ok (.iconst 1, 1) := by decide +kernel
theorem dL_law_969 : decode code 969 = .ok (.iadd, 1) := by decide +kernel
theorem dL_law_970 : decode code 970 = .ok (.iaload, 1) := by decide +kernel
theorem dL_law_971 : decode code 971 = .ok (.invokevirtual 127, 3) := by decide +kernel
theorem dL_law_974 : decode code 974 = .ok (.aload_n 2, 1) := by decide +kernel
theorem dL_law_975 : decode code 975 = .ok (.aload_n 0, 1) := by decide +kernel
theorem dL_law_976 : decode code 976 = .ok (.iload_n 3, 1) := by decide +kernel
theorem dL_law_977 : decode code 977 = .ok (.iconst 1, 1) := by decide +kernel
theorem dL_law_978 : decode code 978 = .ok (.iadd, 1) := by decide +kernel
theorem dL_law_979 : decode code 979 = .ok (.iaload, 1) := by decide +kernel
theorem dL_law_980 : decode code 980 = .ok (.invokevirtual 130, 3) := by decide +kernel
theorem dL_law_983 : decode code 983 = .ok (.if_icmp .eq 19, 3) := by decide +kernel
theorem dL_law_986 : decode code 986 = .ok (.iconst 0, 1) := by decide +kernel
theorem dL_law_987 : decode code 987 = .ok (.ireturn, 1) := by decide +kernel
theorem dL_law_988 : decode code 988 = .ok (.aload_n 1, 1) := by decide +kernel
theorem dL_law_989 : decode code 989 = .ok (.invokevirtual 131, 3) := by decide +kernel
theorem dL_law_992 : decode code 992 = .ok (.aload_n 2, 1) := by decide +kernel
theorem dL_law_993 : decode code 993 = .ok (.invokevirtual 135, 3) := by decide +kernel
theorem dL_law_996 : decode code 996 = .ok (.lcmp, 1) := by decide +kernel
theorem dL_law_997 : decode code 997 = .ok (.ifCond .eq 5, 3) := by decide +kernel
theorem dL_law_1000 : decode code 1000 = .ok (.iconst 0, 1) := by decide +kernel
theorem dL_law_1001 : decode code 1001 = .ok (.ireturn, 1) := by decide +kernel
theorem dL_law_1002 : decode code 1002 = .ok (.iinc 3 6, 3) := by decide +kernel
theorem dL_law_1005 : decode code 1005 = .ok (.goto (-987), 3) := by decide +kernel
theorem dL_law_1008 : decode code 1008 = .ok (.iconst 1, 1) := by decide +kernel
theorem dL_law_1009 : decode code 1009 = .ok (.ireturn, 1) := by decide +kernel
def f_L_law_L18 (p90 : Nat) (p91 : Nat → Int32) (v1 : Int32) (s2 : sh_S) : Option ((Int32 × sh_S) ⊕ ((sh_S) ⊕ (Int32 × sh_S))) := (if ((Int32.ofNat p90) - (6 : Int32)) < v1 then some (.inr (.inl s2)) else gu (inb v1 p90) ((lb (((p91 (ix v1)) &&& (31 : Int32))) (fun v5 => if v5 = (0 : Int32) then gu (inb (v1 + (1 : Int32)) p90) (gu (inb (v1 + (2 : Int32)) p90) (gu (inb (v1 + (3 : Int32)) p90) (gu (inb (v1 + (4 : Int32)) p90) (ob2 (f_X9_add (p91 (ix (v1 + (1 : Int32)))) (p91 (ix (v1 + (2 : Int32)))) (p91 (ix (v1 + (3 : Int32)))) (p91 (ix (v1 + (4 : Int32)))) (rs em_XL s2)) (fun v10 s11 => lb (mg em_XL 0 s2 s11) (fun s12 => gu (inb (v1 + (1 : Int32)) p90) (gu (inb (v1 + (2 : Int32)) p90) (gu (inb (v1 + (3 : Int32)) p90) (gu (inb (v1 + (4 : Int32)) p90) (ob2 (f_X10_add (p91 (ix (v1 + (1 : Int32)))) (p91 (ix (v1 + (2 : Int32)))) (p91 (ix (v1 + (3 : Int32)))) (p91 (ix (v1 + (4 : Int32)))) (rs em_ML s12)) (fun v17 s18 => lb (mg em_ML 0 s12 s18) (fun s19 => (if v10 = v17 then lb (v1 + (6 : Int32)) (fun v20 => some (.inl (v20, s19))) else some (.inr (.inr ((0 : Int32), s19)))))))))))))))) else if v5 = (1 : Int32) then gu (inb (v1 + (1 : Int32)) p90) (gu (inb (v1 + (2 : Int32)) p90) (gu (inb (v1 + (3 : Int32)) p90) (gu (inb (v1 + (4 : Int32)) p90) (gu (inb (v1 + (5 : Int32)) p90) (ob2 (f_X9_alter (p91 (ix (v1 + (1 : Int32)))) (p91 (ix (v1 + (2 : Int32)))) (p91 (ix (v1 + (3 : Int32)))) (p91 (ix (v1 + (4 : Int32)))) (p91 (ix (v1 + (5 : Int32)))) (rs em_XL s2)) (fun v26 s27 => lb (mg em_XL 0 s2 s27) (fun s28 => gu (inb (v1 + (1 : Int32)) p90) (gu (inb (v1 + (2 : Int32)) p90) (gu (inb (v1 + (3 : Int32)) p90) (gu (inb (v1 + (4 : Int32)) p90) (gu (inb (v1 + (5 : Int32)) p90) (ob2 (f_X10_alter (p91 (ix (v1 + (1 : Int32)))) (p91 (ix (v1 + (2 : Int32)))) (p91 (ix (v1 + (3 : Int32)))) (p91 (ix (v1 + (4 : Int32)))) (p91 (ix (v1 + (5 : Int32)))) (rs em_ML s28)) (fun v34 s35 => lb (mg em_ML 0 s28 s35) (fun s36 => (if v26 = v34 then lb (v1 + (6 : Int32)) (fun v37 => some (.inl (v37, s36))) else some (.inr (.inr ((0 : Int32), s36)))))))))))))))))) else if v5 = (2 : Int32) then ob2 (f_X9_back  (rs em_XL s2)) (fun v38 s39 => lb (mg em_XL 0 s2 s39) (fun s40 => ob2 (f_X10_back  (rs em_ML s40)) (fun v41 s42 => lb (mg em_ML 0 s40 s42) (fun s43 => (if v38 = v41 then lb (v1 + (6 : Int32)) (fun v44 => some (.inl (v44, s43))) else some (.inr (.inr ((0 : Int32), s43)))))))) else if v5 = (3 : Int32) then ob2 (f_X9_clear  (rs em_XL s2)) (fun v45 s46 => lb (mg em_XL 0 s2 s46) (fun s47 => ob2 (f_X10_clear  (rs em_ML s47)) (fun v48 s49 => lb (mg em_ML 0 s47 s49) (fun s50 => (if v45 = v48 then lb (v1 + (6 : Int32)) (fun v51 => some (.inl (v51, s50))) else some (.inr (.inr ((0 : Int32), s50)))))))) else if v5 = (4 : Int32) then gu (inb (v1 + (1 : Int32)) p90) (gu (inb (v1 + (2 : Int32)) p90) (ob (f_X9_code (p91 (ix (v1 + (1 : Int32)))) (p91 (ix (v1 + (2 : Int32)))) (rs em_XL s2)) (fun v54 => gu (inb (v1 + (1 : Int32)) p90) (gu (inb (v1 + (2 : Int32)) p90) (ob (f_X10_code (p91 (ix (v1 + (1 : Int32)))) (p91 (ix (v1 + (2 : Int32)))) (rs em_ML s2)) (fun v57 => (if v54 = v57 then lb (v1 + (6 : Int32)) (fun v58 => some (.inl (v58, s2))) else some (.inr (.inr ((0 : Int32), s2)))))))))) else if v5 = (5 : Int32) then gu (inb (v1 + (1 : Int32)) p90) (ob2 (f_X9_read (p91 (ix (v1 + (1 : Int32)))) (rs em_XL s2)) (fun v60 s61 => lb (mg em_XL 0 s2 s61) (fun s62 => gu (inb (v1 + (1 : Int32)) p90) (ob2 (f_X10_read (p91 (ix (v1 + (1 : Int32)))) (rs em_ML s62)) (fun v64 s65 => lb (mg em_ML 0 s62 s65) (fun s66 => (if v60 = v64 then lb (v1 + (6 : Int32)) (fun v67 => some (.inl (v67, s66))) else some (.inr (.inr ((0 : Int32), s66)))))))))) else if v5 = (6 : Int32) then gu (inb (v1 + (1 : Int32)) p90) (ob2 (f_X9_next (p91 (ix (v1 + (1 : Int32)))) (rs em_XL s2)) (fun v69 s70 => lb (mg em_XL 0 s2 s70) (fun s71 => gu (inb (v1 + (1 : Int32)) p90) (ob (f_X10_next (p91 (ix (v1 + (1 : Int32)))) (rs em_ML s71)) (fun v73 => (if v69 = v73 then lb (v1 + (6 : Int32)) (fun v74 => some (.inl (v74, s71))) else some (.inr (.inr ((0 : Int32), s71))))))))) else if v5 = (7 : Int32) then ob2 (f_X9_reached  (rs em_XL s2)) (fun v75 s76 => lb (mg em_XL 0 s2 s76) (fun s77 => ob2 (f_X10_reached  (rs em_ML s77)) (fun v78 s79 => lb (mg em_ML 0 s77 s79) (fun s80 => (if v75 = v78 then lb (v1 + (6 : Int32)) (fun v81 => some (.inl (v81, s80))) else some (.inr (.inr ((0 : Int32), s80)))))))) else if v5 = (8 : Int32) then gu (inb (v1 + (1 : Int32)) p90) (ob2 (f_X9_live (p91 (ix (v1 + (1 : Int32)))) (rs em_XL s2)) (fun v83 s84 => lb (mg em_XL 0 s2 s84) (fun s85 => gu (inb (v1 + (1 : Int32)) p90) (ob2 (f_X10_live (p91 (ix (v1 + (1 : Int32)))) (rs em_ML s85)) (fun v87 s88 => lb (mg em_ML 0 s85 s88) (fun s89 => (if v83 = v87 then lb (v1 + (6 : Int32)) (fun v90 => some (.inl (v90, s89))) else some (.inr (.inr ((0 : Int32), s89)))))))))) else if v5 = (9 : Int32) then gu (inb (v1 + (1 : Int32)) p90) (ob2 (f_X9_region (p91 (ix (v1 + (1 : Int32)))) (rs em_XL s2)) (fun v92 s93 => lb (mg em_XL 0 s2 s93) (fun s94 => gu (inb (v1 + (1 : Int32)) p90) (ob2 (f_X10_region (p91 (ix (v1 + (1 : Int32)))) (rs em_ML s94)) (fun v96 s97 => lb (mg em_ML 0 s94 s97) (fun s98 => (if v92 = v96 then lb (v1 + (6 : Int32)) (fun v99 => some (.inl (v99, s98))) else some (.inr (.inr ((0 : Int32), s98)))))))))) else if v5 = (10 : Int32) then gu (inb (v1 + (1 : Int32)) p90) (gu (inb (v1 + (2 : Int32)) p90) (ob2 (f_X9_holds (p91 (ix (v1 + (1 : Int32)))) (p91 (ix (v1 + (2 : Int32)))) (rs em_XL s2)) (fun v102 s103 => lb (mg em_XL 0 s2 s103) (fun s104 => gu (inb (v1 + (1 : Int32)) p90) (gu (inb (v1 + (2 : Int32)) p90) (ob2 (f_X10_holds (p91 (ix (v1 + (1 : Int32)))) (p91 (ix (v1 + (2 : Int32)))) (rs em_ML s104)) (fun v107 s108 => lb (mg em_ML 0 s104 s108) (fun s109 => (if v102 = v107 then lb (v1 + (6 : Int32)) (fun v110 => some (.inl (v110, s109))) else some (.inr (.inr ((0 : Int32), s109)))))))))))) else if v5 = (11 : Int32) then ob2 (f_X9_loans  (rs em_XL s2)) (fun v111 s112 => lb (mg em_XL 0 s2 s112) (fun s113 => ob2 (f_X10_loans  (rs em_ML s113)) (fun v114 s115 => lb (mg em_ML 0 s113 s115) (fun s116 => (if v111 = v114 then lb (v1 + (6 : Int32)) (fun v117 => some (.inl (v117, s116))) else some (.inr (.inr ((0 : Int32), s116)))))))) else if v5 = (12 : Int32) then gu (inb (v1 + (1 : Int32)) p90) (ob2 (f_X9_scope (p91 (ix (v1 + (1 : Int32)))) (rs em_XL s2)) (fun v119 s120 => lb (mg em_XL 0 s2 s120) (fun s121 => gu (inb (v1 + (1 : Int32)) p90) (ob2 (f_X10_scope (p91 (ix (v1 + (1 : Int32)))) (rs em_ML s121)) (fun v123 s124 => lb (mg em_ML 0 s121 s124) (fun s125 => (if v119 = v123 then lb (v1 + (6 : Int32)) (fun v126 => some (.inl (v126, s125))) else some (.inr (.inr ((0 : Int32), s125)))))))))) else if v5 = (13 : Int32) then gu (inb (v1 + (1 : Int32)) p90) (ob2 (f_X9_active (p91 (ix (v1 + (1 : Int32)))) (rs em_XL s2)) (fun v128 s129 => lb (mg em_XL 0 s2 s129) (fun s130 => gu (inb (v1 + (1 : Int32)) p90) (ob2 (f_X10_active (p91 (ix (v1 + (1 : Int32)))) (rs em_ML s130)) (fun v132 s133 => lb (mg em_ML 0 s130 s133) (fun s134 => (if v128 = v132 then lb (v1 + (6 : Int32)) (fun v135 => some (.inl (v135, s134))) else some (.inr (.inr ((0 : Int32), s134)))))))))) else if v5 = (14 : Int32) then gu (inb (v1 + (1 : Int32)) p90) (ob2 (f_X9_bears (p91 (ix (v1 + (1 : Int32)))) (rs em_XL s2)) (fun v137 s138 => lb (mg em_XL 0 s2 s138) (fun s139 => gu (inb (v1 + (1 : Int32)) p90) (ob2 (f_X10_bears (p91 (ix (v1 + (1 : Int32)))) (rs em_ML s139)) (fun v141 s142 => lb (mg em_ML 0 s139 s142) (fun s143 => (if v137 = v141 then lb (v1 + (6 : Int32)) (fun v144 => some (.inl (v144, s143))) else some (.inr (.inr ((0 : Int32), s143)))))))))) else if v5 = (15 : Int32) then ob2 (f_X9_errors  (rs em_XL s2)) (fun v145 s146 => lb (mg em_XL 0 s2 s146) (fun s147 => ob2 (f_X10_errors  (rs em_ML s147)) (fun v148 s149 => lb (mg em_ML 0 s147 s149) (fun s150 => (if v145 = v148 then lb (v1 + (6 : Int32)) (fun v151 => some (.inl (v151, s150))) else some (.inr (.inr ((0 : Int32), s150)))))))) else if v5 = (16 : Int32) then gu (inb (v1 + (1 : Int32)) p90) (gu (inb (v1 + (2 : Int32)) p90) (ob2 (f_X9_error (p91 (ix (v1 + (1 : Int32)))) (p91 (ix (v1 + (2 : Int32)))) (rs em_XL s2)) (fun v154 s155 => lb (mg em_XL 0 s2 s155) (fun s156 => gu (inb (v1 + (1 : Int32)) p90) (gu (inb (v1 + (2 : Int32)) p90) (ob2 (f_X10_error (p91 (ix (v1 + (1 : Int32)))) (p91 (ix (v1 + (2 : Int32)))) (rs em_ML s156)) (fun v159 s160 => lb (mg em_ML 0 s156 s160) (fun s161 => (if v154 = v159 then lb (v1 + (6 : Int32)) (fun v162 => some (.inl (v162, s161))) else some (.inr (.inr ((0 : Int32), s161)))))))))))) else if v5 = (17 : Int32) then gu (inb (v1 + (1 : Int32)) p90) (gu (inb (v1 + (2 : Int32)) p90) (ob2 (f_X9_witness (p91 (ix (v1 + (1 : Int32)))) (p91 (ix (v1 + (2 : Int32)))) (rs em_XL s2)) (fun v165 s166 => lb (mg em_XL 0 s2 s166) (fun s167 => gu (inb (v1 + (1 : Int32)) p90) (gu (inb (v1 + (2 : Int32)) p90) (ob2 (f_X10_witness (p91 (ix (v1 + (1 : Int32)))) (p91 (ix (v1 + (2 : Int32)))) (rs em_ML s167)) (fun v170 s171 => lb (mg em_ML 0 s167 s171) (fun s172 => (if v165 = v170 then lb (v1 + (6 : Int32)) (fun v173 => some (.inl (v173, s172))) else some (.inr (.inr ((0 : Int32), s172)))))))))))) else if v5 = (18 : Int32) then gu (inb (v1 + (1 : Int32)) p90) (ob2 (f_X9_mend (p91 (ix (v1 + (1 : Int32)))) (rs em_XL s2)) (fun v175 s176 => lb (mg em_XL 0 s2 s176) (fun s177 => gu (inb (v1 + (1 : Int32)) p90) (ob2 (f_X10_mend (p91 (ix (v1 + (1 : Int32)))) (rs em_ML s177)) (fun v179 s180 => lb (mg em_ML 0 s177 s180) (fun s181 => (if v175 = v179 then lb (v1 + (6 : Int32)) (fun v182 => some (.inl (v182, s181))) else some (.inr (.inr ((0 : Int32), s181)))))))))) else if v5 = (19 : Int32) then ob2 (f_X9_soft  (rs em_XL s2)) (fun v183 s184 => lb (mg em_XL 0 s2 s184) (fun s185 => ob2 (f_X10_soft  (rs em_ML s185)) (fun v186 s187 => lb (mg em_ML 0 s185 s187) (fun s188 => (if v183 = v186 then lb (v1 + (6 : Int32)) (fun v189 => some (.inl (v189, s188))) else some (.inr (.inr ((0 : Int32), s188)))))))) else if v5 = (20 : Int32) then gu (inb (v1 + (1 : Int32)) p90) (gu (inb (v1 + (2 : Int32)) p90) (gu (inb (v1 + (3 : Int32)) p90) (ob2 (f_X9_run (p91 (ix (v1 + (1 : Int32)))) (p91 (ix (v1 + (2 : Int32)))) (p91 (ix (v1 + (3 : Int32)))) (rs em_XL s2)) (fun v193 s194 => lb (mg em_XL 0 s2 s194) (fun s195 => gu (inb (v1 + (1 : Int32)) p90) (gu (inb (v1 + (2 : Int32)) p90) (gu (inb (v1 + (3 : Int32)) p90) (ob2 (f_X10_run (p91 (ix (v1 + (1 : Int32)))) (p91 (ix (v1 + (2 : Int32)))) (p91 (ix (v1 + (3 : Int32)))) (rs em_ML s195)) (fun v199 s200 => lb (mg em_ML 0 s195 s200) (fun s201 => (if v193 = v199 then lb (v1 + (6 : Int32)) (fun v202 => some (.inl (v202, s201))) else some (.inr (.inr ((0 : Int32), s201)))))))))))))) else if v5 = (21 : Int32) then gu (inb (v1 + (1 : Int32)) p90) (gu (inb (v1 + (2 : Int32)) p90) (gu (inb (v1 + (3 : Int32)) p90) (ob2 (f_X9_sheet (p91 (ix (v1 + (1 : Int32)))) (p91 (ix (v1 + (2 : Int32)))) (p91 (ix (v1 + (3 : Int32)))) (rs em_XL s2)) (fun v206 s207 => lb (mg em_XL 0 s2 s207) (fun s208 => gu (inb (v1 + (1 : Int32)) p90) (gu (inb (v1 + (2 : Int32)) p90) (gu (inb (v1 + (3 : Int32)) p90) (ob2 (f_X10_sheet (p91 (ix (v1 + (1 : Int32)))) (p91 (ix (v1 + (2 : Int32)))) (p91 (ix (v1 + (3 : Int32)))) (rs em_ML s208)) (fun v212 s213 => lb (mg em_ML 0 s208 s213) (fun s214 => (if v206 = v212 then lb (v1 + (6 : Int32)) (fun v215 => some (.inl (v215, s214))) else some (.inr (.inr ((0 : Int32), s214)))))))))))))) else if v5 = (22 : Int32) then gu (inb (v1 + (1 : Int32)) p90) (ob2 (f_X9_lose (p91 (ix (v1 + (1 : Int32)))) (rs em_XL s2)) (fun v217 s218 => lb (mg em_XL 0 s2 s218) (fun s219 => gu (inb (v1 + (1 : Int32)) p90) (ob2 (f_X10_lose (p91 (ix (v1 + (1 : Int32)))) (rs em_ML s219)) (fun v221 s222 => lb (mg em_ML 0 s219 s222) (fun s223 => (if v217 = v221 then lb (v1 + (6 : Int32)) (fun v224 => some (.inl (v224, s223))) else some (.inr (.inr ((0 : Int32), s223)))))))))) else if v5 = (23 : Int32) then gu (inb (v1 + (1 : Int32)) p90) (gu (inb (v1 + (2 : Int32)) p90) (gu (inb (v1 + (3 : Int32)) p90) (gu (inb (v1 + (4 : Int32)) p90) (ob2 (f_X9_put (p91 (ix (v1 + (1 : Int32)))) (p91 (ix (v1 + (2 : Int32)))) (p91 (ix (v1 + (3 : Int32)))) (p91 (ix (v1 + (4 : Int32)))) (rs em_XL s2)) (fun v229 s230 => lb (mg em_XL 0 s2 s230) (fun s231 => gu (inb (v1 + (1 : Int32)) p90) (gu (inb (v1 + (2 : Int32)) p90) (gu (inb (v1 + (3 : Int32)) p90) (gu (inb (v1 + (4 : Int32)) p90) (ob2 (f_X10_put (p91 (ix (v1 + (1 : Int32)))) (p91 (ix (v1 + (2 : Int32)))) (p91 (ix (v1 + (3 : Int32)))) (p91 (ix (v1 + (4 : Int32)))) (rs em_ML s231)) (fun v236 s237 => lb (mg em_ML 0 s231 s237) (fun s238 => (if v229 = v236 then lb (v1 + (6 : Int32)) (fun v239 => some (.inl (v239, s238))) else some (.inr (.inr ((0 : Int32), s238)))))))))))))))) else if v5 = (24 : Int32) then gu (inb (v1 + (1 : Int32)) p90) (gu (inb (v1 + (2 : Int32)) p90) (gu (inb (v1 + (3 : Int32)) p90) (ob2 (f_X9_get (p91 (ix (v1 + (1 : Int32)))) (p91 (ix (v1 + (2 : Int32)))) (p91 (ix (v1 + (3 : Int32)))) (rs em_XL s2)) (fun v243 s244 => lb (mg em_XL 0 s2 s244) (fun s245 => gu (inb (v1 + (1 : Int32)) p90) (gu (inb (v1 + (2 : Int32)) p90) (gu (inb (v1 + (3 : Int32)) p90) (ob2 (f_X10_get (p91 (ix (v1 + (1 : Int32)))) (p91 (ix (v1 + (2 : Int32)))) (p91 (ix (v1 + (3 : Int32)))) (rs em_ML s245)) (fun v249 s250 => lb (mg em_ML 0 s245 s250) (fun s251 => (if v243 = v249 then lb (v1 + (6 : Int32)) (fun v252 => some (.inl (v252, s251))) else some (.inr (.inr ((0 : Int32), s251)))))))))))))) else if v5 = (25 : Int32) then gu (inb (v1 + (1 : Int32)) p90) (gu (inb (v1 + (2 : Int32)) p90) (gu (inb (v1 + (3 : Int32)) p90) (gu (inb (v1 + (4 : Int32)) p90) (gu (inb (v1 + (5 : Int32)) p90) (ob2 (f_X9_copy (p91 (ix (v1 + (1 : Int32)))) (p91 (ix (v1 + (2 : Int32)))) (p91 (ix (v1 + (3 : Int32)))) (p91 (ix (v1 + (4 : Int32)))) (p91 (ix (v1 + (5 : Int32)))) (rs em_XL s2)) (fun v258 s259 => lb (mg em_XL 0 s2 s259) (fun s260 => gu (inb (v1 + (1 : Int32)) p90) (gu (inb (v1 + (2 : Int32)) p90) (gu (inb (v1 + (3 : Int32)) p90) (gu (inb (v1 + (4 : Int32)) p90) (gu (inb (v1 + (5 : Int32)) p90) (ob2 (f_X10_copy (p91 (ix (v1 + (1 : Int32)))) (p91 (ix (v1 + (2 : Int32)))) (p91 (ix (v1 + (3 : Int32)))) (p91 (ix (v1 + (4 : Int32)))) (p91 (ix (v1 + (5 : Int32)))) (rs em_ML s260)) (fun v266 s267 => lb (mg em_ML 0 s260 s267) (fun s268 => (if v258 = v266 then lb (v1 + (6 : Int32)) (fun v269 => some (.inl (v269, s268))) else some (.inr (.inr ((0 : Int32), s268)))))))))))))))))) else if v5 = (26 : Int32) then gu (inb (v1 + (1 : Int32)) p90) (ob2 (f_X9_write (p91 (ix (v1 + (1 : Int32)))) (rs em_XL s2)) (fun v271 s272 => lb (mg em_XL 0 s2 s272) (fun s273 => gu (inb (v1 + (1 : Int32)) p90) (ob2 (f_X10_write (p91 (ix (v1 + (1 : Int32)))) (rs em_ML s273)) (fun v275 s276 => lb (mg em_ML 0 s273 s276) (fun s277 => (if v271 = v275 then lb (v1 + (6 : Int32)) (fun v278 => some (.inl (v278, s277))) else some (.inr (.inr ((0 : Int32), s277)))))))))) else if v5 = (27 : Int32) then gu (inb (v1 + (1 : Int32)) p90) (ob2 (f_X9_count (p91 (ix (v1 + (1 : Int32)))) (rs em_XL s2)) (fun v280 s281 => lb (mg em_XL 0 s2 s281) (fun s282 => gu (inb (v1 + (1 : Int32)) p90) (ob2 (f_X10_count (p91 (ix (v1 + (1 : Int32)))) (rs em_ML s282)) (fun v284 s285 => lb (mg em_ML 0 s282 s285) (fun s286 => (if v280 = v284 then lb (v1 + (6 : Int32)) (fun v287 => some (.inl (v287, s286))) else some (.inr (.inr ((0 : Int32), s286)))))))))) else if v5 = (28 : Int32) then ob2 (f_X9_digest  (rs em_XL s2)) (fun v288 s289 => lb (mg em_XL 0 s2 s289) (fun s290 => ob2 (f_X10_digest  (rs em_ML s290)) (fun v291 s292 => lb (mg em_ML 0 s290 s292) (fun s293 => (if (lg_cmp v288 v291) = 0 then lb (v1 + (6 : Int32)) (fun v294 => some (.inl (v294, s293))) else some (.inr (.inr ((0 : Int32), s293)))))))) else lb (v1 + (6 : Int32)) (fun v295 => some (.inl (v295, s2)))))))
def f_L_law (p90 : Nat) (p91 : Nat → Int32) (s0 : sh_S) : Option (Int32 × sh_S) := ob (lp (fun q => f_L_law_L18 p90 p91 q.1 q.2) FU ((0 : Int32), s0)) (fun ee => sm ee (fun s3 => some ((1 : Int32), s3)) (fun q => some q))
