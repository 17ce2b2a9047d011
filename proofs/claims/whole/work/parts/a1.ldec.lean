/-! ===== the law: its instructions ===== -/
theorem dL_653 : decode code 653 = .ok (.if_icmp .eq 489, 3) := by decide +kernel
theorem dL_656 : decode code 656 = .ok (.iconst 0, 1) := by decide +kernel
theorem dL_657 : decode code 657 = .ok (.ireturn, 1) := by decide +kernel
theorem dL_658 : decode code 658 = .ok (.aload_n 1, 1) := by decide +kernel
theorem dL_659 : decode code 659 = .ok (.invokevirtual 90, 3) := by decide +kernel
theorem dL_662 : decode code 662 = .ok (.aload_n 2, 1) := by decide +kernel
theorem dL_663 : decode code 663 = .ok (.invokevirtual 93, 3) := by decide +kernel
theorem dL_666 : decode code 666 = .ok (.if_icmp .eq 476, 3) := by decide +kernel
theorem dL_669 : decode code 669 = .ok (.iconst 0, 1) := by decide +kernel
theorem dL_670 : decode code 670 = .ok (.ireturn, 1) := by decide +kernel
theorem dL_671 : decode code 671 = .ok (.aload_n 1, 1) := by decide +kernel
theorem dL_672 : decode code 672 = .ok (.aload_n 0, 1) := by decide +kernel
theorem dL_673 : decode code 673 = .ok (.iload_n 3, 1) := by decide +kernel
theorem dL_674 : decode code 674 = .ok (.iconst 1, 1) := by decide +kernel
theorem dL_675 : decode code 675 = .ok (.iadd, 1) := by decide +kernel
theorem dL_676 : decode code 676 = .ok (.iaload, 1) := by decide +kernel
theorem dL_677 : decode code 677 = .ok (.invokevirtual 94, 3) := by decide +kernel
theorem dL_680 : decode code 680 = .ok (.aload_n 2, 1) := by decide +kernel
theorem dL_681 : decode code 681 = .ok (.aload_n 0, 1) := by decide +kernel
theorem dL_682 : decode code 682 = .ok (.iload_n 3, 1) := by decide +kernel
theorem dL_683 : decode code 683 = .ok (.iconst 1, 1) := by decide +kernel
theorem dL_684 : decode code 684 = .ok (.iadd, 1) := by decide +kernel
theorem dL_685 : decode code 685 = .ok (.iaload, 1) := by decide +kernel
theorem dL_686 : decode code 686 = .ok (.invokevirtual 97, 3) := by decide +kernel
theorem dL_689 : decode code 689 = .ok (.if_icmp .eq 453, 3) := by decide +kernel
theorem dL_692 : decode code 692 = .ok (.iconst 0, 1) := by decide +kernel
theorem dL_693 : decode code 693 = .ok (.ireturn, 1) := by decide +kernel
theorem dL_694 : decode code 694 = .ok (.aload_n 1, 1) := by decide +kernel
theorem dL_695 : decode code 695 = .ok (.aload_n 0, 1) := by decide +kernel
theorem dL_696 : decode code 696 = .ok (.iload_n 3, 1) := by decide +kernel
theorem dL_697 : decode code 697 = .ok (.iconst 1, 1) := by decide +kernel
theorem dL_698 : decode code 698 = .ok (.iadd, 1) := by decide +kernel
theorem dL_699 : decode code 699 = .ok (.iaload, 1) := by decide +kernel
theorem dL_700 : decode code 700 = .ok (.invokevirtual 98, 3) := by decide +kernel
theorem dL_703 : decode code 703 = .ok (.aload_n 2, 1) := by decide +kernel
theorem dL_704 : decode code 704 = .ok (.aload_n 0, 1) := by decide +kernel
theorem dL_705 : decode code 705 = .ok (.iload_n 3, 1) := by decide +kernel
theorem dL_706 : decode code 706 = .ok (.iconst 1, 1) := by decide +kernel
theorem dL_707 : decode code 707 = .ok (.iadd, 1) := by decide +kernel
theorem dL_708 : decode code 708 = .ok (.iaload, 1) := by decide +kernel
theorem dL_709 : decode code 709 = .ok (.invokevirtual 101, 3) := by decide +kernel
theorem dL_712 : decode code 712 = .ok (.if_icmp .eq 430, 3) := by decide +kernel
theorem dL_715 : decode code 715 = .ok (.iconst 0, 1) := by decide +kernel
theorem dL_716 : decode code 716 = .ok (.ireturn, 1) := by decide +kernel
theorem dL_717 : decode code 717 = .ok (.aload_n 1, 1) := by decide +kernel
theorem dL_718 : decode code 718 = .ok (.aload_n 0, 1) := by decide +kernel
theorem dL_719 : decode code 719 = .ok (.iload_n 3, 1) := by decide +kernel
theorem dL_720 : decode code 720 = .ok (.iconst 1, 1) := by decide +kernel
theorem dL_721 : decode code 721 = .ok (.iadd, 1) := by decide +kernel
theorem dL_722 : decode code 722 = .ok (.iaload, 1) := by decide +kernel
theorem dL_723 : decode code 723 = .ok (.invokevirtual 102, 3) := by decide +kernel
theorem dL_726 : decode code 726 = .ok (.aload_n 2, 1) := by decide +kernel
theorem dL_727 : decode code 727 = .ok (.aload_n 0, 1) := by decide +kernel
theorem dL_728 : decode code 728 = .ok (.iload_n 3, 1) := by decide +kernel
theorem dL_729 : decode code 729 = .ok (.iconst 1, 1) := by decide +kernel
theorem dL_730 : decode code 730 = .ok (.iadd, 1) := by decide +kernel
theorem dL_731 : decode code 731 = .ok (.iaload, 1) := by decide +kernel
theorem dL_732 : decode code 732 = .ok (.invokevirtual 105, 3) := by decide +kernel
theorem dL_735 : decode code 735 = .ok (.if_icmp .eq 407, 3) := by decide +kernel
theorem dL_738 : decode code 738 = .ok (.iconst 0, 1) := by decide +kernel
theorem dL_739 : decode code 739 = .ok (.ireturn, 1) := by decide +kernel
theorem dL_740 : decode code 740 = .ok (.aload_n 1, 1) := by decide +kernel
theorem dL_741 : decode code 741 = .ok (.invokevirtual 106, 3) := by decide +kernel
theorem dL_744 : decode code 744 = .ok (.aload_n 2, 1) := by decide +kernel
theorem dL_745 : decode code 745 = .ok (.invokevirtual 109, 3) := by decide +kernel
theorem dL_748 : decode code 748 = .ok (.if_icmp .eq 394, 3) := by decide +kernel
theorem dL_751 : decode code 751 = .ok (.iconst 0, 1) := by decide +kernel
theorem dL_752 : decode code 752 = .ok (.ireturn, 1) := by decide +kernel
theorem dL_753 : decode code 753 = .ok (.aload_n 1, 1) := by decide +kernel
theorem dL_754 : decode code 754 = .ok (.aload_n 0, 1) := by decide +kernel
theorem dL_755 : decode code 755 = .ok (.iload_n 3, 1) := by decide +kernel
theorem dL_756 : decode code 756 = .ok (.iconst 1, 1) := by decide +kernel
theorem dL_757 : decode code 757 = .ok (.iadd, 1) := by decide +kernel
theorem dL_758 : decode code 758 = .ok (.iaload, 1) := by decide +kernel
theorem dL_759 : decode code 759 = .ok (.invokevirtual 110, 3) := by decide +kernel
theorem dL_762 : decode code 762 = .ok (.aload_n 2, 1) := by decide +kernel
theorem dL_763 : decode code 763 = .ok (.aload_n 0, 1) := by decide +kernel
theorem dL_764 : decode code 764 = .ok (.iload_n 3, 1) := by decide +kernel
theorem dL_765 : decode code 765 = .ok (.iconst 1, 1) := by decide +kernel
theorem dL_766 : decode code 766 = .ok (.iadd, 1) := by decide +kernel
theorem dL_767 : decode code 767 = .ok (.iaload, 1) := by decide +kernel
theorem dL_768 : decode code 768 = .ok (.invokevirtual 113, 3) := by decide +kernel
theorem dL_771 : decode code 771 = .ok (.if_icmp .eq 371, 3) := by decide +kernel
theorem dL_774 : decode code 774 = .ok (.iconst 0, 1) := by decide +kernel
theorem dL_775 : decode code 775 = .ok (.ireturn, 1) := by decide +kernel
theorem dL_776 : decode code 776 = .ok (.aload_n 1, 1) := by decide +kernel
theorem dL_777 : decode code 777 = .ok (.aload_n 0, 1) := by decide +kernel
theorem dL_778 : decode code 778 = .ok (.iload_n 3, 1) := by decide +kernel
theorem dL_779 : decode code 779 = .ok (.iconst 1, 1) := by decide +kernel
theorem dL_780 : decode code 780 = .ok (.iadd, 1) := by decide +kernel
theorem dL_781 : decode code 781 = .ok (.iaload, 1) := by decide +kernel
theorem dL_782 : decode code 782 = .ok (.invokevirtual 114, 3) := by decide +kernel
theorem dL_785 : decode code 785 = .ok (.aload_n 2, 1) := by decide +kernel
theorem dL_786 : decode code 786 = .ok (.aload_n 0, 1) := by decide +kernel
theorem dL_787 : decode code 787 = .ok (.iload_n 3, 1) := by decide +kernel
theorem dL_788 : decode code 788 = .ok (.iconst 1, 1) := by decide +kernel
theorem dL_789 : decode code 789 = .ok (.iadd, 1) := by decide +kernel
theorem dL_790 : decode code 790 = .ok (.iaload, 1) := by decide +kernel
theorem dL_791 : decode code 791 = .ok (.invokevirtual 117, 3) := by decide +kernel
theorem dL_794 : decode code 794 = .ok (.if_icmp .eq 348, 3) := by decide +kernel
theorem dL_797 : decode code 797 = .ok (.iconst 0, 1) := by decide +kernel
theorem dL_798 : decode code 798 = .ok (.ireturn, 1) := by decide +kernel
theorem dL_799 : decode code 799 = .ok (.aload_n 1, 1) := by decide +kernel
theorem dL_800 : decode code 800 = .ok (.aload_n 0, 1) := by decide +kernel
theorem dL_801 : decode code 801 = .ok (.iload_n 3, 1) := by decide +kernel
theorem dL_802 : decode code 802 = .ok (.iconst 1, 1) := by decide +kernel
theorem dL_803 : decode code 803 = .ok (.iadd, 1) := by decide +kernel
theorem dL_804 : decode code 804 = .ok (.iaload, 1) := by decide +kernel
theorem dL_805 : decode code 805 = .ok (.invokevirtual 118, 3) := by decide +kernel
theorem dL_808 : decode code 808 = .ok (.aload_n 2, 1) := by decide +kernel
theorem dL_809 : decode code 809 = .ok (.aload_n 0, 1) := by decide +kernel
theorem dL_810 : decode code 810 = .ok (.iload_n 3, 1) := by decide +kernel
theorem dL_811 : decode code 811 = .ok (.iconst 1, 1) := by decide +kernel
theorem dL_812 : decode code 812 = .ok (.iadd, 1) := by decide +kernel
theorem dL_813 : decode code 813 = .ok (.iaload, 1) := by decide +kernel
theorem dL_814 : decode code 814 = .ok (.invokevirtual 121, 3) := by decide +kernel
theorem dL_817 : decode code 817 = .ok (.if_icmp .eq 325, 3) := by decide +kernel
theorem dL_820 : decode code 820 = .ok (.iconst 0, 1) := by decide +kernel
theorem dL_821 : decode code 821 = .ok (.ireturn, 1) := by decide +kernel
theorem dL_822 : decode code 822 = .ok (.aload_n 1, 1) := by decide +kernel
theorem dL_823 : decode code 823 = .ok (.aload_n 0, 1) := by decide +kernel
theorem dL_824 : decode code 824 = .ok (.iload_n 3, 1) := by decide +kernel
theorem dL_825 : decode code 825 = .ok (.iconst 1, 1) := by decide +kernel
theorem dL_826 : decode code 826 = .ok (.iadd, 1) := by decide +kernel
theorem dL_827 : decode code 827 = .ok (.iaload, 1) := by decide +kernel
theorem dL_828 : decode code 828 = .ok (.invokevirtual 122, 3) := by decide +kernel
theorem dL_831 : decode code 831 = .ok (.aload_n 2, 1) := by decide +kernel
theorem dL_832 : decode code 832 = .ok (.aload_n 0, 1) := by decide +kernel
theorem dL_833 : decode code 833 = .ok (.iload_n 3, 1) := by decide +kernel
theorem dL_834 : decode code 834 = .ok (.iconst 1, 1) := by decide +kernel
theorem dL_835 : decode code 835 = .ok (.iadd, 1) := by decide +kernel
theorem dL_836 : decode code 836 = .ok (.iaload, 1) := by decide +kernel
theorem dL_837 : decode code 837 = .ok (.invokevirtual 125, 3) := by decide +kernel
theorem dL_840 : decode code 840 = .ok (.if_icmp .eq 302, 3) := by decide +kernel
theorem dL_843 : decode code 843 = .ok (.iconst 0, 1) := by decide +kernel
theorem dL_844 : decode code 844 = .ok (.ireturn, 1) := by decide +kernel
theorem dL_845 : decode code 845 = .ok (.aload_n 1, 1) := by decide +kernel
theorem dL_846 : decode code 846 = .ok (.aload_n 0, 1) := by decide +kernel
theorem dL_847 : decode code 847 = .ok (.iload_n 3, 1) := by decide +kernel
theorem dL_848 : decode code 848 = .ok (.iconst 1, 1) := by decide +kernel
theorem dL_849 : decode code 849 = .ok (.iadd, 1) := by decide +kernel
theorem dL_850 : decode code 850 = .ok (.iaload, 1) := by decide +kernel
theorem dL_851 : decode code 851 = .ok (.aload_n 0, 1) := by decide +kernel
theorem dL_852 : decode code 852 = .ok (.iload_n 3, 1) := by decide +kernel
theorem dL_853 : decode code 853 = .ok (.iconst 2, 1) := by decide +kernel
theorem dL_854 : decode code 854 = .ok (.iadd, 1) := by decide +kernel
theorem dL_855 : decode code 855 = .ok (.iaload, 1) := by decide +kernel
theorem dL_856 : decode code 856 = .ok (.aload_n 0, 1) := by decide +kernel
theorem dL_857 : decode code 857 = .ok (.iload_n 3, 1) := by decide +kernel
theorem dL_858 : decode code 858 = .ok (.iconst 3, 1) := by decide +kernel
theorem dL_859 : decode code 859 = .ok (.iadd, 1) := by decide +kernel
theorem dL_860 : decode code 860 = .ok (.iaload, 1) := by decide +kernel
theorem dL_861 : decode code 861 = .ok (.invokevirtual 126, 3) := by decide +kernel
theorem dL_864 : decode code 864 = .ok (.aload_n 2, 1) := by decide +kernel
theorem dL_865 : decode code 865 = .ok (.aload_n 0, 1) := by decide +kernel
theorem dL_866 : decode code 866 = .ok (.iload_n 3, 1) := by decide +kernel
theorem dL_867 : decode code 867 = .ok (.iconst 1, 1) := by decide +kernel
theorem dL_868 : decode code 868 = .ok (.iadd, 1) := by decide +kernel
theorem dL_869 : decode code 869 = .ok (.iaload, 1) := by decide +kernel
theorem dL_870 : decode code 870 = .ok (.aload_n 0, 1) := by decide +kernel
theorem dL_871 : decode code 871 = .ok (.iload_n 3, 1) := by decide +kernel
theorem dL_872 : decode code 872 = .ok (.iconst 2, 1) := by decide +kernel
theorem dL_873 : decode code 873 = .ok (.iadd, 1) := by decide +kernel
theorem dL_874 : decode code 874 = .ok (.iaload, 1) := by decide +kernel
theorem dL_875 : decode code 875 = .ok (.aload_n 0, 1) := by decide +kernel
theorem dL_876 : decode code 876 = .ok (.iload_n 3, 1) := by decide +kernel
theorem dL_877 : decode code 877 = .ok (.iconst 3, 1) := by decide +kernel
theorem dL_878 : decode code 878 = .ok (.iadd, 1) := by decide +kernel
theorem dL_879 : decode code 879 = .ok (.iaload, 1) := by decide +kernel
theorem dL_880 : decode code 880 = .ok (.invokevirtual 129, 3) := by decide +kernel
theorem dL_883 : decode code 883 = .ok (.if_icmp .eq 259, 3) := by decide +kernel
theorem dL_886 : decode code 886 = .ok (.iconst 0, 1) := by decide +kernel
theorem dL_887 : decode code 887 = .ok (.ireturn, 1) := by decide +kernel
theorem dL_888 : decode code 888 = .ok (.aload_n 1, 1) := by decide +kernel
theorem dL_889 : decode code 889 = .ok (.invokevirtual 130, 3) := by decide +kernel
theorem dL_892 : decode code 892 = .ok (.aload_n 2, 1) := by decide +kernel
theorem dL_893 : decode code 893 = .ok (.invokevirtual 133, 3) := by decide +kernel
theorem dL_896 : decode code 896 = .ok (.if_icmp .eq 246, 3) := by decide +kernel
theorem dL_899 : decode code 899 = .ok (.iconst 0, 1) := by decide +kernel
theorem dL_900 : decode code 900 = .ok (.ireturn, 1) := by decide +kernel
theorem dL_901 : decode code 901 = .ok (.aload_n 1, 1) := by decide +kernel
theorem dL_902 : decode code 902 = .ok (.invokevirtual 134, 3) := by decide +kernel
theorem dL_905 : decode code 905 = .ok (.aload_n 2, 1) := by decide +kernel
theorem dL_906 : decode code 906 = .ok (.invokevirtual 137, 3) := by decide +kernel
theorem dL_909 : decode code 909 = .ok (.if_icmp .eq 233, 3) := by decide +kernel
theorem dL_912 : decode code 912 = .ok (.iconst 0, 1) := by decide +kernel
theorem dL_913 : decode code 913 = .ok (.ireturn, 1) := by decide +kernel
theorem dL_914 : decode code 914 = .ok (.aload_n 1, 1) := by decide +kernel
theorem dL_915 : decode code 915 = .ok (.aload_n 0, 1) := by decide +kernel
theorem dL_916 : decode code 916 = .ok (.iload_n 3, 1) := by decide +kernel
theorem dL_917 : decode code 917 = .ok (.iconst 1, 1) := by decide +kernel
theorem dL_918 : decode code 918 = .ok (.iadd, 1) := by decide +kernel
theorem dL_919 : decode code 919 = .ok (.iaload, 1) := by decide +kernel
theorem dL_920 : decode code 920 = .ok (.invokevirtual 138, 3) := by decide +kernel
theorem dL_923 : decode code 923 = .ok (.aload_n 2, 1) := by decide +kernel
theorem dL_924 : decode code 924 = .ok (.aload_n 0, 1) := by decide +kernel
theorem dL_925 : decode code 925 = .ok (.iload_n 3, 1) := by decide +kernel
theorem dL_926 : decode code 926 = .ok (.iconst 1, 1) := by decide +kernel
theorem dL_927 : decode code 927 = .ok (.iadd, 1) := by decide +kernel
theorem dL_928 : decode code 928 = .ok (.iaload, 1) := by decide +kernel
theorem dL_929 : decode code 929 = .ok (.invokevirtual 141, 3) := by decide +kernel
theorem dL_932 : decode code 932 = .ok (.if_icmp .eq 210, 3) := by decide +kernel
theorem dL_935 : decode code 935 = .ok (.iconst 0, 1) := by decide +kernel
theorem dL_936 : decode code 936 = .ok (.ireturn, 1) := by decide +kernel
theorem dL_937 : decode code 937 = .ok (.aload_n 1, 1) := by decide +kernel
theorem dL_938 : decode code 938 = .ok (.aload_n 0, 1) := by decide +kernel
theorem dL_939 : decode code 939 = .ok (.iload_n 3, 1) := by decide +kernel
theorem dL_940 : decode code 940 = .ok (.iconst 1, 1) := by decide +kernel
theorem dL_941 : decode code 941 = .ok (.iadd, 1) := by decide +kernel
theorem dL_942 : decode code 942 = .ok (.iaload, 1) := by decide +kernel
theorem dL_943 : decode code 943 = .ok (.aload_n 0, 1) := by decide +kernel
theorem dL_944 : decode code 944 = .ok (.iload_n 3, 1) := by decide +kernel
theorem dL_945 : decode code 945 = .ok (.iconst 2, 1) := by decide +kernel
theorem dL_946 : decode code 946 = .ok (.iadd, 1) := by decide +kernel
theorem dL_947 : decode code 947 = .ok (.iaload, 1) := by decide +kernel
theorem dL_948 : decode code 948 = .ok (.invokevirtual 142, 3) := by decide +kernel
theorem dL_951 : decode code 951 = .ok (.aload_n 2, 1) := by decide +kernel
theorem dL_952 : decode code 952 = .ok (.aload_n 0, 1) := by decide +kernel
theorem dL_953 : decode code 953 = .ok (.iload_n 3, 1) := by decide +kernel
theorem dL_954 : decode code 954 = .ok (.iconst 1, 1) := by decide +kernel
theorem dL_955 : decode code 955 = .ok (.iadd, 1) := by decide +kernel
theorem dL_956 : decode code 956 = .ok (.iaload, 1) := by decide +kernel
theorem dL_957 : decode code 957 = .ok (.aload_n 0, 1) := by decide +kernel
theorem dL_958 : decode code 958 = .ok (.iload_n 3, 1) := by decide +kernel
theorem dL_959 : decode code 959 = .ok (.iconst 2, 1) := by decide +kernel
theorem dL_960 : decode code 960 = .ok (.iadd, 1) := by decide +kernel
theorem dL_961 : decode code 961 = .ok (.iaload, 1) := by decide +kernel
theorem dL_962 : decode code 962 = .ok (.invokevirtual 146, 3) := by decide +kernel
theorem dL_965 : decode code 965 = .ok (.lcmp, 1) := by decide +kernel
theorem dL_966 : decode code 966 = .ok (.ifCond .eq 176, 3) := by decide +kernel
theorem dL_969 : decode code 969 = .ok (.iconst 0, 1) := by decide +kernel
theorem dL_970 : decode code 970 = .ok (.ireturn, 1) := by decide +kernel
theorem dL_971 : decode code 971 = .ok (.aload_n 1, 1) := by decide +kernel
theorem dL_972 : decode code 972 = .ok (.aload_n 0, 1) := by decide +kernel
theorem dL_973 : decode code 973 = .ok (.iload_n 3, 1) := by decide +kernel
theorem dL_974 : decode code 974 = .ok (.iconst 1, 1) := by decide +kernel
theorem dL_975 : decode code 975 = .ok (.iadd, 1) := by decide +kernel
theorem dL_976 : decode code 976 = .ok (.iaload, 1) := by decide +kernel
theorem dL_977 : decode code 977 = .ok (.invokevirtual 147, 3) := by decide +kernel
theorem dL_980 : decode code 980 = .ok (.aload_n 2, 1) := by decide +kernel
theorem dL_981 : decode code 981 = .ok (.aload_n 0, 1) := by decide +kernel
theorem dL_982 : decode code 982 = .ok (.iload_n 3, 1) := by decide +kernel
theorem dL_983 : decode code 983 = .ok (.iconst 1, 1) := by decide +kernel
theorem dL_984 : decode code 984 = .ok (.iadd, 1) := by decide +kernel
theorem dL_985 : decode code 985 = .ok (.iaload, 1) := by decide +kernel
theorem dL_986 : decode code 986 = .ok (.invokevirtual 150, 3) := by decide +kernel
theorem dL_989 : decode code 989 = .ok (.if_icmp .eq 153, 3) := by decide +kernel
theorem dL_992 : decode code 992 = .ok (.iconst 0, 1) := by decide +kernel
theorem dL_993 : decode code 993 = .ok (.ireturn, 1) := by decide +kernel
theorem dL_994 : decode code 994 = .ok (.aload_n 1, 1) := by decide +kernel
theorem dL_995 : decode code 995 = .ok (.aload_n 0, 1) := by decide +kernel
theorem dL_996 : decode code 996 = .ok (.iload_n 3, 1) := by decide +kernel
theorem dL_997 : decode code 997 = .ok (.iconst 1, 1) := by decide +kernel
theorem dL_998 : decode code 998 = .ok (.iadd, 1) := by decide +kernel
theorem dL_999 : decode code 999 = .ok (.iaload, 1) := by decide +kernel
theorem dL_1000 : decode code 1000 = .ok (.aload_n 0, 1) := by decide +kernel
theorem dL_1001 : decode code 1001 = .ok (.iload_n 3, 1) := by decide +kernel
theorem dL_1002 : decode code 1002 = .ok (.iconst 2, 1) := by decide +kernel
theorem dL_1003 : decode code 1003 = .ok (.iadd, 1) := by decide +kernel
theorem dL_1004 : decode code 1004 = .ok (.iaload, 1) := by decide +kernel
theorem dL_1005 : decode code 1005 = .ok (.invokevirtual 151, 3) := by decide +kernel
theorem dL_1008 : decode code 1008 = .ok (.aload_n 2, 1) := by decide +kernel
theorem dL_1009 : decode code 1009 = .ok (.aload_n 0, 1) := by decide +kernel
theorem dL_1010 : decode code 1010 = .ok (.iload_n 3, 1) := by decide +kernel
theorem dL_1011 : decode code 1011 = .ok (.iconst 1, 1) := by decide +kernel
theorem dL_1012 : decode code 1012 = .ok (.iadd, 1) := by decide +kernel
theorem dL_1013 : decode code 1013 = .ok (.iaload, 1) := by decide +kernel
theorem dL_1014 : decode code 1014 = .ok (.aload_n 0, 1) := by decide +kernel
theorem dL_1015 : decode code 1015 = .ok (.iload_n 3, 1) := by decide +kernel
theorem dL_1016 : decode code 1016 = .ok (.iconst 2, 1) := by decide +kernel
theorem dL_1017 : decode code 1017 = .ok (.iadd, 1) := by decide +kernel
theorem dL_1018 : decode code 1018 = .ok (.iaload, 1) := by decide +kernel
theorem dL_1019 : decode code 1019 = .ok (.invokevirtual 154, 3) := by decide +kernel
theorem dL_1022 : decode code 1022 = .ok (.if_icmp .eq 120, 3) := by decide +kernel
theorem dL_1025 : decode code 1025 = .ok (.iconst 0, 1) := by decide +kernel
theorem dL_1026 : decode code 1026 = .ok (.ireturn, 1) := by decide +kernel
theorem dL_1027 : decode code 1027 = .ok (.aload_n 1, 1) := by decide +kernel
theorem dL_1028 : decode code 1028 = .ok (.aload_n 0, 1) := by decide +kernel
theorem dL_1029 : decode code 1029 = .ok (.iload_n 3, 1) := by decide +kernel
theorem dL_1030 : decode code 1030 = .ok (.iconst 1, 1) := by decide +kernel
theorem dL_1031 : decode code 1031 = .ok (.iadd, 1) := by decide +kernel
theorem dL_1032 : decode code 1032 = .ok (.iaload, 1) := by decide +kernel
theorem dL_1033 : decode code 1033 = .ok (.aload_n 0, 1) := by decide +kernel
theorem dL_1034 : decode code 1034 = .ok (.iload_n 3, 1) := by decide +kernel
theorem dL_1035 : decode code 1035 = .ok (.iconst 2, 1) := by decide +kernel
theorem dL_1036 : decode code 1036 = .ok (.iadd, 1) := by decide +kernel
theorem dL_1037 : decode code 1037 = .ok (.iaload, 1) := by decide +kernel
theorem dL_1038 : decode code 1038 = .ok (.invokevirtual 155, 3) := by decide +kernel
theorem dL_1041 : decode code 1041 = .ok (.aload_n 2, 1) := by decide +kernel
theorem dL_1042 : decode code 1042 = .ok (.aload_n 0, 1) := by decide +kernel
theorem dL_1043 : decode code 1043 = .ok (.iload_n 3, 1) := by decide +kernel
theorem dL_1044 : decode code 1044 = .ok (.iconst 1, 1) := by decide +kernel
theorem dL_1045 : decode code 1045 = .ok (.iadd, 1) := by decide +kernel
theorem dL_1046 : decode code 1046 = .ok (.iaload, 1) := by decide +kernel
theorem dL_1047 : decode code 1047 = .ok (.aload_n 0, 1) := by decide +kernel
theorem dL_1048 : decode code 1048 = .ok (.iload_n 3, 1) := by decide +kernel
theorem dL_1049 : decode code 1049 = .ok (.iconst 2, 1) := by decide +kernel
theorem dL_1050 : decode code 1050 = .ok (.iadd, 1) := by decide +kernel
theorem dL_1051 : decode code 1051 = .ok (.iaload, 1) := by decide +kernel
theorem dL_1052 : decode code 1052 = .ok (.invokevirtual 158, 3) := by decide +kernel
theorem dL_1055 : decode code 1055 = .ok (.if_icmp .eq 87, 3) := by decide +kernel
theorem dL_1058 : decode code 1058 = .ok (.iconst 0, 1) := by decide +kernel
theorem dL_1059 : decode code 1059 = .ok (.ireturn, 1) := by decide +kernel
theorem dL_1060 : decode code 1060 = .ok (.aload_n 1, 1) := by decide +kernel
theorem dL_1061 : decode code 1061 = .ok (.aload_n 0, 1) := by decide +kernel
theorem dL_1062 : decode code 1062 = .ok (.iload_n 3, 1) := by decide +kernel
theorem dL_1063 : decode code 1063 = .ok (.iconst 1, 1) := by decide +kernel
theorem dL_1064 : decode code 1064 = .ok (.iadd, 1) := by decide +kernel
theorem dL_1065 : decode code 1065 = .ok (.iaload, 1) := by decide +kernel
theorem dL_1066 : decode code 1066 = .ok (.invokevirtual 159, 3) := by decide +kernel
theorem dL_1069 : decode code 1069 = .ok (.aload_n 2, 1) := by decide +kernel
theorem dL_1070 : decode code 1070 = .ok (.aload_n 0, 1) := by decide +kernel
theorem dL_1071 : decode code 1071 = .ok (.iload_n 3, 1) := by decide +kernel
theorem dL_1072 : decode code 1072 = .ok (.iconst 1, 1) := by decide +kernel
theorem dL_1073 : decode code 1073 = .ok (.iadd, 1) := by decide +kernel
theorem dL_1074 : decode code 1074 = .ok (.iaload, 1) := by decide +kernel
theorem dL_1075 : decode code 1075 = .ok (.invokevirtual 162, 3) := by decide +kernel
theorem dL_1078 : decode code 1078 = .ok (.if_icmp .eq 64, 3) := by decide +kernel
theorem dL_1081 : decode code 1081 = .ok (.iconst 0, 1) := by decide +kernel
theorem dL_1082 : decode code 1082 = .ok (.ireturn, 1) := by decide +kernel
theorem dL_1083 : decode code 1083 = .ok (.aload_n 1, 1) := by decide +kernel
theorem dL_1084 : decode code 1084 = .ok (.aload_n 0, 1) := by decide +kernel
theorem dL_1085 : decode code 1085 = .ok (.iload_n 3, 1) := by decide +kernel
theorem dL_1086 : decode code 1086 = .ok (.iconst 1, 1) := by decide +kernel
theorem dL_1087 : decode code 1087 = .ok (.iadd, 1) := by decide +kernel
theorem dL_1088 : decode code 1088 = .ok (.iaload, 1) := by decide +kernel
theorem dL_1089 : decode code 1089 = .ok (.invokevirtual 163, 3) := by decide +kernel
theorem dL_1092 : decode code 1092 = .ok (.aload_n 2, 1) := by decide +kernel
theorem dL_1093 : decode code 1093 = .ok (.aload_n 0, 1) := by decide +kernel
theorem dL_1094 : decode code 1094 = .ok (.iload_n 3, 1) := by decide +kernel
theorem dL_1095 : decode code 1095 = .ok (.iconst 1, 1) := by decide +kernel
theorem dL_1096 : decode code 1096 = .ok (.iadd, 1) := by decide +kernel
theorem dL_1097 : decode code 1097 = .ok (.iaload, 1) := by decide +kernel
theorem dL_1098 : decode code 1098 = .ok (.invokevirtual 166, 3) := by decide +kernel
theorem dL_1101 : decode code 1101 = .ok (.if_icmp .eq 41, 3) := by decide +kernel
theorem dL_1104 : decode code 1104 = .ok (.iconst 0, 1) := by decide +kernel
theorem dL_1105 : decode code 1105 = .ok (.ireturn, 1) := by decide +kernel
theorem dL_1106 : decode code 1106 = .ok (.aload_n 1, 1) := by decide +kernel
theorem dL_1107 : decode code 1107 = .ok (.aload_n 0, 1) := by decide +kernel
theorem dL_1108 : decode code 1108 = .ok (.iload_n 3, 1) := by decide +kernel
theorem dL_1109 : decode code 1109 = .ok (.iconst 1, 1) := by decide +kernel
theorem dL_1110 : decode code 1110 = .ok (.iadd, 1) := by decide +kernel
theorem dL_1111 : decode code 1111 = .ok (.iaload, 1) := by decide +kernel
theorem dL_1112 : decode code 1112 = .ok (.invokevirtual 167, 3) := by decide +kernel
theorem dL_1115 : decode code 1115 = .ok (.aload_n 2, 1) := by decide +kernel
theorem dL_1116 : decode code 1116 = .ok (.aload_n 0, 1) := by decide +kernel
theorem dL_1117 : decode code 1117 = .ok (.iload_n 3, 1) := by decide +kernel
theorem dL_1118 : decode code 1118 = .ok (.iconst 1, 1) := by decide +kernel
theorem dL_1119 : decode code 1119 = .ok (.iadd, 1) := by decide +kernel
theorem dL_1120 : decode code 1120 = .ok (.iaload, 1) := by decide +kernel
theorem dL_1121 : decode code 1121 = .ok (.invokevirtual 170, 3) := by decide +kernel
theorem dL_1124 : decode code 1124 = .ok (.if_icmp .eq 18, 3) := by decide +kernel
theorem dL_1127 : decode code 1127 = .ok (.iconst 0, 1) := by decide +kernel
theorem dL_1128 : decode code 1128 = .ok (.ireturn, 1) := by decide +kernel
theorem dL_1129 : decode code 1129 = .ok (.aload_n 1, 1) := by decide +kernel
theorem dL_1130 : decode code 1130 = .ok (.invokevirtual 171, 3) := by decide +kernel
theorem dL_1133 : decode code 1133 = .ok (.aload_n 2, 1) := by decide +kernel
theorem dL_1134 : decode code 1134 = .ok (.invokevirtual 174, 3) := by decide +kernel
theorem dL_1137 : decode code 1137 = .ok (.if_icmp .eq 5, 3) := by decide +kernel
theorem dL_1140 : decode code 1140 = .ok (.iconst 0, 1) := by decide +kernel
theorem dL_1141 : decode code 1141 = .ok (.ireturn, 1) := by decide +kernel
theorem dL_1142 : decode code 1142 = .ok (.iinc 3 6, 3) := by decide +kernel
theorem dL_1145 : decode code 1145 = .ok (.goto (-1127), 3) := by decide +kernel
theorem dL_1148 : decode code 1148 = .ok (.iconst 1, 1) := by decide +kernel
theorem dL_1149 : decode code 1149 = .ok (.ireturn, 1) := by decide +kernel
