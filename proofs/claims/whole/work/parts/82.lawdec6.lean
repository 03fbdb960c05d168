theorem d_LA_law_789 : decode code 789 = .ok (.aload_n 1, 1) := by decide +kernel
theorem d_LA_law_790 : decode code 790 = .ok (.aload_n 0, 1) := by decide +kernel
theorem d_LA_law_791 : decode code 791 = .ok (.iload 4, 2) := by decide +kernel
theorem d_LA_law_793 : decode code 793 = .ok (.iconst 1, 1) := by decide +kernel
theorem d_LA_law_794 : decode code 794 = .ok (.iadd, 1) := by decide +kernel
theorem d_LA_law_795 : decode code 795 = .ok (.iaload, 1) := by decide +kernel
theorem d_LA_law_796 : decode code 796 = .ok (.aload_n 3, 1) := by decide +kernel
theorem d_LA_law_797 : decode code 797 = .ok (.invokestatic 107, 3) := by decide +kernel
theorem d_LA_law_800 : decode code 800 = .ok (.istore 5, 2) := by decide +kernel
theorem d_LA_law_802 : decode code 802 = .ok (.aload_n 2, 1) := by decide +kernel
theorem d_LA_law_803 : decode code 803 = .ok (.aload_n 0, 1) := by decide +kernel
theorem d_LA_law_804 : decode code 804 = .ok (.iload 4, 2) := by decide +kernel
theorem d_LA_law_806 : decode code 806 = .ok (.iconst 1, 1) := by decide +kernel
theorem d_LA_law_807 : decode code 807 = .ok (.iadd, 1) := by decide +kernel
theorem d_LA_law_808 : decode code 808 = .ok (.iaload, 1) := by decide +kernel
theorem d_LA_law_809 : decode code 809 = .ok (.invokevirtual 109, 3) := by decide +kernel
theorem d_LA_law_812 : decode code 812 = .ok (.istore 6, 2) := by decide +kernel
theorem d_LA_law_814 : decode code 814 = .ok (.aload_n 2, 1) := by decide +kernel
theorem d_LA_law_815 : decode code 815 = .ok (.invokevirtual 80, 3) := by decide +kernel
theorem d_LA_law_818 : decode code 818 = .ok (.iload 5, 2) := by decide +kernel
theorem d_LA_law_820 : decode code 820 = .ok (.if_icmp .eq 5, 3) := by decide +kernel
theorem d_LA_law_823 : decode code 823 = .ok (.iconst 0, 1) := by decide +kernel
theorem d_LA_law_824 : decode code 824 = .ok (.ireturn, 1) := by decide +kernel
theorem d_LA_law_825 : decode code 825 = .ok (.iload 5, 2) := by decide +kernel
theorem d_LA_law_827 : decode code 827 = .ok (.ifCond .ne 15, 3) := by decide +kernel
theorem d_LA_law_830 : decode code 830 = .ok (.aload_n 3, 1) := by decide +kernel
theorem d_LA_law_831 : decode code 831 = .ok (.iconst 0, 1) := by decide +kernel
theorem d_LA_law_832 : decode code 832 = .ok (.laload, 1) := by decide +kernel
theorem d_LA_law_833 : decode code 833 = .ok (.iload 6, 2) := by decide +kernel
theorem d_LA_law_835 : decode code 835 = .ok (.i2l, 1) := by decide +kernel
theorem d_LA_law_836 : decode code 836 = .ok (.lcmp, 1) := by decide +kernel
theorem d_LA_law_837 : decode code 837 = .ok (.ifCond .eq 5, 3) := by decide +kernel
theorem d_LA_law_840 : decode code 840 = .ok (.iconst 0, 1) := by decide +kernel
theorem d_LA_law_841 : decode code 841 = .ok (.ireturn, 1) := by decide +kernel
theorem d_LA_law_842 : decode code 842 = .ok (.goto 379, 3) := by decide +kernel
theorem d_LA_law_845 : decode code 845 = .ok (.aload_n 1, 1) := by decide +kernel
theorem d_LA_law_846 : decode code 846 = .ok (.aload_n 0, 1) := by decide +kernel
theorem d_LA_law_847 : decode code 847 = .ok (.iload 4, 2) := by decide +kernel
theorem d_LA_law_849 : decode code 849 = .ok (.iconst 1, 1) := by decide +kernel
theorem d_LA_law_850 : decode code 850 = .ok (.iadd, 1) := by decide +kernel
theorem d_LA_law_851 : decode code 851 = .ok (.iaload, 1) := by decide +kernel
theorem d_LA_law_852 : decode code 852 = .ok (.aload_n 0, 1) := by decide +kernel
theorem d_LA_law_853 : decode code 853 = .ok (.iload 4, 2) := by decide +kernel
theorem d_LA_law_855 : decode code 855 = .ok (.iconst 2, 1) := by decide +kernel
theorem d_LA_law_856 : decode code 856 = .ok (.iadd, 1) := by decide +kernel
theorem d_LA_law_857 : decode code 857 = .ok (.iaload, 1) := by decide +kernel
theorem d_LA_law_858 : decode code 858 = .ok (.aload_n 3, 1) := by decide +kernel
theorem d_LA_law_859 : decode code 859 = .ok (.invokestatic 110, 3) := by decide +kernel
theorem d_LA_law_862 : decode code 862 = .ok (.istore 5, 2) := by decide +kernel
theorem d_LA_law_864 : decode code 864 = .ok (.aload_n 2, 1) := by decide +kernel
theorem d_LA_law_865 : decode code 865 = .ok (.aload_n 0, 1) := by decide +kernel
theorem d_LA_law_866 : decode code 866 = .ok (.iload 4, 2) := by decide +kernel
theorem d_LA_law_868 : decode code 868 = .ok (.iconst 1, 1) := by decide +kernel
theorem d_LA_law_869 : decode code 869 = .ok (.iadd, 1) := by decide +kernel
theorem d_LA_law_870 : decode code 870 = .ok (.iaload, 1) := by decide +kernel
theorem d_LA_law_871 : decode code 871 = .ok (.aload_n 0, 1) := by decide +kernel
theorem d_LA_law_872 : decode code 872 = .ok (.iload 4, 2) := by decide +kernel
theorem d_LA_law_874 : decode code 874 = .ok (.iconst 2, 1) := by decide +kernel
theorem d_LA_law_875 : decode code 875 = .ok (.iadd, 1) := by decide +kernel
theorem d_LA_law_876 : decode code 876 = .ok (.iaload, 1) := by decide +kernel
theorem d_LA_law_877 : decode code 877 = .ok (.invokevirtual 112, 3) := by decide +kernel
theorem d_LA_law_880 : decode code 880 = .ok (.lstore 6, 2) := by decide +kernel
theorem d_LA_law_882 : decode code 882 = .ok (.aload_n 2, 1) := by decide +kernel
theorem d_LA_law_883 : decode code 883 = .ok (.invokevirtual 80, 3) := by decide +kernel
theorem d_LA_law_886 : decode code 886 = .ok (.iload 5, 2) := by decide +kernel
theorem d_LA_law_888 : decode code 888 = .ok (.if_icmp .eq 5, 3) := by decide +kernel
theorem d_LA_law_891 : decode code 891 = .ok (.iconst 0, 1) := by decide +kernel
theorem d_LA_law_892 : decode code 892 = .ok (.ireturn, 1) := by decide +kernel
theorem d_LA_law_893 : decode code 893 = .ok (.iload 5, 2) := by decide +kernel
theorem d_LA_law_895 : decode code 895 = .ok (.ifCond .ne 14, 3) := by decide +kernel
theorem d_LA_law_898 : decode code 898 = .ok (.aload_n 3, 1) := by decide +kernel
theorem d_LA_law_899 : decode code 899 = .ok (.iconst 0, 1) := by decide +kernel
theorem d_LA_law_900 : decode code 900 = .ok (.laload, 1) := by decide +kernel
theorem d_LA_law_901 : decode code 901 = .ok (.lload 6, 2) := by decide +kernel
theorem d_LA_law_903 : decode code 903 = .ok (.lcmp, 1) := by decide +kernel
theorem d_LA_law_904 : decode code 904 = .ok (.ifCond .eq 5, 3) := by decide +kernel
theorem d_LA_law_907 : decode code 907 = .ok (.iconst 0, 1) := by decide +kernel
theorem d_LA_law_908 : decode code 908 = .ok (.ireturn, 1) := by decide +kernel
theorem d_LA_law_909 : decode code 909 = .ok (.goto 312, 3) := by decide +kernel
theorem d_LA_law_912 : decode code 912 = .ok (.aload_n 1, 1) := by decide +kernel
theorem d_LA_law_913 : decode code 913 = .ok (.aload_n 0, 1) := by decide +kernel
theorem d_LA_law_914 : decode code 914 = .ok (.iload 4, 2) := by decide +kernel
theorem d_LA_law_916 : decode code 916 = .ok (.iconst 1, 1) := by decide +kernel
theorem d_LA_law_917 : decode code 917 = .ok (.iadd, 1) := by decide +kernel
theorem d_LA_law_918 : decode code 918 = .ok (.iaload, 1) := by decide +kernel
theorem d_LA_law_919 : decode code 919 = .ok (.aload_n 3, 1) := by decide +kernel
theorem d_LA_law_920 : decode code 920 = .ok (.invokestatic 113, 3) := by decide +kernel
theorem d_LA_law_923 : decode code 923 = .ok (.istore 5, 2) := by decide +kernel
theorem d_LA_law_925 : decode code 925 = .ok (.aload_n 2, 1) := by decide +kernel
theorem d_LA_law_926 : decode code 926 = .ok (.aload_n 0, 1) := by decide +kernel
theorem d_LA_law_927 : decode code 927 = .ok (.iload 4, 2) := by decide +kernel
theorem d_LA_law_929 : decode code 929 = .ok (.iconst 1, 1) := by decide +kernel
theorem d_LA_law_930 : decode code 930 = .ok (.iadd, 1) := by decide +kernel
theorem d_LA_law_931 : decode code 931 = .ok (.iaload, 1) := by decide +kernel
theorem d_LA_law_932 : decode code 932 = .ok (.invokevirtual 115, 3) := by decide +kernel
theorem d_LA_law_935 : decode code 935 = .ok (.istore 6, 2) := by decide +kernel
theorem d_LA_law_937 : decode code 937 = .ok (.aload_n 2, 1) := by decide +kernel
theorem d_LA_law_938 : decode code 938 = .ok (.invokevirtual 80, 3) := by decide +kernel
theorem d_LA_law_941 : decode code 941 = .ok (.iload 5, 2) := by decide +kernel
theorem d_LA_law_943 : decode code 943 = .ok (.if_icmp .eq 5, 3) := by decide +kernel
theorem d_LA_law_946 : decode code 946 = .ok (.iconst 0, 1) := by decide +kernel
theorem d_LA_law_947 : decode code 947 = .ok (.ireturn, 1) := by decide +kernel
theorem d_LA_law_948 : decode code 948 = .ok (.iload 5, 2) := by decide +kernel
theorem d_LA_law_950 : decode code 950 = .ok (.ifCond .ne 22, 3) := by decide +kernel
theorem d_LA_law_953 : decode code 953 = .ok (.aload_n 3, 1) := by decide +kernel
theorem d_LA_law_954 : decode code 954 = .ok (.iconst 0, 1) := by decide +kernel
theorem d_LA_law_955 : decode code 955 = .ok (.laload, 1) := by decide +kernel
theorem d_LA_law_956 : decode code 956 = .ok (.iload 6, 2) := by decide +kernel
theorem d_LA_law_958 : decode code 958 = .ok (.ifCond .eq 7, 3) := by decide +kernel
theorem d_LA_law_961 : decode code 961 = .ok (.lconst 1, 1) := by decide +kernel
theorem d_LA_law_962 : decode code 962 = .ok (.goto 4, 3) := by decide +kernel
theorem d_LA_law_965 : decode code 965 = .ok (.lconst 0, 1) := by decide +kernel
theorem d_LA_law_966 : decode code 966 = .ok (.lcmp, 1) := by decide +kernel
theorem d_LA_law_967 : decode code 967 = .ok (.ifCond .eq 5, 3) := by decide +kernel
theorem d_LA_law_970 : decode code 970 = .ok (.iconst 0, 1) := by decide +kernel
theorem d_LA_law_971 : decode code 971 = .ok (.ireturn, 1) := by decide +kernel
theorem d_LA_law_972 : decode code 972 = .ok (.goto 249, 3) := by decide +kernel
theorem d_LA_law_975 : decode code 975 = .ok (.aload_n 1, 1) := by decide +kernel
theorem d_LA_law_976 : decode code 976 = .ok (.invokevirtual 116, 3) := by decide +kernel
theorem d_LA_law_979 : decode code 979 = .ok (.aload_n 2, 1) := by decide +kernel
theorem d_LA_law_980 : decode code 980 = .ok (.invokevirtual 120, 3) := by decide +kernel
theorem d_LA_law_983 : decode code 983 = .ok (.if_icmp .eq 238, 3) := by decide +kernel
theorem d_LA_law_986 : decode code 986 = .ok (.iconst 0, 1) := by decide +kernel
theorem d_LA_law_987 : decode code 987 = .ok (.ireturn, 1) := by decide +kernel
