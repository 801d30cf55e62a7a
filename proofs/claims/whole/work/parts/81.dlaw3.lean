theorem d_law_815 : decode code 815 = .ok (.iaload, 1) := by decide +kernel
theorem d_law_816 : decode code 816 = .ok (.aload_n 0, 1) := by decide +kernel
theorem d_law_817 : decode code 817 = .ok (.iload 4, 2) := by decide +kernel
theorem d_law_819 : decode code 819 = .ok (.iconst 2, 1) := by decide +kernel
theorem d_law_820 : decode code 820 = .ok (.iadd, 1) := by decide +kernel
theorem d_law_821 : decode code 821 = .ok (.iaload, 1) := by decide +kernel
theorem d_law_822 : decode code 822 = .ok (.invokevirtual 112, 3) := by decide +kernel
theorem d_law_825 : decode code 825 = .ok (.istore 6, 2) := by decide +kernel
theorem d_law_827 : decode code 827 = .ok (.aload_n 2, 1) := by decide +kernel
theorem d_law_828 : decode code 828 = .ok (.invokevirtual 73, 3) := by decide +kernel
theorem d_law_831 : decode code 831 = .ok (.iload 5, 2) := by decide +kernel
theorem d_law_833 : decode code 833 = .ok (.if_icmp .eq 5, 3) := by decide +kernel
theorem d_law_836 : decode code 836 = .ok (.iconst 0, 1) := by decide +kernel
theorem d_law_837 : decode code 837 = .ok (.ireturn, 1) := by decide +kernel
theorem d_law_838 : decode code 838 = .ok (.iload 5, 2) := by decide +kernel
theorem d_law_840 : decode code 840 = .ok (.ifCond .ne 15, 3) := by decide +kernel
theorem d_law_843 : decode code 843 = .ok (.aload_n 3, 1) := by decide +kernel
theorem d_law_844 : decode code 844 = .ok (.iconst 0, 1) := by decide +kernel
theorem d_law_845 : decode code 845 = .ok (.laload, 1) := by decide +kernel
theorem d_law_846 : decode code 846 = .ok (.iload 6, 2) := by decide +kernel
theorem d_law_848 : decode code 848 = .ok (.i2l, 1) := by decide +kernel
theorem d_law_849 : decode code 849 = .ok (.lcmp, 1) := by decide +kernel
theorem d_law_850 : decode code 850 = .ok (.ifCond .eq 5, 3) := by decide +kernel
theorem d_law_853 : decode code 853 = .ok (.iconst 0, 1) := by decide +kernel
theorem d_law_854 : decode code 854 = .ok (.ireturn, 1) := by decide +kernel
theorem d_law_855 : decode code 855 = .ok (.goto 195, 3) := by decide +kernel
theorem d_law_858 : decode code 858 = .ok (.aload_n 1, 1) := by decide +kernel
theorem d_law_859 : decode code 859 = .ok (.aload_n 0, 1) := by decide +kernel
theorem d_law_860 : decode code 860 = .ok (.iload 4, 2) := by decide +kernel
theorem d_law_862 : decode code 862 = .ok (.iconst 1, 1) := by decide +kernel
theorem d_law_863 : decode code 863 = .ok (.iadd, 1) := by decide +kernel
theorem d_law_864 : decode code 864 = .ok (.iaload, 1) := by decide +kernel
theorem d_law_865 : decode code 865 = .ok (.aload_n 0, 1) := by decide +kernel
theorem d_law_866 : decode code 866 = .ok (.iload 4, 2) := by decide +kernel
theorem d_law_868 : decode code 868 = .ok (.iconst 2, 1) := by decide +kernel
theorem d_law_869 : decode code 869 = .ok (.iadd, 1) := by decide +kernel
theorem d_law_870 : decode code 870 = .ok (.iaload, 1) := by decide +kernel
theorem d_law_871 : decode code 871 = .ok (.aload_n 3, 1) := by decide +kernel
theorem d_law_872 : decode code 872 = .ok (.invokestatic 113, 3) := by decide +kernel
theorem d_law_875 : decode code 875 = .ok (.istore 5, 2) := by decide +kernel
theorem d_law_877 : decode code 877 = .ok (.aload_n 2, 1) := by decide +kernel
theorem d_law_878 : decode code 878 = .ok (.aload_n 0, 1) := by decide +kernel
theorem d_law_879 : decode code 879 = .ok (.iload 4, 2) := by decide +kernel
theorem d_law_881 : decode code 881 = .ok (.iconst 1, 1) := by decide +kernel
theorem d_law_882 : decode code 882 = .ok (.iadd, 1) := by decide +kernel
theorem d_law_883 : decode code 883 = .ok (.iaload, 1) := by decide +kernel
theorem d_law_884 : decode code 884 = .ok (.aload_n 0, 1) := by decide +kernel
theorem d_law_885 : decode code 885 = .ok (.iload 4, 2) := by decide +kernel
theorem d_law_887 : decode code 887 = .ok (.iconst 2, 1) := by decide +kernel
theorem d_law_888 : decode code 888 = .ok (.iadd, 1) := by decide +kernel
theorem d_law_889 : decode code 889 = .ok (.iaload, 1) := by decide +kernel
theorem d_law_890 : decode code 890 = .ok (.invokevirtual 115, 3) := by decide +kernel
theorem d_law_893 : decode code 893 = .ok (.istore 6, 2) := by decide +kernel
theorem d_law_895 : decode code 895 = .ok (.aload_n 2, 1) := by decide +kernel
theorem d_law_896 : decode code 896 = .ok (.invokevirtual 73, 3) := by decide +kernel
theorem d_law_899 : decode code 899 = .ok (.iload 5, 2) := by decide +kernel
theorem d_law_901 : decode code 901 = .ok (.if_icmp .eq 5, 3) := by decide +kernel
theorem d_law_904 : decode code 904 = .ok (.iconst 0, 1) := by decide +kernel
theorem d_law_905 : decode code 905 = .ok (.ireturn, 1) := by decide +kernel
theorem d_law_906 : decode code 906 = .ok (.iload 5, 2) := by decide +kernel
theorem d_law_908 : decode code 908 = .ok (.ifCond .ne 15, 3) := by decide +kernel
theorem d_law_911 : decode code 911 = .ok (.aload_n 3, 1) := by decide +kernel
theorem d_law_912 : decode code 912 = .ok (.iconst 0, 1) := by decide +kernel
theorem d_law_913 : decode code 913 = .ok (.laload, 1) := by decide +kernel
theorem d_law_914 : decode code 914 = .ok (.iload 6, 2) := by decide +kernel
theorem d_law_916 : decode code 916 = .ok (.i2l, 1) := by decide +kernel
theorem d_law_917 : decode code 917 = .ok (.lcmp, 1) := by decide +kernel
theorem d_law_918 : decode code 918 = .ok (.ifCond .eq 5, 3) := by decide +kernel
theorem d_law_921 : decode code 921 = .ok (.iconst 0, 1) := by decide +kernel
theorem d_law_922 : decode code 922 = .ok (.ireturn, 1) := by decide +kernel
theorem d_law_923 : decode code 923 = .ok (.goto 127, 3) := by decide +kernel
theorem d_law_926 : decode code 926 = .ok (.aload_n 1, 1) := by decide +kernel
theorem d_law_927 : decode code 927 = .ok (.aload_n 0, 1) := by decide +kernel
theorem d_law_928 : decode code 928 = .ok (.iload 4, 2) := by decide +kernel
theorem d_law_930 : decode code 930 = .ok (.iconst 1, 1) := by decide +kernel
theorem d_law_931 : decode code 931 = .ok (.iadd, 1) := by decide +kernel
theorem d_law_932 : decode code 932 = .ok (.iaload, 1) := by decide +kernel
theorem d_law_933 : decode code 933 = .ok (.aload_n 0, 1) := by decide +kernel
theorem d_law_934 : decode code 934 = .ok (.iload 4, 2) := by decide +kernel
theorem d_law_936 : decode code 936 = .ok (.iconst 2, 1) := by decide +kernel
theorem d_law_937 : decode code 937 = .ok (.iadd, 1) := by decide +kernel
theorem d_law_938 : decode code 938 = .ok (.iaload, 1) := by decide +kernel
theorem d_law_939 : decode code 939 = .ok (.aload_n 3, 1) := by decide +kernel
theorem d_law_940 : decode code 940 = .ok (.invokestatic 116, 3) := by decide +kernel
theorem d_law_943 : decode code 943 = .ok (.istore 5, 2) := by decide +kernel
theorem d_law_945 : decode code 945 = .ok (.aload_n 2, 1) := by decide +kernel
theorem d_law_946 : decode code 946 = .ok (.aload_n 0, 1) := by decide +kernel
theorem d_law_947 : decode code 947 = .ok (.iload 4, 2) := by decide +kernel
theorem d_law_949 : decode code 949 = .ok (.iconst 1, 1) := by decide +kernel
theorem d_law_950 : decode code 950 = .ok (.iadd, 1) := by decide +kernel
theorem d_law_951 : decode code 951 = .ok (.iaload, 1) := by decide +kernel
theorem d_law_952 : decode code 952 = .ok (.aload_n 0, 1) := by decide +kernel
theorem d_law_953 : decode code 953 = .ok (.iload 4, 2) := by decide +kernel
theorem d_law_955 : decode code 955 = .ok (.iconst 2, 1) := by decide +kernel
theorem d_law_956 : decode code 956 = .ok (.iadd, 1) := by decide +kernel
theorem d_law_957 : decode code 957 = .ok (.iaload, 1) := by decide +kernel
theorem d_law_958 : decode code 958 = .ok (.invokevirtual 118, 3) := by decide +kernel
theorem d_law_961 : decode code 961 = .ok (.istore 6, 2) := by decide +kernel
theorem d_law_963 : decode code 963 = .ok (.aload_n 2, 1) := by decide +kernel
theorem d_law_964 : decode code 964 = .ok (.invokevirtual 73, 3) := by decide +kernel
theorem d_law_967 : decode code 967 = .ok (.iload 5, 2) := by decide +kernel
theorem d_law_969 : decode code 969 = .ok (.if_icmp .eq 5, 3) := by decide +kernel
theorem d_law_972 : decode code 972 = .ok (.iconst 0, 1) := by decide +kernel
theorem d_law_973 : decode code 973 = .ok (.ireturn, 1) := by decide +kernel
theorem d_law_974 : decode code 974 = .ok (.iload 5, 2) := by decide +kernel
theorem d_law_976 : decode code 976 = .ok (.ifCond .ne 15, 3) := by decide +kernel
theorem d_law_979 : decode code 979 = .ok (.aload_n 3, 1) := by decide +kernel
theorem d_law_980 : decode code 980 = .ok (.iconst 0, 1) := by decide +kernel
theorem d_law_981 : decode code 981 = .ok (.laload, 1) := by decide +kernel
theorem d_law_982 : decode code 982 = .ok (.iload 6, 2) := by decide +kernel
theorem d_law_984 : decode code 984 = .ok (.i2l, 1) := by decide +kernel
theorem d_law_985 : decode code 985 = .ok (.lcmp, 1) := by decide +kernel
theorem d_law_986 : decode code 986 = .ok (.ifCond .eq 5, 3) := by decide +kernel
theorem d_law_989 : decode code 989 = .ok (.iconst 0, 1) := by decide +kernel
theorem d_law_990 : decode code 990 = .ok (.ireturn, 1) := by decide +kernel
theorem d_law_991 : decode code 991 = .ok (.goto 59, 3) := by decide +kernel
theorem d_law_994 : decode code 994 = .ok (.aload_n 1, 1) := by decide +kernel
theorem d_law_995 : decode code 995 = .ok (.aload_n 0, 1) := by decide +kernel
theorem d_law_996 : decode code 996 = .ok (.iload 4, 2) := by decide +kernel
theorem d_law_998 : decode code 998 = .ok (.iconst 1, 1) := by decide +kernel
theorem d_law_999 : decode code 999 = .ok (.iadd, 1) := by decide +kernel
theorem d_law_1000 : decode code 1000 = .ok (.iaload, 1) := by decide +kernel
theorem d_law_1001 : decode code 1001 = .ok (.aload_n 3, 1) := by decide +kernel
theorem d_law_1002 : decode code 1002 = .ok (.invokestatic 119, 3) := by decide +kernel
theorem d_law_1005 : decode code 1005 = .ok (.istore 5, 2) := by decide +kernel
theorem d_law_1007 : decode code 1007 = .ok (.aload_n 2, 1) := by decide +kernel
theorem d_law_1008 : decode code 1008 = .ok (.aload_n 0, 1) := by decide +kernel
theorem d_law_1009 : decode code 1009 = .ok (.iload 4, 2) := by decide +kernel
theorem d_law_1011 : decode code 1011 = .ok (.iconst 1, 1) := by decide +kernel
theorem d_law_1012 : decode code 1012 = .ok (.iadd, 1) := by decide +kernel
theorem d_law_1013 : decode code 1013 = .ok (.iaload, 1) := by decide +kernel
theorem d_law_1014 : decode code 1014 = .ok (.invokevirtual 121, 3) := by decide +kernel
theorem d_law_1017 : decode code 1017 = .ok (.istore 6, 2) := by decide +kernel
theorem d_law_1019 : decode code 1019 = .ok (.aload_n 2, 1) := by decide +kernel
theorem d_law_1020 : decode code 1020 = .ok (.invokevirtual 73, 3) := by decide +kernel
theorem d_law_1023 : decode code 1023 = .ok (.iload 5, 2) := by decide +kernel
theorem d_law_1025 : decode code 1025 = .ok (.if_icmp .eq 5, 3) := by decide +kernel
theorem d_law_1028 : decode code 1028 = .ok (.iconst 0, 1) := by decide +kernel
theorem d_law_1029 : decode code 1029 = .ok (.ireturn, 1) := by decide +kernel
theorem d_law_1030 : decode code 1030 = .ok (.iload 5, 2) := by decide +kernel
theorem d_law_1032 : decode code 1032 = .ok (.ifCond .ne 15, 3) := by decide +kernel
theorem d_law_1035 : decode code 1035 = .ok (.aload_n 3, 1) := by decide +kernel
theorem d_law_1036 : decode code 1036 = .ok (.iconst 0, 1) := by decide +kernel
theorem d_law_1037 : decode code 1037 = .ok (.laload, 1) := by decide +kernel
theorem d_law_1038 : decode code 1038 = .ok (.iload 6, 2) := by decide +kernel
theorem d_law_1040 : decode code 1040 = .ok (.i2l, 1) := by decide +kernel
theorem d_law_1041 : decode code 1041 = .ok (.lcmp, 1) := by decide +kernel
theorem d_law_1042 : decode code 1042 = .ok (.ifCond .eq 5, 3) := by decide +kernel
theorem d_law_1045 : decode code 1045 = .ok (.iconst 0, 1) := by decide +kernel
theorem d_law_1046 : decode code 1046 = .ok (.ireturn, 1) := by decide +kernel
theorem d_law_1047 : decode code 1047 = .ok (.goto 3, 3) := by decide +kernel
theorem d_law_1050 : decode code 1050 = .ok (.iinc 4 4, 3) := by decide +kernel
theorem d_law_1053 : decode code 1053 = .ok (.goto (-1030), 3) := by decide +kernel
theorem d_law_1056 : decode code 1056 = .ok (.iconst 1, 1) := by decide +kernel
theorem d_law_1057 : decode code 1057 = .ok (.ireturn, 1) := by decide +kernel
