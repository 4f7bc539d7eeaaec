/-! the law, decoded, 6 of 8 -/
theorem dl_915 : decode code 915 = .ok (.lcmp, 1) := by decide +kernel
theorem dl_916 : decode code 916 = .ok (.ifCond .eq 474, 3) := by decide +kernel
theorem dl_919 : decode code 919 = .ok (.iconst 0, 1) := by decide +kernel
theorem dl_920 : decode code 920 = .ok (.ireturn, 1) := by decide +kernel
theorem dl_921 : decode code 921 = .ok (.aload_n 1, 1) := by decide +kernel
theorem dl_922 : decode code 922 = .ok (.aload_n 0, 1) := by decide +kernel
theorem dl_923 : decode code 923 = .ok (.iload_n 3, 1) := by decide +kernel
theorem dl_924 : decode code 924 = .ok (.iconst 1, 1) := by decide +kernel
theorem dl_925 : decode code 925 = .ok (.iadd, 1) := by decide +kernel
theorem dl_926 : decode code 926 = .ok (.iaload, 1) := by decide +kernel
theorem dl_927 : decode code 927 = .ok (.aload_n 0, 1) := by decide +kernel
theorem dl_928 : decode code 928 = .ok (.iload_n 3, 1) := by decide +kernel
theorem dl_929 : decode code 929 = .ok (.iconst 2, 1) := by decide +kernel
theorem dl_930 : decode code 930 = .ok (.iadd, 1) := by decide +kernel
theorem dl_931 : decode code 931 = .ok (.iaload, 1) := by decide +kernel
theorem dl_932 : decode code 932 = .ok (.aload_n 0, 1) := by decide +kernel
theorem dl_933 : decode code 933 = .ok (.iload_n 3, 1) := by decide +kernel
theorem dl_934 : decode code 934 = .ok (.iconst 3, 1) := by decide +kernel
theorem dl_935 : decode code 935 = .ok (.iadd, 1) := by decide +kernel
theorem dl_936 : decode code 936 = .ok (.iaload, 1) := by decide +kernel
theorem dl_937 : decode code 937 = .ok (.invokevirtual 94, 3) := by decide +kernel
theorem dl_940 : decode code 940 = .ok (.aload_n 2, 1) := by decide +kernel
theorem dl_941 : decode code 941 = .ok (.aload_n 0, 1) := by decide +kernel
theorem dl_942 : decode code 942 = .ok (.iload_n 3, 1) := by decide +kernel
theorem dl_943 : decode code 943 = .ok (.iconst 1, 1) := by decide +kernel
theorem dl_944 : decode code 944 = .ok (.iadd, 1) := by decide +kernel
theorem dl_945 : decode code 945 = .ok (.iaload, 1) := by decide +kernel
theorem dl_946 : decode code 946 = .ok (.aload_n 0, 1) := by decide +kernel
theorem dl_947 : decode code 947 = .ok (.iload_n 3, 1) := by decide +kernel
theorem dl_948 : decode code 948 = .ok (.iconst 2, 1) := by decide +kernel
theorem dl_949 : decode code 949 = .ok (.iadd, 1) := by decide +kernel
theorem dl_950 : decode code 950 = .ok (.iaload, 1) := by decide +kernel
theorem dl_951 : decode code 951 = .ok (.aload_n 0, 1) := by decide +kernel
theorem dl_952 : decode code 952 = .ok (.iload_n 3, 1) := by decide +kernel
theorem dl_953 : decode code 953 = .ok (.iconst 3, 1) := by decide +kernel
theorem dl_954 : decode code 954 = .ok (.iadd, 1) := by decide +kernel
theorem dl_955 : decode code 955 = .ok (.iaload, 1) := by decide +kernel
theorem dl_956 : decode code 956 = .ok (.invokevirtual 97, 3) := by decide +kernel
theorem dl_959 : decode code 959 = .ok (.if_icmp .eq 431, 3) := by decide +kernel
theorem dl_962 : decode code 962 = .ok (.iconst 0, 1) := by decide +kernel
theorem dl_963 : decode code 963 = .ok (.ireturn, 1) := by decide +kernel
theorem dl_964 : decode code 964 = .ok (.aload_n 1, 1) := by decide +kernel
theorem dl_965 : decode code 965 = .ok (.aload_n 0, 1) := by decide +kernel
theorem dl_966 : decode code 966 = .ok (.iload_n 3, 1) := by decide +kernel
theorem dl_967 : decode code 967 = .ok (.iconst 1, 1) := by decide +kernel
theorem dl_968 : decode code 968 = .ok (.iadd, 1) := by decide +kernel
theorem dl_969 : decode code 969 = .ok (.iaload, 1) := by decide +kernel
theorem dl_970 : decode code 970 = .ok (.aload_n 0, 1) := by decide +kernel
theorem dl_971 : decode code 971 = .ok (.iload_n 3, 1) := by decide +kernel
theorem dl_972 : decode code 972 = .ok (.iconst 2, 1) := by decide +kernel
theorem dl_973 : decode code 973 = .ok (.iadd, 1) := by decide +kernel
theorem dl_974 : decode code 974 = .ok (.iaload, 1) := by decide +kernel
theorem dl_975 : decode code 975 = .ok (.aload_n 0, 1) := by decide +kernel
theorem dl_976 : decode code 976 = .ok (.iload_n 3, 1) := by decide +kernel
theorem dl_977 : decode code 977 = .ok (.iconst 3, 1) := by decide +kernel
theorem dl_978 : decode code 978 = .ok (.iadd, 1) := by decide +kernel
theorem dl_979 : decode code 979 = .ok (.iaload, 1) := by decide +kernel
theorem dl_980 : decode code 980 = .ok (.aload_n 0, 1) := by decide +kernel
theorem dl_981 : decode code 981 = .ok (.iload_n 3, 1) := by decide +kernel
theorem dl_982 : decode code 982 = .ok (.iconst 4, 1) := by decide +kernel
theorem dl_983 : decode code 983 = .ok (.iadd, 1) := by decide +kernel
theorem dl_984 : decode code 984 = .ok (.iaload, 1) := by decide +kernel
theorem dl_985 : decode code 985 = .ok (.invokevirtual 98, 3) := by decide +kernel
theorem dl_988 : decode code 988 = .ok (.aload_n 2, 1) := by decide +kernel
theorem dl_989 : decode code 989 = .ok (.aload_n 0, 1) := by decide +kernel
theorem dl_990 : decode code 990 = .ok (.iload_n 3, 1) := by decide +kernel
theorem dl_991 : decode code 991 = .ok (.iconst 1, 1) := by decide +kernel
theorem dl_992 : decode code 992 = .ok (.iadd, 1) := by decide +kernel
theorem dl_993 : decode code 993 = .ok (.iaload, 1) := by decide +kernel
theorem dl_994 : decode code 994 = .ok (.aload_n 0, 1) := by decide +kernel
theorem dl_995 : decode code 995 = .ok (.iload_n 3, 1) := by decide +kernel
theorem dl_996 : decode code 996 = .ok (.iconst 2, 1) := by decide +kernel
theorem dl_997 : decode code 997 = .ok (.iadd, 1) := by decide +kernel
theorem dl_998 : decode code 998 = .ok (.iaload, 1) := by decide +kernel
theorem dl_999 : decode code 999 = .ok (.aload_n 0, 1) := by decide +kernel
theorem dl_1000 : decode code 1000 = .ok (.iload_n 3, 1) := by decide +kernel
theorem dl_1001 : decode code 1001 = .ok (.iconst 3, 1) := by decide +kernel
theorem dl_1002 : decode code 1002 = .ok (.iadd, 1) := by decide +kernel
theorem dl_1003 : decode code 1003 = .ok (.iaload, 1) := by decide +kernel
theorem dl_1004 : decode code 1004 = .ok (.aload_n 0, 1) := by decide +kernel
theorem dl_1005 : decode code 1005 = .ok (.iload_n 3, 1) := by decide +kernel
theorem dl_1006 : decode code 1006 = .ok (.iconst 4, 1) := by decide +kernel
theorem dl_1007 : decode code 1007 = .ok (.iadd, 1) := by decide +kernel
theorem dl_1008 : decode code 1008 = .ok (.iaload, 1) := by decide +kernel
theorem dl_1009 : decode code 1009 = .ok (.invokevirtual 101, 3) := by decide +kernel
theorem dl_1012 : decode code 1012 = .ok (.if_icmp .eq 378, 3) := by decide +kernel
theorem dl_1015 : decode code 1015 = .ok (.iconst 0, 1) := by decide +kernel
theorem dl_1016 : decode code 1016 = .ok (.ireturn, 1) := by decide +kernel
theorem dl_1017 : decode code 1017 = .ok (.aload_n 1, 1) := by decide +kernel
theorem dl_1018 : decode code 1018 = .ok (.aload_n 0, 1) := by decide +kernel
theorem dl_1019 : decode code 1019 = .ok (.iload_n 3, 1) := by decide +kernel
theorem dl_1020 : decode code 1020 = .ok (.iconst 1, 1) := by decide +kernel
theorem dl_1021 : decode code 1021 = .ok (.iadd, 1) := by decide +kernel
theorem dl_1022 : decode code 1022 = .ok (.iaload, 1) := by decide +kernel
theorem dl_1023 : decode code 1023 = .ok (.aload_n 0, 1) := by decide +kernel
theorem dl_1024 : decode code 1024 = .ok (.iload_n 3, 1) := by decide +kernel
theorem dl_1025 : decode code 1025 = .ok (.iconst 2, 1) := by decide +kernel
theorem dl_1026 : decode code 1026 = .ok (.iadd, 1) := by decide +kernel
theorem dl_1027 : decode code 1027 = .ok (.iaload, 1) := by decide +kernel
theorem dl_1028 : decode code 1028 = .ok (.aload_n 0, 1) := by decide +kernel
theorem dl_1029 : decode code 1029 = .ok (.iload_n 3, 1) := by decide +kernel
theorem dl_1030 : decode code 1030 = .ok (.iconst 3, 1) := by decide +kernel
theorem dl_1031 : decode code 1031 = .ok (.iadd, 1) := by decide +kernel
theorem dl_1032 : decode code 1032 = .ok (.iaload, 1) := by decide +kernel
theorem dl_1033 : decode code 1033 = .ok (.invokevirtual 102, 3) := by decide +kernel
theorem dl_1036 : decode code 1036 = .ok (.aload_n 2, 1) := by decide +kernel
theorem dl_1037 : decode code 1037 = .ok (.aload_n 0, 1) := by decide +kernel
theorem dl_1038 : decode code 1038 = .ok (.iload_n 3, 1) := by decide +kernel
theorem dl_1039 : decode code 1039 = .ok (.iconst 1, 1) := by decide +kernel
theorem dl_1040 : decode code 1040 = .ok (.iadd, 1) := by decide +kernel
theorem dl_1041 : decode code 1041 = .ok (.iaload, 1) := by decide +kernel
theorem dl_1042 : decode code 1042 = .ok (.aload_n 0, 1) := by decide +kernel
theorem dl_1043 : decode code 1043 = .ok (.iload_n 3, 1) := by decide +kernel
theorem dl_1044 : decode code 1044 = .ok (.iconst 2, 1) := by decide +kernel
theorem dl_1045 : decode code 1045 = .ok (.iadd, 1) := by decide +kernel
theorem dl_1046 : decode code 1046 = .ok (.iaload, 1) := by decide +kernel
theorem dl_1047 : decode code 1047 = .ok (.aload_n 0, 1) := by decide +kernel
theorem dl_1048 : decode code 1048 = .ok (.iload_n 3, 1) := by decide +kernel
theorem dl_1049 : decode code 1049 = .ok (.iconst 3, 1) := by decide +kernel
theorem dl_1050 : decode code 1050 = .ok (.iadd, 1) := by decide +kernel
theorem dl_1051 : decode code 1051 = .ok (.iaload, 1) := by decide +kernel
theorem dl_1052 : decode code 1052 = .ok (.invokevirtual 105, 3) := by decide +kernel
theorem dl_1055 : decode code 1055 = .ok (.if_icmp .eq 335, 3) := by decide +kernel
theorem dl_1058 : decode code 1058 = .ok (.iconst 0, 1) := by decide +kernel
theorem dl_1059 : decode code 1059 = .ok (.ireturn, 1) := by decide +kernel
theorem dl_1060 : decode code 1060 = .ok (.aload_n 1, 1) := by decide +kernel
theorem dl_1061 : decode code 1061 = .ok (.aload_n 0, 1) := by decide +kernel
theorem dl_1062 : decode code 1062 = .ok (.iload_n 3, 1) := by decide +kernel
theorem dl_1063 : decode code 1063 = .ok (.iconst 1, 1) := by decide +kernel
theorem dl_1064 : decode code 1064 = .ok (.iadd, 1) := by decide +kernel
theorem dl_1065 : decode code 1065 = .ok (.iaload, 1) := by decide +kernel
