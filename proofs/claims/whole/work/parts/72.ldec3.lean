/-! decodings of the law, 3 of 4 -/
theorem dl_842 : decode code 842 = .ok (.iconst 1, 1) := by decide +kernel
theorem dl_843 : decode code 843 = .ok (.iadd, 1) := by decide +kernel
theorem dl_844 : decode code 844 = .ok (.iaload, 1) := by decide +kernel
theorem dl_845 : decode code 845 = .ok (.aload_n 0, 1) := by decide +kernel
theorem dl_846 : decode code 846 = .ok (.iload_n 3, 1) := by decide +kernel
theorem dl_847 : decode code 847 = .ok (.iconst 2, 1) := by decide +kernel
theorem dl_848 : decode code 848 = .ok (.iadd, 1) := by decide +kernel
theorem dl_849 : decode code 849 = .ok (.iaload, 1) := by decide +kernel
theorem dl_850 : decode code 850 = .ok (.invokevirtual 104, 3) := by decide +kernel
theorem dl_853 : decode code 853 = .ok (.if_icmp .eq 624, 3) := by decide +kernel
theorem dl_856 : decode code 856 = .ok (.iconst 0, 1) := by decide +kernel
theorem dl_857 : decode code 857 = .ok (.ireturn, 1) := by decide +kernel
theorem dl_858 : decode code 858 = .ok (.aload_n 1, 1) := by decide +kernel
theorem dl_859 : decode code 859 = .ok (.aload_n 0, 1) := by decide +kernel
theorem dl_860 : decode code 860 = .ok (.iload_n 3, 1) := by decide +kernel
theorem dl_861 : decode code 861 = .ok (.iconst 1, 1) := by decide +kernel
theorem dl_862 : decode code 862 = .ok (.iadd, 1) := by decide +kernel
theorem dl_863 : decode code 863 = .ok (.iaload, 1) := by decide +kernel
theorem dl_864 : decode code 864 = .ok (.aload_n 0, 1) := by decide +kernel
theorem dl_865 : decode code 865 = .ok (.iload_n 3, 1) := by decide +kernel
theorem dl_866 : decode code 866 = .ok (.iconst 2, 1) := by decide +kernel
theorem dl_867 : decode code 867 = .ok (.iadd, 1) := by decide +kernel
theorem dl_868 : decode code 868 = .ok (.iaload, 1) := by decide +kernel
theorem dl_869 : decode code 869 = .ok (.invokevirtual 105, 3) := by decide +kernel
theorem dl_872 : decode code 872 = .ok (.aload_n 2, 1) := by decide +kernel
theorem dl_873 : decode code 873 = .ok (.aload_n 0, 1) := by decide +kernel
theorem dl_874 : decode code 874 = .ok (.iload_n 3, 1) := by decide +kernel
theorem dl_875 : decode code 875 = .ok (.iconst 1, 1) := by decide +kernel
theorem dl_876 : decode code 876 = .ok (.iadd, 1) := by decide +kernel
theorem dl_877 : decode code 877 = .ok (.iaload, 1) := by decide +kernel
theorem dl_878 : decode code 878 = .ok (.aload_n 0, 1) := by decide +kernel
theorem dl_879 : decode code 879 = .ok (.iload_n 3, 1) := by decide +kernel
theorem dl_880 : decode code 880 = .ok (.iconst 2, 1) := by decide +kernel
theorem dl_881 : decode code 881 = .ok (.iadd, 1) := by decide +kernel
theorem dl_882 : decode code 882 = .ok (.iaload, 1) := by decide +kernel
theorem dl_883 : decode code 883 = .ok (.invokevirtual 108, 3) := by decide +kernel
theorem dl_886 : decode code 886 = .ok (.if_icmp .eq 591, 3) := by decide +kernel
theorem dl_889 : decode code 889 = .ok (.iconst 0, 1) := by decide +kernel
theorem dl_890 : decode code 890 = .ok (.ireturn, 1) := by decide +kernel
theorem dl_891 : decode code 891 = .ok (.aload_n 1, 1) := by decide +kernel
theorem dl_892 : decode code 892 = .ok (.aload_n 0, 1) := by decide +kernel
theorem dl_893 : decode code 893 = .ok (.iload_n 3, 1) := by decide +kernel
theorem dl_894 : decode code 894 = .ok (.iconst 1, 1) := by decide +kernel
theorem dl_895 : decode code 895 = .ok (.iadd, 1) := by decide +kernel
theorem dl_896 : decode code 896 = .ok (.iaload, 1) := by decide +kernel
theorem dl_897 : decode code 897 = .ok (.invokevirtual 109, 3) := by decide +kernel
theorem dl_900 : decode code 900 = .ok (.aload_n 2, 1) := by decide +kernel
theorem dl_901 : decode code 901 = .ok (.aload_n 0, 1) := by decide +kernel
theorem dl_902 : decode code 902 = .ok (.iload_n 3, 1) := by decide +kernel
theorem dl_903 : decode code 903 = .ok (.iconst 1, 1) := by decide +kernel
theorem dl_904 : decode code 904 = .ok (.iadd, 1) := by decide +kernel
theorem dl_905 : decode code 905 = .ok (.iaload, 1) := by decide +kernel
theorem dl_906 : decode code 906 = .ok (.invokevirtual 112, 3) := by decide +kernel
theorem dl_909 : decode code 909 = .ok (.if_icmp .eq 568, 3) := by decide +kernel
theorem dl_912 : decode code 912 = .ok (.iconst 0, 1) := by decide +kernel
theorem dl_913 : decode code 913 = .ok (.ireturn, 1) := by decide +kernel
theorem dl_914 : decode code 914 = .ok (.aload_n 1, 1) := by decide +kernel
theorem dl_915 : decode code 915 = .ok (.aload_n 0, 1) := by decide +kernel
theorem dl_916 : decode code 916 = .ok (.iload_n 3, 1) := by decide +kernel
theorem dl_917 : decode code 917 = .ok (.iconst 1, 1) := by decide +kernel
theorem dl_918 : decode code 918 = .ok (.iadd, 1) := by decide +kernel
theorem dl_919 : decode code 919 = .ok (.iaload, 1) := by decide +kernel
theorem dl_920 : decode code 920 = .ok (.aload_n 0, 1) := by decide +kernel
theorem dl_921 : decode code 921 = .ok (.iload_n 3, 1) := by decide +kernel
theorem dl_922 : decode code 922 = .ok (.iconst 2, 1) := by decide +kernel
theorem dl_923 : decode code 923 = .ok (.iadd, 1) := by decide +kernel
theorem dl_924 : decode code 924 = .ok (.iaload, 1) := by decide +kernel
theorem dl_925 : decode code 925 = .ok (.aload_n 0, 1) := by decide +kernel
theorem dl_926 : decode code 926 = .ok (.iload_n 3, 1) := by decide +kernel
theorem dl_927 : decode code 927 = .ok (.iconst 3, 1) := by decide +kernel
theorem dl_928 : decode code 928 = .ok (.iadd, 1) := by decide +kernel
theorem dl_929 : decode code 929 = .ok (.iaload, 1) := by decide +kernel
theorem dl_930 : decode code 930 = .ok (.invokevirtual 113, 3) := by decide +kernel
theorem dl_933 : decode code 933 = .ok (.aload_n 2, 1) := by decide +kernel
theorem dl_934 : decode code 934 = .ok (.aload_n 0, 1) := by decide +kernel
theorem dl_935 : decode code 935 = .ok (.iload_n 3, 1) := by decide +kernel
theorem dl_936 : decode code 936 = .ok (.iconst 1, 1) := by decide +kernel
theorem dl_937 : decode code 937 = .ok (.iadd, 1) := by decide +kernel
theorem dl_938 : decode code 938 = .ok (.iaload, 1) := by decide +kernel
theorem dl_939 : decode code 939 = .ok (.aload_n 0, 1) := by decide +kernel
theorem dl_940 : decode code 940 = .ok (.iload_n 3, 1) := by decide +kernel
theorem dl_941 : decode code 941 = .ok (.iconst 2, 1) := by decide +kernel
theorem dl_942 : decode code 942 = .ok (.iadd, 1) := by decide +kernel
theorem dl_943 : decode code 943 = .ok (.iaload, 1) := by decide +kernel
theorem dl_944 : decode code 944 = .ok (.aload_n 0, 1) := by decide +kernel
theorem dl_945 : decode code 945 = .ok (.iload_n 3, 1) := by decide +kernel
theorem dl_946 : decode code 946 = .ok (.iconst 3, 1) := by decide +kernel
theorem dl_947 : decode code 947 = .ok (.iadd, 1) := by decide +kernel
theorem dl_948 : decode code 948 = .ok (.iaload, 1) := by decide +kernel
theorem dl_949 : decode code 949 = .ok (.invokevirtual 116, 3) := by decide +kernel
theorem dl_952 : decode code 952 = .ok (.if_icmp .eq 525, 3) := by decide +kernel
theorem dl_955 : decode code 955 = .ok (.iconst 0, 1) := by decide +kernel
theorem dl_956 : decode code 956 = .ok (.ireturn, 1) := by decide +kernel
theorem dl_957 : decode code 957 = .ok (.aload_n 1, 1) := by decide +kernel
theorem dl_958 : decode code 958 = .ok (.aload_n 0, 1) := by decide +kernel
theorem dl_959 : decode code 959 = .ok (.iload_n 3, 1) := by decide +kernel
theorem dl_960 : decode code 960 = .ok (.iconst 1, 1) := by decide +kernel
theorem dl_961 : decode code 961 = .ok (.iadd, 1) := by decide +kernel
theorem dl_962 : decode code 962 = .ok (.iaload, 1) := by decide +kernel
theorem dl_963 : decode code 963 = .ok (.aload_n 0, 1) := by decide +kernel
theorem dl_964 : decode code 964 = .ok (.iload_n 3, 1) := by decide +kernel
theorem dl_965 : decode code 965 = .ok (.iconst 2, 1) := by decide +kernel
theorem dl_966 : decode code 966 = .ok (.iadd, 1) := by decide +kernel
theorem dl_967 : decode code 967 = .ok (.iaload, 1) := by decide +kernel
theorem dl_968 : decode code 968 = .ok (.aload_n 0, 1) := by decide +kernel
theorem dl_969 : decode code 969 = .ok (.iload_n 3, 1) := by decide +kernel
theorem dl_970 : decode code 970 = .ok (.iconst 3, 1) := by decide +kernel
theorem dl_971 : decode code 971 = .ok (.iadd, 1) := by decide +kernel
theorem dl_972 : decode code 972 = .ok (.iaload, 1) := by decide +kernel
theorem dl_973 : decode code 973 = .ok (.invokevirtual 117, 3) := by decide +kernel
theorem dl_976 : decode code 976 = .ok (.aload_n 2, 1) := by decide +kernel
theorem dl_977 : decode code 977 = .ok (.aload_n 0, 1) := by decide +kernel
theorem dl_978 : decode code 978 = .ok (.iload_n 3, 1) := by decide +kernel
theorem dl_979 : decode code 979 = .ok (.iconst 1, 1) := by decide +kernel
theorem dl_980 : decode code 980 = .ok (.iadd, 1) := by decide +kernel
theorem dl_981 : decode code 981 = .ok (.iaload, 1) := by decide +kernel
theorem dl_982 : decode code 982 = .ok (.aload_n 0, 1) := by decide +kernel
theorem dl_983 : decode code 983 = .ok (.iload_n 3, 1) := by decide +kernel
theorem dl_984 : decode code 984 = .ok (.iconst 2, 1) := by decide +kernel
theorem dl_985 : decode code 985 = .ok (.iadd, 1) := by decide +kernel
theorem dl_986 : decode code 986 = .ok (.iaload, 1) := by decide +kernel
theorem dl_987 : decode code 987 = .ok (.aload_n 0, 1) := by decide +kernel
theorem dl_988 : decode code 988 = .ok (.iload_n 3, 1) := by decide +kernel
theorem dl_989 : decode code 989 = .ok (.iconst 3, 1) := by decide +kernel
theorem dl_990 : decode code 990 = .ok (.iadd, 1) := by decide +kernel
theorem dl_991 : decode code 991 = .ok (.iaload, 1) := by decide +kernel
theorem dl_992 : decode code 992 = .ok (.invokevirtual 121, 3) := by decide +kernel
theorem dl_995 : decode code 995 = .ok (.lcmp, 1) := by decide +kernel
theorem dl_996 : decode code 996 = .ok (.ifCond .eq 481, 3) := by decide +kernel
theorem dl_999 : decode code 999 = .ok (.iconst 0, 1) := by decide +kernel
theorem dl_1000 : decode code 1000 = .ok (.ireturn, 1) := by decide +kernel
theorem dl_1001 : decode code 1001 = .ok (.aload_n 1, 1) := by decide +kernel
theorem dl_1002 : decode code 1002 = .ok (.aload_n 0, 1) := by decide +kernel
theorem dl_1003 : decode code 1003 = .ok (.iload_n 3, 1) := by decide +kernel
theorem dl_1004 : decode code 1004 = .ok (.iconst 1, 1) := by decide +kernel
theorem dl_1005 : decode code 1005 = .ok (.iadd, 1) := by decide +kernel
theorem dl_1006 : decode code 1006 = .ok (.iaload, 1) := by decide +kernel
theorem dl_1007 : decode code 1007 = .ok (.aload_n 0, 1) := by decide +kernel
theorem dl_1008 : decode code 1008 = .ok (.iload_n 3, 1) := by decide +kernel
theorem dl_1009 : decode code 1009 = .ok (.iconst 2, 1) := by decide +kernel
theorem dl_1010 : decode code 1010 = .ok (.iadd, 1) := by decide +kernel
theorem dl_1011 : decode code 1011 = .ok (.iaload, 1) := by decide +kernel
theorem dl_1012 : decode code 1012 = .ok (.aload_n 0, 1) := by decide +kernel
theorem dl_1013 : decode code 1013 = .ok (.iload_n 3, 1) := by decide +kernel
theorem dl_1014 : decode code 1014 = .ok (.iconst 3, 1) := by decide +kernel
theorem dl_1015 : decode code 1015 = .ok (.iadd, 1) := by decide +kernel
theorem dl_1016 : decode code 1016 = .ok (.iaload, 1) := by decide +kernel
theorem dl_1017 : decode code 1017 = .ok (.invokevirtual 122, 3) := by decide +kernel
theorem dl_1020 : decode code 1020 = .ok (.aload_n 2, 1) := by decide +kernel
theorem dl_1021 : decode code 1021 = .ok (.aload_n 0, 1) := by decide +kernel
theorem dl_1022 : decode code 1022 = .ok (.iload_n 3, 1) := by decide +kernel
theorem dl_1023 : decode code 1023 = .ok (.iconst 1, 1) := by decide +kernel
theorem dl_1024 : decode code 1024 = .ok (.iadd, 1) := by decide +kernel
theorem dl_1025 : decode code 1025 = .ok (.iaload, 1) := by decide +kernel
theorem dl_1026 : decode code 1026 = .ok (.aload_n 0, 1) := by decide +kernel
theorem dl_1027 : decode code 1027 = .ok (.iload_n 3, 1) := by decide +kernel
theorem dl_1028 : decode code 1028 = .ok (.iconst 2, 1) := by decide +kernel
theorem dl_1029 : decode code 1029 = .ok (.iadd, 1) := by decide +kernel
theorem dl_1030 : decode code 1030 = .ok (.iaload, 1) := by decide +kernel
theorem dl_1031 : decode code 1031 = .ok (.aload_n 0, 1) := by decide +kernel
theorem dl_1032 : decode code 1032 = .ok (.iload_n 3, 1) := by decide +kernel
theorem dl_1033 : decode code 1033 = .ok (.iconst 3, 1) := by decide +kernel
theorem dl_1034 : decode code 1034 = .ok (.iadd, 1) := by decide +kernel
theorem dl_1035 : decode code 1035 = .ok (.iaload, 1) := by decide +kernel
theorem dl_1036 : decode code 1036 = .ok (.invokevirtual 125, 3) := by decide +kernel
theorem dl_1039 : decode code 1039 = .ok (.lcmp, 1) := by decide +kernel
theorem dl_1040 : decode code 1040 = .ok (.ifCond .eq 437, 3) := by decide +kernel
theorem dl_1043 : decode code 1043 = .ok (.iconst 0, 1) := by decide +kernel
theorem dl_1044 : decode code 1044 = .ok (.ireturn, 1) := by decide +kernel
theorem dl_1045 : decode code 1045 = .ok (.aload_n 1, 1) := by decide +kernel
theorem dl_1046 : decode code 1046 = .ok (.aload_n 0, 1) := by decide +kernel
theorem dl_1047 : decode code 1047 = .ok (.iload_n 3, 1) := by decide +kernel
theorem dl_1048 : decode code 1048 = .ok (.iconst 1, 1) := by decide +kernel
theorem dl_1049 : decode code 1049 = .ok (.iadd, 1) := by decide +kernel
theorem dl_1050 : decode code 1050 = .ok (.iaload, 1) := by decide +kernel
theorem dl_1051 : decode code 1051 = .ok (.aload_n 0, 1) := by decide +kernel
theorem dl_1052 : decode code 1052 = .ok (.iload_n 3, 1) := by decide +kernel
theorem dl_1053 : decode code 1053 = .ok (.iconst 2, 1) := by decide +kernel
theorem dl_1054 : decode code 1054 = .ok (.iadd, 1) := by decide +kernel
theorem dl_1055 : decode code 1055 = .ok (.iaload, 1) := by decide +kernel
theorem dl_1056 : decode code 1056 = .ok (.aload_n 0, 1) := by decide +kernel
theorem dl_1057 : decode code 1057 = .ok (.iload_n 3, 1) := by decide +kernel
theorem dl_1058 : decode code 1058 = .ok (.iconst 3, 1) := by decide +kernel
theorem dl_1059 : decode code 1059 = .ok (.iadd, 1) := by decide +kernel
theorem dl_1060 : decode code 1060 = .ok (.iaload, 1) := by decide +kernel
theorem dl_1061 : decode code 1061 = .ok (.invokevirtual 126, 3) := by decide +kernel
theorem dl_1064 : decode code 1064 = .ok (.aload_n 2, 1) := by decide +kernel
theorem dl_1065 : decode code 1065 = .ok (.aload_n 0, 1) := by decide +kernel
theorem dl_1066 : decode code 1066 = .ok (.iload_n 3, 1) := by decide +kernel
theorem dl_1067 : decode code 1067 = .ok (.iconst 1, 1) := by decide +kernel
theorem dl_1068 : decode code 1068 = .ok (.iadd, 1) := by decide +kernel
theorem dl_1069 : decode code 1069 = .ok (.iaload, 1) := by decide +kernel
theorem dl_1070 : decode code 1070 = .ok (.aload_n 0, 1) := by decide +kernel
theorem dl_1071 : decode code 1071 = .ok (.iload_n 3, 1) := by decide +kernel
theorem dl_1072 : decode code 1072 = .ok (.iconst 2, 1) := by decide +kernel
theorem dl_1073 : decode code 1073 = .ok (.iadd, 1) := by decide +kernel
theorem dl_1074 : decode code 1074 = .ok (.iaload, 1) := by decide +kernel
theorem dl_1075 : decode code 1075 = .ok (.aload_n 0, 1) := by decide +kernel
theorem dl_1076 : decode code 1076 = .ok (.iload_n 3, 1) := by decide +kernel
theorem dl_1077 : decode code 1077 = .ok (.iconst 3, 1) := by decide +kernel
theorem dl_1078 : decode code 1078 = .ok (.iadd, 1) := by decide +kernel
theorem dl_1079 : decode code 1079 = .ok (.iaload, 1) := by decide +kernel
theorem dl_1080 : decode code 1080 = .ok (.invokevirtual 129, 3) := by decide +kernel
theorem dl_1083 : decode code 1083 = .ok (.if_icmp .eq 394, 3) := by decide +kernel
theorem dl_1086 : decode code 1086 = .ok (.iconst 0, 1) := by decide +kernel
theorem dl_1087 : decode code 1087 = .ok (.ireturn, 1) := by decide +kernel
theorem dl_1088 : decode code 1088 = .ok (.aload_n 1, 1) := by decide +kernel
theorem dl_1089 : decode code 1089 = .ok (.aload_n 0, 1) := by decide +kernel
theorem dl_1090 : decode code 1090 = .ok (.iload_n 3, 1) := by decide +kernel
theorem dl_1091 : decode code 1091 = .ok (.iconst 1, 1) := by decide +kernel
theorem dl_1092 : decode code 1092 = .ok (.iadd, 1) := by decide +kernel
theorem dl_1093 : decode code 1093 = .ok (.iaload, 1) := by decide +kernel
theorem dl_1094 : decode code 1094 = .ok (.invokevirtual 130, 3) := by decide +kernel
theorem dl_1097 : decode code 1097 = .ok (.aload_n 2, 1) := by decide +kernel
theorem dl_1098 : decode code 1098 = .ok (.aload_n 0, 1) := by decide +kernel
theorem dl_1099 : decode code 1099 = .ok (.iload_n 3, 1) := by decide +kernel
theorem dl_1100 : decode code 1100 = .ok (.iconst 1, 1) := by decide +kernel
theorem dl_1101 : decode code 1101 = .ok (.iadd, 1) := by decide +kernel
theorem dl_1102 : decode code 1102 = .ok (.iaload, 1) := by decide +kernel
theorem dl_1103 : decode code 1103 = .ok (.invokevirtual 133, 3) := by decide +kernel
theorem dl_1106 : decode code 1106 = .ok (.if_icmp .eq 371, 3) := by decide +kernel
theorem dl_1109 : decode code 1109 = .ok (.iconst 0, 1) := by decide +kernel
theorem dl_1110 : decode code 1110 = .ok (.ireturn, 1) := by decide +kernel
theorem dl_1111 : decode code 1111 = .ok (.aload_n 1, 1) := by decide +kernel
theorem dl_1112 : decode code 1112 = .ok (.aload_n 0, 1) := by decide +kernel
theorem dl_1113 : decode code 1113 = .ok (.iload_n 3, 1) := by decide +kernel
theorem dl_1114 : decode code 1114 = .ok (.iconst 1, 1) := by decide +kernel
theorem dl_1115 : decode code 1115 = .ok (.iadd, 1) := by decide +kernel
theorem dl_1116 : decode code 1116 = .ok (.iaload, 1) := by decide +kernel
theorem dl_1117 : decode code 1117 = .ok (.invokevirtual 134, 3) := by decide +kernel
theorem dl_1120 : decode code 1120 = .ok (.aload_n 2, 1) := by decide +kernel
theorem dl_1121 : decode code 1121 = .ok (.aload_n 0, 1) := by decide +kernel
theorem dl_1122 : decode code 1122 = .ok (.iload_n 3, 1) := by decide +kernel
theorem dl_1123 : decode code 1123 = .ok (.iconst 1, 1) := by decide +kernel
theorem dl_1124 : decode code 1124 = .ok (.iadd, 1) := by decide +kernel
theorem dl_1125 : decode code 1125 = .ok (.iaload, 1) := by decide +kernel
theorem dl_1126 : decode code 1126 = .ok (.invokevirtual 137, 3) := by decide +kernel
theorem dl_1129 : decode code 1129 = .ok (.if_icmp .eq 348, 3) := by decide +kernel
theorem dl_1132 : decode code 1132 = .ok (.iconst 0, 1) := by decide +kernel
theorem dl_1133 : decode code 1133 = .ok (.ireturn, 1) := by decide +kernel
theorem dl_1134 : decode code 1134 = .ok (.aload_n 1, 1) := by decide +kernel
theorem dl_1135 : decode code 1135 = .ok (.aload_n 0, 1) := by decide +kernel
theorem dl_1136 : decode code 1136 = .ok (.iload_n 3, 1) := by decide +kernel
theorem dl_1137 : decode code 1137 = .ok (.iconst 1, 1) := by decide +kernel
theorem dl_1138 : decode code 1138 = .ok (.iadd, 1) := by decide +kernel
theorem dl_1139 : decode code 1139 = .ok (.iaload, 1) := by decide +kernel
theorem dl_1140 : decode code 1140 = .ok (.invokevirtual 138, 3) := by decide +kernel
theorem dl_1143 : decode code 1143 = .ok (.aload_n 2, 1) := by decide +kernel
theorem dl_1144 : decode code 1144 = .ok (.aload_n 0, 1) := by decide +kernel
theorem dl_1145 : decode code 1145 = .ok (.iload_n 3, 1) := by decide +kernel
theorem dl_1146 : decode code 1146 = .ok (.iconst 1, 1) := by decide +kernel
theorem dl_1147 : decode code 1147 = .ok (.iadd, 1) := by decide +kernel
theorem dl_1148 : decode code 1148 = .ok (.iaload, 1) := by decide +kernel
theorem dl_1149 : decode code 1149 = .ok (.invokevirtual 141, 3) := by decide +kernel
theorem dl_1152 : decode code 1152 = .ok (.if_icmp .eq 325, 3) := by decide +kernel
theorem dl_1155 : decode code 1155 = .ok (.iconst 0, 1) := by decide +kernel
theorem dl_1156 : decode code 1156 = .ok (.ireturn, 1) := by decide +kernel
theorem dl_1157 : decode code 1157 = .ok (.aload_n 1, 1) := by decide +kernel
theorem dl_1158 : decode code 1158 = .ok (.aload_n 0, 1) := by decide +kernel
theorem dl_1159 : decode code 1159 = .ok (.iload_n 3, 1) := by decide +kernel
theorem dl_1160 : decode code 1160 = .ok (.iconst 1, 1) := by decide +kernel
theorem dl_1161 : decode code 1161 = .ok (.iadd, 1) := by decide +kernel
