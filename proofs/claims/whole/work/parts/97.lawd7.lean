theorem dL_1009 : decode code 1009 = .ok (.iaload, 1) := by decide +kernel
theorem dL_1010 : decode code 1010 = .ok (.invokevirtual 127, 3) := by decide +kernel
theorem dL_1013 : decode code 1013 = .ok (.if_icmp .eq 117, 3) := by decide +kernel
theorem dL_1016 : decode code 1016 = .ok (.iconst 0, 1) := by decide +kernel
theorem dL_1017 : decode code 1017 = .ok (.ireturn, 1) := by decide +kernel
theorem dL_1018 : decode code 1018 = .ok (.aload_n 1, 1) := by decide +kernel
theorem dL_1019 : decode code 1019 = .ok (.aload_n 0, 1) := by decide +kernel
theorem dL_1020 : decode code 1020 = .ok (.iload_n 3, 1) := by decide +kernel
theorem dL_1021 : decode code 1021 = .ok (.iconst 1, 1) := by decide +kernel
theorem dL_1022 : decode code 1022 = .ok (.iadd, 1) := by decide +kernel
theorem dL_1023 : decode code 1023 = .ok (.iaload, 1) := by decide +kernel
theorem dL_1024 : decode code 1024 = .ok (.aload_n 0, 1) := by decide +kernel
theorem dL_1025 : decode code 1025 = .ok (.iload_n 3, 1) := by decide +kernel
theorem dL_1026 : decode code 1026 = .ok (.iconst 2, 1) := by decide +kernel
theorem dL_1027 : decode code 1027 = .ok (.iadd, 1) := by decide +kernel
theorem dL_1028 : decode code 1028 = .ok (.iaload, 1) := by decide +kernel
theorem dL_1029 : decode code 1029 = .ok (.invokevirtual 128, 3) := by decide +kernel
theorem dL_1032 : decode code 1032 = .ok (.aload_n 2, 1) := by decide +kernel
theorem dL_1033 : decode code 1033 = .ok (.aload_n 0, 1) := by decide +kernel
theorem dL_1034 : decode code 1034 = .ok (.iload_n 3, 1) := by decide +kernel
theorem dL_1035 : decode code 1035 = .ok (.iconst 1, 1) := by decide +kernel
theorem dL_1036 : decode code 1036 = .ok (.iadd, 1) := by decide +kernel
theorem dL_1037 : decode code 1037 = .ok (.iaload, 1) := by decide +kernel
theorem dL_1038 : decode code 1038 = .ok (.aload_n 0, 1) := by decide +kernel
theorem dL_1039 : decode code 1039 = .ok (.iload_n 3, 1) := by decide +kernel
theorem dL_1040 : decode code 1040 = .ok (.iconst 2, 1) := by decide +kernel
theorem dL_1041 : decode code 1041 = .ok (.iadd, 1) := by decide +kernel
theorem dL_1042 : decode code 1042 = .ok (.iaload, 1) := by decide +kernel
theorem dL_1043 : decode code 1043 = .ok (.invokevirtual 131, 3) := by decide +kernel
theorem dL_1046 : decode code 1046 = .ok (.if_icmp .eq 84, 3) := by decide +kernel
theorem dL_1049 : decode code 1049 = .ok (.iconst 0, 1) := by decide +kernel
theorem dL_1050 : decode code 1050 = .ok (.ireturn, 1) := by decide +kernel
theorem dL_1051 : decode code 1051 = .ok (.aload_n 1, 1) := by decide +kernel
theorem dL_1052 : decode code 1052 = .ok (.aload_n 0, 1) := by decide +kernel
theorem dL_1053 : decode code 1053 = .ok (.iload_n 3, 1) := by decide +kernel
theorem dL_1054 : decode code 1054 = .ok (.iconst 1, 1) := by decide +kernel
theorem dL_1055 : decode code 1055 = .ok (.iadd, 1) := by decide +kernel
theorem dL_1056 : decode code 1056 = .ok (.iaload, 1) := by decide +kernel
theorem dL_1057 : decode code 1057 = .ok (.aload_n 0, 1) := by decide +kernel
theorem dL_1058 : decode code 1058 = .ok (.iload_n 3, 1) := by decide +kernel
theorem dL_1059 : decode code 1059 = .ok (.iconst 2, 1) := by decide +kernel
theorem dL_1060 : decode code 1060 = .ok (.iadd, 1) := by decide +kernel
theorem dL_1061 : decode code 1061 = .ok (.iaload, 1) := by decide +kernel
theorem dL_1062 : decode code 1062 = .ok (.invokevirtual 132, 3) := by decide +kernel
theorem dL_1065 : decode code 1065 = .ok (.aload_n 2, 1) := by decide +kernel
theorem dL_1066 : decode code 1066 = .ok (.aload_n 0, 1) := by decide +kernel
theorem dL_1067 : decode code 1067 = .ok (.iload_n 3, 1) := by decide +kernel
theorem dL_1068 : decode code 1068 = .ok (.iconst 1, 1) := by decide +kernel
theorem dL_1069 : decode code 1069 = .ok (.iadd, 1) := by decide +kernel
theorem dL_1070 : decode code 1070 = .ok (.iaload, 1) := by decide +kernel
theorem dL_1071 : decode code 1071 = .ok (.aload_n 0, 1) := by decide +kernel
theorem dL_1072 : decode code 1072 = .ok (.iload_n 3, 1) := by decide +kernel
theorem dL_1073 : decode code 1073 = .ok (.iconst 2, 1) := by decide +kernel
theorem dL_1074 : decode code 1074 = .ok (.iadd, 1) := by decide +kernel
theorem dL_1075 : decode code 1075 = .ok (.iaload, 1) := by decide +kernel
theorem dL_1076 : decode code 1076 = .ok (.invokevirtual 135, 3) := by decide +kernel
theorem dL_1079 : decode code 1079 = .ok (.if_icmp .eq 51, 3) := by decide +kernel
theorem dL_1082 : decode code 1082 = .ok (.iconst 0, 1) := by decide +kernel
theorem dL_1083 : decode code 1083 = .ok (.ireturn, 1) := by decide +kernel
theorem dL_1084 : decode code 1084 = .ok (.aload_n 1, 1) := by decide +kernel
theorem dL_1085 : decode code 1085 = .ok (.aload_n 0, 1) := by decide +kernel
theorem dL_1086 : decode code 1086 = .ok (.iload_n 3, 1) := by decide +kernel
theorem dL_1087 : decode code 1087 = .ok (.iconst 1, 1) := by decide +kernel
theorem dL_1088 : decode code 1088 = .ok (.iadd, 1) := by decide +kernel
theorem dL_1089 : decode code 1089 = .ok (.iaload, 1) := by decide +kernel
theorem dL_1090 : decode code 1090 = .ok (.invokevirtual 136, 3) := by decide +kernel
theorem dL_1093 : decode code 1093 = .ok (.aload_n 2, 1) := by decide +kernel
theorem dL_1094 : decode code 1094 = .ok (.aload_n 0, 1) := by decide +kernel
theorem dL_1095 : decode code 1095 = .ok (.iload_n 3, 1) := by decide +kernel
theorem dL_1096 : decode code 1096 = .ok (.iconst 1, 1) := by decide +kernel
theorem dL_1097 : decode code 1097 = .ok (.iadd, 1) := by decide +kernel
theorem dL_1098 : decode code 1098 = .ok (.iaload, 1) := by decide +kernel
theorem dL_1099 : decode code 1099 = .ok (.invokevirtual 139, 3) := by decide +kernel
theorem dL_1102 : decode code 1102 = .ok (.if_icmp .eq 28, 3) := by decide +kernel
theorem dL_1105 : decode code 1105 = .ok (.iconst 0, 1) := by decide +kernel
theorem dL_1106 : decode code 1106 = .ok (.ireturn, 1) := by decide +kernel
theorem dL_1107 : decode code 1107 = .ok (.aload_n 1, 1) := by decide +kernel
theorem dL_1108 : decode code 1108 = .ok (.aload_n 0, 1) := by decide +kernel
theorem dL_1109 : decode code 1109 = .ok (.iload_n 3, 1) := by decide +kernel
theorem dL_1110 : decode code 1110 = .ok (.iconst 1, 1) := by decide +kernel
theorem dL_1111 : decode code 1111 = .ok (.iadd, 1) := by decide +kernel
theorem dL_1112 : decode code 1112 = .ok (.iaload, 1) := by decide +kernel
theorem dL_1113 : decode code 1113 = .ok (.invokevirtual 140, 3) := by decide +kernel
theorem dL_1116 : decode code 1116 = .ok (.aload_n 2, 1) := by decide +kernel
theorem dL_1117 : decode code 1117 = .ok (.aload_n 0, 1) := by decide +kernel
theorem dL_1118 : decode code 1118 = .ok (.iload_n 3, 1) := by decide +kernel
theorem dL_1119 : decode code 1119 = .ok (.iconst 1, 1) := by decide +kernel
theorem dL_1120 : decode code 1120 = .ok (.iadd, 1) := by decide +kernel
theorem dL_1121 : decode code 1121 = .ok (.iaload, 1) := by decide +kernel
theorem dL_1122 : decode code 1122 = .ok (.invokevirtual 143, 3) := by decide +kernel
theorem dL_1125 : decode code 1125 = .ok (.if_icmp .eq 5, 3) := by decide +kernel
theorem dL_1128 : decode code 1128 = .ok (.iconst 0, 1) := by decide +kernel
theorem dL_1129 : decode code 1129 = .ok (.ireturn, 1) := by decide +kernel
theorem dL_1130 : decode code 1130 = .ok (.iinc 3 6, 3) := by decide +kernel
theorem dL_1133 : decode code 1133 = .ok (.goto (-1115), 3) := by decide +kernel
theorem dL_1136 : decode code 1136 = .ok (.iconst 1, 1) := by decide +kernel
theorem dL_1137 : decode code 1137 = .ok (.ireturn, 1) := by decide +kernel
