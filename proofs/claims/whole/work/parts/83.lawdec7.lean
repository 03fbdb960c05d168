theorem d_LA_law_988 : decode code 988 = .ok (.aload_n 1, 1) := by decide +kernel
theorem d_LA_law_989 : decode code 989 = .ok (.invokevirtual 121, 3) := by decide +kernel
theorem d_LA_law_992 : decode code 992 = .ok (.aload_n 2, 1) := by decide +kernel
theorem d_LA_law_993 : decode code 993 = .ok (.invokevirtual 125, 3) := by decide +kernel
theorem d_LA_law_996 : decode code 996 = .ok (.lcmp, 1) := by decide +kernel
theorem d_LA_law_997 : decode code 997 = .ok (.ifCond .eq 224, 3) := by decide +kernel
theorem d_LA_law_1000 : decode code 1000 = .ok (.iconst 0, 1) := by decide +kernel
theorem d_LA_law_1001 : decode code 1001 = .ok (.ireturn, 1) := by decide +kernel
theorem d_LA_law_1002 : decode code 1002 = .ok (.aload_n 1, 1) := by decide +kernel
theorem d_LA_law_1003 : decode code 1003 = .ok (.aload_n 0, 1) := by decide +kernel
theorem d_LA_law_1004 : decode code 1004 = .ok (.iload 4, 2) := by decide +kernel
theorem d_LA_law_1006 : decode code 1006 = .ok (.iconst 1, 1) := by decide +kernel
theorem d_LA_law_1007 : decode code 1007 = .ok (.iadd, 1) := by decide +kernel
theorem d_LA_law_1008 : decode code 1008 = .ok (.iaload, 1) := by decide +kernel
theorem d_LA_law_1009 : decode code 1009 = .ok (.aload_n 0, 1) := by decide +kernel
theorem d_LA_law_1010 : decode code 1010 = .ok (.iload 4, 2) := by decide +kernel
theorem d_LA_law_1012 : decode code 1012 = .ok (.iconst 2, 1) := by decide +kernel
theorem d_LA_law_1013 : decode code 1013 = .ok (.iadd, 1) := by decide +kernel
theorem d_LA_law_1014 : decode code 1014 = .ok (.iaload, 1) := by decide +kernel
theorem d_LA_law_1015 : decode code 1015 = .ok (.aload_n 0, 1) := by decide +kernel
theorem d_LA_law_1016 : decode code 1016 = .ok (.iload 4, 2) := by decide +kernel
theorem d_LA_law_1018 : decode code 1018 = .ok (.iconst 3, 1) := by decide +kernel
theorem d_LA_law_1019 : decode code 1019 = .ok (.iadd, 1) := by decide +kernel
theorem d_LA_law_1020 : decode code 1020 = .ok (.iaload, 1) := by decide +kernel
theorem d_LA_law_1021 : decode code 1021 = .ok (.aload_n 3, 1) := by decide +kernel
theorem d_LA_law_1022 : decode code 1022 = .ok (.invokestatic 126, 3) := by decide +kernel
theorem d_LA_law_1025 : decode code 1025 = .ok (.istore 5, 2) := by decide +kernel
theorem d_LA_law_1027 : decode code 1027 = .ok (.aload_n 2, 1) := by decide +kernel
theorem d_LA_law_1028 : decode code 1028 = .ok (.aload_n 0, 1) := by decide +kernel
theorem d_LA_law_1029 : decode code 1029 = .ok (.iload 4, 2) := by decide +kernel
theorem d_LA_law_1031 : decode code 1031 = .ok (.iconst 1, 1) := by decide +kernel
theorem d_LA_law_1032 : decode code 1032 = .ok (.iadd, 1) := by decide +kernel
theorem d_LA_law_1033 : decode code 1033 = .ok (.iaload, 1) := by decide +kernel
theorem d_LA_law_1034 : decode code 1034 = .ok (.aload_n 0, 1) := by decide +kernel
theorem d_LA_law_1035 : decode code 1035 = .ok (.iload 4, 2) := by decide +kernel
theorem d_LA_law_1037 : decode code 1037 = .ok (.iconst 2, 1) := by decide +kernel
theorem d_LA_law_1038 : decode code 1038 = .ok (.iadd, 1) := by decide +kernel
theorem d_LA_law_1039 : decode code 1039 = .ok (.iaload, 1) := by decide +kernel
theorem d_LA_law_1040 : decode code 1040 = .ok (.aload_n 0, 1) := by decide +kernel
theorem d_LA_law_1041 : decode code 1041 = .ok (.iload 4, 2) := by decide +kernel
theorem d_LA_law_1043 : decode code 1043 = .ok (.iconst 3, 1) := by decide +kernel
theorem d_LA_law_1044 : decode code 1044 = .ok (.iadd, 1) := by decide +kernel
theorem d_LA_law_1045 : decode code 1045 = .ok (.iaload, 1) := by decide +kernel
theorem d_LA_law_1046 : decode code 1046 = .ok (.invokevirtual 128, 3) := by decide +kernel
theorem d_LA_law_1049 : decode code 1049 = .ok (.istore 6, 2) := by decide +kernel
theorem d_LA_law_1051 : decode code 1051 = .ok (.aload_n 2, 1) := by decide +kernel
theorem d_LA_law_1052 : decode code 1052 = .ok (.invokevirtual 80, 3) := by decide +kernel
theorem d_LA_law_1055 : decode code 1055 = .ok (.iload 5, 2) := by decide +kernel
theorem d_LA_law_1057 : decode code 1057 = .ok (.if_icmp .eq 5, 3) := by decide +kernel
theorem d_LA_law_1060 : decode code 1060 = .ok (.iconst 0, 1) := by decide +kernel
theorem d_LA_law_1061 : decode code 1061 = .ok (.ireturn, 1) := by decide +kernel
theorem d_LA_law_1062 : decode code 1062 = .ok (.iload 5, 2) := by decide +kernel
theorem d_LA_law_1064 : decode code 1064 = .ok (.ifCond .ne 15, 3) := by decide +kernel
theorem d_LA_law_1067 : decode code 1067 = .ok (.aload_n 3, 1) := by decide +kernel
theorem d_LA_law_1068 : decode code 1068 = .ok (.iconst 0, 1) := by decide +kernel
theorem d_LA_law_1069 : decode code 1069 = .ok (.laload, 1) := by decide +kernel
theorem d_LA_law_1070 : decode code 1070 = .ok (.iload 6, 2) := by decide +kernel
theorem d_LA_law_1072 : decode code 1072 = .ok (.i2l, 1) := by decide +kernel
theorem d_LA_law_1073 : decode code 1073 = .ok (.lcmp, 1) := by decide +kernel
theorem d_LA_law_1074 : decode code 1074 = .ok (.ifCond .eq 5, 3) := by decide +kernel
theorem d_LA_law_1077 : decode code 1077 = .ok (.iconst 0, 1) := by decide +kernel
theorem d_LA_law_1078 : decode code 1078 = .ok (.ireturn, 1) := by decide +kernel
theorem d_LA_law_1079 : decode code 1079 = .ok (.goto 142, 3) := by decide +kernel
theorem d_LA_law_1082 : decode code 1082 = .ok (.aload_n 1, 1) := by decide +kernel
theorem d_LA_law_1083 : decode code 1083 = .ok (.aload_n 0, 1) := by decide +kernel
theorem d_LA_law_1084 : decode code 1084 = .ok (.iload 4, 2) := by decide +kernel
theorem d_LA_law_1086 : decode code 1086 = .ok (.iconst 1, 1) := by decide +kernel
theorem d_LA_law_1087 : decode code 1087 = .ok (.iadd, 1) := by decide +kernel
theorem d_LA_law_1088 : decode code 1088 = .ok (.iaload, 1) := by decide +kernel
theorem d_LA_law_1089 : decode code 1089 = .ok (.i2l, 1) := by decide +kernel
theorem d_LA_law_1090 : decode code 1090 = .ok (.bipush 32, 2) := by decide +kernel
theorem d_LA_law_1092 : decode code 1092 = .ok (.lshl, 1) := by decide +kernel
theorem d_LA_law_1093 : decode code 1093 = .ok (.aload_n 0, 1) := by decide +kernel
theorem d_LA_law_1094 : decode code 1094 = .ok (.iload 4, 2) := by decide +kernel
theorem d_LA_law_1096 : decode code 1096 = .ok (.iconst 2, 1) := by decide +kernel
theorem d_LA_law_1097 : decode code 1097 = .ok (.iadd, 1) := by decide +kernel
theorem d_LA_law_1098 : decode code 1098 = .ok (.iaload, 1) := by decide +kernel
theorem d_LA_law_1099 : decode code 1099 = .ok (.i2l, 1) := by decide +kernel
theorem d_LA_law_1100 : decode code 1100 = .ok (.ldc2_w 74, 3) := by decide +kernel
theorem d_LA_law_1103 : decode code 1103 = .ok (.land, 1) := by decide +kernel
theorem d_LA_law_1104 : decode code 1104 = .ok (.lor, 1) := by decide +kernel
theorem d_LA_law_1105 : decode code 1105 = .ok (.aload_n 0, 1) := by decide +kernel
theorem d_LA_law_1106 : decode code 1106 = .ok (.iload 4, 2) := by decide +kernel
theorem d_LA_law_1108 : decode code 1108 = .ok (.iconst 3, 1) := by decide +kernel
theorem d_LA_law_1109 : decode code 1109 = .ok (.iadd, 1) := by decide +kernel
theorem d_LA_law_1110 : decode code 1110 = .ok (.iaload, 1) := by decide +kernel
theorem d_LA_law_1111 : decode code 1111 = .ok (.i2l, 1) := by decide +kernel
theorem d_LA_law_1112 : decode code 1112 = .ok (.bipush 32, 2) := by decide +kernel
theorem d_LA_law_1114 : decode code 1114 = .ok (.lshl, 1) := by decide +kernel
theorem d_LA_law_1115 : decode code 1115 = .ok (.aload_n 0, 1) := by decide +kernel
theorem d_LA_law_1116 : decode code 1116 = .ok (.iload 4, 2) := by decide +kernel
theorem d_LA_law_1118 : decode code 1118 = .ok (.iconst 4, 1) := by decide +kernel
theorem d_LA_law_1119 : decode code 1119 = .ok (.iadd, 1) := by decide +kernel
theorem d_LA_law_1120 : decode code 1120 = .ok (.iaload, 1) := by decide +kernel
theorem d_LA_law_1121 : decode code 1121 = .ok (.i2l, 1) := by decide +kernel
theorem d_LA_law_1122 : decode code 1122 = .ok (.ldc2_w 74, 3) := by decide +kernel
theorem d_LA_law_1125 : decode code 1125 = .ok (.land, 1) := by decide +kernel
theorem d_LA_law_1126 : decode code 1126 = .ok (.lor, 1) := by decide +kernel
theorem d_LA_law_1127 : decode code 1127 = .ok (.aload_n 3, 1) := by decide +kernel
theorem d_LA_law_1128 : decode code 1128 = .ok (.invokestatic 129, 3) := by decide +kernel
theorem d_LA_law_1131 : decode code 1131 = .ok (.istore 5, 2) := by decide +kernel
theorem d_LA_law_1133 : decode code 1133 = .ok (.aload_n 2, 1) := by decide +kernel
theorem d_LA_law_1134 : decode code 1134 = .ok (.aload_n 0, 1) := by decide +kernel
theorem d_LA_law_1135 : decode code 1135 = .ok (.iload 4, 2) := by decide +kernel
theorem d_LA_law_1137 : decode code 1137 = .ok (.iconst 1, 1) := by decide +kernel
theorem d_LA_law_1138 : decode code 1138 = .ok (.iadd, 1) := by decide +kernel
theorem d_LA_law_1139 : decode code 1139 = .ok (.iaload, 1) := by decide +kernel
theorem d_LA_law_1140 : decode code 1140 = .ok (.i2l, 1) := by decide +kernel
theorem d_LA_law_1141 : decode code 1141 = .ok (.bipush 32, 2) := by decide +kernel
theorem d_LA_law_1143 : decode code 1143 = .ok (.lshl, 1) := by decide +kernel
theorem d_LA_law_1144 : decode code 1144 = .ok (.aload_n 0, 1) := by decide +kernel
theorem d_LA_law_1145 : decode code 1145 = .ok (.iload 4, 2) := by decide +kernel
theorem d_LA_law_1147 : decode code 1147 = .ok (.iconst 2, 1) := by decide +kernel
theorem d_LA_law_1148 : decode code 1148 = .ok (.iadd, 1) := by decide +kernel
theorem d_LA_law_1149 : decode code 1149 = .ok (.iaload, 1) := by decide +kernel
theorem d_LA_law_1150 : decode code 1150 = .ok (.i2l, 1) := by decide +kernel
theorem d_LA_law_1151 : decode code 1151 = .ok (.ldc2_w 74, 3) := by decide +kernel
theorem d_LA_law_1154 : decode code 1154 = .ok (.land, 1) := by decide +kernel
theorem d_LA_law_1155 : decode code 1155 = .ok (.lor, 1) := by decide +kernel
theorem d_LA_law_1156 : decode code 1156 = .ok (.aload_n 0, 1) := by decide +kernel
theorem d_LA_law_1157 : decode code 1157 = .ok (.iload 4, 2) := by decide +kernel
theorem d_LA_law_1159 : decode code 1159 = .ok (.iconst 3, 1) := by decide +kernel
theorem d_LA_law_1160 : decode code 1160 = .ok (.iadd, 1) := by decide +kernel
theorem d_LA_law_1161 : decode code 1161 = .ok (.iaload, 1) := by decide +kernel
theorem d_LA_law_1162 : decode code 1162 = .ok (.i2l, 1) := by decide +kernel
theorem d_LA_law_1163 : decode code 1163 = .ok (.bipush 32, 2) := by decide +kernel
theorem d_LA_law_1165 : decode code 1165 = .ok (.lshl, 1) := by decide +kernel
theorem d_LA_law_1166 : decode code 1166 = .ok (.aload_n 0, 1) := by decide +kernel
theorem d_LA_law_1167 : decode code 1167 = .ok (.iload 4, 2) := by decide +kernel
theorem d_LA_law_1169 : decode code 1169 = .ok (.iconst 4, 1) := by decide +kernel
theorem d_LA_law_1170 : decode code 1170 = .ok (.iadd, 1) := by decide +kernel
theorem d_LA_law_1171 : decode code 1171 = .ok (.iaload, 1) := by decide +kernel
theorem d_LA_law_1172 : decode code 1172 = .ok (.i2l, 1) := by decide +kernel
theorem d_LA_law_1173 : decode code 1173 = .ok (.ldc2_w 74, 3) := by decide +kernel
theorem d_LA_law_1176 : decode code 1176 = .ok (.land, 1) := by decide +kernel
theorem d_LA_law_1177 : decode code 1177 = .ok (.lor, 1) := by decide +kernel
theorem d_LA_law_1178 : decode code 1178 = .ok (.invokevirtual 132, 3) := by decide +kernel
theorem d_LA_law_1181 : decode code 1181 = .ok (.istore 6, 2) := by decide +kernel
theorem d_LA_law_1183 : decode code 1183 = .ok (.aload_n 2, 1) := by decide +kernel
theorem d_LA_law_1184 : decode code 1184 = .ok (.invokevirtual 80, 3) := by decide +kernel
theorem d_LA_law_1187 : decode code 1187 = .ok (.iload 5, 2) := by decide +kernel
theorem d_LA_law_1189 : decode code 1189 = .ok (.if_icmp .eq 5, 3) := by decide +kernel
theorem d_LA_law_1192 : decode code 1192 = .ok (.iconst 0, 1) := by decide +kernel
theorem d_LA_law_1193 : decode code 1193 = .ok (.ireturn, 1) := by decide +kernel
theorem d_LA_law_1194 : decode code 1194 = .ok (.iload 5, 2) := by decide +kernel
theorem d_LA_law_1196 : decode code 1196 = .ok (.ifCond .ne 22, 3) := by decide +kernel
theorem d_LA_law_1199 : decode code 1199 = .ok (.aload_n 3, 1) := by decide +kernel
theorem d_LA_law_1200 : decode code 1200 = .ok (.iconst 0, 1) := by decide +kernel
theorem d_LA_law_1201 : decode code 1201 = .ok (.laload, 1) := by decide +kernel
theorem d_LA_law_1202 : decode code 1202 = .ok (.iload 6, 2) := by decide +kernel
theorem d_LA_law_1204 : decode code 1204 = .ok (.ifCond .eq 7, 3) := by decide +kernel
theorem d_LA_law_1207 : decode code 1207 = .ok (.lconst 1, 1) := by decide +kernel
theorem d_LA_law_1208 : decode code 1208 = .ok (.goto 4, 3) := by decide +kernel
theorem d_LA_law_1211 : decode code 1211 = .ok (.lconst 0, 1) := by decide +kernel
theorem d_LA_law_1212 : decode code 1212 = .ok (.lcmp, 1) := by decide +kernel
theorem d_LA_law_1213 : decode code 1213 = .ok (.ifCond .eq 5, 3) := by decide +kernel
theorem d_LA_law_1216 : decode code 1216 = .ok (.iconst 0, 1) := by decide +kernel
theorem d_LA_law_1217 : decode code 1217 = .ok (.ireturn, 1) := by decide +kernel
theorem d_LA_law_1218 : decode code 1218 = .ok (.goto 3, 3) := by decide +kernel
theorem d_LA_law_1221 : decode code 1221 = .ok (.iinc 4 6, 3) := by decide +kernel
theorem d_LA_law_1224 : decode code 1224 = .ok (.goto (-1189), 3) := by decide +kernel
theorem d_LA_law_1227 : decode code 1227 = .ok (.iconst 1, 1) := by decide +kernel
theorem d_LA_law_1228 : decode code 1228 = .ok (.ireturn, 1) := by decide +kernel
