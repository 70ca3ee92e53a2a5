/-! PART e0d (by gen_law.py): the law, decoded -/
theorem d_Law_law_986 : decode y_Law_law.2.1 986 = .ok (.iconst 3, 1) := by decide +kernel
theorem d_Law_law_987 : decode y_Law_law.2.1 987 = .ok (.iadd, 1) := by decide +kernel
theorem d_Law_law_988 : decode y_Law_law.2.1 988 = .ok (.iaload, 1) := by decide +kernel
theorem d_Law_law_989 : decode y_Law_law.2.1 989 = .ok (.invokevirtual 118, 3) := by decide +kernel
theorem d_Law_law_992 : decode y_Law_law.2.1 992 = .ok (.if_icmp .eq (280), 3) := by decide +kernel
theorem d_Law_law_995 : decode y_Law_law.2.1 995 = .ok (.iconst 0, 1) := by decide +kernel
theorem d_Law_law_996 : decode y_Law_law.2.1 996 = .ok (.ireturn, 1) := by decide +kernel
theorem d_Law_law_997 : decode y_Law_law.2.1 997 = .ok (.aload_n 1, 1) := by decide +kernel
theorem d_Law_law_998 : decode y_Law_law.2.1 998 = .ok (.aload_n 0, 1) := by decide +kernel
theorem d_Law_law_999 : decode y_Law_law.2.1 999 = .ok (.iload 4, 2) := by decide +kernel
theorem d_Law_law_1001 : decode y_Law_law.2.1 1001 = .ok (.iconst 1, 1) := by decide +kernel
theorem d_Law_law_1002 : decode y_Law_law.2.1 1002 = .ok (.iadd, 1) := by decide +kernel
theorem d_Law_law_1003 : decode y_Law_law.2.1 1003 = .ok (.iaload, 1) := by decide +kernel
theorem d_Law_law_1004 : decode y_Law_law.2.1 1004 = .ok (.aload_n 0, 1) := by decide +kernel
theorem d_Law_law_1005 : decode y_Law_law.2.1 1005 = .ok (.iload 4, 2) := by decide +kernel
theorem d_Law_law_1007 : decode y_Law_law.2.1 1007 = .ok (.iconst 2, 1) := by decide +kernel
theorem d_Law_law_1008 : decode y_Law_law.2.1 1008 = .ok (.iadd, 1) := by decide +kernel
theorem d_Law_law_1009 : decode y_Law_law.2.1 1009 = .ok (.iaload, 1) := by decide +kernel
theorem d_Law_law_1010 : decode y_Law_law.2.1 1010 = .ok (.aload_n 0, 1) := by decide +kernel
theorem d_Law_law_1011 : decode y_Law_law.2.1 1011 = .ok (.iload 4, 2) := by decide +kernel
theorem d_Law_law_1013 : decode y_Law_law.2.1 1013 = .ok (.iconst 3, 1) := by decide +kernel
theorem d_Law_law_1014 : decode y_Law_law.2.1 1014 = .ok (.iadd, 1) := by decide +kernel
theorem d_Law_law_1015 : decode y_Law_law.2.1 1015 = .ok (.iaload, 1) := by decide +kernel
theorem d_Law_law_1016 : decode y_Law_law.2.1 1016 = .ok (.invokevirtual 119, 3) := by decide +kernel
theorem d_Law_law_1019 : decode y_Law_law.2.1 1019 = .ok (.aload_n 2, 1) := by decide +kernel
theorem d_Law_law_1020 : decode y_Law_law.2.1 1020 = .ok (.aload_n 0, 1) := by decide +kernel
theorem d_Law_law_1021 : decode y_Law_law.2.1 1021 = .ok (.iload 4, 2) := by decide +kernel
theorem d_Law_law_1023 : decode y_Law_law.2.1 1023 = .ok (.iconst 1, 1) := by decide +kernel
theorem d_Law_law_1024 : decode y_Law_law.2.1 1024 = .ok (.iadd, 1) := by decide +kernel
theorem d_Law_law_1025 : decode y_Law_law.2.1 1025 = .ok (.iaload, 1) := by decide +kernel
theorem d_Law_law_1026 : decode y_Law_law.2.1 1026 = .ok (.aload_n 0, 1) := by decide +kernel
theorem d_Law_law_1027 : decode y_Law_law.2.1 1027 = .ok (.iload 4, 2) := by decide +kernel
theorem d_Law_law_1029 : decode y_Law_law.2.1 1029 = .ok (.iconst 2, 1) := by decide +kernel
theorem d_Law_law_1030 : decode y_Law_law.2.1 1030 = .ok (.iadd, 1) := by decide +kernel
theorem d_Law_law_1031 : decode y_Law_law.2.1 1031 = .ok (.iaload, 1) := by decide +kernel
theorem d_Law_law_1032 : decode y_Law_law.2.1 1032 = .ok (.aload_n 0, 1) := by decide +kernel
theorem d_Law_law_1033 : decode y_Law_law.2.1 1033 = .ok (.iload 4, 2) := by decide +kernel
theorem d_Law_law_1035 : decode y_Law_law.2.1 1035 = .ok (.iconst 3, 1) := by decide +kernel
theorem d_Law_law_1036 : decode y_Law_law.2.1 1036 = .ok (.iadd, 1) := by decide +kernel
theorem d_Law_law_1037 : decode y_Law_law.2.1 1037 = .ok (.iaload, 1) := by decide +kernel
theorem d_Law_law_1038 : decode y_Law_law.2.1 1038 = .ok (.invokevirtual 122, 3) := by decide +kernel
theorem d_Law_law_1041 : decode y_Law_law.2.1 1041 = .ok (.if_icmp .eq (231), 3) := by decide +kernel
theorem d_Law_law_1044 : decode y_Law_law.2.1 1044 = .ok (.iconst 0, 1) := by decide +kernel
theorem d_Law_law_1045 : decode y_Law_law.2.1 1045 = .ok (.ireturn, 1) := by decide +kernel
theorem d_Law_law_1046 : decode y_Law_law.2.1 1046 = .ok (.aload_n 1, 1) := by decide +kernel
theorem d_Law_law_1047 : decode y_Law_law.2.1 1047 = .ok (.aload_n 0, 1) := by decide +kernel
theorem d_Law_law_1048 : decode y_Law_law.2.1 1048 = .ok (.iload 4, 2) := by decide +kernel
theorem d_Law_law_1050 : decode y_Law_law.2.1 1050 = .ok (.iconst 1, 1) := by decide +kernel
theorem d_Law_law_1051 : decode y_Law_law.2.1 1051 = .ok (.iadd, 1) := by decide +kernel
theorem d_Law_law_1052 : decode y_Law_law.2.1 1052 = .ok (.iaload, 1) := by decide +kernel
theorem d_Law_law_1053 : decode y_Law_law.2.1 1053 = .ok (.aload_n 0, 1) := by decide +kernel
theorem d_Law_law_1054 : decode y_Law_law.2.1 1054 = .ok (.iload 4, 2) := by decide +kernel
theorem d_Law_law_1056 : decode y_Law_law.2.1 1056 = .ok (.iconst 2, 1) := by decide +kernel
theorem d_Law_law_1057 : decode y_Law_law.2.1 1057 = .ok (.iadd, 1) := by decide +kernel
theorem d_Law_law_1058 : decode y_Law_law.2.1 1058 = .ok (.iaload, 1) := by decide +kernel
theorem d_Law_law_1059 : decode y_Law_law.2.1 1059 = .ok (.invokevirtual 123, 3) := by decide +kernel
theorem d_Law_law_1062 : decode y_Law_law.2.1 1062 = .ok (.aload_n 2, 1) := by decide +kernel
theorem d_Law_law_1063 : decode y_Law_law.2.1 1063 = .ok (.aload_n 0, 1) := by decide +kernel
theorem d_Law_law_1064 : decode y_Law_law.2.1 1064 = .ok (.iload 4, 2) := by decide +kernel
theorem d_Law_law_1066 : decode y_Law_law.2.1 1066 = .ok (.iconst 1, 1) := by decide +kernel
theorem d_Law_law_1067 : decode y_Law_law.2.1 1067 = .ok (.iadd, 1) := by decide +kernel
theorem d_Law_law_1068 : decode y_Law_law.2.1 1068 = .ok (.iaload, 1) := by decide +kernel
theorem d_Law_law_1069 : decode y_Law_law.2.1 1069 = .ok (.aload_n 0, 1) := by decide +kernel
theorem d_Law_law_1070 : decode y_Law_law.2.1 1070 = .ok (.iload 4, 2) := by decide +kernel
theorem d_Law_law_1072 : decode y_Law_law.2.1 1072 = .ok (.iconst 2, 1) := by decide +kernel
theorem d_Law_law_1073 : decode y_Law_law.2.1 1073 = .ok (.iadd, 1) := by decide +kernel
theorem d_Law_law_1074 : decode y_Law_law.2.1 1074 = .ok (.iaload, 1) := by decide +kernel
theorem d_Law_law_1075 : decode y_Law_law.2.1 1075 = .ok (.invokevirtual 126, 3) := by decide +kernel
theorem d_Law_law_1078 : decode y_Law_law.2.1 1078 = .ok (.if_icmp .eq (194), 3) := by decide +kernel
theorem d_Law_law_1081 : decode y_Law_law.2.1 1081 = .ok (.iconst 0, 1) := by decide +kernel
theorem d_Law_law_1082 : decode y_Law_law.2.1 1082 = .ok (.ireturn, 1) := by decide +kernel
theorem d_Law_law_1083 : decode y_Law_law.2.1 1083 = .ok (.aload_n 1, 1) := by decide +kernel
theorem d_Law_law_1084 : decode y_Law_law.2.1 1084 = .ok (.invokevirtual 127, 3) := by decide +kernel
theorem d_Law_law_1087 : decode y_Law_law.2.1 1087 = .ok (.aload_n 2, 1) := by decide +kernel
theorem d_Law_law_1088 : decode y_Law_law.2.1 1088 = .ok (.invokevirtual 130, 3) := by decide +kernel
theorem d_Law_law_1091 : decode y_Law_law.2.1 1091 = .ok (.if_icmp .eq (181), 3) := by decide +kernel
theorem d_Law_law_1094 : decode y_Law_law.2.1 1094 = .ok (.iconst 0, 1) := by decide +kernel
theorem d_Law_law_1095 : decode y_Law_law.2.1 1095 = .ok (.ireturn, 1) := by decide +kernel
theorem d_Law_law_1096 : decode y_Law_law.2.1 1096 = .ok (.aload_n 1, 1) := by decide +kernel
theorem d_Law_law_1097 : decode y_Law_law.2.1 1097 = .ok (.invokevirtual 131, 3) := by decide +kernel
theorem d_Law_law_1100 : decode y_Law_law.2.1 1100 = .ok (.aload_n 2, 1) := by decide +kernel
theorem d_Law_law_1101 : decode y_Law_law.2.1 1101 = .ok (.invokevirtual 134, 3) := by decide +kernel
theorem d_Law_law_1104 : decode y_Law_law.2.1 1104 = .ok (.if_icmp .eq (168), 3) := by decide +kernel
theorem d_Law_law_1107 : decode y_Law_law.2.1 1107 = .ok (.iconst 0, 1) := by decide +kernel
theorem d_Law_law_1108 : decode y_Law_law.2.1 1108 = .ok (.ireturn, 1) := by decide +kernel
theorem d_Law_law_1109 : decode y_Law_law.2.1 1109 = .ok (.aload_n 1, 1) := by decide +kernel
theorem d_Law_law_1110 : decode y_Law_law.2.1 1110 = .ok (.invokevirtual 135, 3) := by decide +kernel
theorem d_Law_law_1113 : decode y_Law_law.2.1 1113 = .ok (.aload_n 2, 1) := by decide +kernel
theorem d_Law_law_1114 : decode y_Law_law.2.1 1114 = .ok (.invokevirtual 138, 3) := by decide +kernel
theorem d_Law_law_1117 : decode y_Law_law.2.1 1117 = .ok (.if_icmp .eq (155), 3) := by decide +kernel
theorem d_Law_law_1120 : decode y_Law_law.2.1 1120 = .ok (.iconst 0, 1) := by decide +kernel
theorem d_Law_law_1121 : decode y_Law_law.2.1 1121 = .ok (.ireturn, 1) := by decide +kernel
theorem d_Law_law_1122 : decode y_Law_law.2.1 1122 = .ok (.aload_n 1, 1) := by decide +kernel
theorem d_Law_law_1123 : decode y_Law_law.2.1 1123 = .ok (.invokevirtual 139, 3) := by decide +kernel
theorem d_Law_law_1126 : decode y_Law_law.2.1 1126 = .ok (.aload_n 2, 1) := by decide +kernel
theorem d_Law_law_1127 : decode y_Law_law.2.1 1127 = .ok (.invokevirtual 142, 3) := by decide +kernel
theorem d_Law_law_1130 : decode y_Law_law.2.1 1130 = .ok (.if_icmp .eq (142), 3) := by decide +kernel
theorem d_Law_law_1133 : decode y_Law_law.2.1 1133 = .ok (.iconst 0, 1) := by decide +kernel
theorem d_Law_law_1134 : decode y_Law_law.2.1 1134 = .ok (.ireturn, 1) := by decide +kernel
theorem d_Law_law_1135 : decode y_Law_law.2.1 1135 = .ok (.aload_n 1, 1) := by decide +kernel
theorem d_Law_law_1136 : decode y_Law_law.2.1 1136 = .ok (.aload_n 0, 1) := by decide +kernel
theorem d_Law_law_1137 : decode y_Law_law.2.1 1137 = .ok (.iload 4, 2) := by decide +kernel
theorem d_Law_law_1139 : decode y_Law_law.2.1 1139 = .ok (.iconst 1, 1) := by decide +kernel
theorem d_Law_law_1140 : decode y_Law_law.2.1 1140 = .ok (.iadd, 1) := by decide +kernel
theorem d_Law_law_1141 : decode y_Law_law.2.1 1141 = .ok (.iaload, 1) := by decide +kernel
theorem d_Law_law_1142 : decode y_Law_law.2.1 1142 = .ok (.invokevirtual 143, 3) := by decide +kernel
theorem d_Law_law_1145 : decode y_Law_law.2.1 1145 = .ok (.aload_n 2, 1) := by decide +kernel
theorem d_Law_law_1146 : decode y_Law_law.2.1 1146 = .ok (.aload_n 0, 1) := by decide +kernel
theorem d_Law_law_1147 : decode y_Law_law.2.1 1147 = .ok (.iload 4, 2) := by decide +kernel
theorem d_Law_law_1149 : decode y_Law_law.2.1 1149 = .ok (.iconst 1, 1) := by decide +kernel
theorem d_Law_law_1150 : decode y_Law_law.2.1 1150 = .ok (.iadd, 1) := by decide +kernel
theorem d_Law_law_1151 : decode y_Law_law.2.1 1151 = .ok (.iaload, 1) := by decide +kernel
theorem d_Law_law_1152 : decode y_Law_law.2.1 1152 = .ok (.invokevirtual 146, 3) := by decide +kernel
theorem d_Law_law_1155 : decode y_Law_law.2.1 1155 = .ok (.if_icmp .eq (117), 3) := by decide +kernel
theorem d_Law_law_1158 : decode y_Law_law.2.1 1158 = .ok (.iconst 0, 1) := by decide +kernel
theorem d_Law_law_1159 : decode y_Law_law.2.1 1159 = .ok (.ireturn, 1) := by decide +kernel
theorem d_Law_law_1160 : decode y_Law_law.2.1 1160 = .ok (.aload_n 1, 1) := by decide +kernel
theorem d_Law_law_1161 : decode y_Law_law.2.1 1161 = .ok (.invokevirtual 147, 3) := by decide +kernel
theorem d_Law_law_1164 : decode y_Law_law.2.1 1164 = .ok (.aload_n 2, 1) := by decide +kernel
theorem d_Law_law_1165 : decode y_Law_law.2.1 1165 = .ok (.invokevirtual 150, 3) := by decide +kernel
theorem d_Law_law_1168 : decode y_Law_law.2.1 1168 = .ok (.if_icmp .eq (104), 3) := by decide +kernel
theorem d_Law_law_1171 : decode y_Law_law.2.1 1171 = .ok (.iconst 0, 1) := by decide +kernel
theorem d_Law_law_1172 : decode y_Law_law.2.1 1172 = .ok (.ireturn, 1) := by decide +kernel
theorem d_Law_law_1173 : decode y_Law_law.2.1 1173 = .ok (.aload_n 1, 1) := by decide +kernel
theorem d_Law_law_1174 : decode y_Law_law.2.1 1174 = .ok (.aload_n 0, 1) := by decide +kernel
theorem d_Law_law_1175 : decode y_Law_law.2.1 1175 = .ok (.iload 4, 2) := by decide +kernel
theorem d_Law_law_1177 : decode y_Law_law.2.1 1177 = .ok (.iconst 1, 1) := by decide +kernel
theorem d_Law_law_1178 : decode y_Law_law.2.1 1178 = .ok (.iadd, 1) := by decide +kernel
theorem d_Law_law_1179 : decode y_Law_law.2.1 1179 = .ok (.iaload, 1) := by decide +kernel
theorem d_Law_law_1180 : decode y_Law_law.2.1 1180 = .ok (.aload_n 0, 1) := by decide +kernel
theorem d_Law_law_1181 : decode y_Law_law.2.1 1181 = .ok (.iload 4, 2) := by decide +kernel
theorem d_Law_law_1183 : decode y_Law_law.2.1 1183 = .ok (.iconst 2, 1) := by decide +kernel
theorem d_Law_law_1184 : decode y_Law_law.2.1 1184 = .ok (.iadd, 1) := by decide +kernel
theorem d_Law_law_1185 : decode y_Law_law.2.1 1185 = .ok (.iaload, 1) := by decide +kernel
theorem d_Law_law_1186 : decode y_Law_law.2.1 1186 = .ok (.aload_n 0, 1) := by decide +kernel
theorem d_Law_law_1187 : decode y_Law_law.2.1 1187 = .ok (.iload 4, 2) := by decide +kernel
theorem d_Law_law_1189 : decode y_Law_law.2.1 1189 = .ok (.iconst 3, 1) := by decide +kernel
theorem d_Law_law_1190 : decode y_Law_law.2.1 1190 = .ok (.iadd, 1) := by decide +kernel
theorem d_Law_law_1191 : decode y_Law_law.2.1 1191 = .ok (.iaload, 1) := by decide +kernel
theorem d_Law_law_1192 : decode y_Law_law.2.1 1192 = .ok (.invokevirtual 151, 3) := by decide +kernel
theorem d_Law_law_1195 : decode y_Law_law.2.1 1195 = .ok (.aload_n 2, 1) := by decide +kernel
theorem d_Law_law_1196 : decode y_Law_law.2.1 1196 = .ok (.aload_n 0, 1) := by decide +kernel
theorem d_Law_law_1197 : decode y_Law_law.2.1 1197 = .ok (.iload 4, 2) := by decide +kernel
theorem d_Law_law_1199 : decode y_Law_law.2.1 1199 = .ok (.iconst 1, 1) := by decide +kernel
theorem d_Law_law_1200 : decode y_Law_law.2.1 1200 = .ok (.iadd, 1) := by decide +kernel
theorem d_Law_law_1201 : decode y_Law_law.2.1 1201 = .ok (.iaload, 1) := by decide +kernel
theorem d_Law_law_1202 : decode y_Law_law.2.1 1202 = .ok (.aload_n 0, 1) := by decide +kernel
theorem d_Law_law_1203 : decode y_Law_law.2.1 1203 = .ok (.iload 4, 2) := by decide +kernel
theorem d_Law_law_1205 : decode y_Law_law.2.1 1205 = .ok (.iconst 2, 1) := by decide +kernel
theorem d_Law_law_1206 : decode y_Law_law.2.1 1206 = .ok (.iadd, 1) := by decide +kernel
theorem d_Law_law_1207 : decode y_Law_law.2.1 1207 = .ok (.iaload, 1) := by decide +kernel
theorem d_Law_law_1208 : decode y_Law_law.2.1 1208 = .ok (.aload_n 0, 1) := by decide +kernel
theorem d_Law_law_1209 : decode y_Law_law.2.1 1209 = .ok (.iload 4, 2) := by decide +kernel
theorem d_Law_law_1211 : decode y_Law_law.2.1 1211 = .ok (.iconst 3, 1) := by decide +kernel
theorem d_Law_law_1212 : decode y_Law_law.2.1 1212 = .ok (.iadd, 1) := by decide +kernel
theorem d_Law_law_1213 : decode y_Law_law.2.1 1213 = .ok (.iaload, 1) := by decide +kernel
theorem d_Law_law_1214 : decode y_Law_law.2.1 1214 = .ok (.invokevirtual 154, 3) := by decide +kernel
theorem d_Law_law_1217 : decode y_Law_law.2.1 1217 = .ok (.if_icmp .eq (55), 3) := by decide +kernel
theorem d_Law_law_1220 : decode y_Law_law.2.1 1220 = .ok (.iconst 0, 1) := by decide +kernel
theorem d_Law_law_1221 : decode y_Law_law.2.1 1221 = .ok (.ireturn, 1) := by decide +kernel
theorem d_Law_law_1222 : decode y_Law_law.2.1 1222 = .ok (.aload_n 1, 1) := by decide +kernel
theorem d_Law_law_1223 : decode y_Law_law.2.1 1223 = .ok (.aload_n 0, 1) := by decide +kernel
theorem d_Law_law_1224 : decode y_Law_law.2.1 1224 = .ok (.iload 4, 2) := by decide +kernel
theorem d_Law_law_1226 : decode y_Law_law.2.1 1226 = .ok (.iconst 1, 1) := by decide +kernel
theorem d_Law_law_1227 : decode y_Law_law.2.1 1227 = .ok (.iadd, 1) := by decide +kernel
theorem d_Law_law_1228 : decode y_Law_law.2.1 1228 = .ok (.iaload, 1) := by decide +kernel
theorem d_Law_law_1229 : decode y_Law_law.2.1 1229 = .ok (.invokevirtual 155, 3) := by decide +kernel
theorem d_Law_law_1232 : decode y_Law_law.2.1 1232 = .ok (.aload_n 2, 1) := by decide +kernel
theorem d_Law_law_1233 : decode y_Law_law.2.1 1233 = .ok (.aload_n 0, 1) := by decide +kernel
theorem d_Law_law_1234 : decode y_Law_law.2.1 1234 = .ok (.iload 4, 2) := by decide +kernel
theorem d_Law_law_1236 : decode y_Law_law.2.1 1236 = .ok (.iconst 1, 1) := by decide +kernel
theorem d_Law_law_1237 : decode y_Law_law.2.1 1237 = .ok (.iadd, 1) := by decide +kernel
theorem d_Law_law_1238 : decode y_Law_law.2.1 1238 = .ok (.iaload, 1) := by decide +kernel
theorem d_Law_law_1239 : decode y_Law_law.2.1 1239 = .ok (.invokevirtual 158, 3) := by decide +kernel
theorem d_Law_law_1242 : decode y_Law_law.2.1 1242 = .ok (.if_icmp .eq (30), 3) := by decide +kernel
theorem d_Law_law_1245 : decode y_Law_law.2.1 1245 = .ok (.iconst 0, 1) := by decide +kernel
theorem d_Law_law_1246 : decode y_Law_law.2.1 1246 = .ok (.ireturn, 1) := by decide +kernel
theorem d_Law_law_1247 : decode y_Law_law.2.1 1247 = .ok (.aload_n 1, 1) := by decide +kernel
theorem d_Law_law_1248 : decode y_Law_law.2.1 1248 = .ok (.aload_n 0, 1) := by decide +kernel
theorem d_Law_law_1249 : decode y_Law_law.2.1 1249 = .ok (.iload 4, 2) := by decide +kernel
theorem d_Law_law_1251 : decode y_Law_law.2.1 1251 = .ok (.iconst 1, 1) := by decide +kernel
theorem d_Law_law_1252 : decode y_Law_law.2.1 1252 = .ok (.iadd, 1) := by decide +kernel
theorem d_Law_law_1253 : decode y_Law_law.2.1 1253 = .ok (.iaload, 1) := by decide +kernel
theorem d_Law_law_1254 : decode y_Law_law.2.1 1254 = .ok (.invokevirtual 159, 3) := by decide +kernel
theorem d_Law_law_1257 : decode y_Law_law.2.1 1257 = .ok (.aload_n 2, 1) := by decide +kernel
theorem d_Law_law_1258 : decode y_Law_law.2.1 1258 = .ok (.aload_n 0, 1) := by decide +kernel
theorem d_Law_law_1259 : decode y_Law_law.2.1 1259 = .ok (.iload 4, 2) := by decide +kernel
theorem d_Law_law_1261 : decode y_Law_law.2.1 1261 = .ok (.iconst 1, 1) := by decide +kernel
theorem d_Law_law_1262 : decode y_Law_law.2.1 1262 = .ok (.iadd, 1) := by decide +kernel
theorem d_Law_law_1263 : decode y_Law_law.2.1 1263 = .ok (.iaload, 1) := by decide +kernel
theorem d_Law_law_1264 : decode y_Law_law.2.1 1264 = .ok (.invokevirtual 162, 3) := by decide +kernel
theorem d_Law_law_1267 : decode y_Law_law.2.1 1267 = .ok (.if_icmp .eq (5), 3) := by decide +kernel
theorem d_Law_law_1270 : decode y_Law_law.2.1 1270 = .ok (.iconst 0, 1) := by decide +kernel
theorem d_Law_law_1271 : decode y_Law_law.2.1 1271 = .ok (.ireturn, 1) := by decide +kernel
theorem d_Law_law_1272 : decode y_Law_law.2.1 1272 = .ok (.iinc 4 (6), 3) := by decide +kernel
theorem d_Law_law_1275 : decode y_Law_law.2.1 1275 = .ok (.goto (-1252), 3) := by decide +kernel
theorem d_Law_law_1278 : decode y_Law_law.2.1 1278 = .ok (.iconst 1, 1) := by decide +kernel
theorem d_Law_law_1279 : decode y_Law_law.2.1 1279 = .ok (.ireturn, 1) := by decide +kernel
