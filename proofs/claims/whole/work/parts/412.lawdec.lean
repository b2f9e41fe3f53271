theorem d_law_982 : decode code 982 = .ok (.aload_n 0, 1) := by decide +kernel
theorem d_law_983 : decode code 983 = .ok (.iload_n 3, 1) := by decide +kernel
theorem d_law_984 : decode code 984 = .ok (.iconst 1, 1) := by decide +kernel
theorem d_law_985 : decode code 985 = .ok (.iadd, 1) := by decide +kernel
theorem d_law_986 : decode code 986 = .ok (.iaload, 1) := by decide +kernel
theorem d_law_987 : decode code 987 = .ok (.aload_n 0, 1) := by decide +kernel
theorem d_law_988 : decode code 988 = .ok (.iload_n 3, 1) := by decide +kernel
theorem d_law_989 : decode code 989 = .ok (.iconst 2, 1) := by decide +kernel
theorem d_law_990 : decode code 990 = .ok (.iadd, 1) := by decide +kernel
theorem d_law_991 : decode code 991 = .ok (.iaload, 1) := by decide +kernel
theorem d_law_992 : decode code 992 = .ok (.invokevirtual 138, 3) := by decide +kernel
theorem d_law_995 : decode code 995 = .ok (.if_icmp .eq 332, 3) := by decide +kernel
theorem d_law_998 : decode code 998 = .ok (.iconst 0, 1) := by decide +kernel
theorem d_law_999 : decode code 999 = .ok (.ireturn, 1) := by decide +kernel
theorem d_law_1000 : decode code 1000 = .ok (.aload_n 1, 1) := by decide +kernel
theorem d_law_1001 : decode code 1001 = .ok (.aload_n 0, 1) := by decide +kernel
theorem d_law_1002 : decode code 1002 = .ok (.iload_n 3, 1) := by decide +kernel
theorem d_law_1003 : decode code 1003 = .ok (.iconst 1, 1) := by decide +kernel
theorem d_law_1004 : decode code 1004 = .ok (.iadd, 1) := by decide +kernel
theorem d_law_1005 : decode code 1005 = .ok (.iaload, 1) := by decide +kernel
theorem d_law_1006 : decode code 1006 = .ok (.aload_n 0, 1) := by decide +kernel
theorem d_law_1007 : decode code 1007 = .ok (.iload_n 3, 1) := by decide +kernel
theorem d_law_1008 : decode code 1008 = .ok (.iconst 2, 1) := by decide +kernel
theorem d_law_1009 : decode code 1009 = .ok (.iadd, 1) := by decide +kernel
theorem d_law_1010 : decode code 1010 = .ok (.iaload, 1) := by decide +kernel
theorem d_law_1011 : decode code 1011 = .ok (.aload_n 0, 1) := by decide +kernel
theorem d_law_1012 : decode code 1012 = .ok (.iload_n 3, 1) := by decide +kernel
theorem d_law_1013 : decode code 1013 = .ok (.iconst 3, 1) := by decide +kernel
theorem d_law_1014 : decode code 1014 = .ok (.iadd, 1) := by decide +kernel
theorem d_law_1015 : decode code 1015 = .ok (.iaload, 1) := by decide +kernel
theorem d_law_1016 : decode code 1016 = .ok (.invokevirtual 139, 3) := by decide +kernel
theorem d_law_1019 : decode code 1019 = .ok (.aload_n 2, 1) := by decide +kernel
theorem d_law_1020 : decode code 1020 = .ok (.aload_n 0, 1) := by decide +kernel
theorem d_law_1021 : decode code 1021 = .ok (.iload_n 3, 1) := by decide +kernel
theorem d_law_1022 : decode code 1022 = .ok (.iconst 1, 1) := by decide +kernel
theorem d_law_1023 : decode code 1023 = .ok (.iadd, 1) := by decide +kernel
theorem d_law_1024 : decode code 1024 = .ok (.iaload, 1) := by decide +kernel
theorem d_law_1025 : decode code 1025 = .ok (.aload_n 0, 1) := by decide +kernel
theorem d_law_1026 : decode code 1026 = .ok (.iload_n 3, 1) := by decide +kernel
theorem d_law_1027 : decode code 1027 = .ok (.iconst 2, 1) := by decide +kernel
theorem d_law_1028 : decode code 1028 = .ok (.iadd, 1) := by decide +kernel
theorem d_law_1029 : decode code 1029 = .ok (.iaload, 1) := by decide +kernel
theorem d_law_1030 : decode code 1030 = .ok (.aload_n 0, 1) := by decide +kernel
theorem d_law_1031 : decode code 1031 = .ok (.iload_n 3, 1) := by decide +kernel
theorem d_law_1032 : decode code 1032 = .ok (.iconst 3, 1) := by decide +kernel
theorem d_law_1033 : decode code 1033 = .ok (.iadd, 1) := by decide +kernel
theorem d_law_1034 : decode code 1034 = .ok (.iaload, 1) := by decide +kernel
theorem d_law_1035 : decode code 1035 = .ok (.invokevirtual 142, 3) := by decide +kernel
theorem d_law_1038 : decode code 1038 = .ok (.lcmp, 1) := by decide +kernel
theorem d_law_1039 : decode code 1039 = .ok (.ifCond .eq 288, 3) := by decide +kernel
theorem d_law_1042 : decode code 1042 = .ok (.iconst 0, 1) := by decide +kernel
theorem d_law_1043 : decode code 1043 = .ok (.ireturn, 1) := by decide +kernel
theorem d_law_1044 : decode code 1044 = .ok (.aload_n 1, 1) := by decide +kernel
theorem d_law_1045 : decode code 1045 = .ok (.aload_n 0, 1) := by decide +kernel
theorem d_law_1046 : decode code 1046 = .ok (.iload_n 3, 1) := by decide +kernel
theorem d_law_1047 : decode code 1047 = .ok (.iconst 1, 1) := by decide +kernel
theorem d_law_1048 : decode code 1048 = .ok (.iadd, 1) := by decide +kernel
theorem d_law_1049 : decode code 1049 = .ok (.iaload, 1) := by decide +kernel
theorem d_law_1050 : decode code 1050 = .ok (.invokevirtual 143, 3) := by decide +kernel
theorem d_law_1053 : decode code 1053 = .ok (.aload_n 2, 1) := by decide +kernel
theorem d_law_1054 : decode code 1054 = .ok (.aload_n 0, 1) := by decide +kernel
theorem d_law_1055 : decode code 1055 = .ok (.iload_n 3, 1) := by decide +kernel
theorem d_law_1056 : decode code 1056 = .ok (.iconst 1, 1) := by decide +kernel
theorem d_law_1057 : decode code 1057 = .ok (.iadd, 1) := by decide +kernel
theorem d_law_1058 : decode code 1058 = .ok (.iaload, 1) := by decide +kernel
theorem d_law_1059 : decode code 1059 = .ok (.invokevirtual 146, 3) := by decide +kernel
theorem d_law_1062 : decode code 1062 = .ok (.if_icmp .eq 265, 3) := by decide +kernel
theorem d_law_1065 : decode code 1065 = .ok (.iconst 0, 1) := by decide +kernel
theorem d_law_1066 : decode code 1066 = .ok (.ireturn, 1) := by decide +kernel
theorem d_law_1067 : decode code 1067 = .ok (.aload_n 1, 1) := by decide +kernel
theorem d_law_1068 : decode code 1068 = .ok (.invokevirtual 147, 3) := by decide +kernel
theorem d_law_1071 : decode code 1071 = .ok (.aload_n 2, 1) := by decide +kernel
theorem d_law_1072 : decode code 1072 = .ok (.invokevirtual 150, 3) := by decide +kernel
theorem d_law_1075 : decode code 1075 = .ok (.if_icmp .eq 252, 3) := by decide +kernel
theorem d_law_1078 : decode code 1078 = .ok (.iconst 0, 1) := by decide +kernel
theorem d_law_1079 : decode code 1079 = .ok (.ireturn, 1) := by decide +kernel
theorem d_law_1080 : decode code 1080 = .ok (.aload_n 1, 1) := by decide +kernel
theorem d_law_1081 : decode code 1081 = .ok (.aload_n 0, 1) := by decide +kernel
theorem d_law_1082 : decode code 1082 = .ok (.iload_n 3, 1) := by decide +kernel
theorem d_law_1083 : decode code 1083 = .ok (.iconst 1, 1) := by decide +kernel
theorem d_law_1084 : decode code 1084 = .ok (.iadd, 1) := by decide +kernel
theorem d_law_1085 : decode code 1085 = .ok (.iaload, 1) := by decide +kernel
theorem d_law_1086 : decode code 1086 = .ok (.invokevirtual 151, 3) := by decide +kernel
theorem d_law_1089 : decode code 1089 = .ok (.aload_n 2, 1) := by decide +kernel
theorem d_law_1090 : decode code 1090 = .ok (.aload_n 0, 1) := by decide +kernel
theorem d_law_1091 : decode code 1091 = .ok (.iload_n 3, 1) := by decide +kernel
theorem d_law_1092 : decode code 1092 = .ok (.iconst 1, 1) := by decide +kernel
theorem d_law_1093 : decode code 1093 = .ok (.iadd, 1) := by decide +kernel
theorem d_law_1094 : decode code 1094 = .ok (.iaload, 1) := by decide +kernel
theorem d_law_1095 : decode code 1095 = .ok (.invokevirtual 154, 3) := by decide +kernel
theorem d_law_1098 : decode code 1098 = .ok (.if_icmp .eq 229, 3) := by decide +kernel
theorem d_law_1101 : decode code 1101 = .ok (.iconst 0, 1) := by decide +kernel
theorem d_law_1102 : decode code 1102 = .ok (.ireturn, 1) := by decide +kernel
theorem d_law_1103 : decode code 1103 = .ok (.aload_n 1, 1) := by decide +kernel
theorem d_law_1104 : decode code 1104 = .ok (.aload_n 0, 1) := by decide +kernel
theorem d_law_1105 : decode code 1105 = .ok (.iload_n 3, 1) := by decide +kernel
theorem d_law_1106 : decode code 1106 = .ok (.iconst 1, 1) := by decide +kernel
theorem d_law_1107 : decode code 1107 = .ok (.iadd, 1) := by decide +kernel
theorem d_law_1108 : decode code 1108 = .ok (.iaload, 1) := by decide +kernel
theorem d_law_1109 : decode code 1109 = .ok (.invokevirtual 155, 3) := by decide +kernel
theorem d_law_1112 : decode code 1112 = .ok (.aload_n 2, 1) := by decide +kernel
theorem d_law_1113 : decode code 1113 = .ok (.aload_n 0, 1) := by decide +kernel
theorem d_law_1114 : decode code 1114 = .ok (.iload_n 3, 1) := by decide +kernel
theorem d_law_1115 : decode code 1115 = .ok (.iconst 1, 1) := by decide +kernel
theorem d_law_1116 : decode code 1116 = .ok (.iadd, 1) := by decide +kernel
theorem d_law_1117 : decode code 1117 = .ok (.iaload, 1) := by decide +kernel
theorem d_law_1118 : decode code 1118 = .ok (.invokevirtual 158, 3) := by decide +kernel
theorem d_law_1121 : decode code 1121 = .ok (.if_icmp .eq 206, 3) := by decide +kernel
theorem d_law_1124 : decode code 1124 = .ok (.iconst 0, 1) := by decide +kernel
theorem d_law_1125 : decode code 1125 = .ok (.ireturn, 1) := by decide +kernel
theorem d_law_1126 : decode code 1126 = .ok (.aload_n 1, 1) := by decide +kernel
theorem d_law_1127 : decode code 1127 = .ok (.aload_n 0, 1) := by decide +kernel
theorem d_law_1128 : decode code 1128 = .ok (.iload_n 3, 1) := by decide +kernel
theorem d_law_1129 : decode code 1129 = .ok (.iconst 1, 1) := by decide +kernel
theorem d_law_1130 : decode code 1130 = .ok (.iadd, 1) := by decide +kernel
theorem d_law_1131 : decode code 1131 = .ok (.iaload, 1) := by decide +kernel
theorem d_law_1132 : decode code 1132 = .ok (.invokevirtual 159, 3) := by decide +kernel
theorem d_law_1135 : decode code 1135 = .ok (.aload_n 2, 1) := by decide +kernel
theorem d_law_1136 : decode code 1136 = .ok (.aload_n 0, 1) := by decide +kernel
theorem d_law_1137 : decode code 1137 = .ok (.iload_n 3, 1) := by decide +kernel
theorem d_law_1138 : decode code 1138 = .ok (.iconst 1, 1) := by decide +kernel
theorem d_law_1139 : decode code 1139 = .ok (.iadd, 1) := by decide +kernel
theorem d_law_1140 : decode code 1140 = .ok (.iaload, 1) := by decide +kernel
theorem d_law_1141 : decode code 1141 = .ok (.invokevirtual 163, 3) := by decide +kernel
theorem d_law_1144 : decode code 1144 = .ok (.lcmp, 1) := by decide +kernel
theorem d_law_1145 : decode code 1145 = .ok (.ifCond .eq 182, 3) := by decide +kernel
theorem d_law_1148 : decode code 1148 = .ok (.iconst 0, 1) := by decide +kernel
theorem d_law_1149 : decode code 1149 = .ok (.ireturn, 1) := by decide +kernel
theorem d_law_1150 : decode code 1150 = .ok (.aload_n 1, 1) := by decide +kernel
theorem d_law_1151 : decode code 1151 = .ok (.aload_n 0, 1) := by decide +kernel
theorem d_law_1152 : decode code 1152 = .ok (.iload_n 3, 1) := by decide +kernel
theorem d_law_1153 : decode code 1153 = .ok (.iconst 1, 1) := by decide +kernel
theorem d_law_1154 : decode code 1154 = .ok (.iadd, 1) := by decide +kernel
theorem d_law_1155 : decode code 1155 = .ok (.iaload, 1) := by decide +kernel
theorem d_law_1156 : decode code 1156 = .ok (.invokevirtual 164, 3) := by decide +kernel
theorem d_law_1159 : decode code 1159 = .ok (.aload_n 2, 1) := by decide +kernel
theorem d_law_1160 : decode code 1160 = .ok (.aload_n 0, 1) := by decide +kernel
theorem d_law_1161 : decode code 1161 = .ok (.iload_n 3, 1) := by decide +kernel
theorem d_law_1162 : decode code 1162 = .ok (.iconst 1, 1) := by decide +kernel
theorem d_law_1163 : decode code 1163 = .ok (.iadd, 1) := by decide +kernel
theorem d_law_1164 : decode code 1164 = .ok (.iaload, 1) := by decide +kernel
theorem d_law_1165 : decode code 1165 = .ok (.invokevirtual 167, 3) := by decide +kernel
theorem d_law_1168 : decode code 1168 = .ok (.if_icmp .eq 159, 3) := by decide +kernel
theorem d_law_1171 : decode code 1171 = .ok (.iconst 0, 1) := by decide +kernel
theorem d_law_1172 : decode code 1172 = .ok (.ireturn, 1) := by decide +kernel
theorem d_law_1173 : decode code 1173 = .ok (.aload_n 1, 1) := by decide +kernel
theorem d_law_1174 : decode code 1174 = .ok (.invokevirtual 168, 3) := by decide +kernel
theorem d_law_1177 : decode code 1177 = .ok (.aload_n 2, 1) := by decide +kernel
theorem d_law_1178 : decode code 1178 = .ok (.invokevirtual 171, 3) := by decide +kernel
theorem d_law_1181 : decode code 1181 = .ok (.if_icmp .eq 146, 3) := by decide +kernel
theorem d_law_1184 : decode code 1184 = .ok (.iconst 0, 1) := by decide +kernel
theorem d_law_1185 : decode code 1185 = .ok (.ireturn, 1) := by decide +kernel
theorem d_law_1186 : decode code 1186 = .ok (.aload_n 1, 1) := by decide +kernel
theorem d_law_1187 : decode code 1187 = .ok (.aload_n 0, 1) := by decide +kernel
theorem d_law_1188 : decode code 1188 = .ok (.iload_n 3, 1) := by decide +kernel
theorem d_law_1189 : decode code 1189 = .ok (.iconst 1, 1) := by decide +kernel
theorem d_law_1190 : decode code 1190 = .ok (.iadd, 1) := by decide +kernel
theorem d_law_1191 : decode code 1191 = .ok (.iaload, 1) := by decide +kernel
theorem d_law_1192 : decode code 1192 = .ok (.invokevirtual 172, 3) := by decide +kernel
theorem d_law_1195 : decode code 1195 = .ok (.aload_n 2, 1) := by decide +kernel
theorem d_law_1196 : decode code 1196 = .ok (.aload_n 0, 1) := by decide +kernel
theorem d_law_1197 : decode code 1197 = .ok (.iload_n 3, 1) := by decide +kernel
theorem d_law_1198 : decode code 1198 = .ok (.iconst 1, 1) := by decide +kernel
theorem d_law_1199 : decode code 1199 = .ok (.iadd, 1) := by decide +kernel
theorem d_law_1200 : decode code 1200 = .ok (.iaload, 1) := by decide +kernel
theorem d_law_1201 : decode code 1201 = .ok (.invokevirtual 175, 3) := by decide +kernel
theorem d_law_1204 : decode code 1204 = .ok (.if_icmp .eq 123, 3) := by decide +kernel
theorem d_law_1207 : decode code 1207 = .ok (.iconst 0, 1) := by decide +kernel
theorem d_law_1208 : decode code 1208 = .ok (.ireturn, 1) := by decide +kernel
theorem d_law_1209 : decode code 1209 = .ok (.aload_n 1, 1) := by decide +kernel
theorem d_law_1210 : decode code 1210 = .ok (.invokevirtual 176, 3) := by decide +kernel
theorem d_law_1213 : decode code 1213 = .ok (.aload_n 2, 1) := by decide +kernel
theorem d_law_1214 : decode code 1214 = .ok (.invokevirtual 179, 3) := by decide +kernel
theorem d_law_1217 : decode code 1217 = .ok (.if_icmp .eq 110, 3) := by decide +kernel
theorem d_law_1220 : decode code 1220 = .ok (.iconst 0, 1) := by decide +kernel
theorem d_law_1221 : decode code 1221 = .ok (.ireturn, 1) := by decide +kernel
theorem d_law_1222 : decode code 1222 = .ok (.aload_n 1, 1) := by decide +kernel
theorem d_law_1223 : decode code 1223 = .ok (.invokevirtual 180, 3) := by decide +kernel
theorem d_law_1226 : decode code 1226 = .ok (.aload_n 2, 1) := by decide +kernel
theorem d_law_1227 : decode code 1227 = .ok (.invokevirtual 183, 3) := by decide +kernel
theorem d_law_1230 : decode code 1230 = .ok (.if_icmp .eq 97, 3) := by decide +kernel
theorem d_law_1233 : decode code 1233 = .ok (.iconst 0, 1) := by decide +kernel
theorem d_law_1234 : decode code 1234 = .ok (.ireturn, 1) := by decide +kernel
theorem d_law_1235 : decode code 1235 = .ok (.aload_n 1, 1) := by decide +kernel
theorem d_law_1236 : decode code 1236 = .ok (.aload_n 0, 1) := by decide +kernel
theorem d_law_1237 : decode code 1237 = .ok (.iload_n 3, 1) := by decide +kernel
theorem d_law_1238 : decode code 1238 = .ok (.iconst 1, 1) := by decide +kernel
theorem d_law_1239 : decode code 1239 = .ok (.iadd, 1) := by decide +kernel
theorem d_law_1240 : decode code 1240 = .ok (.iaload, 1) := by decide +kernel
theorem d_law_1241 : decode code 1241 = .ok (.aload_n 0, 1) := by decide +kernel
theorem d_law_1242 : decode code 1242 = .ok (.iload_n 3, 1) := by decide +kernel
theorem d_law_1243 : decode code 1243 = .ok (.iconst 2, 1) := by decide +kernel
theorem d_law_1244 : decode code 1244 = .ok (.iadd, 1) := by decide +kernel
theorem d_law_1245 : decode code 1245 = .ok (.iaload, 1) := by decide +kernel
theorem d_law_1246 : decode code 1246 = .ok (.aload_n 0, 1) := by decide +kernel
theorem d_law_1247 : decode code 1247 = .ok (.iload_n 3, 1) := by decide +kernel
theorem d_law_1248 : decode code 1248 = .ok (.iconst 3, 1) := by decide +kernel
theorem d_law_1249 : decode code 1249 = .ok (.iadd, 1) := by decide +kernel
theorem d_law_1250 : decode code 1250 = .ok (.iaload, 1) := by decide +kernel
theorem d_law_1251 : decode code 1251 = .ok (.invokevirtual 184, 3) := by decide +kernel
theorem d_law_1254 : decode code 1254 = .ok (.aload_n 2, 1) := by decide +kernel
theorem d_law_1255 : decode code 1255 = .ok (.aload_n 0, 1) := by decide +kernel
theorem d_law_1256 : decode code 1256 = .ok (.iload_n 3, 1) := by decide +kernel
theorem d_law_1257 : decode code 1257 = .ok (.iconst 1, 1) := by decide +kernel
theorem d_law_1258 : decode code 1258 = .ok (.iadd, 1) := by decide +kernel
theorem d_law_1259 : decode code 1259 = .ok (.iaload, 1) := by decide +kernel
theorem d_law_1260 : decode code 1260 = .ok (.aload_n 0, 1) := by decide +kernel
theorem d_law_1261 : decode code 1261 = .ok (.iload_n 3, 1) := by decide +kernel
theorem d_law_1262 : decode code 1262 = .ok (.iconst 2, 1) := by decide +kernel
theorem d_law_1263 : decode code 1263 = .ok (.iadd, 1) := by decide +kernel
theorem d_law_1264 : decode code 1264 = .ok (.iaload, 1) := by decide +kernel
theorem d_law_1265 : decode code 1265 = .ok (.aload_n 0, 1) := by decide +kernel
theorem d_law_1266 : decode code 1266 = .ok (.iload_n 3, 1) := by decide +kernel
theorem d_law_1267 : decode code 1267 = .ok (.iconst 3, 1) := by decide +kernel
theorem d_law_1268 : decode code 1268 = .ok (.iadd, 1) := by decide +kernel
theorem d_law_1269 : decode code 1269 = .ok (.iaload, 1) := by decide +kernel
theorem d_law_1270 : decode code 1270 = .ok (.invokevirtual 187, 3) := by decide +kernel
theorem d_law_1273 : decode code 1273 = .ok (.if_icmp .eq 54, 3) := by decide +kernel
theorem d_law_1276 : decode code 1276 = .ok (.iconst 0, 1) := by decide +kernel
theorem d_law_1277 : decode code 1277 = .ok (.ireturn, 1) := by decide +kernel
theorem d_law_1278 : decode code 1278 = .ok (.aload_n 1, 1) := by decide +kernel
theorem d_law_1279 : decode code 1279 = .ok (.invokevirtual 188, 3) := by decide +kernel
theorem d_law_1282 : decode code 1282 = .ok (.aload_n 2, 1) := by decide +kernel
theorem d_law_1283 : decode code 1283 = .ok (.invokevirtual 191, 3) := by decide +kernel
theorem d_law_1286 : decode code 1286 = .ok (.if_icmp .eq 41, 3) := by decide +kernel
theorem d_law_1289 : decode code 1289 = .ok (.iconst 0, 1) := by decide +kernel
theorem d_law_1290 : decode code 1290 = .ok (.ireturn, 1) := by decide +kernel
theorem d_law_1291 : decode code 1291 = .ok (.aload_n 1, 1) := by decide +kernel
theorem d_law_1292 : decode code 1292 = .ok (.invokevirtual 192, 3) := by decide +kernel
theorem d_law_1295 : decode code 1295 = .ok (.aload_n 2, 1) := by decide +kernel
theorem d_law_1296 : decode code 1296 = .ok (.invokevirtual 195, 3) := by decide +kernel
theorem d_law_1299 : decode code 1299 = .ok (.if_icmp .eq 28, 3) := by decide +kernel
theorem d_law_1302 : decode code 1302 = .ok (.iconst 0, 1) := by decide +kernel
theorem d_law_1303 : decode code 1303 = .ok (.ireturn, 1) := by decide +kernel
theorem d_law_1304 : decode code 1304 = .ok (.aload_n 1, 1) := by decide +kernel
theorem d_law_1305 : decode code 1305 = .ok (.aload_n 0, 1) := by decide +kernel
theorem d_law_1306 : decode code 1306 = .ok (.iload_n 3, 1) := by decide +kernel
theorem d_law_1307 : decode code 1307 = .ok (.iconst 1, 1) := by decide +kernel
theorem d_law_1308 : decode code 1308 = .ok (.iadd, 1) := by decide +kernel
theorem d_law_1309 : decode code 1309 = .ok (.iaload, 1) := by decide +kernel
theorem d_law_1310 : decode code 1310 = .ok (.invokevirtual 196, 3) := by decide +kernel
theorem d_law_1313 : decode code 1313 = .ok (.aload_n 2, 1) := by decide +kernel
theorem d_law_1314 : decode code 1314 = .ok (.aload_n 0, 1) := by decide +kernel
theorem d_law_1315 : decode code 1315 = .ok (.iload_n 3, 1) := by decide +kernel
theorem d_law_1316 : decode code 1316 = .ok (.iconst 1, 1) := by decide +kernel
theorem d_law_1317 : decode code 1317 = .ok (.iadd, 1) := by decide +kernel
theorem d_law_1318 : decode code 1318 = .ok (.iaload, 1) := by decide +kernel
theorem d_law_1319 : decode code 1319 = .ok (.invokevirtual 199, 3) := by decide +kernel
theorem d_law_1322 : decode code 1322 = .ok (.if_icmp .eq 5, 3) := by decide +kernel
theorem d_law_1325 : decode code 1325 = .ok (.iconst 0, 1) := by decide +kernel
theorem d_law_1326 : decode code 1326 = .ok (.ireturn, 1) := by decide +kernel
theorem d_law_1327 : decode code 1327 = .ok (.iinc 3 4, 3) := by decide +kernel
theorem d_law_1330 : decode code 1330 = .ok (.goto (-1312), 3) := by decide +kernel
theorem d_law_1333 : decode code 1333 = .ok (.iconst 1, 1) := by decide +kernel
theorem d_law_1334 : decode code 1334 = .ok (.ireturn, 1) := by decide +kernel
