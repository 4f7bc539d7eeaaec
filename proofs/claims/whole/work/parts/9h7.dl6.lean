/-! the law, decoded, 7 of 8 -/
theorem dl_1066 : decode code 1066 = .ok (.aload_n 0, 1) := by decide +kernel
theorem dl_1067 : decode code 1067 = .ok (.iload_n 3, 1) := by decide +kernel
theorem dl_1068 : decode code 1068 = .ok (.iconst 2, 1) := by decide +kernel
theorem dl_1069 : decode code 1069 = .ok (.iadd, 1) := by decide +kernel
theorem dl_1070 : decode code 1070 = .ok (.iaload, 1) := by decide +kernel
theorem dl_1071 : decode code 1071 = .ok (.invokevirtual 106, 3) := by decide +kernel
theorem dl_1074 : decode code 1074 = .ok (.aload_n 2, 1) := by decide +kernel
theorem dl_1075 : decode code 1075 = .ok (.aload_n 0, 1) := by decide +kernel
theorem dl_1076 : decode code 1076 = .ok (.iload_n 3, 1) := by decide +kernel
theorem dl_1077 : decode code 1077 = .ok (.iconst 1, 1) := by decide +kernel
theorem dl_1078 : decode code 1078 = .ok (.iadd, 1) := by decide +kernel
theorem dl_1079 : decode code 1079 = .ok (.iaload, 1) := by decide +kernel
theorem dl_1080 : decode code 1080 = .ok (.aload_n 0, 1) := by decide +kernel
theorem dl_1081 : decode code 1081 = .ok (.iload_n 3, 1) := by decide +kernel
theorem dl_1082 : decode code 1082 = .ok (.iconst 2, 1) := by decide +kernel
theorem dl_1083 : decode code 1083 = .ok (.iadd, 1) := by decide +kernel
theorem dl_1084 : decode code 1084 = .ok (.iaload, 1) := by decide +kernel
theorem dl_1085 : decode code 1085 = .ok (.invokevirtual 109, 3) := by decide +kernel
theorem dl_1088 : decode code 1088 = .ok (.if_icmp .eq 302, 3) := by decide +kernel
theorem dl_1091 : decode code 1091 = .ok (.iconst 0, 1) := by decide +kernel
theorem dl_1092 : decode code 1092 = .ok (.ireturn, 1) := by decide +kernel
theorem dl_1093 : decode code 1093 = .ok (.aload_n 1, 1) := by decide +kernel
theorem dl_1094 : decode code 1094 = .ok (.aload_n 0, 1) := by decide +kernel
theorem dl_1095 : decode code 1095 = .ok (.iload_n 3, 1) := by decide +kernel
theorem dl_1096 : decode code 1096 = .ok (.iconst 1, 1) := by decide +kernel
theorem dl_1097 : decode code 1097 = .ok (.iadd, 1) := by decide +kernel
theorem dl_1098 : decode code 1098 = .ok (.iaload, 1) := by decide +kernel
theorem dl_1099 : decode code 1099 = .ok (.aload_n 0, 1) := by decide +kernel
theorem dl_1100 : decode code 1100 = .ok (.iload_n 3, 1) := by decide +kernel
theorem dl_1101 : decode code 1101 = .ok (.iconst 2, 1) := by decide +kernel
theorem dl_1102 : decode code 1102 = .ok (.iadd, 1) := by decide +kernel
theorem dl_1103 : decode code 1103 = .ok (.iaload, 1) := by decide +kernel
theorem dl_1104 : decode code 1104 = .ok (.invokevirtual 110, 3) := by decide +kernel
theorem dl_1107 : decode code 1107 = .ok (.aload_n 2, 1) := by decide +kernel
theorem dl_1108 : decode code 1108 = .ok (.aload_n 0, 1) := by decide +kernel
theorem dl_1109 : decode code 1109 = .ok (.iload_n 3, 1) := by decide +kernel
theorem dl_1110 : decode code 1110 = .ok (.iconst 1, 1) := by decide +kernel
theorem dl_1111 : decode code 1111 = .ok (.iadd, 1) := by decide +kernel
theorem dl_1112 : decode code 1112 = .ok (.iaload, 1) := by decide +kernel
theorem dl_1113 : decode code 1113 = .ok (.aload_n 0, 1) := by decide +kernel
theorem dl_1114 : decode code 1114 = .ok (.iload_n 3, 1) := by decide +kernel
theorem dl_1115 : decode code 1115 = .ok (.iconst 2, 1) := by decide +kernel
theorem dl_1116 : decode code 1116 = .ok (.iadd, 1) := by decide +kernel
theorem dl_1117 : decode code 1117 = .ok (.iaload, 1) := by decide +kernel
theorem dl_1118 : decode code 1118 = .ok (.invokevirtual 113, 3) := by decide +kernel
theorem dl_1121 : decode code 1121 = .ok (.if_icmp .eq 269, 3) := by decide +kernel
theorem dl_1124 : decode code 1124 = .ok (.iconst 0, 1) := by decide +kernel
theorem dl_1125 : decode code 1125 = .ok (.ireturn, 1) := by decide +kernel
theorem dl_1126 : decode code 1126 = .ok (.aload_n 1, 1) := by decide +kernel
theorem dl_1127 : decode code 1127 = .ok (.aload_n 0, 1) := by decide +kernel
theorem dl_1128 : decode code 1128 = .ok (.iload_n 3, 1) := by decide +kernel
theorem dl_1129 : decode code 1129 = .ok (.iconst 1, 1) := by decide +kernel
theorem dl_1130 : decode code 1130 = .ok (.iadd, 1) := by decide +kernel
theorem dl_1131 : decode code 1131 = .ok (.iaload, 1) := by decide +kernel
theorem dl_1132 : decode code 1132 = .ok (.aload_n 0, 1) := by decide +kernel
theorem dl_1133 : decode code 1133 = .ok (.iload_n 3, 1) := by decide +kernel
theorem dl_1134 : decode code 1134 = .ok (.iconst 2, 1) := by decide +kernel
theorem dl_1135 : decode code 1135 = .ok (.iadd, 1) := by decide +kernel
theorem dl_1136 : decode code 1136 = .ok (.iaload, 1) := by decide +kernel
theorem dl_1137 : decode code 1137 = .ok (.invokevirtual 114, 3) := by decide +kernel
theorem dl_1140 : decode code 1140 = .ok (.aload_n 2, 1) := by decide +kernel
theorem dl_1141 : decode code 1141 = .ok (.aload_n 0, 1) := by decide +kernel
theorem dl_1142 : decode code 1142 = .ok (.iload_n 3, 1) := by decide +kernel
theorem dl_1143 : decode code 1143 = .ok (.iconst 1, 1) := by decide +kernel
theorem dl_1144 : decode code 1144 = .ok (.iadd, 1) := by decide +kernel
theorem dl_1145 : decode code 1145 = .ok (.iaload, 1) := by decide +kernel
theorem dl_1146 : decode code 1146 = .ok (.aload_n 0, 1) := by decide +kernel
theorem dl_1147 : decode code 1147 = .ok (.iload_n 3, 1) := by decide +kernel
theorem dl_1148 : decode code 1148 = .ok (.iconst 2, 1) := by decide +kernel
theorem dl_1149 : decode code 1149 = .ok (.iadd, 1) := by decide +kernel
theorem dl_1150 : decode code 1150 = .ok (.iaload, 1) := by decide +kernel
theorem dl_1151 : decode code 1151 = .ok (.invokevirtual 117, 3) := by decide +kernel
theorem dl_1154 : decode code 1154 = .ok (.if_icmp .eq 236, 3) := by decide +kernel
theorem dl_1157 : decode code 1157 = .ok (.iconst 0, 1) := by decide +kernel
theorem dl_1158 : decode code 1158 = .ok (.ireturn, 1) := by decide +kernel
theorem dl_1159 : decode code 1159 = .ok (.aload_n 1, 1) := by decide +kernel
theorem dl_1160 : decode code 1160 = .ok (.aload_n 0, 1) := by decide +kernel
theorem dl_1161 : decode code 1161 = .ok (.iload_n 3, 1) := by decide +kernel
theorem dl_1162 : decode code 1162 = .ok (.iconst 1, 1) := by decide +kernel
theorem dl_1163 : decode code 1163 = .ok (.iadd, 1) := by decide +kernel
theorem dl_1164 : decode code 1164 = .ok (.iaload, 1) := by decide +kernel
theorem dl_1165 : decode code 1165 = .ok (.aload_n 0, 1) := by decide +kernel
theorem dl_1166 : decode code 1166 = .ok (.iload_n 3, 1) := by decide +kernel
theorem dl_1167 : decode code 1167 = .ok (.iconst 2, 1) := by decide +kernel
theorem dl_1168 : decode code 1168 = .ok (.iadd, 1) := by decide +kernel
theorem dl_1169 : decode code 1169 = .ok (.iaload, 1) := by decide +kernel
theorem dl_1170 : decode code 1170 = .ok (.ifCond .eq 7, 3) := by decide +kernel
theorem dl_1173 : decode code 1173 = .ok (.iconst 1, 1) := by decide +kernel
theorem dl_1174 : decode code 1174 = .ok (.goto 4, 3) := by decide +kernel
theorem dl_1177 : decode code 1177 = .ok (.iconst 0, 1) := by decide +kernel
theorem dl_1178 : decode code 1178 = .ok (.invokevirtual 118, 3) := by decide +kernel
theorem dl_1181 : decode code 1181 = .ok (.aload_n 2, 1) := by decide +kernel
theorem dl_1182 : decode code 1182 = .ok (.aload_n 0, 1) := by decide +kernel
theorem dl_1183 : decode code 1183 = .ok (.iload_n 3, 1) := by decide +kernel
theorem dl_1184 : decode code 1184 = .ok (.iconst 1, 1) := by decide +kernel
theorem dl_1185 : decode code 1185 = .ok (.iadd, 1) := by decide +kernel
theorem dl_1186 : decode code 1186 = .ok (.iaload, 1) := by decide +kernel
theorem dl_1187 : decode code 1187 = .ok (.aload_n 0, 1) := by decide +kernel
theorem dl_1188 : decode code 1188 = .ok (.iload_n 3, 1) := by decide +kernel
theorem dl_1189 : decode code 1189 = .ok (.iconst 2, 1) := by decide +kernel
theorem dl_1190 : decode code 1190 = .ok (.iadd, 1) := by decide +kernel
theorem dl_1191 : decode code 1191 = .ok (.iaload, 1) := by decide +kernel
theorem dl_1192 : decode code 1192 = .ok (.ifCond .eq 7, 3) := by decide +kernel
theorem dl_1195 : decode code 1195 = .ok (.iconst 1, 1) := by decide +kernel
theorem dl_1196 : decode code 1196 = .ok (.goto 4, 3) := by decide +kernel
theorem dl_1199 : decode code 1199 = .ok (.iconst 0, 1) := by decide +kernel
theorem dl_1200 : decode code 1200 = .ok (.invokevirtual 122, 3) := by decide +kernel
theorem dl_1203 : decode code 1203 = .ok (.if_icmp .eq 187, 3) := by decide +kernel
theorem dl_1206 : decode code 1206 = .ok (.iconst 0, 1) := by decide +kernel
theorem dl_1207 : decode code 1207 = .ok (.ireturn, 1) := by decide +kernel
theorem dl_1208 : decode code 1208 = .ok (.aload_n 1, 1) := by decide +kernel
theorem dl_1209 : decode code 1209 = .ok (.aload_n 0, 1) := by decide +kernel
theorem dl_1210 : decode code 1210 = .ok (.iload_n 3, 1) := by decide +kernel
theorem dl_1211 : decode code 1211 = .ok (.iconst 1, 1) := by decide +kernel
theorem dl_1212 : decode code 1212 = .ok (.iadd, 1) := by decide +kernel
theorem dl_1213 : decode code 1213 = .ok (.iaload, 1) := by decide +kernel
theorem dl_1214 : decode code 1214 = .ok (.aload_n 0, 1) := by decide +kernel
theorem dl_1215 : decode code 1215 = .ok (.iload_n 3, 1) := by decide +kernel
theorem dl_1216 : decode code 1216 = .ok (.iconst 2, 1) := by decide +kernel
theorem dl_1217 : decode code 1217 = .ok (.iadd, 1) := by decide +kernel
theorem dl_1218 : decode code 1218 = .ok (.iaload, 1) := by decide +kernel
theorem dl_1219 : decode code 1219 = .ok (.aload_n 0, 1) := by decide +kernel
theorem dl_1220 : decode code 1220 = .ok (.iload_n 3, 1) := by decide +kernel
theorem dl_1221 : decode code 1221 = .ok (.iconst 3, 1) := by decide +kernel
theorem dl_1222 : decode code 1222 = .ok (.iadd, 1) := by decide +kernel
theorem dl_1223 : decode code 1223 = .ok (.iaload, 1) := by decide +kernel
theorem dl_1224 : decode code 1224 = .ok (.invokevirtual 123, 3) := by decide +kernel
theorem dl_1227 : decode code 1227 = .ok (.aload_n 2, 1) := by decide +kernel
theorem dl_1228 : decode code 1228 = .ok (.aload_n 0, 1) := by decide +kernel
theorem dl_1229 : decode code 1229 = .ok (.iload_n 3, 1) := by decide +kernel
theorem dl_1230 : decode code 1230 = .ok (.iconst 1, 1) := by decide +kernel
