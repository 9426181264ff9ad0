set_option maxRecDepth 20000 in
theorem dG_law_53 : (decode cL_law 1018 = .ok (.goto 2182, 3)) ∧ (decode cL_law 1021 = .ok (.aload_n 1, 1)) ∧ (decode cL_law 1022 = .ok (.aload_n 0, 1)) ∧ (decode cL_law 1023 = .ok (.iload 4, 2)) ∧ (decode cL_law 1025 = .ok (.iconst 1, 1)) ∧ (decode cL_law 1026 = .ok (.iadd, 1)) ∧ (decode cL_law 1027 = .ok (.iaload, 1)) ∧ (decode cL_law 1028 = .ok (.aload_n 0, 1)) := by decide +kernel
theorem dL_law_1018 : decode cL_law 1018 = .ok (.goto 2182, 3) := dG_law_53.1
theorem dL_law_1021 : decode cL_law 1021 = .ok (.aload_n 1, 1) := dG_law_53.2.1
theorem dL_law_1022 : decode cL_law 1022 = .ok (.aload_n 0, 1) := dG_law_53.2.2.1
theorem dL_law_1023 : decode cL_law 1023 = .ok (.iload 4, 2) := dG_law_53.2.2.2.1
theorem dL_law_1025 : decode cL_law 1025 = .ok (.iconst 1, 1) := dG_law_53.2.2.2.2.1
theorem dL_law_1026 : decode cL_law 1026 = .ok (.iadd, 1) := dG_law_53.2.2.2.2.2.1
theorem dL_law_1027 : decode cL_law 1027 = .ok (.iaload, 1) := dG_law_53.2.2.2.2.2.2.1
theorem dL_law_1028 : decode cL_law 1028 = .ok (.aload_n 0, 1) := dG_law_53.2.2.2.2.2.2.2
set_option maxRecDepth 20000 in
theorem dG_law_54 : (decode cL_law 1029 = .ok (.iload 4, 2)) ∧ (decode cL_law 1031 = .ok (.iconst 2, 1)) ∧ (decode cL_law 1032 = .ok (.iadd, 1)) ∧ (decode cL_law 1033 = .ok (.iaload, 1)) ∧ (decode cL_law 1034 = .ok (.aload_n 3, 1)) ∧ (decode cL_law 1035 = .ok (.invokestatic 217, 3)) ∧ (decode cL_law 1038 = .ok (.istore 5, 2)) ∧ (decode cL_law 1040 = .ok (.aload_n 2, 1)) := by decide +kernel
theorem dL_law_1029 : decode cL_law 1029 = .ok (.iload 4, 2) := dG_law_54.1
theorem dL_law_1031 : decode cL_law 1031 = .ok (.iconst 2, 1) := dG_law_54.2.1
theorem dL_law_1032 : decode cL_law 1032 = .ok (.iadd, 1) := dG_law_54.2.2.1
theorem dL_law_1033 : decode cL_law 1033 = .ok (.iaload, 1) := dG_law_54.2.2.2.1
theorem dL_law_1034 : decode cL_law 1034 = .ok (.aload_n 3, 1) := dG_law_54.2.2.2.2.1
theorem dL_law_1035 : decode cL_law 1035 = .ok (.invokestatic 217, 3) := dG_law_54.2.2.2.2.2.1
theorem dL_law_1038 : decode cL_law 1038 = .ok (.istore 5, 2) := dG_law_54.2.2.2.2.2.2.1
theorem dL_law_1040 : decode cL_law 1040 = .ok (.aload_n 2, 1) := dG_law_54.2.2.2.2.2.2.2
set_option maxRecDepth 20000 in
theorem dG_law_55 : (decode cL_law 1041 = .ok (.aload_n 0, 1)) ∧ (decode cL_law 1042 = .ok (.iload 4, 2)) ∧ (decode cL_law 1044 = .ok (.iconst 1, 1)) ∧ (decode cL_law 1045 = .ok (.iadd, 1)) ∧ (decode cL_law 1046 = .ok (.iaload, 1)) ∧ (decode cL_law 1047 = .ok (.aload_n 0, 1)) ∧ (decode cL_law 1048 = .ok (.iload 4, 2)) ∧ (decode cL_law 1050 = .ok (.iconst 2, 1)) := by decide +kernel
theorem dL_law_1041 : decode cL_law 1041 = .ok (.aload_n 0, 1) := dG_law_55.1
theorem dL_law_1042 : decode cL_law 1042 = .ok (.iload 4, 2) := dG_law_55.2.1
theorem dL_law_1044 : decode cL_law 1044 = .ok (.iconst 1, 1) := dG_law_55.2.2.1
theorem dL_law_1045 : decode cL_law 1045 = .ok (.iadd, 1) := dG_law_55.2.2.2.1
theorem dL_law_1046 : decode cL_law 1046 = .ok (.iaload, 1) := dG_law_55.2.2.2.2.1
theorem dL_law_1047 : decode cL_law 1047 = .ok (.aload_n 0, 1) := dG_law_55.2.2.2.2.2.1
theorem dL_law_1048 : decode cL_law 1048 = .ok (.iload 4, 2) := dG_law_55.2.2.2.2.2.2.1
theorem dL_law_1050 : decode cL_law 1050 = .ok (.iconst 2, 1) := dG_law_55.2.2.2.2.2.2.2
set_option maxRecDepth 20000 in
theorem dG_law_56 : (decode cL_law 1051 = .ok (.iadd, 1)) ∧ (decode cL_law 1052 = .ok (.iaload, 1)) ∧ (decode cL_law 1053 = .ok (.invokevirtual 219, 3)) ∧ (decode cL_law 1056 = .ok (.istore 6, 2)) ∧ (decode cL_law 1058 = .ok (.aload_n 2, 1)) ∧ (decode cL_law 1059 = .ok (.invokevirtual 148, 3)) ∧ (decode cL_law 1062 = .ok (.iload 5, 2)) ∧ (decode cL_law 1064 = .ok (.if_icmp .eq 5, 3)) := by decide +kernel
theorem dL_law_1051 : decode cL_law 1051 = .ok (.iadd, 1) := dG_law_56.1
theorem dL_law_1052 : decode cL_law 1052 = .ok (.iaload, 1) := dG_law_56.2.1
theorem dL_law_1053 : decode cL_law 1053 = .ok (.invokevirtual 219, 3) := dG_law_56.2.2.1
theorem dL_law_1056 : decode cL_law 1056 = .ok (.istore 6, 2) := dG_law_56.2.2.2.1
theorem dL_law_1058 : decode cL_law 1058 = .ok (.aload_n 2, 1) := dG_law_56.2.2.2.2.1
theorem dL_law_1059 : decode cL_law 1059 = .ok (.invokevirtual 148, 3) := dG_law_56.2.2.2.2.2.1
theorem dL_law_1062 : decode cL_law 1062 = .ok (.iload 5, 2) := dG_law_56.2.2.2.2.2.2.1
theorem dL_law_1064 : decode cL_law 1064 = .ok (.if_icmp .eq 5, 3) := dG_law_56.2.2.2.2.2.2.2
set_option maxRecDepth 20000 in
theorem dG_law_57 : (decode cL_law 1069 = .ok (.iload 5, 2)) ∧ (decode cL_law 1071 = .ok (.ifCond .ne 15, 3)) ∧ (decode cL_law 1074 = .ok (.aload_n 3, 1)) ∧ (decode cL_law 1075 = .ok (.iconst 0, 1)) ∧ (decode cL_law 1076 = .ok (.laload, 1)) ∧ (decode cL_law 1077 = .ok (.iload 6, 2)) ∧ (decode cL_law 1079 = .ok (.i2l, 1)) ∧ (decode cL_law 1080 = .ok (.lcmp, 1)) := by decide +kernel
theorem dL_law_1069 : decode cL_law 1069 = .ok (.iload 5, 2) := dG_law_57.1
theorem dL_law_1071 : decode cL_law 1071 = .ok (.ifCond .ne 15, 3) := dG_law_57.2.1
theorem dL_law_1074 : decode cL_law 1074 = .ok (.aload_n 3, 1) := dG_law_57.2.2.1
theorem dL_law_1075 : decode cL_law 1075 = .ok (.iconst 0, 1) := dG_law_57.2.2.2.1
theorem dL_law_1076 : decode cL_law 1076 = .ok (.laload, 1) := dG_law_57.2.2.2.2.1
theorem dL_law_1077 : decode cL_law 1077 = .ok (.iload 6, 2) := dG_law_57.2.2.2.2.2.1
theorem dL_law_1079 : decode cL_law 1079 = .ok (.i2l, 1) := dG_law_57.2.2.2.2.2.2.1
theorem dL_law_1080 : decode cL_law 1080 = .ok (.lcmp, 1) := dG_law_57.2.2.2.2.2.2.2
set_option maxRecDepth 20000 in
theorem dG_law_58 : (decode cL_law 1081 = .ok (.ifCond .eq 5, 3)) ∧ (decode cL_law 1086 = .ok (.goto 2114, 3)) ∧ (decode cL_law 1089 = .ok (.aload_n 1, 1)) ∧ (decode cL_law 1090 = .ok (.aload_n 0, 1)) ∧ (decode cL_law 1091 = .ok (.iload 4, 2)) ∧ (decode cL_law 1093 = .ok (.iconst 1, 1)) ∧ (decode cL_law 1094 = .ok (.iadd, 1)) ∧ (decode cL_law 1095 = .ok (.iaload, 1)) := by decide +kernel
theorem dL_law_1081 : decode cL_law 1081 = .ok (.ifCond .eq 5, 3) := dG_law_58.1
theorem dL_law_1086 : decode cL_law 1086 = .ok (.goto 2114, 3) := dG_law_58.2.1
theorem dL_law_1089 : decode cL_law 1089 = .ok (.aload_n 1, 1) := dG_law_58.2.2.1
theorem dL_law_1090 : decode cL_law 1090 = .ok (.aload_n 0, 1) := dG_law_58.2.2.2.1
theorem dL_law_1091 : decode cL_law 1091 = .ok (.iload 4, 2) := dG_law_58.2.2.2.2.1
theorem dL_law_1093 : decode cL_law 1093 = .ok (.iconst 1, 1) := dG_law_58.2.2.2.2.2.1
theorem dL_law_1094 : decode cL_law 1094 = .ok (.iadd, 1) := dG_law_58.2.2.2.2.2.2.1
theorem dL_law_1095 : decode cL_law 1095 = .ok (.iaload, 1) := dG_law_58.2.2.2.2.2.2.2
set_option maxRecDepth 20000 in
theorem dG_law_59 : (decode cL_law 1096 = .ok (.aload_n 0, 1)) ∧ (decode cL_law 1097 = .ok (.iload 4, 2)) ∧ (decode cL_law 1099 = .ok (.iconst 2, 1)) ∧ (decode cL_law 1100 = .ok (.iadd, 1)) ∧ (decode cL_law 1101 = .ok (.iaload, 1)) ∧ (decode cL_law 1102 = .ok (.aload_n 3, 1)) ∧ (decode cL_law 1103 = .ok (.invokestatic 220, 3)) ∧ (decode cL_law 1106 = .ok (.istore 5, 2)) := by decide +kernel
theorem dL_law_1096 : decode cL_law 1096 = .ok (.aload_n 0, 1) := dG_law_59.1
theorem dL_law_1097 : decode cL_law 1097 = .ok (.iload 4, 2) := dG_law_59.2.1
theorem dL_law_1099 : decode cL_law 1099 = .ok (.iconst 2, 1) := dG_law_59.2.2.1
theorem dL_law_1100 : decode cL_law 1100 = .ok (.iadd, 1) := dG_law_59.2.2.2.1
theorem dL_law_1101 : decode cL_law 1101 = .ok (.iaload, 1) := dG_law_59.2.2.2.2.1
theorem dL_law_1102 : decode cL_law 1102 = .ok (.aload_n 3, 1) := dG_law_59.2.2.2.2.2.1
theorem dL_law_1103 : decode cL_law 1103 = .ok (.invokestatic 220, 3) := dG_law_59.2.2.2.2.2.2.1
theorem dL_law_1106 : decode cL_law 1106 = .ok (.istore 5, 2) := dG_law_59.2.2.2.2.2.2.2
set_option maxRecDepth 20000 in
theorem dG_law_60 : (decode cL_law 1108 = .ok (.aload_n 2, 1)) ∧ (decode cL_law 1109 = .ok (.aload_n 0, 1)) ∧ (decode cL_law 1110 = .ok (.iload 4, 2)) ∧ (decode cL_law 1112 = .ok (.iconst 1, 1)) ∧ (decode cL_law 1113 = .ok (.iadd, 1)) ∧ (decode cL_law 1114 = .ok (.iaload, 1)) ∧ (decode cL_law 1115 = .ok (.aload_n 0, 1)) ∧ (decode cL_law 1116 = .ok (.iload 4, 2)) := by decide +kernel
theorem dL_law_1108 : decode cL_law 1108 = .ok (.aload_n 2, 1) := dG_law_60.1
theorem dL_law_1109 : decode cL_law 1109 = .ok (.aload_n 0, 1) := dG_law_60.2.1
theorem dL_law_1110 : decode cL_law 1110 = .ok (.iload 4, 2) := dG_law_60.2.2.1
theorem dL_law_1112 : decode cL_law 1112 = .ok (.iconst 1, 1) := dG_law_60.2.2.2.1
theorem dL_law_1113 : decode cL_law 1113 = .ok (.iadd, 1) := dG_law_60.2.2.2.2.1
theorem dL_law_1114 : decode cL_law 1114 = .ok (.iaload, 1) := dG_law_60.2.2.2.2.2.1
theorem dL_law_1115 : decode cL_law 1115 = .ok (.aload_n 0, 1) := dG_law_60.2.2.2.2.2.2.1
theorem dL_law_1116 : decode cL_law 1116 = .ok (.iload 4, 2) := dG_law_60.2.2.2.2.2.2.2
set_option maxRecDepth 20000 in
theorem dG_law_61 : (decode cL_law 1118 = .ok (.iconst 2, 1)) ∧ (decode cL_law 1119 = .ok (.iadd, 1)) ∧ (decode cL_law 1120 = .ok (.iaload, 1)) ∧ (decode cL_law 1121 = .ok (.invokevirtual 222, 3)) ∧ (decode cL_law 1124 = .ok (.istore 6, 2)) ∧ (decode cL_law 1126 = .ok (.aload_n 2, 1)) ∧ (decode cL_law 1127 = .ok (.invokevirtual 148, 3)) ∧ (decode cL_law 1130 = .ok (.iload 5, 2)) := by decide +kernel
theorem dL_law_1118 : decode cL_law 1118 = .ok (.iconst 2, 1) := dG_law_61.1
theorem dL_law_1119 : decode cL_law 1119 = .ok (.iadd, 1) := dG_law_61.2.1
theorem dL_law_1120 : decode cL_law 1120 = .ok (.iaload, 1) := dG_law_61.2.2.1
theorem dL_law_1121 : decode cL_law 1121 = .ok (.invokevirtual 222, 3) := dG_law_61.2.2.2.1
theorem dL_law_1124 : decode cL_law 1124 = .ok (.istore 6, 2) := dG_law_61.2.2.2.2.1
theorem dL_law_1126 : decode cL_law 1126 = .ok (.aload_n 2, 1) := dG_law_61.2.2.2.2.2.1
theorem dL_law_1127 : decode cL_law 1127 = .ok (.invokevirtual 148, 3) := dG_law_61.2.2.2.2.2.2.1
theorem dL_law_1130 : decode cL_law 1130 = .ok (.iload 5, 2) := dG_law_61.2.2.2.2.2.2.2
set_option maxRecDepth 20000 in
theorem dG_law_62 : (decode cL_law 1132 = .ok (.if_icmp .eq 5, 3)) ∧ (decode cL_law 1137 = .ok (.iload 5, 2)) ∧ (decode cL_law 1139 = .ok (.ifCond .ne 15, 3)) ∧ (decode cL_law 1142 = .ok (.aload_n 3, 1)) ∧ (decode cL_law 1143 = .ok (.iconst 0, 1)) ∧ (decode cL_law 1144 = .ok (.laload, 1)) ∧ (decode cL_law 1145 = .ok (.iload 6, 2)) ∧ (decode cL_law 1147 = .ok (.i2l, 1)) := by decide +kernel
theorem dL_law_1132 : decode cL_law 1132 = .ok (.if_icmp .eq 5, 3) := dG_law_62.1
theorem dL_law_1137 : decode cL_law 1137 = .ok (.iload 5, 2) := dG_law_62.2.1
theorem dL_law_1139 : decode cL_law 1139 = .ok (.ifCond .ne 15, 3) := dG_law_62.2.2.1
theorem dL_law_1142 : decode cL_law 1142 = .ok (.aload_n 3, 1) := dG_law_62.2.2.2.1
theorem dL_law_1143 : decode cL_law 1143 = .ok (.iconst 0, 1) := dG_law_62.2.2.2.2.1
theorem dL_law_1144 : decode cL_law 1144 = .ok (.laload, 1) := dG_law_62.2.2.2.2.2.1
theorem dL_law_1145 : decode cL_law 1145 = .ok (.iload 6, 2) := dG_law_62.2.2.2.2.2.2.1
theorem dL_law_1147 : decode cL_law 1147 = .ok (.i2l, 1) := dG_law_62.2.2.2.2.2.2.2
set_option maxRecDepth 20000 in
theorem dG_law_63 : (decode cL_law 1148 = .ok (.lcmp, 1)) ∧ (decode cL_law 1149 = .ok (.ifCond .eq 5, 3)) ∧ (decode cL_law 1154 = .ok (.goto 2046, 3)) ∧ (decode cL_law 1157 = .ok (.aload_n 1, 1)) ∧ (decode cL_law 1158 = .ok (.invokevirtual 223, 3)) ∧ (decode cL_law 1161 = .ok (.aload_n 2, 1)) ∧ (decode cL_law 1162 = .ok (.invokevirtual 226, 3)) ∧ (decode cL_law 1165 = .ok (.if_icmp .eq 2035, 3)) := by decide +kernel
theorem dL_law_1148 : decode cL_law 1148 = .ok (.lcmp, 1) := dG_law_63.1
theorem dL_law_1149 : decode cL_law 1149 = .ok (.ifCond .eq 5, 3) := dG_law_63.2.1
theorem dL_law_1154 : decode cL_law 1154 = .ok (.goto 2046, 3) := dG_law_63.2.2.1
theorem dL_law_1157 : decode cL_law 1157 = .ok (.aload_n 1, 1) := dG_law_63.2.2.2.1
theorem dL_law_1158 : decode cL_law 1158 = .ok (.invokevirtual 223, 3) := dG_law_63.2.2.2.2.1
theorem dL_law_1161 : decode cL_law 1161 = .ok (.aload_n 2, 1) := dG_law_63.2.2.2.2.2.1
theorem dL_law_1162 : decode cL_law 1162 = .ok (.invokevirtual 226, 3) := dG_law_63.2.2.2.2.2.2.1
theorem dL_law_1165 : decode cL_law 1165 = .ok (.if_icmp .eq 2035, 3) := dG_law_63.2.2.2.2.2.2.2
set_option maxRecDepth 20000 in
theorem dG_law_64 : (decode cL_law 1170 = .ok (.aload_n 1, 1)) ∧ (decode cL_law 1171 = .ok (.invokevirtual 227, 3)) ∧ (decode cL_law 1174 = .ok (.aload_n 2, 1)) ∧ (decode cL_law 1175 = .ok (.invokevirtual 230, 3)) ∧ (decode cL_law 1178 = .ok (.if_icmp .eq 2022, 3)) ∧ (decode cL_law 1183 = .ok (.aload_n 1, 1)) ∧ (decode cL_law 1184 = .ok (.aload_n 0, 1)) ∧ (decode cL_law 1185 = .ok (.iload 4, 2)) := by decide +kernel
theorem dL_law_1170 : decode cL_law 1170 = .ok (.aload_n 1, 1) := dG_law_64.1
theorem dL_law_1171 : decode cL_law 1171 = .ok (.invokevirtual 227, 3) := dG_law_64.2.1
theorem dL_law_1174 : decode cL_law 1174 = .ok (.aload_n 2, 1) := dG_law_64.2.2.1
theorem dL_law_1175 : decode cL_law 1175 = .ok (.invokevirtual 230, 3) := dG_law_64.2.2.2.1
theorem dL_law_1178 : decode cL_law 1178 = .ok (.if_icmp .eq 2022, 3) := dG_law_64.2.2.2.2.1
theorem dL_law_1183 : decode cL_law 1183 = .ok (.aload_n 1, 1) := dG_law_64.2.2.2.2.2.1
theorem dL_law_1184 : decode cL_law 1184 = .ok (.aload_n 0, 1) := dG_law_64.2.2.2.2.2.2.1
theorem dL_law_1185 : decode cL_law 1185 = .ok (.iload 4, 2) := dG_law_64.2.2.2.2.2.2.2
set_option maxRecDepth 20000 in
theorem dG_law_65 : (decode cL_law 1187 = .ok (.iconst 1, 1)) ∧ (decode cL_law 1188 = .ok (.iadd, 1)) ∧ (decode cL_law 1189 = .ok (.iaload, 1)) ∧ (decode cL_law 1190 = .ok (.aload_n 0, 1)) ∧ (decode cL_law 1191 = .ok (.iload 4, 2)) ∧ (decode cL_law 1193 = .ok (.iconst 2, 1)) ∧ (decode cL_law 1194 = .ok (.iadd, 1)) ∧ (decode cL_law 1195 = .ok (.iaload, 1)) := by decide +kernel
theorem dL_law_1187 : decode cL_law 1187 = .ok (.iconst 1, 1) := dG_law_65.1
theorem dL_law_1188 : decode cL_law 1188 = .ok (.iadd, 1) := dG_law_65.2.1
theorem dL_law_1189 : decode cL_law 1189 = .ok (.iaload, 1) := dG_law_65.2.2.1
theorem dL_law_1190 : decode cL_law 1190 = .ok (.aload_n 0, 1) := dG_law_65.2.2.2.1
theorem dL_law_1191 : decode cL_law 1191 = .ok (.iload 4, 2) := dG_law_65.2.2.2.2.1
theorem dL_law_1193 : decode cL_law 1193 = .ok (.iconst 2, 1) := dG_law_65.2.2.2.2.2.1
theorem dL_law_1194 : decode cL_law 1194 = .ok (.iadd, 1) := dG_law_65.2.2.2.2.2.2.1
theorem dL_law_1195 : decode cL_law 1195 = .ok (.iaload, 1) := dG_law_65.2.2.2.2.2.2.2
set_option maxRecDepth 20000 in
theorem dG_law_66 : (decode cL_law 1196 = .ok (.aload_n 3, 1)) ∧ (decode cL_law 1197 = .ok (.invokestatic 231, 3)) ∧ (decode cL_law 1200 = .ok (.istore 5, 2)) ∧ (decode cL_law 1202 = .ok (.aload_n 2, 1)) ∧ (decode cL_law 1203 = .ok (.aload_n 0, 1)) ∧ (decode cL_law 1204 = .ok (.iload 4, 2)) ∧ (decode cL_law 1206 = .ok (.iconst 1, 1)) ∧ (decode cL_law 1207 = .ok (.iadd, 1)) := by decide +kernel
theorem dL_law_1196 : decode cL_law 1196 = .ok (.aload_n 3, 1) := dG_law_66.1
theorem dL_law_1197 : decode cL_law 1197 = .ok (.invokestatic 231, 3) := dG_law_66.2.1
theorem dL_law_1200 : decode cL_law 1200 = .ok (.istore 5, 2) := dG_law_66.2.2.1
theorem dL_law_1202 : decode cL_law 1202 = .ok (.aload_n 2, 1) := dG_law_66.2.2.2.1
theorem dL_law_1203 : decode cL_law 1203 = .ok (.aload_n 0, 1) := dG_law_66.2.2.2.2.1
theorem dL_law_1204 : decode cL_law 1204 = .ok (.iload 4, 2) := dG_law_66.2.2.2.2.2.1
theorem dL_law_1206 : decode cL_law 1206 = .ok (.iconst 1, 1) := dG_law_66.2.2.2.2.2.2.1
theorem dL_law_1207 : decode cL_law 1207 = .ok (.iadd, 1) := dG_law_66.2.2.2.2.2.2.2
set_option maxRecDepth 20000 in
theorem dG_law_67 : (decode cL_law 1208 = .ok (.iaload, 1)) ∧ (decode cL_law 1209 = .ok (.aload_n 0, 1)) ∧ (decode cL_law 1210 = .ok (.iload 4, 2)) ∧ (decode cL_law 1212 = .ok (.iconst 2, 1)) ∧ (decode cL_law 1213 = .ok (.iadd, 1)) ∧ (decode cL_law 1214 = .ok (.iaload, 1)) ∧ (decode cL_law 1215 = .ok (.invokevirtual 233, 3)) ∧ (decode cL_law 1218 = .ok (.istore 6, 2)) := by decide +kernel
theorem dL_law_1208 : decode cL_law 1208 = .ok (.iaload, 1) := dG_law_67.1
theorem dL_law_1209 : decode cL_law 1209 = .ok (.aload_n 0, 1) := dG_law_67.2.1
theorem dL_law_1210 : decode cL_law 1210 = .ok (.iload 4, 2) := dG_law_67.2.2.1
theorem dL_law_1212 : decode cL_law 1212 = .ok (.iconst 2, 1) := dG_law_67.2.2.2.1
theorem dL_law_1213 : decode cL_law 1213 = .ok (.iadd, 1) := dG_law_67.2.2.2.2.1
theorem dL_law_1214 : decode cL_law 1214 = .ok (.iaload, 1) := dG_law_67.2.2.2.2.2.1
theorem dL_law_1215 : decode cL_law 1215 = .ok (.invokevirtual 233, 3) := dG_law_67.2.2.2.2.2.2.1
theorem dL_law_1218 : decode cL_law 1218 = .ok (.istore 6, 2) := dG_law_67.2.2.2.2.2.2.2
set_option maxRecDepth 20000 in
theorem dG_law_68 : (decode cL_law 1220 = .ok (.aload_n 2, 1)) ∧ (decode cL_law 1221 = .ok (.invokevirtual 148, 3)) ∧ (decode cL_law 1224 = .ok (.iload 5, 2)) ∧ (decode cL_law 1226 = .ok (.if_icmp .eq 5, 3)) ∧ (decode cL_law 1231 = .ok (.iload 5, 2)) ∧ (decode cL_law 1233 = .ok (.ifCond .ne 15, 3)) ∧ (decode cL_law 1236 = .ok (.aload_n 3, 1)) ∧ (decode cL_law 1237 = .ok (.iconst 0, 1)) := by decide +kernel
theorem dL_law_1220 : decode cL_law 1220 = .ok (.aload_n 2, 1) := dG_law_68.1
theorem dL_law_1221 : decode cL_law 1221 = .ok (.invokevirtual 148, 3) := dG_law_68.2.1
theorem dL_law_1224 : decode cL_law 1224 = .ok (.iload 5, 2) := dG_law_68.2.2.1
theorem dL_law_1226 : decode cL_law 1226 = .ok (.if_icmp .eq 5, 3) := dG_law_68.2.2.2.1
theorem dL_law_1231 : decode cL_law 1231 = .ok (.iload 5, 2) := dG_law_68.2.2.2.2.1
theorem dL_law_1233 : decode cL_law 1233 = .ok (.ifCond .ne 15, 3) := dG_law_68.2.2.2.2.2.1
theorem dL_law_1236 : decode cL_law 1236 = .ok (.aload_n 3, 1) := dG_law_68.2.2.2.2.2.2.1
theorem dL_law_1237 : decode cL_law 1237 = .ok (.iconst 0, 1) := dG_law_68.2.2.2.2.2.2.2
set_option maxRecDepth 20000 in
theorem dG_law_69 : (decode cL_law 1238 = .ok (.laload, 1)) ∧ (decode cL_law 1239 = .ok (.iload 6, 2)) ∧ (decode cL_law 1241 = .ok (.i2l, 1)) ∧ (decode cL_law 1242 = .ok (.lcmp, 1)) ∧ (decode cL_law 1243 = .ok (.ifCond .eq 5, 3)) ∧ (decode cL_law 1248 = .ok (.goto 1952, 3)) ∧ (decode cL_law 1251 = .ok (.aload_n 1, 1)) ∧ (decode cL_law 1252 = .ok (.aload_n 0, 1)) := by decide +kernel
theorem dL_law_1238 : decode cL_law 1238 = .ok (.laload, 1) := dG_law_69.1
theorem dL_law_1239 : decode cL_law 1239 = .ok (.iload 6, 2) := dG_law_69.2.1
theorem dL_law_1241 : decode cL_law 1241 = .ok (.i2l, 1) := dG_law_69.2.2.1
theorem dL_law_1242 : decode cL_law 1242 = .ok (.lcmp, 1) := dG_law_69.2.2.2.1
theorem dL_law_1243 : decode cL_law 1243 = .ok (.ifCond .eq 5, 3) := dG_law_69.2.2.2.2.1
theorem dL_law_1248 : decode cL_law 1248 = .ok (.goto 1952, 3) := dG_law_69.2.2.2.2.2.1
theorem dL_law_1251 : decode cL_law 1251 = .ok (.aload_n 1, 1) := dG_law_69.2.2.2.2.2.2.1
theorem dL_law_1252 : decode cL_law 1252 = .ok (.aload_n 0, 1) := dG_law_69.2.2.2.2.2.2.2
set_option maxRecDepth 20000 in
theorem dG_law_70 : (decode cL_law 1253 = .ok (.iload 4, 2)) ∧ (decode cL_law 1255 = .ok (.iconst 1, 1)) ∧ (decode cL_law 1256 = .ok (.iadd, 1)) ∧ (decode cL_law 1257 = .ok (.iaload, 1)) ∧ (decode cL_law 1258 = .ok (.aload_n 3, 1)) ∧ (decode cL_law 1259 = .ok (.invokestatic 234, 3)) ∧ (decode cL_law 1262 = .ok (.istore 5, 2)) ∧ (decode cL_law 1264 = .ok (.aload_n 2, 1)) := by decide +kernel
theorem dL_law_1253 : decode cL_law 1253 = .ok (.iload 4, 2) := dG_law_70.1
theorem dL_law_1255 : decode cL_law 1255 = .ok (.iconst 1, 1) := dG_law_70.2.1
theorem dL_law_1256 : decode cL_law 1256 = .ok (.iadd, 1) := dG_law_70.2.2.1
theorem dL_law_1257 : decode cL_law 1257 = .ok (.iaload, 1) := dG_law_70.2.2.2.1
theorem dL_law_1258 : decode cL_law 1258 = .ok (.aload_n 3, 1) := dG_law_70.2.2.2.2.1
theorem dL_law_1259 : decode cL_law 1259 = .ok (.invokestatic 234, 3) := dG_law_70.2.2.2.2.2.1
theorem dL_law_1262 : decode cL_law 1262 = .ok (.istore 5, 2) := dG_law_70.2.2.2.2.2.2.1
theorem dL_law_1264 : decode cL_law 1264 = .ok (.aload_n 2, 1) := dG_law_70.2.2.2.2.2.2.2
set_option maxRecDepth 20000 in
theorem dG_law_71 : (decode cL_law 1265 = .ok (.aload_n 0, 1)) ∧ (decode cL_law 1266 = .ok (.iload 4, 2)) ∧ (decode cL_law 1268 = .ok (.iconst 1, 1)) ∧ (decode cL_law 1269 = .ok (.iadd, 1)) ∧ (decode cL_law 1270 = .ok (.iaload, 1)) ∧ (decode cL_law 1271 = .ok (.invokevirtual 236, 3)) ∧ (decode cL_law 1274 = .ok (.istore 6, 2)) ∧ (decode cL_law 1276 = .ok (.aload_n 2, 1)) := by decide +kernel
theorem dL_law_1265 : decode cL_law 1265 = .ok (.aload_n 0, 1) := dG_law_71.1
theorem dL_law_1266 : decode cL_law 1266 = .ok (.iload 4, 2) := dG_law_71.2.1
theorem dL_law_1268 : decode cL_law 1268 = .ok (.iconst 1, 1) := dG_law_71.2.2.1
theorem dL_law_1269 : decode cL_law 1269 = .ok (.iadd, 1) := dG_law_71.2.2.2.1
theorem dL_law_1270 : decode cL_law 1270 = .ok (.iaload, 1) := dG_law_71.2.2.2.2.1
theorem dL_law_1271 : decode cL_law 1271 = .ok (.invokevirtual 236, 3) := dG_law_71.2.2.2.2.2.1
theorem dL_law_1274 : decode cL_law 1274 = .ok (.istore 6, 2) := dG_law_71.2.2.2.2.2.2.1
theorem dL_law_1276 : decode cL_law 1276 = .ok (.aload_n 2, 1) := dG_law_71.2.2.2.2.2.2.2
set_option maxRecDepth 20000 in
theorem dG_law_72 : (decode cL_law 1277 = .ok (.invokevirtual 148, 3)) ∧ (decode cL_law 1280 = .ok (.iload 5, 2)) ∧ (decode cL_law 1282 = .ok (.if_icmp .eq 5, 3)) ∧ (decode cL_law 1287 = .ok (.iload 5, 2)) ∧ (decode cL_law 1289 = .ok (.ifCond .ne 15, 3)) ∧ (decode cL_law 1292 = .ok (.aload_n 3, 1)) ∧ (decode cL_law 1293 = .ok (.iconst 0, 1)) ∧ (decode cL_law 1294 = .ok (.laload, 1)) := by decide +kernel
theorem dL_law_1277 : decode cL_law 1277 = .ok (.invokevirtual 148, 3) := dG_law_72.1
theorem dL_law_1280 : decode cL_law 1280 = .ok (.iload 5, 2) := dG_law_72.2.1
theorem dL_law_1282 : decode cL_law 1282 = .ok (.if_icmp .eq 5, 3) := dG_law_72.2.2.1
theorem dL_law_1287 : decode cL_law 1287 = .ok (.iload 5, 2) := dG_law_72.2.2.2.1
theorem dL_law_1289 : decode cL_law 1289 = .ok (.ifCond .ne 15, 3) := dG_law_72.2.2.2.2.1
theorem dL_law_1292 : decode cL_law 1292 = .ok (.aload_n 3, 1) := dG_law_72.2.2.2.2.2.1
theorem dL_law_1293 : decode cL_law 1293 = .ok (.iconst 0, 1) := dG_law_72.2.2.2.2.2.2.1
theorem dL_law_1294 : decode cL_law 1294 = .ok (.laload, 1) := dG_law_72.2.2.2.2.2.2.2
set_option maxRecDepth 20000 in
theorem dG_law_73 : (decode cL_law 1295 = .ok (.iload 6, 2)) ∧ (decode cL_law 1297 = .ok (.i2l, 1)) ∧ (decode cL_law 1298 = .ok (.lcmp, 1)) ∧ (decode cL_law 1299 = .ok (.ifCond .eq 5, 3)) ∧ (decode cL_law 1304 = .ok (.goto 1896, 3)) ∧ (decode cL_law 1307 = .ok (.aload_n 1, 1)) ∧ (decode cL_law 1308 = .ok (.aload_n 0, 1)) ∧ (decode cL_law 1309 = .ok (.iload 4, 2)) := by decide +kernel
theorem dL_law_1295 : decode cL_law 1295 = .ok (.iload 6, 2) := dG_law_73.1
theorem dL_law_1297 : decode cL_law 1297 = .ok (.i2l, 1) := dG_law_73.2.1
theorem dL_law_1298 : decode cL_law 1298 = .ok (.lcmp, 1) := dG_law_73.2.2.1
theorem dL_law_1299 : decode cL_law 1299 = .ok (.ifCond .eq 5, 3) := dG_law_73.2.2.2.1
theorem dL_law_1304 : decode cL_law 1304 = .ok (.goto 1896, 3) := dG_law_73.2.2.2.2.1
theorem dL_law_1307 : decode cL_law 1307 = .ok (.aload_n 1, 1) := dG_law_73.2.2.2.2.2.1
theorem dL_law_1308 : decode cL_law 1308 = .ok (.aload_n 0, 1) := dG_law_73.2.2.2.2.2.2.1
theorem dL_law_1309 : decode cL_law 1309 = .ok (.iload 4, 2) := dG_law_73.2.2.2.2.2.2.2
set_option maxRecDepth 20000 in
theorem dG_law_74 : (decode cL_law 1311 = .ok (.iconst 1, 1)) ∧ (decode cL_law 1312 = .ok (.iadd, 1)) ∧ (decode cL_law 1313 = .ok (.iaload, 1)) ∧ (decode cL_law 1314 = .ok (.aload_n 3, 1)) ∧ (decode cL_law 1315 = .ok (.invokestatic 237, 3)) ∧ (decode cL_law 1318 = .ok (.istore 5, 2)) ∧ (decode cL_law 1320 = .ok (.aload_n 2, 1)) ∧ (decode cL_law 1321 = .ok (.aload_n 0, 1)) := by decide +kernel
theorem dL_law_1311 : decode cL_law 1311 = .ok (.iconst 1, 1) := dG_law_74.1
theorem dL_law_1312 : decode cL_law 1312 = .ok (.iadd, 1) := dG_law_74.2.1
theorem dL_law_1313 : decode cL_law 1313 = .ok (.iaload, 1) := dG_law_74.2.2.1
theorem dL_law_1314 : decode cL_law 1314 = .ok (.aload_n 3, 1) := dG_law_74.2.2.2.1
theorem dL_law_1315 : decode cL_law 1315 = .ok (.invokestatic 237, 3) := dG_law_74.2.2.2.2.1
theorem dL_law_1318 : decode cL_law 1318 = .ok (.istore 5, 2) := dG_law_74.2.2.2.2.2.1
theorem dL_law_1320 : decode cL_law 1320 = .ok (.aload_n 2, 1) := dG_law_74.2.2.2.2.2.2.1
theorem dL_law_1321 : decode cL_law 1321 = .ok (.aload_n 0, 1) := dG_law_74.2.2.2.2.2.2.2
set_option maxRecDepth 20000 in
theorem dG_law_75 : (decode cL_law 1322 = .ok (.iload 4, 2)) ∧ (decode cL_law 1324 = .ok (.iconst 1, 1)) ∧ (decode cL_law 1325 = .ok (.iadd, 1)) ∧ (decode cL_law 1326 = .ok (.iaload, 1)) ∧ (decode cL_law 1327 = .ok (.invokevirtual 239, 3)) ∧ (decode cL_law 1330 = .ok (.istore 6, 2)) ∧ (decode cL_law 1332 = .ok (.aload_n 2, 1)) ∧ (decode cL_law 1333 = .ok (.invokevirtual 148, 3)) := by decide +kernel
theorem dL_law_1322 : decode cL_law 1322 = .ok (.iload 4, 2) := dG_law_75.1
theorem dL_law_1324 : decode cL_law 1324 = .ok (.iconst 1, 1) := dG_law_75.2.1
theorem dL_law_1325 : decode cL_law 1325 = .ok (.iadd, 1) := dG_law_75.2.2.1
theorem dL_law_1326 : decode cL_law 1326 = .ok (.iaload, 1) := dG_law_75.2.2.2.1
theorem dL_law_1327 : decode cL_law 1327 = .ok (.invokevirtual 239, 3) := dG_law_75.2.2.2.2.1
theorem dL_law_1330 : decode cL_law 1330 = .ok (.istore 6, 2) := dG_law_75.2.2.2.2.2.1
theorem dL_law_1332 : decode cL_law 1332 = .ok (.aload_n 2, 1) := dG_law_75.2.2.2.2.2.2.1
theorem dL_law_1333 : decode cL_law 1333 = .ok (.invokevirtual 148, 3) := dG_law_75.2.2.2.2.2.2.2
set_option maxRecDepth 20000 in
theorem dG_law_76 : (decode cL_law 1336 = .ok (.iload 5, 2)) ∧ (decode cL_law 1338 = .ok (.if_icmp .eq 5, 3)) ∧ (decode cL_law 1343 = .ok (.iload 5, 2)) ∧ (decode cL_law 1345 = .ok (.ifCond .ne 15, 3)) ∧ (decode cL_law 1348 = .ok (.aload_n 3, 1)) ∧ (decode cL_law 1349 = .ok (.iconst 0, 1)) ∧ (decode cL_law 1350 = .ok (.laload, 1)) ∧ (decode cL_law 1351 = .ok (.iload 6, 2)) := by decide +kernel
theorem dL_law_1336 : decode cL_law 1336 = .ok (.iload 5, 2) := dG_law_76.1
theorem dL_law_1338 : decode cL_law 1338 = .ok (.if_icmp .eq 5, 3) := dG_law_76.2.1
theorem dL_law_1343 : decode cL_law 1343 = .ok (.iload 5, 2) := dG_law_76.2.2.1
theorem dL_law_1345 : decode cL_law 1345 = .ok (.ifCond .ne 15, 3) := dG_law_76.2.2.2.1
theorem dL_law_1348 : decode cL_law 1348 = .ok (.aload_n 3, 1) := dG_law_76.2.2.2.2.1
theorem dL_law_1349 : decode cL_law 1349 = .ok (.iconst 0, 1) := dG_law_76.2.2.2.2.2.1
theorem dL_law_1350 : decode cL_law 1350 = .ok (.laload, 1) := dG_law_76.2.2.2.2.2.2.1
theorem dL_law_1351 : decode cL_law 1351 = .ok (.iload 6, 2) := dG_law_76.2.2.2.2.2.2.2
set_option maxRecDepth 20000 in
theorem dG_law_77 : (decode cL_law 1353 = .ok (.i2l, 1)) ∧ (decode cL_law 1354 = .ok (.lcmp, 1)) ∧ (decode cL_law 1355 = .ok (.ifCond .eq 5, 3)) ∧ (decode cL_law 1360 = .ok (.goto 1840, 3)) ∧ (decode cL_law 1363 = .ok (.aload_n 1, 1)) ∧ (decode cL_law 1364 = .ok (.aload_n 0, 1)) ∧ (decode cL_law 1365 = .ok (.iload 4, 2)) ∧ (decode cL_law 1367 = .ok (.iconst 1, 1)) := by decide +kernel
theorem dL_law_1353 : decode cL_law 1353 = .ok (.i2l, 1) := dG_law_77.1
theorem dL_law_1354 : decode cL_law 1354 = .ok (.lcmp, 1) := dG_law_77.2.1
theorem dL_law_1355 : decode cL_law 1355 = .ok (.ifCond .eq 5, 3) := dG_law_77.2.2.1
theorem dL_law_1360 : decode cL_law 1360 = .ok (.goto 1840, 3) := dG_law_77.2.2.2.1
theorem dL_law_1363 : decode cL_law 1363 = .ok (.aload_n 1, 1) := dG_law_77.2.2.2.2.1
theorem dL_law_1364 : decode cL_law 1364 = .ok (.aload_n 0, 1) := dG_law_77.2.2.2.2.2.1
theorem dL_law_1365 : decode cL_law 1365 = .ok (.iload 4, 2) := dG_law_77.2.2.2.2.2.2.1
theorem dL_law_1367 : decode cL_law 1367 = .ok (.iconst 1, 1) := dG_law_77.2.2.2.2.2.2.2
set_option maxRecDepth 20000 in
theorem dG_law_78 : (decode cL_law 1368 = .ok (.iadd, 1)) ∧ (decode cL_law 1369 = .ok (.iaload, 1)) ∧ (decode cL_law 1370 = .ok (.aload_n 3, 1)) ∧ (decode cL_law 1371 = .ok (.invokestatic 240, 3)) ∧ (decode cL_law 1374 = .ok (.istore 5, 2)) ∧ (decode cL_law 1376 = .ok (.aload_n 2, 1)) ∧ (decode cL_law 1377 = .ok (.aload_n 0, 1)) ∧ (decode cL_law 1378 = .ok (.iload 4, 2)) := by decide +kernel
theorem dL_law_1368 : decode cL_law 1368 = .ok (.iadd, 1) := dG_law_78.1
theorem dL_law_1369 : decode cL_law 1369 = .ok (.iaload, 1) := dG_law_78.2.1
theorem dL_law_1370 : decode cL_law 1370 = .ok (.aload_n 3, 1) := dG_law_78.2.2.1
theorem dL_law_1371 : decode cL_law 1371 = .ok (.invokestatic 240, 3) := dG_law_78.2.2.2.1
theorem dL_law_1374 : decode cL_law 1374 = .ok (.istore 5, 2) := dG_law_78.2.2.2.2.1
theorem dL_law_1376 : decode cL_law 1376 = .ok (.aload_n 2, 1) := dG_law_78.2.2.2.2.2.1
theorem dL_law_1377 : decode cL_law 1377 = .ok (.aload_n 0, 1) := dG_law_78.2.2.2.2.2.2.1
theorem dL_law_1378 : decode cL_law 1378 = .ok (.iload 4, 2) := dG_law_78.2.2.2.2.2.2.2
set_option maxRecDepth 20000 in
theorem dG_law_79 : (decode cL_law 1380 = .ok (.iconst 1, 1)) ∧ (decode cL_law 1381 = .ok (.iadd, 1)) ∧ (decode cL_law 1382 = .ok (.iaload, 1)) ∧ (decode cL_law 1383 = .ok (.invokevirtual 242, 3)) ∧ (decode cL_law 1386 = .ok (.istore 6, 2)) ∧ (decode cL_law 1388 = .ok (.aload_n 2, 1)) ∧ (decode cL_law 1389 = .ok (.invokevirtual 148, 3)) ∧ (decode cL_law 1392 = .ok (.iload 5, 2)) := by decide +kernel
theorem dL_law_1380 : decode cL_law 1380 = .ok (.iconst 1, 1) := dG_law_79.1
theorem dL_law_1381 : decode cL_law 1381 = .ok (.iadd, 1) := dG_law_79.2.1
theorem dL_law_1382 : decode cL_law 1382 = .ok (.iaload, 1) := dG_law_79.2.2.1
theorem dL_law_1383 : decode cL_law 1383 = .ok (.invokevirtual 242, 3) := dG_law_79.2.2.2.1
theorem dL_law_1386 : decode cL_law 1386 = .ok (.istore 6, 2) := dG_law_79.2.2.2.2.1
theorem dL_law_1388 : decode cL_law 1388 = .ok (.aload_n 2, 1) := dG_law_79.2.2.2.2.2.1
theorem dL_law_1389 : decode cL_law 1389 = .ok (.invokevirtual 148, 3) := dG_law_79.2.2.2.2.2.2.1
theorem dL_law_1392 : decode cL_law 1392 = .ok (.iload 5, 2) := dG_law_79.2.2.2.2.2.2.2
set_option maxRecDepth 20000 in
theorem dG_law_80 : (decode cL_law 1394 = .ok (.if_icmp .eq 5, 3)) ∧ (decode cL_law 1399 = .ok (.iload 5, 2)) ∧ (decode cL_law 1401 = .ok (.ifCond .ne 15, 3)) ∧ (decode cL_law 1404 = .ok (.aload_n 3, 1)) ∧ (decode cL_law 1405 = .ok (.iconst 0, 1)) ∧ (decode cL_law 1406 = .ok (.laload, 1)) ∧ (decode cL_law 1407 = .ok (.iload 6, 2)) ∧ (decode cL_law 1409 = .ok (.i2l, 1)) := by decide +kernel
theorem dL_law_1394 : decode cL_law 1394 = .ok (.if_icmp .eq 5, 3) := dG_law_80.1
theorem dL_law_1399 : decode cL_law 1399 = .ok (.iload 5, 2) := dG_law_80.2.1
theorem dL_law_1401 : decode cL_law 1401 = .ok (.ifCond .ne 15, 3) := dG_law_80.2.2.1
theorem dL_law_1404 : decode cL_law 1404 = .ok (.aload_n 3, 1) := dG_law_80.2.2.2.1
theorem dL_law_1405 : decode cL_law 1405 = .ok (.iconst 0, 1) := dG_law_80.2.2.2.2.1
theorem dL_law_1406 : decode cL_law 1406 = .ok (.laload, 1) := dG_law_80.2.2.2.2.2.1
theorem dL_law_1407 : decode cL_law 1407 = .ok (.iload 6, 2) := dG_law_80.2.2.2.2.2.2.1
theorem dL_law_1409 : decode cL_law 1409 = .ok (.i2l, 1) := dG_law_80.2.2.2.2.2.2.2
set_option maxRecDepth 20000 in
theorem dG_law_81 : (decode cL_law 1410 = .ok (.lcmp, 1)) ∧ (decode cL_law 1411 = .ok (.ifCond .eq 5, 3)) ∧ (decode cL_law 1416 = .ok (.goto 1784, 3)) ∧ (decode cL_law 1419 = .ok (.aload_n 1, 1)) ∧ (decode cL_law 1420 = .ok (.aload_n 0, 1)) ∧ (decode cL_law 1421 = .ok (.iload 4, 2)) ∧ (decode cL_law 1423 = .ok (.iconst 1, 1)) ∧ (decode cL_law 1424 = .ok (.iadd, 1)) := by decide +kernel
theorem dL_law_1410 : decode cL_law 1410 = .ok (.lcmp, 1) := dG_law_81.1
theorem dL_law_1411 : decode cL_law 1411 = .ok (.ifCond .eq 5, 3) := dG_law_81.2.1
theorem dL_law_1416 : decode cL_law 1416 = .ok (.goto 1784, 3) := dG_law_81.2.2.1
theorem dL_law_1419 : decode cL_law 1419 = .ok (.aload_n 1, 1) := dG_law_81.2.2.2.1
theorem dL_law_1420 : decode cL_law 1420 = .ok (.aload_n 0, 1) := dG_law_81.2.2.2.2.1
theorem dL_law_1421 : decode cL_law 1421 = .ok (.iload 4, 2) := dG_law_81.2.2.2.2.2.1
theorem dL_law_1423 : decode cL_law 1423 = .ok (.iconst 1, 1) := dG_law_81.2.2.2.2.2.2.1
theorem dL_law_1424 : decode cL_law 1424 = .ok (.iadd, 1) := dG_law_81.2.2.2.2.2.2.2
set_option maxRecDepth 20000 in
theorem dG_law_82 : (decode cL_law 1425 = .ok (.iaload, 1)) ∧ (decode cL_law 1426 = .ok (.aload_n 3, 1)) ∧ (decode cL_law 1427 = .ok (.invokestatic 243, 3)) ∧ (decode cL_law 1430 = .ok (.istore 5, 2)) ∧ (decode cL_law 1432 = .ok (.aload_n 2, 1)) ∧ (decode cL_law 1433 = .ok (.aload_n 0, 1)) ∧ (decode cL_law 1434 = .ok (.iload 4, 2)) ∧ (decode cL_law 1436 = .ok (.iconst 1, 1)) := by decide +kernel
theorem dL_law_1425 : decode cL_law 1425 = .ok (.iaload, 1) := dG_law_82.1
theorem dL_law_1426 : decode cL_law 1426 = .ok (.aload_n 3, 1) := dG_law_82.2.1
theorem dL_law_1427 : decode cL_law 1427 = .ok (.invokestatic 243, 3) := dG_law_82.2.2.1
theorem dL_law_1430 : decode cL_law 1430 = .ok (.istore 5, 2) := dG_law_82.2.2.2.1
theorem dL_law_1432 : decode cL_law 1432 = .ok (.aload_n 2, 1) := dG_law_82.2.2.2.2.1
theorem dL_law_1433 : decode cL_law 1433 = .ok (.aload_n 0, 1) := dG_law_82.2.2.2.2.2.1
theorem dL_law_1434 : decode cL_law 1434 = .ok (.iload 4, 2) := dG_law_82.2.2.2.2.2.2.1
theorem dL_law_1436 : decode cL_law 1436 = .ok (.iconst 1, 1) := dG_law_82.2.2.2.2.2.2.2
set_option maxRecDepth 20000 in
theorem dG_law_83 : (decode cL_law 1437 = .ok (.iadd, 1)) ∧ (decode cL_law 1438 = .ok (.iaload, 1)) ∧ (decode cL_law 1439 = .ok (.invokevirtual 245, 3)) ∧ (decode cL_law 1442 = .ok (.istore 6, 2)) ∧ (decode cL_law 1444 = .ok (.aload_n 2, 1)) ∧ (decode cL_law 1445 = .ok (.invokevirtual 148, 3)) ∧ (decode cL_law 1448 = .ok (.iload 5, 2)) ∧ (decode cL_law 1450 = .ok (.if_icmp .eq 5, 3)) := by decide +kernel
theorem dL_law_1437 : decode cL_law 1437 = .ok (.iadd, 1) := dG_law_83.1
theorem dL_law_1438 : decode cL_law 1438 = .ok (.iaload, 1) := dG_law_83.2.1
theorem dL_law_1439 : decode cL_law 1439 = .ok (.invokevirtual 245, 3) := dG_law_83.2.2.1
theorem dL_law_1442 : decode cL_law 1442 = .ok (.istore 6, 2) := dG_law_83.2.2.2.1
theorem dL_law_1444 : decode cL_law 1444 = .ok (.aload_n 2, 1) := dG_law_83.2.2.2.2.1
theorem dL_law_1445 : decode cL_law 1445 = .ok (.invokevirtual 148, 3) := dG_law_83.2.2.2.2.2.1
theorem dL_law_1448 : decode cL_law 1448 = .ok (.iload 5, 2) := dG_law_83.2.2.2.2.2.2.1
theorem dL_law_1450 : decode cL_law 1450 = .ok (.if_icmp .eq 5, 3) := dG_law_83.2.2.2.2.2.2.2
set_option maxRecDepth 20000 in
theorem dG_law_84 : (decode cL_law 1455 = .ok (.iload 5, 2)) ∧ (decode cL_law 1457 = .ok (.ifCond .ne 22, 3)) ∧ (decode cL_law 1460 = .ok (.aload_n 3, 1)) ∧ (decode cL_law 1461 = .ok (.iconst 0, 1)) ∧ (decode cL_law 1462 = .ok (.laload, 1)) ∧ (decode cL_law 1463 = .ok (.iload 6, 2)) ∧ (decode cL_law 1465 = .ok (.ifCond .eq 7, 3)) ∧ (decode cL_law 1468 = .ok (.lconst 1, 1)) := by decide +kernel
theorem dL_law_1455 : decode cL_law 1455 = .ok (.iload 5, 2) := dG_law_84.1
theorem dL_law_1457 : decode cL_law 1457 = .ok (.ifCond .ne 22, 3) := dG_law_84.2.1
theorem dL_law_1460 : decode cL_law 1460 = .ok (.aload_n 3, 1) := dG_law_84.2.2.1
theorem dL_law_1461 : decode cL_law 1461 = .ok (.iconst 0, 1) := dG_law_84.2.2.2.1
theorem dL_law_1462 : decode cL_law 1462 = .ok (.laload, 1) := dG_law_84.2.2.2.2.1
theorem dL_law_1463 : decode cL_law 1463 = .ok (.iload 6, 2) := dG_law_84.2.2.2.2.2.1
theorem dL_law_1465 : decode cL_law 1465 = .ok (.ifCond .eq 7, 3) := dG_law_84.2.2.2.2.2.2.1
theorem dL_law_1468 : decode cL_law 1468 = .ok (.lconst 1, 1) := dG_law_84.2.2.2.2.2.2.2
set_option maxRecDepth 20000 in
theorem dG_law_85 : (decode cL_law 1469 = .ok (.goto 4, 3)) ∧ (decode cL_law 1472 = .ok (.lconst 0, 1)) ∧ (decode cL_law 1473 = .ok (.lcmp, 1)) ∧ (decode cL_law 1474 = .ok (.ifCond .eq 5, 3)) ∧ (decode cL_law 1479 = .ok (.goto 1721, 3)) ∧ (decode cL_law 1482 = .ok (.aload_n 1, 1)) ∧ (decode cL_law 1483 = .ok (.aload_n 0, 1)) ∧ (decode cL_law 1484 = .ok (.iload 4, 2)) := by decide +kernel
theorem dL_law_1469 : decode cL_law 1469 = .ok (.goto 4, 3) := dG_law_85.1
theorem dL_law_1472 : decode cL_law 1472 = .ok (.lconst 0, 1) := dG_law_85.2.1
theorem dL_law_1473 : decode cL_law 1473 = .ok (.lcmp, 1) := dG_law_85.2.2.1
theorem dL_law_1474 : decode cL_law 1474 = .ok (.ifCond .eq 5, 3) := dG_law_85.2.2.2.1
theorem dL_law_1479 : decode cL_law 1479 = .ok (.goto 1721, 3) := dG_law_85.2.2.2.2.1
theorem dL_law_1482 : decode cL_law 1482 = .ok (.aload_n 1, 1) := dG_law_85.2.2.2.2.2.1
theorem dL_law_1483 : decode cL_law 1483 = .ok (.aload_n 0, 1) := dG_law_85.2.2.2.2.2.2.1
theorem dL_law_1484 : decode cL_law 1484 = .ok (.iload 4, 2) := dG_law_85.2.2.2.2.2.2.2
set_option maxRecDepth 20000 in
theorem dG_law_86 : (decode cL_law 1486 = .ok (.iconst 1, 1)) ∧ (decode cL_law 1487 = .ok (.iadd, 1)) ∧ (decode cL_law 1488 = .ok (.iaload, 1)) ∧ (decode cL_law 1489 = .ok (.aload_n 3, 1)) ∧ (decode cL_law 1490 = .ok (.invokestatic 246, 3)) ∧ (decode cL_law 1493 = .ok (.istore 5, 2)) ∧ (decode cL_law 1495 = .ok (.aload_n 2, 1)) ∧ (decode cL_law 1496 = .ok (.aload_n 0, 1)) := by decide +kernel
theorem dL_law_1486 : decode cL_law 1486 = .ok (.iconst 1, 1) := dG_law_86.1
theorem dL_law_1487 : decode cL_law 1487 = .ok (.iadd, 1) := dG_law_86.2.1
theorem dL_law_1488 : decode cL_law 1488 = .ok (.iaload, 1) := dG_law_86.2.2.1
theorem dL_law_1489 : decode cL_law 1489 = .ok (.aload_n 3, 1) := dG_law_86.2.2.2.1
theorem dL_law_1490 : decode cL_law 1490 = .ok (.invokestatic 246, 3) := dG_law_86.2.2.2.2.1
theorem dL_law_1493 : decode cL_law 1493 = .ok (.istore 5, 2) := dG_law_86.2.2.2.2.2.1
theorem dL_law_1495 : decode cL_law 1495 = .ok (.aload_n 2, 1) := dG_law_86.2.2.2.2.2.2.1
theorem dL_law_1496 : decode cL_law 1496 = .ok (.aload_n 0, 1) := dG_law_86.2.2.2.2.2.2.2
set_option maxRecDepth 20000 in
theorem dG_law_87 : (decode cL_law 1497 = .ok (.iload 4, 2)) ∧ (decode cL_law 1499 = .ok (.iconst 1, 1)) ∧ (decode cL_law 1500 = .ok (.iadd, 1)) ∧ (decode cL_law 1501 = .ok (.iaload, 1)) ∧ (decode cL_law 1502 = .ok (.invokevirtual 248, 3)) ∧ (decode cL_law 1505 = .ok (.istore 6, 2)) ∧ (decode cL_law 1507 = .ok (.aload_n 2, 1)) ∧ (decode cL_law 1508 = .ok (.invokevirtual 148, 3)) := by decide +kernel
theorem dL_law_1497 : decode cL_law 1497 = .ok (.iload 4, 2) := dG_law_87.1
theorem dL_law_1499 : decode cL_law 1499 = .ok (.iconst 1, 1) := dG_law_87.2.1
theorem dL_law_1500 : decode cL_law 1500 = .ok (.iadd, 1) := dG_law_87.2.2.1
theorem dL_law_1501 : decode cL_law 1501 = .ok (.iaload, 1) := dG_law_87.2.2.2.1
theorem dL_law_1502 : decode cL_law 1502 = .ok (.invokevirtual 248, 3) := dG_law_87.2.2.2.2.1
theorem dL_law_1505 : decode cL_law 1505 = .ok (.istore 6, 2) := dG_law_87.2.2.2.2.2.1
theorem dL_law_1507 : decode cL_law 1507 = .ok (.aload_n 2, 1) := dG_law_87.2.2.2.2.2.2.1
theorem dL_law_1508 : decode cL_law 1508 = .ok (.invokevirtual 148, 3) := dG_law_87.2.2.2.2.2.2.2
set_option maxRecDepth 20000 in
theorem dG_law_88 : (decode cL_law 1511 = .ok (.iload 5, 2)) ∧ (decode cL_law 1513 = .ok (.if_icmp .eq 5, 3)) ∧ (decode cL_law 1518 = .ok (.iload 5, 2)) ∧ (decode cL_law 1520 = .ok (.ifCond .ne 15, 3)) ∧ (decode cL_law 1523 = .ok (.aload_n 3, 1)) ∧ (decode cL_law 1524 = .ok (.iconst 0, 1)) ∧ (decode cL_law 1525 = .ok (.laload, 1)) ∧ (decode cL_law 1526 = .ok (.iload 6, 2)) := by decide +kernel
theorem dL_law_1511 : decode cL_law 1511 = .ok (.iload 5, 2) := dG_law_88.1
theorem dL_law_1513 : decode cL_law 1513 = .ok (.if_icmp .eq 5, 3) := dG_law_88.2.1
theorem dL_law_1518 : decode cL_law 1518 = .ok (.iload 5, 2) := dG_law_88.2.2.1
theorem dL_law_1520 : decode cL_law 1520 = .ok (.ifCond .ne 15, 3) := dG_law_88.2.2.2.1
theorem dL_law_1523 : decode cL_law 1523 = .ok (.aload_n 3, 1) := dG_law_88.2.2.2.2.1
theorem dL_law_1524 : decode cL_law 1524 = .ok (.iconst 0, 1) := dG_law_88.2.2.2.2.2.1
theorem dL_law_1525 : decode cL_law 1525 = .ok (.laload, 1) := dG_law_88.2.2.2.2.2.2.1
theorem dL_law_1526 : decode cL_law 1526 = .ok (.iload 6, 2) := dG_law_88.2.2.2.2.2.2.2
set_option maxRecDepth 20000 in
theorem dG_law_89 : (decode cL_law 1528 = .ok (.i2l, 1)) ∧ (decode cL_law 1529 = .ok (.lcmp, 1)) ∧ (decode cL_law 1530 = .ok (.ifCond .eq 5, 3)) ∧ (decode cL_law 1535 = .ok (.goto 1665, 3)) ∧ (decode cL_law 1538 = .ok (.aload_n 1, 1)) ∧ (decode cL_law 1539 = .ok (.aload_n 0, 1)) ∧ (decode cL_law 1540 = .ok (.iload 4, 2)) ∧ (decode cL_law 1542 = .ok (.iconst 1, 1)) := by decide +kernel
theorem dL_law_1528 : decode cL_law 1528 = .ok (.i2l, 1) := dG_law_89.1
theorem dL_law_1529 : decode cL_law 1529 = .ok (.lcmp, 1) := dG_law_89.2.1
theorem dL_law_1530 : decode cL_law 1530 = .ok (.ifCond .eq 5, 3) := dG_law_89.2.2.1
theorem dL_law_1535 : decode cL_law 1535 = .ok (.goto 1665, 3) := dG_law_89.2.2.2.1
theorem dL_law_1538 : decode cL_law 1538 = .ok (.aload_n 1, 1) := dG_law_89.2.2.2.2.1
theorem dL_law_1539 : decode cL_law 1539 = .ok (.aload_n 0, 1) := dG_law_89.2.2.2.2.2.1
theorem dL_law_1540 : decode cL_law 1540 = .ok (.iload 4, 2) := dG_law_89.2.2.2.2.2.2.1
theorem dL_law_1542 : decode cL_law 1542 = .ok (.iconst 1, 1) := dG_law_89.2.2.2.2.2.2.2
set_option maxRecDepth 20000 in
theorem dG_law_90 : (decode cL_law 1543 = .ok (.iadd, 1)) ∧ (decode cL_law 1544 = .ok (.iaload, 1)) ∧ (decode cL_law 1545 = .ok (.aload_n 3, 1)) ∧ (decode cL_law 1546 = .ok (.invokestatic 249, 3)) ∧ (decode cL_law 1549 = .ok (.istore 5, 2)) ∧ (decode cL_law 1551 = .ok (.aload_n 2, 1)) ∧ (decode cL_law 1552 = .ok (.aload_n 0, 1)) ∧ (decode cL_law 1553 = .ok (.iload 4, 2)) := by decide +kernel
theorem dL_law_1543 : decode cL_law 1543 = .ok (.iadd, 1) := dG_law_90.1
theorem dL_law_1544 : decode cL_law 1544 = .ok (.iaload, 1) := dG_law_90.2.1
theorem dL_law_1545 : decode cL_law 1545 = .ok (.aload_n 3, 1) := dG_law_90.2.2.1
theorem dL_law_1546 : decode cL_law 1546 = .ok (.invokestatic 249, 3) := dG_law_90.2.2.2.1
theorem dL_law_1549 : decode cL_law 1549 = .ok (.istore 5, 2) := dG_law_90.2.2.2.2.1
theorem dL_law_1551 : decode cL_law 1551 = .ok (.aload_n 2, 1) := dG_law_90.2.2.2.2.2.1
theorem dL_law_1552 : decode cL_law 1552 = .ok (.aload_n 0, 1) := dG_law_90.2.2.2.2.2.2.1
theorem dL_law_1553 : decode cL_law 1553 = .ok (.iload 4, 2) := dG_law_90.2.2.2.2.2.2.2
set_option maxRecDepth 20000 in
theorem dG_law_91 : (decode cL_law 1555 = .ok (.iconst 1, 1)) ∧ (decode cL_law 1556 = .ok (.iadd, 1)) ∧ (decode cL_law 1557 = .ok (.iaload, 1)) ∧ (decode cL_law 1558 = .ok (.invokevirtual 251, 3)) ∧ (decode cL_law 1561 = .ok (.istore 6, 2)) ∧ (decode cL_law 1563 = .ok (.aload_n 2, 1)) ∧ (decode cL_law 1564 = .ok (.invokevirtual 148, 3)) ∧ (decode cL_law 1567 = .ok (.iload 5, 2)) := by decide +kernel
theorem dL_law_1555 : decode cL_law 1555 = .ok (.iconst 1, 1) := dG_law_91.1
theorem dL_law_1556 : decode cL_law 1556 = .ok (.iadd, 1) := dG_law_91.2.1
theorem dL_law_1557 : decode cL_law 1557 = .ok (.iaload, 1) := dG_law_91.2.2.1
theorem dL_law_1558 : decode cL_law 1558 = .ok (.invokevirtual 251, 3) := dG_law_91.2.2.2.1
theorem dL_law_1561 : decode cL_law 1561 = .ok (.istore 6, 2) := dG_law_91.2.2.2.2.1
theorem dL_law_1563 : decode cL_law 1563 = .ok (.aload_n 2, 1) := dG_law_91.2.2.2.2.2.1
theorem dL_law_1564 : decode cL_law 1564 = .ok (.invokevirtual 148, 3) := dG_law_91.2.2.2.2.2.2.1
theorem dL_law_1567 : decode cL_law 1567 = .ok (.iload 5, 2) := dG_law_91.2.2.2.2.2.2.2
set_option maxRecDepth 20000 in
theorem dG_law_92 : (decode cL_law 1569 = .ok (.if_icmp .eq 5, 3)) ∧ (decode cL_law 1574 = .ok (.iload 5, 2)) ∧ (decode cL_law 1576 = .ok (.ifCond .ne 15, 3)) ∧ (decode cL_law 1579 = .ok (.aload_n 3, 1)) ∧ (decode cL_law 1580 = .ok (.iconst 0, 1)) ∧ (decode cL_law 1581 = .ok (.laload, 1)) ∧ (decode cL_law 1582 = .ok (.iload 6, 2)) ∧ (decode cL_law 1584 = .ok (.i2l, 1)) := by decide +kernel
theorem dL_law_1569 : decode cL_law 1569 = .ok (.if_icmp .eq 5, 3) := dG_law_92.1
theorem dL_law_1574 : decode cL_law 1574 = .ok (.iload 5, 2) := dG_law_92.2.1
theorem dL_law_1576 : decode cL_law 1576 = .ok (.ifCond .ne 15, 3) := dG_law_92.2.2.1
theorem dL_law_1579 : decode cL_law 1579 = .ok (.aload_n 3, 1) := dG_law_92.2.2.2.1
theorem dL_law_1580 : decode cL_law 1580 = .ok (.iconst 0, 1) := dG_law_92.2.2.2.2.1
theorem dL_law_1581 : decode cL_law 1581 = .ok (.laload, 1) := dG_law_92.2.2.2.2.2.1
theorem dL_law_1582 : decode cL_law 1582 = .ok (.iload 6, 2) := dG_law_92.2.2.2.2.2.2.1
theorem dL_law_1584 : decode cL_law 1584 = .ok (.i2l, 1) := dG_law_92.2.2.2.2.2.2.2
set_option maxRecDepth 20000 in
theorem dG_law_93 : (decode cL_law 1585 = .ok (.lcmp, 1)) ∧ (decode cL_law 1586 = .ok (.ifCond .eq 5, 3)) ∧ (decode cL_law 1591 = .ok (.goto 1609, 3)) ∧ (decode cL_law 1594 = .ok (.aload_n 1, 1)) ∧ (decode cL_law 1595 = .ok (.aload_n 0, 1)) ∧ (decode cL_law 1596 = .ok (.iload 4, 2)) ∧ (decode cL_law 1598 = .ok (.iconst 1, 1)) ∧ (decode cL_law 1599 = .ok (.iadd, 1)) := by decide +kernel
theorem dL_law_1585 : decode cL_law 1585 = .ok (.lcmp, 1) := dG_law_93.1
theorem dL_law_1586 : decode cL_law 1586 = .ok (.ifCond .eq 5, 3) := dG_law_93.2.1
theorem dL_law_1591 : decode cL_law 1591 = .ok (.goto 1609, 3) := dG_law_93.2.2.1
theorem dL_law_1594 : decode cL_law 1594 = .ok (.aload_n 1, 1) := dG_law_93.2.2.2.1
theorem dL_law_1595 : decode cL_law 1595 = .ok (.aload_n 0, 1) := dG_law_93.2.2.2.2.1
theorem dL_law_1596 : decode cL_law 1596 = .ok (.iload 4, 2) := dG_law_93.2.2.2.2.2.1
theorem dL_law_1598 : decode cL_law 1598 = .ok (.iconst 1, 1) := dG_law_93.2.2.2.2.2.2.1
theorem dL_law_1599 : decode cL_law 1599 = .ok (.iadd, 1) := dG_law_93.2.2.2.2.2.2.2
set_option maxRecDepth 20000 in
theorem dG_law_94 : (decode cL_law 1600 = .ok (.iaload, 1)) ∧ (decode cL_law 1601 = .ok (.aload_n 3, 1)) ∧ (decode cL_law 1602 = .ok (.invokestatic 252, 3)) ∧ (decode cL_law 1605 = .ok (.istore 5, 2)) ∧ (decode cL_law 1607 = .ok (.aload_n 2, 1)) ∧ (decode cL_law 1608 = .ok (.aload_n 0, 1)) ∧ (decode cL_law 1609 = .ok (.iload 4, 2)) ∧ (decode cL_law 1611 = .ok (.iconst 1, 1)) := by decide +kernel
theorem dL_law_1600 : decode cL_law 1600 = .ok (.iaload, 1) := dG_law_94.1
theorem dL_law_1601 : decode cL_law 1601 = .ok (.aload_n 3, 1) := dG_law_94.2.1
theorem dL_law_1602 : decode cL_law 1602 = .ok (.invokestatic 252, 3) := dG_law_94.2.2.1
theorem dL_law_1605 : decode cL_law 1605 = .ok (.istore 5, 2) := dG_law_94.2.2.2.1
theorem dL_law_1607 : decode cL_law 1607 = .ok (.aload_n 2, 1) := dG_law_94.2.2.2.2.1
theorem dL_law_1608 : decode cL_law 1608 = .ok (.aload_n 0, 1) := dG_law_94.2.2.2.2.2.1
theorem dL_law_1609 : decode cL_law 1609 = .ok (.iload 4, 2) := dG_law_94.2.2.2.2.2.2.1
theorem dL_law_1611 : decode cL_law 1611 = .ok (.iconst 1, 1) := dG_law_94.2.2.2.2.2.2.2
set_option maxRecDepth 20000 in
theorem dG_law_95 : (decode cL_law 1612 = .ok (.iadd, 1)) ∧ (decode cL_law 1613 = .ok (.iaload, 1)) ∧ (decode cL_law 1614 = .ok (.invokevirtual 254, 3)) ∧ (decode cL_law 1617 = .ok (.istore 6, 2)) ∧ (decode cL_law 1619 = .ok (.aload_n 2, 1)) ∧ (decode cL_law 1620 = .ok (.invokevirtual 148, 3)) ∧ (decode cL_law 1623 = .ok (.iload 5, 2)) ∧ (decode cL_law 1625 = .ok (.if_icmp .eq 5, 3)) := by decide +kernel
theorem dL_law_1612 : decode cL_law 1612 = .ok (.iadd, 1) := dG_law_95.1
theorem dL_law_1613 : decode cL_law 1613 = .ok (.iaload, 1) := dG_law_95.2.1
theorem dL_law_1614 : decode cL_law 1614 = .ok (.invokevirtual 254, 3) := dG_law_95.2.2.1
theorem dL_law_1617 : decode cL_law 1617 = .ok (.istore 6, 2) := dG_law_95.2.2.2.1
theorem dL_law_1619 : decode cL_law 1619 = .ok (.aload_n 2, 1) := dG_law_95.2.2.2.2.1
theorem dL_law_1620 : decode cL_law 1620 = .ok (.invokevirtual 148, 3) := dG_law_95.2.2.2.2.2.1
theorem dL_law_1623 : decode cL_law 1623 = .ok (.iload 5, 2) := dG_law_95.2.2.2.2.2.2.1
theorem dL_law_1625 : decode cL_law 1625 = .ok (.if_icmp .eq 5, 3) := dG_law_95.2.2.2.2.2.2.2
set_option maxRecDepth 20000 in
theorem dG_law_96 : (decode cL_law 1630 = .ok (.iload 5, 2)) ∧ (decode cL_law 1632 = .ok (.ifCond .ne 15, 3)) ∧ (decode cL_law 1635 = .ok (.aload_n 3, 1)) ∧ (decode cL_law 1636 = .ok (.iconst 0, 1)) ∧ (decode cL_law 1637 = .ok (.laload, 1)) ∧ (decode cL_law 1638 = .ok (.iload 6, 2)) ∧ (decode cL_law 1640 = .ok (.i2l, 1)) ∧ (decode cL_law 1641 = .ok (.lcmp, 1)) := by decide +kernel
theorem dL_law_1630 : decode cL_law 1630 = .ok (.iload 5, 2) := dG_law_96.1
theorem dL_law_1632 : decode cL_law 1632 = .ok (.ifCond .ne 15, 3) := dG_law_96.2.1
theorem dL_law_1635 : decode cL_law 1635 = .ok (.aload_n 3, 1) := dG_law_96.2.2.1
theorem dL_law_1636 : decode cL_law 1636 = .ok (.iconst 0, 1) := dG_law_96.2.2.2.1
theorem dL_law_1637 : decode cL_law 1637 = .ok (.laload, 1) := dG_law_96.2.2.2.2.1
theorem dL_law_1638 : decode cL_law 1638 = .ok (.iload 6, 2) := dG_law_96.2.2.2.2.2.1
theorem dL_law_1640 : decode cL_law 1640 = .ok (.i2l, 1) := dG_law_96.2.2.2.2.2.2.1
theorem dL_law_1641 : decode cL_law 1641 = .ok (.lcmp, 1) := dG_law_96.2.2.2.2.2.2.2
set_option maxRecDepth 20000 in
theorem dG_law_97 : (decode cL_law 1642 = .ok (.ifCond .eq 5, 3)) ∧ (decode cL_law 1647 = .ok (.goto 1553, 3)) ∧ (decode cL_law 1650 = .ok (.aload_n 1, 1)) ∧ (decode cL_law 1651 = .ok (.aload_n 0, 1)) ∧ (decode cL_law 1652 = .ok (.iload 4, 2)) ∧ (decode cL_law 1654 = .ok (.iconst 1, 1)) ∧ (decode cL_law 1655 = .ok (.iadd, 1)) ∧ (decode cL_law 1656 = .ok (.iaload, 1)) := by decide +kernel
theorem dL_law_1642 : decode cL_law 1642 = .ok (.ifCond .eq 5, 3) := dG_law_97.1
theorem dL_law_1647 : decode cL_law 1647 = .ok (.goto 1553, 3) := dG_law_97.2.1
theorem dL_law_1650 : decode cL_law 1650 = .ok (.aload_n 1, 1) := dG_law_97.2.2.1
theorem dL_law_1651 : decode cL_law 1651 = .ok (.aload_n 0, 1) := dG_law_97.2.2.2.1
theorem dL_law_1652 : decode cL_law 1652 = .ok (.iload 4, 2) := dG_law_97.2.2.2.2.1
theorem dL_law_1654 : decode cL_law 1654 = .ok (.iconst 1, 1) := dG_law_97.2.2.2.2.2.1
theorem dL_law_1655 : decode cL_law 1655 = .ok (.iadd, 1) := dG_law_97.2.2.2.2.2.2.1
theorem dL_law_1656 : decode cL_law 1656 = .ok (.iaload, 1) := dG_law_97.2.2.2.2.2.2.2
set_option maxRecDepth 20000 in
theorem dG_law_98 : (decode cL_law 1657 = .ok (.invokevirtual 255, 3)) ∧ (decode cL_law 1660 = .ok (.aload_n 2, 1)) ∧ (decode cL_law 1661 = .ok (.aload_n 0, 1)) ∧ (decode cL_law 1662 = .ok (.iload 4, 2)) ∧ (decode cL_law 1664 = .ok (.iconst 1, 1)) ∧ (decode cL_law 1665 = .ok (.iadd, 1)) ∧ (decode cL_law 1666 = .ok (.iaload, 1)) ∧ (decode cL_law 1667 = .ok (.invokevirtual 258, 3)) := by decide +kernel
theorem dL_law_1657 : decode cL_law 1657 = .ok (.invokevirtual 255, 3) := dG_law_98.1
theorem dL_law_1660 : decode cL_law 1660 = .ok (.aload_n 2, 1) := dG_law_98.2.1
theorem dL_law_1661 : decode cL_law 1661 = .ok (.aload_n 0, 1) := dG_law_98.2.2.1
theorem dL_law_1662 : decode cL_law 1662 = .ok (.iload 4, 2) := dG_law_98.2.2.2.1
theorem dL_law_1664 : decode cL_law 1664 = .ok (.iconst 1, 1) := dG_law_98.2.2.2.2.1
theorem dL_law_1665 : decode cL_law 1665 = .ok (.iadd, 1) := dG_law_98.2.2.2.2.2.1
theorem dL_law_1666 : decode cL_law 1666 = .ok (.iaload, 1) := dG_law_98.2.2.2.2.2.2.1
theorem dL_law_1667 : decode cL_law 1667 = .ok (.invokevirtual 258, 3) := dG_law_98.2.2.2.2.2.2.2
set_option maxRecDepth 20000 in
theorem dG_law_99 : (decode cL_law 1670 = .ok (.if_icmp .eq 1530, 3)) ∧ (decode cL_law 1675 = .ok (.aload_n 1, 1)) ∧ (decode cL_law 1676 = .ok (.aload_n 0, 1)) ∧ (decode cL_law 1677 = .ok (.iload 4, 2)) ∧ (decode cL_law 1679 = .ok (.iconst 1, 1)) ∧ (decode cL_law 1680 = .ok (.iadd, 1)) ∧ (decode cL_law 1681 = .ok (.iaload, 1)) ∧ (decode cL_law 1682 = .ok (.aload_n 0, 1)) := by decide +kernel
theorem dL_law_1670 : decode cL_law 1670 = .ok (.if_icmp .eq 1530, 3) := dG_law_99.1
theorem dL_law_1675 : decode cL_law 1675 = .ok (.aload_n 1, 1) := dG_law_99.2.1
theorem dL_law_1676 : decode cL_law 1676 = .ok (.aload_n 0, 1) := dG_law_99.2.2.1
theorem dL_law_1677 : decode cL_law 1677 = .ok (.iload 4, 2) := dG_law_99.2.2.2.1
theorem dL_law_1679 : decode cL_law 1679 = .ok (.iconst 1, 1) := dG_law_99.2.2.2.2.1
theorem dL_law_1680 : decode cL_law 1680 = .ok (.iadd, 1) := dG_law_99.2.2.2.2.2.1
theorem dL_law_1681 : decode cL_law 1681 = .ok (.iaload, 1) := dG_law_99.2.2.2.2.2.2.1
theorem dL_law_1682 : decode cL_law 1682 = .ok (.aload_n 0, 1) := dG_law_99.2.2.2.2.2.2.2
set_option maxRecDepth 20000 in
theorem dG_law_100 : (decode cL_law 1683 = .ok (.iload 4, 2)) ∧ (decode cL_law 1685 = .ok (.iconst 2, 1)) ∧ (decode cL_law 1686 = .ok (.iadd, 1)) ∧ (decode cL_law 1687 = .ok (.iaload, 1)) ∧ (decode cL_law 1688 = .ok (.aload_n 0, 1)) ∧ (decode cL_law 1689 = .ok (.iload 4, 2)) ∧ (decode cL_law 1691 = .ok (.iconst 3, 1)) ∧ (decode cL_law 1692 = .ok (.iadd, 1)) := by decide +kernel
theorem dL_law_1683 : decode cL_law 1683 = .ok (.iload 4, 2) := dG_law_100.1
theorem dL_law_1685 : decode cL_law 1685 = .ok (.iconst 2, 1) := dG_law_100.2.1
theorem dL_law_1686 : decode cL_law 1686 = .ok (.iadd, 1) := dG_law_100.2.2.1
theorem dL_law_1687 : decode cL_law 1687 = .ok (.iaload, 1) := dG_law_100.2.2.2.1
theorem dL_law_1688 : decode cL_law 1688 = .ok (.aload_n 0, 1) := dG_law_100.2.2.2.2.1
theorem dL_law_1689 : decode cL_law 1689 = .ok (.iload 4, 2) := dG_law_100.2.2.2.2.2.1
theorem dL_law_1691 : decode cL_law 1691 = .ok (.iconst 3, 1) := dG_law_100.2.2.2.2.2.2.1
theorem dL_law_1692 : decode cL_law 1692 = .ok (.iadd, 1) := dG_law_100.2.2.2.2.2.2.2
set_option maxRecDepth 20000 in
theorem dG_law_101 : (decode cL_law 1693 = .ok (.iaload, 1)) ∧ (decode cL_law 1694 = .ok (.aload_n 3, 1)) ∧ (decode cL_law 1695 = .ok (.invokestatic 259, 3)) ∧ (decode cL_law 1698 = .ok (.istore 5, 2)) ∧ (decode cL_law 1700 = .ok (.aload_n 2, 1)) ∧ (decode cL_law 1701 = .ok (.aload_n 0, 1)) ∧ (decode cL_law 1702 = .ok (.iload 4, 2)) ∧ (decode cL_law 1704 = .ok (.iconst 1, 1)) := by decide +kernel
theorem dL_law_1693 : decode cL_law 1693 = .ok (.iaload, 1) := dG_law_101.1
theorem dL_law_1694 : decode cL_law 1694 = .ok (.aload_n 3, 1) := dG_law_101.2.1
theorem dL_law_1695 : decode cL_law 1695 = .ok (.invokestatic 259, 3) := dG_law_101.2.2.1
theorem dL_law_1698 : decode cL_law 1698 = .ok (.istore 5, 2) := dG_law_101.2.2.2.1
theorem dL_law_1700 : decode cL_law 1700 = .ok (.aload_n 2, 1) := dG_law_101.2.2.2.2.1
theorem dL_law_1701 : decode cL_law 1701 = .ok (.aload_n 0, 1) := dG_law_101.2.2.2.2.2.1
theorem dL_law_1702 : decode cL_law 1702 = .ok (.iload 4, 2) := dG_law_101.2.2.2.2.2.2.1
theorem dL_law_1704 : decode cL_law 1704 = .ok (.iconst 1, 1) := dG_law_101.2.2.2.2.2.2.2
set_option maxRecDepth 20000 in
theorem dG_law_102 : (decode cL_law 1705 = .ok (.iadd, 1)) ∧ (decode cL_law 1706 = .ok (.iaload, 1)) ∧ (decode cL_law 1707 = .ok (.aload_n 0, 1)) ∧ (decode cL_law 1708 = .ok (.iload 4, 2)) ∧ (decode cL_law 1710 = .ok (.iconst 2, 1)) ∧ (decode cL_law 1711 = .ok (.iadd, 1)) ∧ (decode cL_law 1712 = .ok (.iaload, 1)) ∧ (decode cL_law 1713 = .ok (.aload_n 0, 1)) := by decide +kernel
theorem dL_law_1705 : decode cL_law 1705 = .ok (.iadd, 1) := dG_law_102.1
theorem dL_law_1706 : decode cL_law 1706 = .ok (.iaload, 1) := dG_law_102.2.1
theorem dL_law_1707 : decode cL_law 1707 = .ok (.aload_n 0, 1) := dG_law_102.2.2.1
theorem dL_law_1708 : decode cL_law 1708 = .ok (.iload 4, 2) := dG_law_102.2.2.2.1
theorem dL_law_1710 : decode cL_law 1710 = .ok (.iconst 2, 1) := dG_law_102.2.2.2.2.1
theorem dL_law_1711 : decode cL_law 1711 = .ok (.iadd, 1) := dG_law_102.2.2.2.2.2.1
theorem dL_law_1712 : decode cL_law 1712 = .ok (.iaload, 1) := dG_law_102.2.2.2.2.2.2.1
theorem dL_law_1713 : decode cL_law 1713 = .ok (.aload_n 0, 1) := dG_law_102.2.2.2.2.2.2.2
set_option maxRecDepth 20000 in
theorem dG_law_103 : (decode cL_law 1714 = .ok (.iload 4, 2)) ∧ (decode cL_law 1716 = .ok (.iconst 3, 1)) ∧ (decode cL_law 1717 = .ok (.iadd, 1)) ∧ (decode cL_law 1718 = .ok (.iaload, 1)) ∧ (decode cL_law 1719 = .ok (.invokevirtual 262, 3)) ∧ (decode cL_law 1722 = .ok (.istore 6, 2)) ∧ (decode cL_law 1724 = .ok (.aload_n 2, 1)) ∧ (decode cL_law 1725 = .ok (.invokevirtual 148, 3)) := by decide +kernel
theorem dL_law_1714 : decode cL_law 1714 = .ok (.iload 4, 2) := dG_law_103.1
theorem dL_law_1716 : decode cL_law 1716 = .ok (.iconst 3, 1) := dG_law_103.2.1
theorem dL_law_1717 : decode cL_law 1717 = .ok (.iadd, 1) := dG_law_103.2.2.1
theorem dL_law_1718 : decode cL_law 1718 = .ok (.iaload, 1) := dG_law_103.2.2.2.1
theorem dL_law_1719 : decode cL_law 1719 = .ok (.invokevirtual 262, 3) := dG_law_103.2.2.2.2.1
theorem dL_law_1722 : decode cL_law 1722 = .ok (.istore 6, 2) := dG_law_103.2.2.2.2.2.1
theorem dL_law_1724 : decode cL_law 1724 = .ok (.aload_n 2, 1) := dG_law_103.2.2.2.2.2.2.1
theorem dL_law_1725 : decode cL_law 1725 = .ok (.invokevirtual 148, 3) := dG_law_103.2.2.2.2.2.2.2
set_option maxRecDepth 20000 in
theorem dG_law_104 : (decode cL_law 1728 = .ok (.iload 5, 2)) ∧ (decode cL_law 1730 = .ok (.if_icmp .eq 5, 3)) ∧ (decode cL_law 1735 = .ok (.iload 5, 2)) ∧ (decode cL_law 1737 = .ok (.ifCond .ne 15, 3)) ∧ (decode cL_law 1740 = .ok (.aload_n 3, 1)) ∧ (decode cL_law 1741 = .ok (.iconst 0, 1)) ∧ (decode cL_law 1742 = .ok (.laload, 1)) ∧ (decode cL_law 1743 = .ok (.iload 6, 2)) := by decide +kernel
theorem dL_law_1728 : decode cL_law 1728 = .ok (.iload 5, 2) := dG_law_104.1
theorem dL_law_1730 : decode cL_law 1730 = .ok (.if_icmp .eq 5, 3) := dG_law_104.2.1
theorem dL_law_1735 : decode cL_law 1735 = .ok (.iload 5, 2) := dG_law_104.2.2.1
theorem dL_law_1737 : decode cL_law 1737 = .ok (.ifCond .ne 15, 3) := dG_law_104.2.2.2.1
theorem dL_law_1740 : decode cL_law 1740 = .ok (.aload_n 3, 1) := dG_law_104.2.2.2.2.1
theorem dL_law_1741 : decode cL_law 1741 = .ok (.iconst 0, 1) := dG_law_104.2.2.2.2.2.1
theorem dL_law_1742 : decode cL_law 1742 = .ok (.laload, 1) := dG_law_104.2.2.2.2.2.2.1
theorem dL_law_1743 : decode cL_law 1743 = .ok (.iload 6, 2) := dG_law_104.2.2.2.2.2.2.2
