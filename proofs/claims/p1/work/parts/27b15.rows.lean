section RowsOK
theorem zr_0_1067 : zOK zPre 0 1067 (s_if (nat_lit 0) zi_eq (nat_lit 1074) (nat_lit 1070)) := ok_if_eq (off := 7) (md := zmd_0) zh_0 (by decide +kernel) (by decide +kernel) rfl
theorem zr_0_1074 : zOK zPre 0 1074 (s_k (nat_lit 2) (nat_lit 1075)) := ok_lconst (n := 0) (md := zmd_0) zh_0 (by decide +kernel) rfl (by decide +kernel)
theorem zr_0_1075 : zOK zPre 0 1075 (s_lcmp (nat_lit 1076)) := ok_lcmp (md := zmd_0) zh_0 (by decide +kernel) rfl
theorem zr_0_1076 : zOK zPre 0 1076 (s_if (nat_lit 0) zi_eq (nat_lit 1081) (nat_lit 1079)) := ok_if_eq (off := 5) (md := zmd_0) zh_0 (by decide +kernel) (by decide +kernel) rfl
theorem zr_0_1081 : zOK zPre 0 1081 (s_go (nat_lit 2913)) := ok_go (off := 1832) (md := zmd_0) zh_0 (by decide +kernel) (by decide +kernel)
theorem zr_0_1084 : zOK zPre 0 1084 (s_ld_1 (nat_lit 1136) (nat_lit 1085)) := zokE (zld_1 _ _) (ok_ld0 (t := 4) (i := 1) (zrow_aload_n (k := 1) (md := zmd_0) zh_0 (by decide +kernel) rfl rfl))
theorem zr_0_1085 : zOK zPre 0 1085 (s_ld_0 (nat_lit 1136) (nat_lit 1086)) := zokE (zld_0 _ _) (ok_ld0 (t := 4) (i := 0) (zrow_aload_n (k := 0) (md := zmd_0) zh_0 (by decide +kernel) rfl rfl))
theorem zr_0_1086 : zOK zPre 0 1086 (s_ld_5 (nat_lit 45067) (nat_lit 1088)) := zokE (zld_5 _ _) (ok_ld0 (t := 0) (i := 5) (zrow_iload (md := zmd_0) zh_0 (by decide +kernel) rfl))
theorem zr_0_1088 : zOK zPre 0 1088 (s_k (nat_lit 16) (nat_lit 1089)) := ok_iconst (n := 1) (md := zmd_0) zh_0 (by decide +kernel) rfl (by decide +kernel)
theorem zr_0_1089 : zOK zPre 0 1089 (s_iadd (nat_lit 1090)) := ok_iadd (md := zmd_0) zh_0 (by decide +kernel) rfl
theorem zr_0_1090 : zOK zPre 0 1090 (s_sld (nat_lit 1091)) := ok_sld (md := zmd_0) zh_0 (by decide +kernel) rfl
theorem zr_0_1091 : zOK zPre 0 1091 (s_ld_0 (nat_lit 1136) (nat_lit 1092)) := zokE (zld_0 _ _) (ok_ld0 (t := 4) (i := 0) (zrow_aload_n (k := 0) (md := zmd_0) zh_0 (by decide +kernel) rfl rfl))
theorem zr_0_1092 : zOK zPre 0 1092 (s_ld_5 (nat_lit 45067) (nat_lit 1094)) := zokE (zld_5 _ _) (ok_ld0 (t := 0) (i := 5) (zrow_iload (md := zmd_0) zh_0 (by decide +kernel) rfl))
theorem zr_0_1094 : zOK zPre 0 1094 (s_k (nat_lit 32) (nat_lit 1095)) := ok_iconst (n := 2) (md := zmd_0) zh_0 (by decide +kernel) rfl (by decide +kernel)
theorem zr_0_1095 : zOK zPre 0 1095 (s_iadd (nat_lit 1096)) := ok_iadd (md := zmd_0) zh_0 (by decide +kernel) rfl
theorem zr_0_1096 : zOK zPre 0 1096 (s_sld (nat_lit 1097)) := ok_sld (md := zmd_0) zh_0 (by decide +kernel) rfl
theorem zr_0_1097 : zOK zPre 0 1097 (s_ld_0 (nat_lit 1136) (nat_lit 1098)) := zokE (zld_0 _ _) (ok_ld0 (t := 4) (i := 0) (zrow_aload_n (k := 0) (md := zmd_0) zh_0 (by decide +kernel) rfl rfl))
theorem zr_0_1098 : zOK zPre 0 1098 (s_ld_5 (nat_lit 45067) (nat_lit 1100)) := zokE (zld_5 _ _) (ok_ld0 (t := 0) (i := 5) (zrow_iload (md := zmd_0) zh_0 (by decide +kernel) rfl))
theorem zr_0_1100 : zOK zPre 0 1100 (s_k (nat_lit 48) (nat_lit 1101)) := ok_iconst (n := 3) (md := zmd_0) zh_0 (by decide +kernel) rfl (by decide +kernel)
theorem zr_0_1101 : zOK zPre 0 1101 (s_iadd (nat_lit 1102)) := ok_iadd (md := zmd_0) zh_0 (by decide +kernel) rfl
theorem zr_0_1102 : zOK zPre 0 1102 (s_sld (nat_lit 1103)) := ok_sld (md := zmd_0) zh_0 (by decide +kernel) rfl
theorem zr_0_1103 : zOK zPre 0 1103 (s_i2c (nat_lit 1104)) := ok_i2c (md := zmd_0) zh_0 (by decide +kernel) rfl
theorem zr_0_1104 : zOK zPre 0 1104 (s_ld_3 (nat_lit 1136) (nat_lit 1105)) := zokE (zld_3 _ _) (ok_ld0 (t := 4) (i := 3) (zrow_aload_n (k := 3) (md := zmd_0) zh_0 (by decide +kernel) rfl rfl))
theorem zr_0_1105 : zOK zPre 0 1105 (s_call (nat_lit 99) (nat_lit 134) (nat_lit 6) (nat_lit 5) (nat_lit 1) [] (nat_lit 1108)) := ok_call (md := zmd_0) zh_0 zh_134 rfl (by decide) (by decide) (Or.inl rfl) zp_134 (zrow_callSX (mdc := zmd_134) (index := 195) (md := zmd_0) zh_0 (by decide +kernel) rfl rfl zc_134 zw_4_141 zw_4_142 zw_1_0 zd_134) trivial
theorem zr_0_1108 : zOK zPre 0 1108 (s_s1 (nat_lit 45067) (nat_lit 6) (nat_lit 1110)) := ok_s10 (t := 0) (i := 6) (zrow_istore (md := zmd_0) zh_0 (by decide +kernel) rfl)
theorem zr_0_1110 : zOK zPre 0 1110 (s_ld_2 (nat_lit 1136) (nat_lit 1111)) := zokE (zld_2 _ _) (ok_ld0 (t := 4) (i := 2) (zrow_aload_n (k := 2) (md := zmd_0) zh_0 (by decide +kernel) rfl rfl))
theorem zr_0_1111 : zOK zPre 0 1111 (s_ld_0 (nat_lit 1136) (nat_lit 1112)) := zokE (zld_0 _ _) (ok_ld0 (t := 4) (i := 0) (zrow_aload_n (k := 0) (md := zmd_0) zh_0 (by decide +kernel) rfl rfl))
theorem zr_0_1112 : zOK zPre 0 1112 (s_ld_5 (nat_lit 45067) (nat_lit 1114)) := zokE (zld_5 _ _) (ok_ld0 (t := 0) (i := 5) (zrow_iload (md := zmd_0) zh_0 (by decide +kernel) rfl))
theorem zr_0_1114 : zOK zPre 0 1114 (s_k (nat_lit 16) (nat_lit 1115)) := ok_iconst (n := 1) (md := zmd_0) zh_0 (by decide +kernel) rfl (by decide +kernel)
theorem zr_0_1115 : zOK zPre 0 1115 (s_iadd (nat_lit 1116)) := ok_iadd (md := zmd_0) zh_0 (by decide +kernel) rfl
theorem zr_0_1116 : zOK zPre 0 1116 (s_sld (nat_lit 1117)) := ok_sld (md := zmd_0) zh_0 (by decide +kernel) rfl
theorem zr_0_1117 : zOK zPre 0 1117 (s_ld_0 (nat_lit 1136) (nat_lit 1118)) := zokE (zld_0 _ _) (ok_ld0 (t := 4) (i := 0) (zrow_aload_n (k := 0) (md := zmd_0) zh_0 (by decide +kernel) rfl rfl))
theorem zr_0_1118 : zOK zPre 0 1118 (s_ld_5 (nat_lit 45067) (nat_lit 1120)) := zokE (zld_5 _ _) (ok_ld0 (t := 0) (i := 5) (zrow_iload (md := zmd_0) zh_0 (by decide +kernel) rfl))
theorem zr_0_1120 : zOK zPre 0 1120 (s_k (nat_lit 32) (nat_lit 1121)) := ok_iconst (n := 2) (md := zmd_0) zh_0 (by decide +kernel) rfl (by decide +kernel)
theorem zr_0_1121 : zOK zPre 0 1121 (s_iadd (nat_lit 1122)) := ok_iadd (md := zmd_0) zh_0 (by decide +kernel) rfl
theorem zr_0_1122 : zOK zPre 0 1122 (s_sld (nat_lit 1123)) := ok_sld (md := zmd_0) zh_0 (by decide +kernel) rfl
theorem zr_0_1123 : zOK zPre 0 1123 (s_ld_0 (nat_lit 1136) (nat_lit 1124)) := zokE (zld_0 _ _) (ok_ld0 (t := 4) (i := 0) (zrow_aload_n (k := 0) (md := zmd_0) zh_0 (by decide +kernel) rfl rfl))
theorem zr_0_1124 : zOK zPre 0 1124 (s_ld_5 (nat_lit 45067) (nat_lit 1126)) := zokE (zld_5 _ _) (ok_ld0 (t := 0) (i := 5) (zrow_iload (md := zmd_0) zh_0 (by decide +kernel) rfl))
theorem zr_0_1126 : zOK zPre 0 1126 (s_k (nat_lit 48) (nat_lit 1127)) := ok_iconst (n := 3) (md := zmd_0) zh_0 (by decide +kernel) rfl (by decide +kernel)
theorem zr_0_1127 : zOK zPre 0 1127 (s_iadd (nat_lit 1128)) := ok_iadd (md := zmd_0) zh_0 (by decide +kernel) rfl
theorem zr_0_1128 : zOK zPre 0 1128 (s_sld (nat_lit 1129)) := ok_sld (md := zmd_0) zh_0 (by decide +kernel) rfl
theorem zr_0_1129 : zOK zPre 0 1129 (s_i2c (nat_lit 1130)) := ok_i2c (md := zmd_0) zh_0 (by decide +kernel) rfl
theorem zr_0_1130 : zOK zPre 0 1130 (s_call (nat_lit 10) (nat_lit 137) (nat_lit 9) (nat_lit 4) (nat_lit 1) [] (nat_lit 1133)) := ok_call (md := zmd_0) zh_0 zh_137 rfl (by decide) (by decide) (Or.inr (by decide)) zp_137 (zrow_callV (mdc := zmd_137) (index := 198) (md := zmd_0) zh_0 (by decide +kernel) rfl rfl zc_137 rfl (by decide) zw_8_131 zw_8_132 zw_8_133 zw_1_10 zd_137) trivial
theorem zr_0_1133 : zOK zPre 0 1133 (s_s1 (nat_lit 45067) (nat_lit 7) (nat_lit 1135)) := ok_s10 (t := 0) (i := 7) (zrow_istore (md := zmd_0) zh_0 (by decide +kernel) rfl)
theorem zr_0_1135 : zOK zPre 0 1135 (s_ld_2 (nat_lit 1136) (nat_lit 1136)) := zokE (zld_2 _ _) (ok_ld0 (t := 4) (i := 2) (zrow_aload_n (k := 2) (md := zmd_0) zh_0 (by decide +kernel) rfl rfl))
theorem zr_0_1136 : zOK zPre 0 1136 (s_call (nat_lit 10) (nat_lit 39) (nat_lit 1) (nat_lit 1) (nat_lit 1) [] (nat_lit 1139)) := ok_call (md := zmd_0) zh_0 zh_39 rfl (by decide) (by decide) (Or.inr (by decide)) zp_39 (zrow_callV (mdc := zmd_39) (index := 155) (md := zmd_0) zh_0 (by decide +kernel) rfl rfl zc_39 rfl (by decide) zw_7_66 zw_7_67 zw_7_68 zw_1_10 zd_39) trivial
theorem zr_0_1139 : zOK zPre 0 1139 (s_ld (nat_lit 45067) (nat_lit 6) (nat_lit 1141)) := ok_ld0 (t := 0) (i := 6) (zrow_iload (md := zmd_0) zh_0 (by decide +kernel) rfl)
theorem zr_0_1141 : zOK zPre 0 1141 (s_ic (nat_lit 0) zu_eq (nat_lit 1146) (nat_lit 1144)) := ok_ic_eq (off := 5) (md := zmd_0) zh_0 (by decide +kernel) (by decide +kernel) rfl
theorem zr_0_1146 : zOK zPre 0 1146 (s_ld (nat_lit 45067) (nat_lit 6) (nat_lit 1148)) := ok_ld0 (t := 0) (i := 6) (zrow_iload (md := zmd_0) zh_0 (by decide +kernel) rfl)
theorem zr_0_1148 : zOK zPre 0 1148 (s_if (nat_lit 1) zi_ne (nat_lit 1163) (nat_lit 1151)) := ok_if_ne (off := 15) (md := zmd_0) zh_0 (by decide +kernel) (by decide +kernel) rfl
theorem zr_0_1151 : zOK zPre 0 1151 (s_ld_3 (nat_lit 1136) (nat_lit 1152)) := zokE (zld_3 _ _) (ok_ld0 (t := 4) (i := 3) (zrow_aload_n (k := 3) (md := zmd_0) zh_0 (by decide +kernel) rfl rfl))
theorem zr_0_1152 : zOK zPre 0 1152 (s_k (nat_lit 0) (nat_lit 1153)) := ok_iconst (n := 0) (md := zmd_0) zh_0 (by decide +kernel) rfl (by decide +kernel)
theorem zr_0_1153 : zOK zPre 0 1153 (s_ald (nat_lit 21) (nat_lit 21) (nat_lit 1154)) := ok_ald0 (by decide) (by decide) (by decide) (zrow_laload (md := zmd_0) zh_0 (by decide +kernel) rfl)
theorem zr_0_1154 : zOK zPre 0 1154 (s_ld (nat_lit 45067) (nat_lit 7) (nat_lit 1156)) := ok_ld0 (t := 0) (i := 7) (zrow_iload (md := zmd_0) zh_0 (by decide +kernel) rfl)
theorem zr_0_1156 : zOK zPre 0 1156 (s_i2l (nat_lit 1157)) := ok_i2l (md := zmd_0) zh_0 (by decide +kernel) rfl
theorem zr_0_1157 : zOK zPre 0 1157 (s_lcmp (nat_lit 1158)) := ok_lcmp (md := zmd_0) zh_0 (by decide +kernel) rfl
theorem zr_0_1158 : zOK zPre 0 1158 (s_if (nat_lit 0) zi_eq (nat_lit 1163) (nat_lit 1161)) := ok_if_eq (off := 5) (md := zmd_0) zh_0 (by decide +kernel) (by decide +kernel) rfl
theorem zr_0_1163 : zOK zPre 0 1163 (s_go (nat_lit 2913)) := ok_go (off := 1750) (md := zmd_0) zh_0 (by decide +kernel) (by decide +kernel)
theorem zr_0_1166 : zOK zPre 0 1166 (s_ld_1 (nat_lit 1136) (nat_lit 1167)) := zokE (zld_1 _ _) (ok_ld0 (t := 4) (i := 1) (zrow_aload_n (k := 1) (md := zmd_0) zh_0 (by decide +kernel) rfl rfl))
theorem zr_0_1167 : zOK zPre 0 1167 (s_ld_0 (nat_lit 1136) (nat_lit 1168)) := zokE (zld_0 _ _) (ok_ld0 (t := 4) (i := 0) (zrow_aload_n (k := 0) (md := zmd_0) zh_0 (by decide +kernel) rfl rfl))
theorem zr_0_1168 : zOK zPre 0 1168 (s_ld_5 (nat_lit 45067) (nat_lit 1170)) := zokE (zld_5 _ _) (ok_ld0 (t := 0) (i := 5) (zrow_iload (md := zmd_0) zh_0 (by decide +kernel) rfl))
theorem zr_0_1170 : zOK zPre 0 1170 (s_k (nat_lit 16) (nat_lit 1171)) := ok_iconst (n := 1) (md := zmd_0) zh_0 (by decide +kernel) rfl (by decide +kernel)
theorem zr_0_1171 : zOK zPre 0 1171 (s_iadd (nat_lit 1172)) := ok_iadd (md := zmd_0) zh_0 (by decide +kernel) rfl
theorem zr_0_1172 : zOK zPre 0 1172 (s_sld (nat_lit 1173)) := ok_sld (md := zmd_0) zh_0 (by decide +kernel) rfl
theorem zr_0_1173 : zOK zPre 0 1173 (s_ld_0 (nat_lit 1136) (nat_lit 1174)) := zokE (zld_0 _ _) (ok_ld0 (t := 4) (i := 0) (zrow_aload_n (k := 0) (md := zmd_0) zh_0 (by decide +kernel) rfl rfl))
theorem zr_0_1174 : zOK zPre 0 1174 (s_ld_5 (nat_lit 45067) (nat_lit 1176)) := zokE (zld_5 _ _) (ok_ld0 (t := 0) (i := 5) (zrow_iload (md := zmd_0) zh_0 (by decide +kernel) rfl))
theorem zr_0_1176 : zOK zPre 0 1176 (s_k (nat_lit 32) (nat_lit 1177)) := ok_iconst (n := 2) (md := zmd_0) zh_0 (by decide +kernel) rfl (by decide +kernel)
theorem zr_0_1177 : zOK zPre 0 1177 (s_iadd (nat_lit 1178)) := ok_iadd (md := zmd_0) zh_0 (by decide +kernel) rfl
theorem zr_0_1178 : zOK zPre 0 1178 (s_sld (nat_lit 1179)) := ok_sld (md := zmd_0) zh_0 (by decide +kernel) rfl
theorem zr_0_1179 : zOK zPre 0 1179 (s_ld_0 (nat_lit 1136) (nat_lit 1180)) := zokE (zld_0 _ _) (ok_ld0 (t := 4) (i := 0) (zrow_aload_n (k := 0) (md := zmd_0) zh_0 (by decide +kernel) rfl rfl))
theorem zr_0_1180 : zOK zPre 0 1180 (s_ld_5 (nat_lit 45067) (nat_lit 1182)) := zokE (zld_5 _ _) (ok_ld0 (t := 0) (i := 5) (zrow_iload (md := zmd_0) zh_0 (by decide +kernel) rfl))
theorem zr_0_1182 : zOK zPre 0 1182 (s_k (nat_lit 48) (nat_lit 1183)) := ok_iconst (n := 3) (md := zmd_0) zh_0 (by decide +kernel) rfl (by decide +kernel)
theorem zr_0_1183 : zOK zPre 0 1183 (s_iadd (nat_lit 1184)) := ok_iadd (md := zmd_0) zh_0 (by decide +kernel) rfl
theorem zr_0_1184 : zOK zPre 0 1184 (s_sld (nat_lit 1185)) := ok_sld (md := zmd_0) zh_0 (by decide +kernel) rfl
theorem zr_0_1185 : zOK zPre 0 1185 (s_ld_3 (nat_lit 1136) (nat_lit 1186)) := zokE (zld_3 _ _) (ok_ld0 (t := 4) (i := 3) (zrow_aload_n (k := 3) (md := zmd_0) zh_0 (by decide +kernel) rfl rfl))
theorem zr_0_1186 : zOK zPre 0 1186 (s_call (nat_lit 99) (nat_lit 138) (nat_lit 6) (nat_lit 5) (nat_lit 1) [] (nat_lit 1189)) := ok_call (md := zmd_0) zh_0 zh_138 rfl (by decide) (by decide) (Or.inl rfl) zp_138 (zrow_callSX (mdc := zmd_138) (index := 199) (md := zmd_0) zh_0 (by decide +kernel) rfl rfl zc_138 zw_4_150 zw_4_151 zw_1_0 zd_138) trivial
theorem zr_0_1189 : zOK zPre 0 1189 (s_s1 (nat_lit 45067) (nat_lit 6) (nat_lit 1191)) := ok_s10 (t := 0) (i := 6) (zrow_istore (md := zmd_0) zh_0 (by decide +kernel) rfl)
theorem zr_0_1191 : zOK zPre 0 1191 (s_ld_2 (nat_lit 1136) (nat_lit 1192)) := zokE (zld_2 _ _) (ok_ld0 (t := 4) (i := 2) (zrow_aload_n (k := 2) (md := zmd_0) zh_0 (by decide +kernel) rfl rfl))
theorem zr_0_1192 : zOK zPre 0 1192 (s_ld_0 (nat_lit 1136) (nat_lit 1193)) := zokE (zld_0 _ _) (ok_ld0 (t := 4) (i := 0) (zrow_aload_n (k := 0) (md := zmd_0) zh_0 (by decide +kernel) rfl rfl))
theorem zr_0_1193 : zOK zPre 0 1193 (s_ld_5 (nat_lit 45067) (nat_lit 1195)) := zokE (zld_5 _ _) (ok_ld0 (t := 0) (i := 5) (zrow_iload (md := zmd_0) zh_0 (by decide +kernel) rfl))
theorem zr_0_1195 : zOK zPre 0 1195 (s_k (nat_lit 16) (nat_lit 1196)) := ok_iconst (n := 1) (md := zmd_0) zh_0 (by decide +kernel) rfl (by decide +kernel)
theorem zr_0_1196 : zOK zPre 0 1196 (s_iadd (nat_lit 1197)) := ok_iadd (md := zmd_0) zh_0 (by decide +kernel) rfl
theorem zr_0_1197 : zOK zPre 0 1197 (s_sld (nat_lit 1198)) := ok_sld (md := zmd_0) zh_0 (by decide +kernel) rfl
theorem zr_0_1198 : zOK zPre 0 1198 (s_ld_0 (nat_lit 1136) (nat_lit 1199)) := zokE (zld_0 _ _) (ok_ld0 (t := 4) (i := 0) (zrow_aload_n (k := 0) (md := zmd_0) zh_0 (by decide +kernel) rfl rfl))
theorem zr_0_1199 : zOK zPre 0 1199 (s_ld_5 (nat_lit 45067) (nat_lit 1201)) := zokE (zld_5 _ _) (ok_ld0 (t := 0) (i := 5) (zrow_iload (md := zmd_0) zh_0 (by decide +kernel) rfl))
theorem zr_0_1201 : zOK zPre 0 1201 (s_k (nat_lit 32) (nat_lit 1202)) := ok_iconst (n := 2) (md := zmd_0) zh_0 (by decide +kernel) rfl (by decide +kernel)
theorem zr_0_1202 : zOK zPre 0 1202 (s_iadd (nat_lit 1203)) := ok_iadd (md := zmd_0) zh_0 (by decide +kernel) rfl
theorem zr_0_1203 : zOK zPre 0 1203 (s_sld (nat_lit 1204)) := ok_sld (md := zmd_0) zh_0 (by decide +kernel) rfl
theorem zr_0_1204 : zOK zPre 0 1204 (s_ld_0 (nat_lit 1136) (nat_lit 1205)) := zokE (zld_0 _ _) (ok_ld0 (t := 4) (i := 0) (zrow_aload_n (k := 0) (md := zmd_0) zh_0 (by decide +kernel) rfl rfl))
theorem zr_0_1205 : zOK zPre 0 1205 (s_ld_5 (nat_lit 45067) (nat_lit 1207)) := zokE (zld_5 _ _) (ok_ld0 (t := 0) (i := 5) (zrow_iload (md := zmd_0) zh_0 (by decide +kernel) rfl))
theorem zr_0_1207 : zOK zPre 0 1207 (s_k (nat_lit 48) (nat_lit 1208)) := ok_iconst (n := 3) (md := zmd_0) zh_0 (by decide +kernel) rfl (by decide +kernel)
theorem zr_0_1208 : zOK zPre 0 1208 (s_iadd (nat_lit 1209)) := ok_iadd (md := zmd_0) zh_0 (by decide +kernel) rfl
theorem zr_0_1209 : zOK zPre 0 1209 (s_sld (nat_lit 1210)) := ok_sld (md := zmd_0) zh_0 (by decide +kernel) rfl
theorem zr_0_1210 : zOK zPre 0 1210 (s_call (nat_lit 10) (nat_lit 141) (nat_lit 5) (nat_lit 4) (nat_lit 1) [] (nat_lit 1213)) := ok_call (md := zmd_0) zh_0 zh_141 rfl (by decide) (by decide) (Or.inr (by decide)) zp_141 (zrow_callV (mdc := zmd_141) (index := 201) (md := zmd_0) zh_0 (by decide +kernel) rfl rfl zc_141 rfl (by decide) zw_8_137 zw_8_138 zw_8_139 zw_1_10 zd_141) trivial
theorem zr_0_1213 : zOK zPre 0 1213 (s_s1 (nat_lit 45067) (nat_lit 7) (nat_lit 1215)) := ok_s10 (t := 0) (i := 7) (zrow_istore (md := zmd_0) zh_0 (by decide +kernel) rfl)
theorem zr_0_1215 : zOK zPre 0 1215 (s_ld_2 (nat_lit 1136) (nat_lit 1216)) := zokE (zld_2 _ _) (ok_ld0 (t := 4) (i := 2) (zrow_aload_n (k := 2) (md := zmd_0) zh_0 (by decide +kernel) rfl rfl))
theorem zr_0_1216 : zOK zPre 0 1216 (s_call (nat_lit 10) (nat_lit 39) (nat_lit 1) (nat_lit 1) (nat_lit 1) [] (nat_lit 1219)) := ok_call (md := zmd_0) zh_0 zh_39 rfl (by decide) (by decide) (Or.inr (by decide)) zp_39 (zrow_callV (mdc := zmd_39) (index := 155) (md := zmd_0) zh_0 (by decide +kernel) rfl rfl zc_39 rfl (by decide) zw_7_66 zw_7_67 zw_7_68 zw_1_10 zd_39) trivial
theorem zr_0_1219 : zOK zPre 0 1219 (s_ld (nat_lit 45067) (nat_lit 6) (nat_lit 1221)) := ok_ld0 (t := 0) (i := 6) (zrow_iload (md := zmd_0) zh_0 (by decide +kernel) rfl)
theorem zr_0_1221 : zOK zPre 0 1221 (s_ic (nat_lit 0) zu_eq (nat_lit 1226) (nat_lit 1224)) := ok_ic_eq (off := 5) (md := zmd_0) zh_0 (by decide +kernel) (by decide +kernel) rfl
theorem zr_0_1226 : zOK zPre 0 1226 (s_ld (nat_lit 45067) (nat_lit 6) (nat_lit 1228)) := ok_ld0 (t := 0) (i := 6) (zrow_iload (md := zmd_0) zh_0 (by decide +kernel) rfl)
theorem zr_0_1228 : zOK zPre 0 1228 (s_if (nat_lit 1) zi_ne (nat_lit 1243) (nat_lit 1231)) := ok_if_ne (off := 15) (md := zmd_0) zh_0 (by decide +kernel) (by decide +kernel) rfl
theorem zr_0_1231 : zOK zPre 0 1231 (s_ld_3 (nat_lit 1136) (nat_lit 1232)) := zokE (zld_3 _ _) (ok_ld0 (t := 4) (i := 3) (zrow_aload_n (k := 3) (md := zmd_0) zh_0 (by decide +kernel) rfl rfl))
theorem zr_0_1232 : zOK zPre 0 1232 (s_k (nat_lit 0) (nat_lit 1233)) := ok_iconst (n := 0) (md := zmd_0) zh_0 (by decide +kernel) rfl (by decide +kernel)
theorem zr_0_1233 : zOK zPre 0 1233 (s_ald (nat_lit 21) (nat_lit 21) (nat_lit 1234)) := ok_ald0 (by decide) (by decide) (by decide) (zrow_laload (md := zmd_0) zh_0 (by decide +kernel) rfl)
theorem zr_0_1234 : zOK zPre 0 1234 (s_ld (nat_lit 45067) (nat_lit 7) (nat_lit 1236)) := ok_ld0 (t := 0) (i := 7) (zrow_iload (md := zmd_0) zh_0 (by decide +kernel) rfl)
theorem zr_0_1236 : zOK zPre 0 1236 (s_i2l (nat_lit 1237)) := ok_i2l (md := zmd_0) zh_0 (by decide +kernel) rfl
theorem zr_0_1237 : zOK zPre 0 1237 (s_lcmp (nat_lit 1238)) := ok_lcmp (md := zmd_0) zh_0 (by decide +kernel) rfl
theorem zr_0_1238 : zOK zPre 0 1238 (s_if (nat_lit 0) zi_eq (nat_lit 1243) (nat_lit 1241)) := ok_if_eq (off := 5) (md := zmd_0) zh_0 (by decide +kernel) (by decide +kernel) rfl
theorem zr_0_1243 : zOK zPre 0 1243 (s_go (nat_lit 2913)) := ok_go (off := 1670) (md := zmd_0) zh_0 (by decide +kernel) (by decide +kernel)
theorem zr_0_1246 : zOK zPre 0 1246 (s_ld_1 (nat_lit 1136) (nat_lit 1247)) := zokE (zld_1 _ _) (ok_ld0 (t := 4) (i := 1) (zrow_aload_n (k := 1) (md := zmd_0) zh_0 (by decide +kernel) rfl rfl))
theorem zr_0_1247 : zOK zPre 0 1247 (s_ld_0 (nat_lit 1136) (nat_lit 1248)) := zokE (zld_0 _ _) (ok_ld0 (t := 4) (i := 0) (zrow_aload_n (k := 0) (md := zmd_0) zh_0 (by decide +kernel) rfl rfl))
theorem zr_0_1248 : zOK zPre 0 1248 (s_ld_5 (nat_lit 45067) (nat_lit 1250)) := zokE (zld_5 _ _) (ok_ld0 (t := 0) (i := 5) (zrow_iload (md := zmd_0) zh_0 (by decide +kernel) rfl))
theorem zr_0_1250 : zOK zPre 0 1250 (s_k (nat_lit 16) (nat_lit 1251)) := ok_iconst (n := 1) (md := zmd_0) zh_0 (by decide +kernel) rfl (by decide +kernel)
theorem zr_0_1251 : zOK zPre 0 1251 (s_iadd (nat_lit 1252)) := ok_iadd (md := zmd_0) zh_0 (by decide +kernel) rfl
theorem zr_0_1252 : zOK zPre 0 1252 (s_sld (nat_lit 1253)) := ok_sld (md := zmd_0) zh_0 (by decide +kernel) rfl
theorem zr_0_1253 : zOK zPre 0 1253 (s_ld_0 (nat_lit 1136) (nat_lit 1254)) := zokE (zld_0 _ _) (ok_ld0 (t := 4) (i := 0) (zrow_aload_n (k := 0) (md := zmd_0) zh_0 (by decide +kernel) rfl rfl))
theorem zr_0_1254 : zOK zPre 0 1254 (s_ld_5 (nat_lit 45067) (nat_lit 1256)) := zokE (zld_5 _ _) (ok_ld0 (t := 0) (i := 5) (zrow_iload (md := zmd_0) zh_0 (by decide +kernel) rfl))
theorem zr_0_1256 : zOK zPre 0 1256 (s_k (nat_lit 32) (nat_lit 1257)) := ok_iconst (n := 2) (md := zmd_0) zh_0 (by decide +kernel) rfl (by decide +kernel)
theorem zr_0_1257 : zOK zPre 0 1257 (s_iadd (nat_lit 1258)) := ok_iadd (md := zmd_0) zh_0 (by decide +kernel) rfl
theorem zr_0_1258 : zOK zPre 0 1258 (s_sld (nat_lit 1259)) := ok_sld (md := zmd_0) zh_0 (by decide +kernel) rfl
theorem zr_0_1259 : zOK zPre 0 1259 (s_ld_0 (nat_lit 1136) (nat_lit 1260)) := zokE (zld_0 _ _) (ok_ld0 (t := 4) (i := 0) (zrow_aload_n (k := 0) (md := zmd_0) zh_0 (by decide +kernel) rfl rfl))
theorem zr_0_1260 : zOK zPre 0 1260 (s_ld_5 (nat_lit 45067) (nat_lit 1262)) := zokE (zld_5 _ _) (ok_ld0 (t := 0) (i := 5) (zrow_iload (md := zmd_0) zh_0 (by decide +kernel) rfl))
theorem zr_0_1262 : zOK zPre 0 1262 (s_k (nat_lit 48) (nat_lit 1263)) := ok_iconst (n := 3) (md := zmd_0) zh_0 (by decide +kernel) rfl (by decide +kernel)
theorem zr_0_1263 : zOK zPre 0 1263 (s_iadd (nat_lit 1264)) := ok_iadd (md := zmd_0) zh_0 (by decide +kernel) rfl
theorem zr_0_1264 : zOK zPre 0 1264 (s_sld (nat_lit 1265)) := ok_sld (md := zmd_0) zh_0 (by decide +kernel) rfl
theorem zr_0_1265 : zOK zPre 0 1265 (s_ld_0 (nat_lit 1136) (nat_lit 1266)) := zokE (zld_0 _ _) (ok_ld0 (t := 4) (i := 0) (zrow_aload_n (k := 0) (md := zmd_0) zh_0 (by decide +kernel) rfl rfl))
theorem zr_0_1266 : zOK zPre 0 1266 (s_ld_5 (nat_lit 45067) (nat_lit 1268)) := zokE (zld_5 _ _) (ok_ld0 (t := 0) (i := 5) (zrow_iload (md := zmd_0) zh_0 (by decide +kernel) rfl))
theorem zr_0_1268 : zOK zPre 0 1268 (s_k (nat_lit 64) (nat_lit 1269)) := ok_iconst (n := 4) (md := zmd_0) zh_0 (by decide +kernel) rfl (by decide +kernel)
theorem zr_0_1269 : zOK zPre 0 1269 (s_iadd (nat_lit 1270)) := ok_iadd (md := zmd_0) zh_0 (by decide +kernel) rfl
theorem zr_0_1270 : zOK zPre 0 1270 (s_sld (nat_lit 1271)) := ok_sld (md := zmd_0) zh_0 (by decide +kernel) rfl
theorem zr_0_1271 : zOK zPre 0 1271 (s_ld_3 (nat_lit 1136) (nat_lit 1272)) := zokE (zld_3 _ _) (ok_ld0 (t := 4) (i := 3) (zrow_aload_n (k := 3) (md := zmd_0) zh_0 (by decide +kernel) rfl rfl))
theorem zr_0_1272 : zOK zPre 0 1272 (s_call (nat_lit 99) (nat_lit 142) (nat_lit 7) (nat_lit 6) (nat_lit 1) [] (nat_lit 1275)) := ok_call (md := zmd_0) zh_0 zh_142 rfl (by decide) (by decide) (Or.inl rfl) zp_142 (zrow_callSX (mdc := zmd_142) (index := 202) (md := zmd_0) zh_0 (by decide +kernel) rfl rfl zc_142 zw_4_158 zw_4_159 zw_1_0 zd_142) trivial
theorem zr_0_1275 : zOK zPre 0 1275 (s_s1 (nat_lit 45067) (nat_lit 6) (nat_lit 1277)) := ok_s10 (t := 0) (i := 6) (zrow_istore (md := zmd_0) zh_0 (by decide +kernel) rfl)
theorem zr_0_1277 : zOK zPre 0 1277 (s_ld_2 (nat_lit 1136) (nat_lit 1278)) := zokE (zld_2 _ _) (ok_ld0 (t := 4) (i := 2) (zrow_aload_n (k := 2) (md := zmd_0) zh_0 (by decide +kernel) rfl rfl))
theorem zr_0_1278 : zOK zPre 0 1278 (s_ld_0 (nat_lit 1136) (nat_lit 1279)) := zokE (zld_0 _ _) (ok_ld0 (t := 4) (i := 0) (zrow_aload_n (k := 0) (md := zmd_0) zh_0 (by decide +kernel) rfl rfl))
theorem zr_0_1279 : zOK zPre 0 1279 (s_ld_5 (nat_lit 45067) (nat_lit 1281)) := zokE (zld_5 _ _) (ok_ld0 (t := 0) (i := 5) (zrow_iload (md := zmd_0) zh_0 (by decide +kernel) rfl))
theorem zr_0_1281 : zOK zPre 0 1281 (s_k (nat_lit 16) (nat_lit 1282)) := ok_iconst (n := 1) (md := zmd_0) zh_0 (by decide +kernel) rfl (by decide +kernel)
theorem zr_0_1282 : zOK zPre 0 1282 (s_iadd (nat_lit 1283)) := ok_iadd (md := zmd_0) zh_0 (by decide +kernel) rfl
theorem zr_0_1283 : zOK zPre 0 1283 (s_sld (nat_lit 1284)) := ok_sld (md := zmd_0) zh_0 (by decide +kernel) rfl
theorem zr_0_1284 : zOK zPre 0 1284 (s_ld_0 (nat_lit 1136) (nat_lit 1285)) := zokE (zld_0 _ _) (ok_ld0 (t := 4) (i := 0) (zrow_aload_n (k := 0) (md := zmd_0) zh_0 (by decide +kernel) rfl rfl))
theorem zr_0_1285 : zOK zPre 0 1285 (s_ld_5 (nat_lit 45067) (nat_lit 1287)) := zokE (zld_5 _ _) (ok_ld0 (t := 0) (i := 5) (zrow_iload (md := zmd_0) zh_0 (by decide +kernel) rfl))
theorem zr_0_1287 : zOK zPre 0 1287 (s_k (nat_lit 32) (nat_lit 1288)) := ok_iconst (n := 2) (md := zmd_0) zh_0 (by decide +kernel) rfl (by decide +kernel)
theorem zr_0_1288 : zOK zPre 0 1288 (s_iadd (nat_lit 1289)) := ok_iadd (md := zmd_0) zh_0 (by decide +kernel) rfl
theorem zr_0_1289 : zOK zPre 0 1289 (s_sld (nat_lit 1290)) := ok_sld (md := zmd_0) zh_0 (by decide +kernel) rfl
theorem zr_0_1290 : zOK zPre 0 1290 (s_ld_0 (nat_lit 1136) (nat_lit 1291)) := zokE (zld_0 _ _) (ok_ld0 (t := 4) (i := 0) (zrow_aload_n (k := 0) (md := zmd_0) zh_0 (by decide +kernel) rfl rfl))
theorem zr_0_1291 : zOK zPre 0 1291 (s_ld_5 (nat_lit 45067) (nat_lit 1293)) := zokE (zld_5 _ _) (ok_ld0 (t := 0) (i := 5) (zrow_iload (md := zmd_0) zh_0 (by decide +kernel) rfl))
theorem zr_0_1293 : zOK zPre 0 1293 (s_k (nat_lit 48) (nat_lit 1294)) := ok_iconst (n := 3) (md := zmd_0) zh_0 (by decide +kernel) rfl (by decide +kernel)
theorem zr_0_1294 : zOK zPre 0 1294 (s_iadd (nat_lit 1295)) := ok_iadd (md := zmd_0) zh_0 (by decide +kernel) rfl
theorem zr_0_1295 : zOK zPre 0 1295 (s_sld (nat_lit 1296)) := ok_sld (md := zmd_0) zh_0 (by decide +kernel) rfl
theorem zr_0_1296 : zOK zPre 0 1296 (s_ld_0 (nat_lit 1136) (nat_lit 1297)) := zokE (zld_0 _ _) (ok_ld0 (t := 4) (i := 0) (zrow_aload_n (k := 0) (md := zmd_0) zh_0 (by decide +kernel) rfl rfl))
theorem zr_0_1297 : zOK zPre 0 1297 (s_ld_5 (nat_lit 45067) (nat_lit 1299)) := zokE (zld_5 _ _) (ok_ld0 (t := 0) (i := 5) (zrow_iload (md := zmd_0) zh_0 (by decide +kernel) rfl))
theorem zr_0_1299 : zOK zPre 0 1299 (s_k (nat_lit 64) (nat_lit 1300)) := ok_iconst (n := 4) (md := zmd_0) zh_0 (by decide +kernel) rfl (by decide +kernel)
theorem zr_0_1300 : zOK zPre 0 1300 (s_iadd (nat_lit 1301)) := ok_iadd (md := zmd_0) zh_0 (by decide +kernel) rfl
theorem zr_0_1301 : zOK zPre 0 1301 (s_sld (nat_lit 1302)) := ok_sld (md := zmd_0) zh_0 (by decide +kernel) rfl
theorem zr_0_1302 : zOK zPre 0 1302 (s_call (nat_lit 10) (nat_lit 144) (nat_lit 6) (nat_lit 5) (nat_lit 1) [] (nat_lit 1305)) := ok_call (md := zmd_0) zh_0 zh_144 rfl (by decide) (by decide) (Or.inr (by decide)) zp_144 (zrow_callV (mdc := zmd_144) (index := 205) (md := zmd_0) zh_0 (by decide +kernel) rfl rfl zc_144 rfl (by decide) zw_8_142 zw_8_143 zw_8_144 zw_1_10 zd_144) trivial
theorem zr_0_1305 : zOK zPre 0 1305 (s_s1 (nat_lit 45067) (nat_lit 7) (nat_lit 1307)) := ok_s10 (t := 0) (i := 7) (zrow_istore (md := zmd_0) zh_0 (by decide +kernel) rfl)
theorem zr_0_1307 : zOK zPre 0 1307 (s_ld_2 (nat_lit 1136) (nat_lit 1308)) := zokE (zld_2 _ _) (ok_ld0 (t := 4) (i := 2) (zrow_aload_n (k := 2) (md := zmd_0) zh_0 (by decide +kernel) rfl rfl))
theorem zr_0_1308 : zOK zPre 0 1308 (s_call (nat_lit 10) (nat_lit 39) (nat_lit 1) (nat_lit 1) (nat_lit 1) [] (nat_lit 1311)) := ok_call (md := zmd_0) zh_0 zh_39 rfl (by decide) (by decide) (Or.inr (by decide)) zp_39 (zrow_callV (mdc := zmd_39) (index := 155) (md := zmd_0) zh_0 (by decide +kernel) rfl rfl zc_39 rfl (by decide) zw_7_66 zw_7_67 zw_7_68 zw_1_10 zd_39) trivial
theorem zr_0_1311 : zOK zPre 0 1311 (s_ld (nat_lit 45067) (nat_lit 6) (nat_lit 1313)) := ok_ld0 (t := 0) (i := 6) (zrow_iload (md := zmd_0) zh_0 (by decide +kernel) rfl)
theorem zr_0_1313 : zOK zPre 0 1313 (s_ic (nat_lit 0) zu_eq (nat_lit 1318) (nat_lit 1316)) := ok_ic_eq (off := 5) (md := zmd_0) zh_0 (by decide +kernel) (by decide +kernel) rfl
theorem zr_0_1318 : zOK zPre 0 1318 (s_ld (nat_lit 45067) (nat_lit 6) (nat_lit 1320)) := ok_ld0 (t := 0) (i := 6) (zrow_iload (md := zmd_0) zh_0 (by decide +kernel) rfl)
theorem zr_0_1320 : zOK zPre 0 1320 (s_if (nat_lit 1) zi_ne (nat_lit 1335) (nat_lit 1323)) := ok_if_ne (off := 15) (md := zmd_0) zh_0 (by decide +kernel) (by decide +kernel) rfl
theorem zr_0_1335 : zOK zPre 0 1335 (s_go (nat_lit 2913)) := ok_go (off := 1578) (md := zmd_0) zh_0 (by decide +kernel) (by decide +kernel)
theorem zr_0_1338 : zOK zPre 0 1338 (s_ld_1 (nat_lit 1136) (nat_lit 1339)) := zokE (zld_1 _ _) (ok_ld0 (t := 4) (i := 1) (zrow_aload_n (k := 1) (md := zmd_0) zh_0 (by decide +kernel) rfl rfl))
theorem zr_0_1339 : zOK zPre 0 1339 (s_ld_0 (nat_lit 1136) (nat_lit 1340)) := zokE (zld_0 _ _) (ok_ld0 (t := 4) (i := 0) (zrow_aload_n (k := 0) (md := zmd_0) zh_0 (by decide +kernel) rfl rfl))
theorem zr_0_1340 : zOK zPre 0 1340 (s_ld_5 (nat_lit 45067) (nat_lit 1342)) := zokE (zld_5 _ _) (ok_ld0 (t := 0) (i := 5) (zrow_iload (md := zmd_0) zh_0 (by decide +kernel) rfl))
theorem zr_0_1342 : zOK zPre 0 1342 (s_k (nat_lit 16) (nat_lit 1343)) := ok_iconst (n := 1) (md := zmd_0) zh_0 (by decide +kernel) rfl (by decide +kernel)
theorem zr_0_1343 : zOK zPre 0 1343 (s_iadd (nat_lit 1344)) := ok_iadd (md := zmd_0) zh_0 (by decide +kernel) rfl
theorem zr_0_1344 : zOK zPre 0 1344 (s_sld (nat_lit 1345)) := ok_sld (md := zmd_0) zh_0 (by decide +kernel) rfl
theorem zr_0_1345 : zOK zPre 0 1345 (s_i2c (nat_lit 1346)) := ok_i2c (md := zmd_0) zh_0 (by decide +kernel) rfl
theorem zr_0_1346 : zOK zPre 0 1346 (s_ld_3 (nat_lit 1136) (nat_lit 1347)) := zokE (zld_3 _ _) (ok_ld0 (t := 4) (i := 3) (zrow_aload_n (k := 3) (md := zmd_0) zh_0 (by decide +kernel) rfl rfl))
theorem zr_0_1347 : zOK zPre 0 1347 (s_call (nat_lit 99) (nat_lit 145) (nat_lit 4) (nat_lit 3) (nat_lit 1) [] (nat_lit 1350)) := ok_call (md := zmd_0) zh_0 zh_145 rfl (by decide) (by decide) (Or.inl rfl) zp_145 (zrow_callSX (mdc := zmd_145) (index := 206) (md := zmd_0) zh_0 (by decide +kernel) rfl rfl zc_145 zw_4_166 zw_4_167 zw_1_0 zd_145) trivial
theorem zr_0_1350 : zOK zPre 0 1350 (s_s1 (nat_lit 45067) (nat_lit 6) (nat_lit 1352)) := ok_s10 (t := 0) (i := 6) (zrow_istore (md := zmd_0) zh_0 (by decide +kernel) rfl)
theorem zr_0_1352 : zOK zPre 0 1352 (s_ld_2 (nat_lit 1136) (nat_lit 1353)) := zokE (zld_2 _ _) (ok_ld0 (t := 4) (i := 2) (zrow_aload_n (k := 2) (md := zmd_0) zh_0 (by decide +kernel) rfl rfl))
theorem zr_0_1353 : zOK zPre 0 1353 (s_ld_0 (nat_lit 1136) (nat_lit 1354)) := zokE (zld_0 _ _) (ok_ld0 (t := 4) (i := 0) (zrow_aload_n (k := 0) (md := zmd_0) zh_0 (by decide +kernel) rfl rfl))
theorem zr_0_1354 : zOK zPre 0 1354 (s_ld_5 (nat_lit 45067) (nat_lit 1356)) := zokE (zld_5 _ _) (ok_ld0 (t := 0) (i := 5) (zrow_iload (md := zmd_0) zh_0 (by decide +kernel) rfl))
theorem zr_0_1356 : zOK zPre 0 1356 (s_k (nat_lit 16) (nat_lit 1357)) := ok_iconst (n := 1) (md := zmd_0) zh_0 (by decide +kernel) rfl (by decide +kernel)
theorem zr_0_1357 : zOK zPre 0 1357 (s_iadd (nat_lit 1358)) := ok_iadd (md := zmd_0) zh_0 (by decide +kernel) rfl
theorem zr_0_1358 : zOK zPre 0 1358 (s_sld (nat_lit 1359)) := ok_sld (md := zmd_0) zh_0 (by decide +kernel) rfl
theorem zr_0_1359 : zOK zPre 0 1359 (s_i2c (nat_lit 1360)) := ok_i2c (md := zmd_0) zh_0 (by decide +kernel) rfl
theorem zr_0_1360 : zOK zPre 0 1360 (s_call (nat_lit 10) (nat_lit 147) (nat_lit 2) (nat_lit 2) (nat_lit 1) [] (nat_lit 1363)) := ok_call (md := zmd_0) zh_0 zh_147 rfl (by decide) (by decide) (Or.inr (by decide)) zp_147 (zrow_callV (mdc := zmd_147) (index := 209) (md := zmd_0) zh_0 (by decide +kernel) rfl rfl zc_147 rfl (by decide) zw_8_146 zw_8_147 zw_8_148 zw_1_10 zd_147) trivial
theorem zr_0_1363 : zOK zPre 0 1363 (s_s1 (nat_lit 45067) (nat_lit 7) (nat_lit 1365)) := ok_s10 (t := 0) (i := 7) (zrow_istore (md := zmd_0) zh_0 (by decide +kernel) rfl)
theorem zr_0_1365 : zOK zPre 0 1365 (s_ld_2 (nat_lit 1136) (nat_lit 1366)) := zokE (zld_2 _ _) (ok_ld0 (t := 4) (i := 2) (zrow_aload_n (k := 2) (md := zmd_0) zh_0 (by decide +kernel) rfl rfl))
theorem zr_0_1366 : zOK zPre 0 1366 (s_call (nat_lit 10) (nat_lit 39) (nat_lit 1) (nat_lit 1) (nat_lit 1) [] (nat_lit 1369)) := ok_call (md := zmd_0) zh_0 zh_39 rfl (by decide) (by decide) (Or.inr (by decide)) zp_39 (zrow_callV (mdc := zmd_39) (index := 155) (md := zmd_0) zh_0 (by decide +kernel) rfl rfl zc_39 rfl (by decide) zw_7_66 zw_7_67 zw_7_68 zw_1_10 zd_39) trivial
theorem zr_0_1369 : zOK zPre 0 1369 (s_ld (nat_lit 45067) (nat_lit 6) (nat_lit 1371)) := ok_ld0 (t := 0) (i := 6) (zrow_iload (md := zmd_0) zh_0 (by decide +kernel) rfl)
theorem zr_0_1371 : zOK zPre 0 1371 (s_ic (nat_lit 0) zu_eq (nat_lit 1376) (nat_lit 1374)) := ok_ic_eq (off := 5) (md := zmd_0) zh_0 (by decide +kernel) (by decide +kernel) rfl
theorem zr_0_1376 : zOK zPre 0 1376 (s_ld (nat_lit 45067) (nat_lit 6) (nat_lit 1378)) := ok_ld0 (t := 0) (i := 6) (zrow_iload (md := zmd_0) zh_0 (by decide +kernel) rfl)
theorem zr_0_1378 : zOK zPre 0 1378 (s_if (nat_lit 1) zi_ne (nat_lit 1393) (nat_lit 1381)) := ok_if_ne (off := 15) (md := zmd_0) zh_0 (by decide +kernel) (by decide +kernel) rfl
theorem zr_0_1381 : zOK zPre 0 1381 (s_ld_3 (nat_lit 1136) (nat_lit 1382)) := zokE (zld_3 _ _) (ok_ld0 (t := 4) (i := 3) (zrow_aload_n (k := 3) (md := zmd_0) zh_0 (by decide +kernel) rfl rfl))
theorem zr_0_1382 : zOK zPre 0 1382 (s_k (nat_lit 0) (nat_lit 1383)) := ok_iconst (n := 0) (md := zmd_0) zh_0 (by decide +kernel) rfl (by decide +kernel)
theorem zr_0_1383 : zOK zPre 0 1383 (s_ald (nat_lit 21) (nat_lit 21) (nat_lit 1384)) := ok_ald0 (by decide) (by decide) (by decide) (zrow_laload (md := zmd_0) zh_0 (by decide +kernel) rfl)
theorem zr_0_1384 : zOK zPre 0 1384 (s_ld (nat_lit 45067) (nat_lit 7) (nat_lit 1386)) := ok_ld0 (t := 0) (i := 7) (zrow_iload (md := zmd_0) zh_0 (by decide +kernel) rfl)
theorem zr_0_1386 : zOK zPre 0 1386 (s_i2l (nat_lit 1387)) := ok_i2l (md := zmd_0) zh_0 (by decide +kernel) rfl
theorem zr_0_1387 : zOK zPre 0 1387 (s_lcmp (nat_lit 1388)) := ok_lcmp (md := zmd_0) zh_0 (by decide +kernel) rfl
theorem zr_0_1388 : zOK zPre 0 1388 (s_if (nat_lit 0) zi_eq (nat_lit 1393) (nat_lit 1391)) := ok_if_eq (off := 5) (md := zmd_0) zh_0 (by decide +kernel) (by decide +kernel) rfl
theorem zr_0_1393 : zOK zPre 0 1393 (s_go (nat_lit 2913)) := ok_go (off := 1520) (md := zmd_0) zh_0 (by decide +kernel) (by decide +kernel)
theorem zr_0_1396 : zOK zPre 0 1396 (s_ld_1 (nat_lit 1136) (nat_lit 1397)) := zokE (zld_1 _ _) (ok_ld0 (t := 4) (i := 1) (zrow_aload_n (k := 1) (md := zmd_0) zh_0 (by decide +kernel) rfl rfl))
theorem zr_0_1397 : zOK zPre 0 1397 (s_call (nat_lit 8) (nat_lit 157) (nat_lit 2) (nat_lit 1) (nat_lit 1) [] (nat_lit 1400)) := ok_call (md := zmd_0) zh_0 zh_157 rfl (by decide) (by decide) (Or.inr (by decide)) zp_157 (zrow_callV (mdc := zmd_157) (index := 210) (md := zmd_0) zh_0 (by decide +kernel) rfl rfl zc_157 rfl (by decide) zw_2_156 zw_2_157 zw_2_158 zw_1_1 zd_157) trivial
theorem zr_0_1400 : zOK zPre 0 1400 (s_ld_2 (nat_lit 1136) (nat_lit 1401)) := zokE (zld_2 _ _) (ok_ld0 (t := 4) (i := 2) (zrow_aload_n (k := 2) (md := zmd_0) zh_0 (by decide +kernel) rfl rfl))
theorem zr_0_1401 : zOK zPre 0 1401 (s_call (nat_lit 10) (nat_lit 158) (nat_lit 2) (nat_lit 1) (nat_lit 1) [] (nat_lit 1404)) := ok_call (md := zmd_0) zh_0 zh_158 rfl (by decide) (by decide) (Or.inr (by decide)) zp_158 (zrow_callV (mdc := zmd_158) (index := 213) (md := zmd_0) zh_0 (by decide +kernel) rfl rfl zc_158 rfl (by decide) zw_8_237 zw_8_238 zw_8_239 zw_1_10 zd_158) trivial
theorem zr_0_1404 : zOK zPre 0 1404 (s_ic (nat_lit 0) zu_eq (nat_lit 2913) (nat_lit 1407)) := ok_ic_eq (off := 1509) (md := zmd_0) zh_0 (by decide +kernel) (by decide +kernel) rfl
theorem zr_0_1409 : zOK zPre 0 1409 (s_ld_1 (nat_lit 1136) (nat_lit 1410)) := zokE (zld_1 _ _) (ok_ld0 (t := 4) (i := 1) (zrow_aload_n (k := 1) (md := zmd_0) zh_0 (by decide +kernel) rfl rfl))
theorem zr_0_1410 : zOK zPre 0 1410 (s_ld_0 (nat_lit 1136) (nat_lit 1411)) := zokE (zld_0 _ _) (ok_ld0 (t := 4) (i := 0) (zrow_aload_n (k := 0) (md := zmd_0) zh_0 (by decide +kernel) rfl rfl))
theorem zr_0_1411 : zOK zPre 0 1411 (s_ld_5 (nat_lit 45067) (nat_lit 1413)) := zokE (zld_5 _ _) (ok_ld0 (t := 0) (i := 5) (zrow_iload (md := zmd_0) zh_0 (by decide +kernel) rfl))
theorem zr_0_1413 : zOK zPre 0 1413 (s_k (nat_lit 16) (nat_lit 1414)) := ok_iconst (n := 1) (md := zmd_0) zh_0 (by decide +kernel) rfl (by decide +kernel)
theorem zr_0_1414 : zOK zPre 0 1414 (s_iadd (nat_lit 1415)) := ok_iadd (md := zmd_0) zh_0 (by decide +kernel) rfl
theorem zr_0_1415 : zOK zPre 0 1415 (s_sld (nat_lit 1416)) := ok_sld (md := zmd_0) zh_0 (by decide +kernel) rfl
theorem zr_0_1416 : zOK zPre 0 1416 (s_ld_3 (nat_lit 1136) (nat_lit 1417)) := zokE (zld_3 _ _) (ok_ld0 (t := 4) (i := 3) (zrow_aload_n (k := 3) (md := zmd_0) zh_0 (by decide +kernel) rfl rfl))
theorem zr_0_1417 : zOK zPre 0 1417 (s_call (nat_lit 99) (nat_lit 161) (nat_lit 4) (nat_lit 3) (nat_lit 1) [] (nat_lit 1420)) := ok_call (md := zmd_0) zh_0 zh_161 rfl (by decide) (by decide) (Or.inl rfl) zp_161 (zrow_callSX (mdc := zmd_161) (index := 214) (md := zmd_0) zh_0 (by decide +kernel) rfl rfl zc_161 zw_4_182 zw_4_183 zw_1_0 zd_161) trivial
theorem zr_0_1420 : zOK zPre 0 1420 (s_s1 (nat_lit 45067) (nat_lit 6) (nat_lit 1422)) := ok_s10 (t := 0) (i := 6) (zrow_istore (md := zmd_0) zh_0 (by decide +kernel) rfl)
theorem zr_0_1422 : zOK zPre 0 1422 (s_ld_2 (nat_lit 1136) (nat_lit 1423)) := zokE (zld_2 _ _) (ok_ld0 (t := 4) (i := 2) (zrow_aload_n (k := 2) (md := zmd_0) zh_0 (by decide +kernel) rfl rfl))
theorem zr_0_1423 : zOK zPre 0 1423 (s_ld_0 (nat_lit 1136) (nat_lit 1424)) := zokE (zld_0 _ _) (ok_ld0 (t := 4) (i := 0) (zrow_aload_n (k := 0) (md := zmd_0) zh_0 (by decide +kernel) rfl rfl))
theorem zr_0_1424 : zOK zPre 0 1424 (s_ld_5 (nat_lit 45067) (nat_lit 1426)) := zokE (zld_5 _ _) (ok_ld0 (t := 0) (i := 5) (zrow_iload (md := zmd_0) zh_0 (by decide +kernel) rfl))
theorem zr_0_1426 : zOK zPre 0 1426 (s_k (nat_lit 16) (nat_lit 1427)) := ok_iconst (n := 1) (md := zmd_0) zh_0 (by decide +kernel) rfl (by decide +kernel)
theorem zr_0_1427 : zOK zPre 0 1427 (s_iadd (nat_lit 1428)) := ok_iadd (md := zmd_0) zh_0 (by decide +kernel) rfl
theorem zr_0_1428 : zOK zPre 0 1428 (s_sld (nat_lit 1429)) := ok_sld (md := zmd_0) zh_0 (by decide +kernel) rfl
theorem zr_0_1429 : zOK zPre 0 1429 (s_call (nat_lit 10) (nat_lit 163) (nat_lit 2) (nat_lit 2) (nat_lit 1) [] (nat_lit 1432)) := ok_call (md := zmd_0) zh_0 zh_163 rfl (by decide) (by decide) (Or.inr (by decide)) zp_163 (zrow_callV (mdc := zmd_163) (index := 216) (md := zmd_0) zh_0 (by decide +kernel) rfl rfl zc_163 rfl (by decide) zw_9_158 zw_9_159 zw_9_160 zw_1_10 zd_163) trivial
theorem zr_0_1432 : zOK zPre 0 1432 (s_s1 (nat_lit 45067) (nat_lit 7) (nat_lit 1434)) := ok_s10 (t := 0) (i := 7) (zrow_istore (md := zmd_0) zh_0 (by decide +kernel) rfl)
theorem zr_0_1434 : zOK zPre 0 1434 (s_ld_2 (nat_lit 1136) (nat_lit 1435)) := zokE (zld_2 _ _) (ok_ld0 (t := 4) (i := 2) (zrow_aload_n (k := 2) (md := zmd_0) zh_0 (by decide +kernel) rfl rfl))
theorem zr_0_1435 : zOK zPre 0 1435 (s_call (nat_lit 10) (nat_lit 39) (nat_lit 1) (nat_lit 1) (nat_lit 1) [] (nat_lit 1438)) := ok_call (md := zmd_0) zh_0 zh_39 rfl (by decide) (by decide) (Or.inr (by decide)) zp_39 (zrow_callV (mdc := zmd_39) (index := 155) (md := zmd_0) zh_0 (by decide +kernel) rfl rfl zc_39 rfl (by decide) zw_7_66 zw_7_67 zw_7_68 zw_1_10 zd_39) trivial
theorem zr_0_1438 : zOK zPre 0 1438 (s_ld (nat_lit 45067) (nat_lit 6) (nat_lit 1440)) := ok_ld0 (t := 0) (i := 6) (zrow_iload (md := zmd_0) zh_0 (by decide +kernel) rfl)
theorem zr_0_1440 : zOK zPre 0 1440 (s_ic (nat_lit 0) zu_eq (nat_lit 1445) (nat_lit 1443)) := ok_ic_eq (off := 5) (md := zmd_0) zh_0 (by decide +kernel) (by decide +kernel) rfl
theorem zr_0_1445 : zOK zPre 0 1445 (s_ld (nat_lit 45067) (nat_lit 6) (nat_lit 1447)) := ok_ld0 (t := 0) (i := 6) (zrow_iload (md := zmd_0) zh_0 (by decide +kernel) rfl)
theorem zr_0_1447 : zOK zPre 0 1447 (s_if (nat_lit 1) zi_ne (nat_lit 1462) (nat_lit 1450)) := ok_if_ne (off := 15) (md := zmd_0) zh_0 (by decide +kernel) (by decide +kernel) rfl
theorem zr_0_1462 : zOK zPre 0 1462 (s_go (nat_lit 2913)) := ok_go (off := 1451) (md := zmd_0) zh_0 (by decide +kernel) (by decide +kernel)
theorem zr_0_1465 : zOK zPre 0 1465 (s_ld_1 (nat_lit 1136) (nat_lit 1466)) := zokE (zld_1 _ _) (ok_ld0 (t := 4) (i := 1) (zrow_aload_n (k := 1) (md := zmd_0) zh_0 (by decide +kernel) rfl rfl))
theorem zr_0_1466 : zOK zPre 0 1466 (s_ld_0 (nat_lit 1136) (nat_lit 1467)) := zokE (zld_0 _ _) (ok_ld0 (t := 4) (i := 0) (zrow_aload_n (k := 0) (md := zmd_0) zh_0 (by decide +kernel) rfl rfl))
theorem zr_0_1467 : zOK zPre 0 1467 (s_ld_5 (nat_lit 45067) (nat_lit 1469)) := zokE (zld_5 _ _) (ok_ld0 (t := 0) (i := 5) (zrow_iload (md := zmd_0) zh_0 (by decide +kernel) rfl))
theorem zr_0_1469 : zOK zPre 0 1469 (s_k (nat_lit 16) (nat_lit 1470)) := ok_iconst (n := 1) (md := zmd_0) zh_0 (by decide +kernel) rfl (by decide +kernel)
theorem zr_0_1470 : zOK zPre 0 1470 (s_iadd (nat_lit 1471)) := ok_iadd (md := zmd_0) zh_0 (by decide +kernel) rfl
theorem zr_0_1471 : zOK zPre 0 1471 (s_sld (nat_lit 1472)) := ok_sld (md := zmd_0) zh_0 (by decide +kernel) rfl
theorem zr_0_1472 : zOK zPre 0 1472 (s_ld_0 (nat_lit 1136) (nat_lit 1473)) := zokE (zld_0 _ _) (ok_ld0 (t := 4) (i := 0) (zrow_aload_n (k := 0) (md := zmd_0) zh_0 (by decide +kernel) rfl rfl))
theorem zr_0_1473 : zOK zPre 0 1473 (s_ld_5 (nat_lit 45067) (nat_lit 1475)) := zokE (zld_5 _ _) (ok_ld0 (t := 0) (i := 5) (zrow_iload (md := zmd_0) zh_0 (by decide +kernel) rfl))
theorem zr_0_1475 : zOK zPre 0 1475 (s_k (nat_lit 32) (nat_lit 1476)) := ok_iconst (n := 2) (md := zmd_0) zh_0 (by decide +kernel) rfl (by decide +kernel)
theorem zr_0_1476 : zOK zPre 0 1476 (s_iadd (nat_lit 1477)) := ok_iadd (md := zmd_0) zh_0 (by decide +kernel) rfl
theorem zr_0_1477 : zOK zPre 0 1477 (s_sld (nat_lit 1478)) := ok_sld (md := zmd_0) zh_0 (by decide +kernel) rfl
theorem zr_0_1478 : zOK zPre 0 1478 (s_ld_3 (nat_lit 1136) (nat_lit 1479)) := zokE (zld_3 _ _) (ok_ld0 (t := 4) (i := 3) (zrow_aload_n (k := 3) (md := zmd_0) zh_0 (by decide +kernel) rfl rfl))
theorem zr_0_1479 : zOK zPre 0 1479 (s_call (nat_lit 99) (nat_lit 164) (nat_lit 5) (nat_lit 4) (nat_lit 1) [] (nat_lit 1482)) := ok_call (md := zmd_0) zh_0 zh_164 rfl (by decide) (by decide) (Or.inl rfl) zp_164 (zrow_callSX (mdc := zmd_164) (index := 217) (md := zmd_0) zh_0 (by decide +kernel) rfl rfl zc_164 zw_4_190 zw_4_191 zw_1_0 zd_164) trivial
theorem zr_0_1482 : zOK zPre 0 1482 (s_s1 (nat_lit 45067) (nat_lit 6) (nat_lit 1484)) := ok_s10 (t := 0) (i := 6) (zrow_istore (md := zmd_0) zh_0 (by decide +kernel) rfl)
theorem zr_0_1484 : zOK zPre 0 1484 (s_ld_2 (nat_lit 1136) (nat_lit 1485)) := zokE (zld_2 _ _) (ok_ld0 (t := 4) (i := 2) (zrow_aload_n (k := 2) (md := zmd_0) zh_0 (by decide +kernel) rfl rfl))
theorem zr_0_1485 : zOK zPre 0 1485 (s_ld_0 (nat_lit 1136) (nat_lit 1486)) := zokE (zld_0 _ _) (ok_ld0 (t := 4) (i := 0) (zrow_aload_n (k := 0) (md := zmd_0) zh_0 (by decide +kernel) rfl rfl))
theorem zr_0_1486 : zOK zPre 0 1486 (s_ld_5 (nat_lit 45067) (nat_lit 1488)) := zokE (zld_5 _ _) (ok_ld0 (t := 0) (i := 5) (zrow_iload (md := zmd_0) zh_0 (by decide +kernel) rfl))
theorem zr_0_1488 : zOK zPre 0 1488 (s_k (nat_lit 16) (nat_lit 1489)) := ok_iconst (n := 1) (md := zmd_0) zh_0 (by decide +kernel) rfl (by decide +kernel)
theorem zr_0_1489 : zOK zPre 0 1489 (s_iadd (nat_lit 1490)) := ok_iadd (md := zmd_0) zh_0 (by decide +kernel) rfl
theorem zr_0_1490 : zOK zPre 0 1490 (s_sld (nat_lit 1491)) := ok_sld (md := zmd_0) zh_0 (by decide +kernel) rfl
theorem zr_0_1491 : zOK zPre 0 1491 (s_ld_0 (nat_lit 1136) (nat_lit 1492)) := zokE (zld_0 _ _) (ok_ld0 (t := 4) (i := 0) (zrow_aload_n (k := 0) (md := zmd_0) zh_0 (by decide +kernel) rfl rfl))
theorem zr_0_1492 : zOK zPre 0 1492 (s_ld_5 (nat_lit 45067) (nat_lit 1494)) := zokE (zld_5 _ _) (ok_ld0 (t := 0) (i := 5) (zrow_iload (md := zmd_0) zh_0 (by decide +kernel) rfl))
theorem zr_0_1494 : zOK zPre 0 1494 (s_k (nat_lit 32) (nat_lit 1495)) := ok_iconst (n := 2) (md := zmd_0) zh_0 (by decide +kernel) rfl (by decide +kernel)
theorem zr_0_1495 : zOK zPre 0 1495 (s_iadd (nat_lit 1496)) := ok_iadd (md := zmd_0) zh_0 (by decide +kernel) rfl
theorem zr_0_1496 : zOK zPre 0 1496 (s_sld (nat_lit 1497)) := ok_sld (md := zmd_0) zh_0 (by decide +kernel) rfl
theorem zr_0_1497 : zOK zPre 0 1497 (s_call (nat_lit 10) (nat_lit 168) (nat_lit 9) (nat_lit 3) (nat_lit 1) [] (nat_lit 1500)) := ok_call (md := zmd_0) zh_0 zh_168 rfl (by decide) (by decide) (Or.inr (by decide)) zp_168 (zrow_callV (mdc := zmd_168) (index := 219) (md := zmd_0) zh_0 (by decide +kernel) rfl rfl zc_168 rfl (by decide) zw_9_172 zw_9_173 zw_9_174 zw_1_10 zd_168) trivial
theorem zr_0_1500 : zOK zPre 0 1500 (s_s1 (nat_lit 45067) (nat_lit 7) (nat_lit 1502)) := ok_s10 (t := 0) (i := 7) (zrow_istore (md := zmd_0) zh_0 (by decide +kernel) rfl)
theorem zr_0_1502 : zOK zPre 0 1502 (s_ld_2 (nat_lit 1136) (nat_lit 1503)) := zokE (zld_2 _ _) (ok_ld0 (t := 4) (i := 2) (zrow_aload_n (k := 2) (md := zmd_0) zh_0 (by decide +kernel) rfl rfl))
theorem zr_0_1503 : zOK zPre 0 1503 (s_call (nat_lit 10) (nat_lit 39) (nat_lit 1) (nat_lit 1) (nat_lit 1) [] (nat_lit 1506)) := ok_call (md := zmd_0) zh_0 zh_39 rfl (by decide) (by decide) (Or.inr (by decide)) zp_39 (zrow_callV (mdc := zmd_39) (index := 155) (md := zmd_0) zh_0 (by decide +kernel) rfl rfl zc_39 rfl (by decide) zw_7_66 zw_7_67 zw_7_68 zw_1_10 zd_39) trivial
theorem zr_0_1506 : zOK zPre 0 1506 (s_ld (nat_lit 45067) (nat_lit 6) (nat_lit 1508)) := ok_ld0 (t := 0) (i := 6) (zrow_iload (md := zmd_0) zh_0 (by decide +kernel) rfl)
theorem zr_0_1508 : zOK zPre 0 1508 (s_ic (nat_lit 0) zu_eq (nat_lit 1513) (nat_lit 1511)) := ok_ic_eq (off := 5) (md := zmd_0) zh_0 (by decide +kernel) (by decide +kernel) rfl
theorem zr_0_1513 : zOK zPre 0 1513 (s_ld (nat_lit 45067) (nat_lit 6) (nat_lit 1515)) := ok_ld0 (t := 0) (i := 6) (zrow_iload (md := zmd_0) zh_0 (by decide +kernel) rfl)
theorem zr_0_1515 : zOK zPre 0 1515 (s_if (nat_lit 1) zi_ne (nat_lit 1530) (nat_lit 1518)) := ok_if_ne (off := 15) (md := zmd_0) zh_0 (by decide +kernel) (by decide +kernel) rfl
theorem zr_0_1518 : zOK zPre 0 1518 (s_ld_3 (nat_lit 1136) (nat_lit 1519)) := zokE (zld_3 _ _) (ok_ld0 (t := 4) (i := 3) (zrow_aload_n (k := 3) (md := zmd_0) zh_0 (by decide +kernel) rfl rfl))
theorem zr_0_1519 : zOK zPre 0 1519 (s_k (nat_lit 0) (nat_lit 1520)) := ok_iconst (n := 0) (md := zmd_0) zh_0 (by decide +kernel) rfl (by decide +kernel)
theorem zr_0_1520 : zOK zPre 0 1520 (s_ald (nat_lit 21) (nat_lit 21) (nat_lit 1521)) := ok_ald0 (by decide) (by decide) (by decide) (zrow_laload (md := zmd_0) zh_0 (by decide +kernel) rfl)
theorem zr_0_1521 : zOK zPre 0 1521 (s_ld (nat_lit 45067) (nat_lit 7) (nat_lit 1523)) := ok_ld0 (t := 0) (i := 7) (zrow_iload (md := zmd_0) zh_0 (by decide +kernel) rfl)
theorem zr_0_1523 : zOK zPre 0 1523 (s_i2l (nat_lit 1524)) := ok_i2l (md := zmd_0) zh_0 (by decide +kernel) rfl
theorem zr_0_1524 : zOK zPre 0 1524 (s_lcmp (nat_lit 1525)) := ok_lcmp (md := zmd_0) zh_0 (by decide +kernel) rfl
theorem zr_0_1525 : zOK zPre 0 1525 (s_if (nat_lit 0) zi_eq (nat_lit 1530) (nat_lit 1528)) := ok_if_eq (off := 5) (md := zmd_0) zh_0 (by decide +kernel) (by decide +kernel) rfl
theorem zr_0_1530 : zOK zPre 0 1530 (s_go (nat_lit 2913)) := ok_go (off := 1383) (md := zmd_0) zh_0 (by decide +kernel) (by decide +kernel)
theorem zr_0_1533 : zOK zPre 0 1533 (s_ld_1 (nat_lit 1136) (nat_lit 1534)) := zokE (zld_1 _ _) (ok_ld0 (t := 4) (i := 1) (zrow_aload_n (k := 1) (md := zmd_0) zh_0 (by decide +kernel) rfl rfl))
theorem zr_0_1534 : zOK zPre 0 1534 (s_ld_0 (nat_lit 1136) (nat_lit 1535)) := zokE (zld_0 _ _) (ok_ld0 (t := 4) (i := 0) (zrow_aload_n (k := 0) (md := zmd_0) zh_0 (by decide +kernel) rfl rfl))
theorem zr_0_1535 : zOK zPre 0 1535 (s_ld_5 (nat_lit 45067) (nat_lit 1537)) := zokE (zld_5 _ _) (ok_ld0 (t := 0) (i := 5) (zrow_iload (md := zmd_0) zh_0 (by decide +kernel) rfl))
theorem zr_0_1537 : zOK zPre 0 1537 (s_k (nat_lit 16) (nat_lit 1538)) := ok_iconst (n := 1) (md := zmd_0) zh_0 (by decide +kernel) rfl (by decide +kernel)
theorem zr_0_1538 : zOK zPre 0 1538 (s_iadd (nat_lit 1539)) := ok_iadd (md := zmd_0) zh_0 (by decide +kernel) rfl
theorem zr_0_1539 : zOK zPre 0 1539 (s_sld (nat_lit 1540)) := ok_sld (md := zmd_0) zh_0 (by decide +kernel) rfl
theorem zr_0_1540 : zOK zPre 0 1540 (s_ld_0 (nat_lit 1136) (nat_lit 1541)) := zokE (zld_0 _ _) (ok_ld0 (t := 4) (i := 0) (zrow_aload_n (k := 0) (md := zmd_0) zh_0 (by decide +kernel) rfl rfl))
theorem zr_0_1541 : zOK zPre 0 1541 (s_ld_5 (nat_lit 45067) (nat_lit 1543)) := zokE (zld_5 _ _) (ok_ld0 (t := 0) (i := 5) (zrow_iload (md := zmd_0) zh_0 (by decide +kernel) rfl))
theorem zr_0_1543 : zOK zPre 0 1543 (s_k (nat_lit 32) (nat_lit 1544)) := ok_iconst (n := 2) (md := zmd_0) zh_0 (by decide +kernel) rfl (by decide +kernel)
theorem zr_0_1544 : zOK zPre 0 1544 (s_iadd (nat_lit 1545)) := ok_iadd (md := zmd_0) zh_0 (by decide +kernel) rfl
theorem zr_0_1545 : zOK zPre 0 1545 (s_sld (nat_lit 1546)) := ok_sld (md := zmd_0) zh_0 (by decide +kernel) rfl
theorem zr_0_1546 : zOK zPre 0 1546 (s_ld_3 (nat_lit 1136) (nat_lit 1547)) := zokE (zld_3 _ _) (ok_ld0 (t := 4) (i := 3) (zrow_aload_n (k := 3) (md := zmd_0) zh_0 (by decide +kernel) rfl rfl))
theorem zr_0_1547 : zOK zPre 0 1547 (s_call (nat_lit 99) (nat_lit 169) (nat_lit 5) (nat_lit 4) (nat_lit 1) [] (nat_lit 1550)) := ok_call (md := zmd_0) zh_0 zh_169 rfl (by decide) (by decide) (Or.inl rfl) zp_169 (zrow_callSX (mdc := zmd_169) (index := 220) (md := zmd_0) zh_0 (by decide +kernel) rfl rfl zc_169 zw_4_209 zw_4_210 zw_1_0 zd_169) trivial
theorem zr_0_1550 : zOK zPre 0 1550 (s_s1 (nat_lit 45067) (nat_lit 6) (nat_lit 1552)) := ok_s10 (t := 0) (i := 6) (zrow_istore (md := zmd_0) zh_0 (by decide +kernel) rfl)
theorem zr_0_1552 : zOK zPre 0 1552 (s_ld_2 (nat_lit 1136) (nat_lit 1553)) := zokE (zld_2 _ _) (ok_ld0 (t := 4) (i := 2) (zrow_aload_n (k := 2) (md := zmd_0) zh_0 (by decide +kernel) rfl rfl))
theorem zr_0_1553 : zOK zPre 0 1553 (s_ld_0 (nat_lit 1136) (nat_lit 1554)) := zokE (zld_0 _ _) (ok_ld0 (t := 4) (i := 0) (zrow_aload_n (k := 0) (md := zmd_0) zh_0 (by decide +kernel) rfl rfl))
theorem zr_0_1554 : zOK zPre 0 1554 (s_ld_5 (nat_lit 45067) (nat_lit 1556)) := zokE (zld_5 _ _) (ok_ld0 (t := 0) (i := 5) (zrow_iload (md := zmd_0) zh_0 (by decide +kernel) rfl))
theorem zr_0_1556 : zOK zPre 0 1556 (s_k (nat_lit 16) (nat_lit 1557)) := ok_iconst (n := 1) (md := zmd_0) zh_0 (by decide +kernel) rfl (by decide +kernel)
theorem zr_0_1557 : zOK zPre 0 1557 (s_iadd (nat_lit 1558)) := ok_iadd (md := zmd_0) zh_0 (by decide +kernel) rfl
theorem zr_0_1558 : zOK zPre 0 1558 (s_sld (nat_lit 1559)) := ok_sld (md := zmd_0) zh_0 (by decide +kernel) rfl
theorem zr_0_1559 : zOK zPre 0 1559 (s_ld_0 (nat_lit 1136) (nat_lit 1560)) := zokE (zld_0 _ _) (ok_ld0 (t := 4) (i := 0) (zrow_aload_n (k := 0) (md := zmd_0) zh_0 (by decide +kernel) rfl rfl))
theorem zr_0_1560 : zOK zPre 0 1560 (s_ld_5 (nat_lit 45067) (nat_lit 1562)) := zokE (zld_5 _ _) (ok_ld0 (t := 0) (i := 5) (zrow_iload (md := zmd_0) zh_0 (by decide +kernel) rfl))
theorem zr_0_1562 : zOK zPre 0 1562 (s_k (nat_lit 32) (nat_lit 1563)) := ok_iconst (n := 2) (md := zmd_0) zh_0 (by decide +kernel) rfl (by decide +kernel)
theorem zr_0_1563 : zOK zPre 0 1563 (s_iadd (nat_lit 1564)) := ok_iadd (md := zmd_0) zh_0 (by decide +kernel) rfl
theorem zr_0_1564 : zOK zPre 0 1564 (s_sld (nat_lit 1565)) := ok_sld (md := zmd_0) zh_0 (by decide +kernel) rfl
theorem zr_0_1565 : zOK zPre 0 1565 (s_call (nat_lit 10) (nat_lit 173) (nat_lit 7) (nat_lit 3) (nat_lit 1) [] (nat_lit 1568)) := ok_call (md := zmd_0) zh_0 zh_173 rfl (by decide) (by decide) (Or.inr (by decide)) zp_173 (zrow_callV (mdc := zmd_173) (index := 222) (md := zmd_0) zh_0 (by decide +kernel) rfl rfl zc_173 rfl (by decide) zw_9_181 zw_9_182 zw_9_183 zw_1_10 zd_173) trivial
theorem zr_0_1568 : zOK zPre 0 1568 (s_s1 (nat_lit 45067) (nat_lit 7) (nat_lit 1570)) := ok_s10 (t := 0) (i := 7) (zrow_istore (md := zmd_0) zh_0 (by decide +kernel) rfl)
theorem zr_0_1570 : zOK zPre 0 1570 (s_ld_2 (nat_lit 1136) (nat_lit 1571)) := zokE (zld_2 _ _) (ok_ld0 (t := 4) (i := 2) (zrow_aload_n (k := 2) (md := zmd_0) zh_0 (by decide +kernel) rfl rfl))
theorem zr_0_1571 : zOK zPre 0 1571 (s_call (nat_lit 10) (nat_lit 39) (nat_lit 1) (nat_lit 1) (nat_lit 1) [] (nat_lit 1574)) := ok_call (md := zmd_0) zh_0 zh_39 rfl (by decide) (by decide) (Or.inr (by decide)) zp_39 (zrow_callV (mdc := zmd_39) (index := 155) (md := zmd_0) zh_0 (by decide +kernel) rfl rfl zc_39 rfl (by decide) zw_7_66 zw_7_67 zw_7_68 zw_1_10 zd_39) trivial
theorem zr_0_1574 : zOK zPre 0 1574 (s_ld (nat_lit 45067) (nat_lit 6) (nat_lit 1576)) := ok_ld0 (t := 0) (i := 6) (zrow_iload (md := zmd_0) zh_0 (by decide +kernel) rfl)
theorem zr_0_1576 : zOK zPre 0 1576 (s_ic (nat_lit 0) zu_eq (nat_lit 1581) (nat_lit 1579)) := ok_ic_eq (off := 5) (md := zmd_0) zh_0 (by decide +kernel) (by decide +kernel) rfl
theorem zr_0_1581 : zOK zPre 0 1581 (s_ld (nat_lit 45067) (nat_lit 6) (nat_lit 1583)) := ok_ld0 (t := 0) (i := 6) (zrow_iload (md := zmd_0) zh_0 (by decide +kernel) rfl)
theorem zr_0_1583 : zOK zPre 0 1583 (s_if (nat_lit 1) zi_ne (nat_lit 1598) (nat_lit 1586)) := ok_if_ne (off := 15) (md := zmd_0) zh_0 (by decide +kernel) (by decide +kernel) rfl
theorem zr_0_1586 : zOK zPre 0 1586 (s_ld_3 (nat_lit 1136) (nat_lit 1587)) := zokE (zld_3 _ _) (ok_ld0 (t := 4) (i := 3) (zrow_aload_n (k := 3) (md := zmd_0) zh_0 (by decide +kernel) rfl rfl))
theorem zr_0_1587 : zOK zPre 0 1587 (s_k (nat_lit 0) (nat_lit 1588)) := ok_iconst (n := 0) (md := zmd_0) zh_0 (by decide +kernel) rfl (by decide +kernel)
theorem zr_0_1588 : zOK zPre 0 1588 (s_ald (nat_lit 21) (nat_lit 21) (nat_lit 1589)) := ok_ald0 (by decide) (by decide) (by decide) (zrow_laload (md := zmd_0) zh_0 (by decide +kernel) rfl)
theorem zr_0_1589 : zOK zPre 0 1589 (s_ld (nat_lit 45067) (nat_lit 7) (nat_lit 1591)) := ok_ld0 (t := 0) (i := 7) (zrow_iload (md := zmd_0) zh_0 (by decide +kernel) rfl)
theorem zr_0_1591 : zOK zPre 0 1591 (s_i2l (nat_lit 1592)) := ok_i2l (md := zmd_0) zh_0 (by decide +kernel) rfl
theorem zr_0_1592 : zOK zPre 0 1592 (s_lcmp (nat_lit 1593)) := ok_lcmp (md := zmd_0) zh_0 (by decide +kernel) rfl
theorem zr_0_1593 : zOK zPre 0 1593 (s_if (nat_lit 0) zi_eq (nat_lit 1598) (nat_lit 1596)) := ok_if_eq (off := 5) (md := zmd_0) zh_0 (by decide +kernel) (by decide +kernel) rfl
theorem zr_0_1598 : zOK zPre 0 1598 (s_go (nat_lit 2913)) := ok_go (off := 1315) (md := zmd_0) zh_0 (by decide +kernel) (by decide +kernel)
theorem zr_0_1601 : zOK zPre 0 1601 (s_ld_1 (nat_lit 1136) (nat_lit 1602)) := zokE (zld_1 _ _) (ok_ld0 (t := 4) (i := 1) (zrow_aload_n (k := 1) (md := zmd_0) zh_0 (by decide +kernel) rfl rfl))
theorem zr_0_1602 : zOK zPre 0 1602 (s_ld_0 (nat_lit 1136) (nat_lit 1603)) := zokE (zld_0 _ _) (ok_ld0 (t := 4) (i := 0) (zrow_aload_n (k := 0) (md := zmd_0) zh_0 (by decide +kernel) rfl rfl))
theorem zr_0_1603 : zOK zPre 0 1603 (s_ld_5 (nat_lit 45067) (nat_lit 1605)) := zokE (zld_5 _ _) (ok_ld0 (t := 0) (i := 5) (zrow_iload (md := zmd_0) zh_0 (by decide +kernel) rfl))
theorem zr_0_1605 : zOK zPre 0 1605 (s_k (nat_lit 16) (nat_lit 1606)) := ok_iconst (n := 1) (md := zmd_0) zh_0 (by decide +kernel) rfl (by decide +kernel)
theorem zr_0_1606 : zOK zPre 0 1606 (s_iadd (nat_lit 1607)) := ok_iadd (md := zmd_0) zh_0 (by decide +kernel) rfl
theorem zr_0_1607 : zOK zPre 0 1607 (s_sld (nat_lit 1608)) := ok_sld (md := zmd_0) zh_0 (by decide +kernel) rfl
theorem zr_0_1608 : zOK zPre 0 1608 (s_ld_3 (nat_lit 1136) (nat_lit 1609)) := zokE (zld_3 _ _) (ok_ld0 (t := 4) (i := 3) (zrow_aload_n (k := 3) (md := zmd_0) zh_0 (by decide +kernel) rfl rfl))
theorem zr_0_1609 : zOK zPre 0 1609 (s_call (nat_lit 99) (nat_lit 181) (nat_lit 4) (nat_lit 3) (nat_lit 1) [] (nat_lit 1612)) := ok_call (md := zmd_0) zh_0 zh_181 rfl (by decide) (by decide) (Or.inl rfl) zp_181 (zrow_callSX (mdc := zmd_181) (index := 223) (md := zmd_0) zh_0 (by decide +kernel) rfl rfl zc_181 zw_4_233 zw_4_234 zw_1_0 zd_181) trivial
theorem zr_0_1612 : zOK zPre 0 1612 (s_s1 (nat_lit 45067) (nat_lit 6) (nat_lit 1614)) := ok_s10 (t := 0) (i := 6) (zrow_istore (md := zmd_0) zh_0 (by decide +kernel) rfl)
theorem zr_0_1614 : zOK zPre 0 1614 (s_ld_2 (nat_lit 1136) (nat_lit 1615)) := zokE (zld_2 _ _) (ok_ld0 (t := 4) (i := 2) (zrow_aload_n (k := 2) (md := zmd_0) zh_0 (by decide +kernel) rfl rfl))
theorem zr_0_1615 : zOK zPre 0 1615 (s_ld_0 (nat_lit 1136) (nat_lit 1616)) := zokE (zld_0 _ _) (ok_ld0 (t := 4) (i := 0) (zrow_aload_n (k := 0) (md := zmd_0) zh_0 (by decide +kernel) rfl rfl))
theorem zr_0_1616 : zOK zPre 0 1616 (s_ld_5 (nat_lit 45067) (nat_lit 1618)) := zokE (zld_5 _ _) (ok_ld0 (t := 0) (i := 5) (zrow_iload (md := zmd_0) zh_0 (by decide +kernel) rfl))
theorem zr_0_1618 : zOK zPre 0 1618 (s_k (nat_lit 16) (nat_lit 1619)) := ok_iconst (n := 1) (md := zmd_0) zh_0 (by decide +kernel) rfl (by decide +kernel)
theorem zr_0_1619 : zOK zPre 0 1619 (s_iadd (nat_lit 1620)) := ok_iadd (md := zmd_0) zh_0 (by decide +kernel) rfl
theorem zr_0_1620 : zOK zPre 0 1620 (s_sld (nat_lit 1621)) := ok_sld (md := zmd_0) zh_0 (by decide +kernel) rfl
theorem zr_0_1621 : zOK zPre 0 1621 (s_call (nat_lit 10) (nat_lit 185) (nat_lit 2) (nat_lit 2) (nat_lit 1) [] (nat_lit 1624)) := ok_call (md := zmd_0) zh_0 zh_185 rfl (by decide) (by decide) (Or.inr (by decide)) zp_185 (zrow_callV (mdc := zmd_185) (index := 225) (md := zmd_0) zh_0 (by decide +kernel) rfl rfl zc_185 rfl (by decide) zw_9_197 zw_9_198 zw_9_199 zw_1_10 zd_185) trivial
theorem zr_0_1624 : zOK zPre 0 1624 (s_s1 (nat_lit 45067) (nat_lit 7) (nat_lit 1626)) := ok_s10 (t := 0) (i := 7) (zrow_istore (md := zmd_0) zh_0 (by decide +kernel) rfl)
theorem zr_0_1626 : zOK zPre 0 1626 (s_ld_2 (nat_lit 1136) (nat_lit 1627)) := zokE (zld_2 _ _) (ok_ld0 (t := 4) (i := 2) (zrow_aload_n (k := 2) (md := zmd_0) zh_0 (by decide +kernel) rfl rfl))
theorem zr_0_1627 : zOK zPre 0 1627 (s_call (nat_lit 10) (nat_lit 39) (nat_lit 1) (nat_lit 1) (nat_lit 1) [] (nat_lit 1630)) := ok_call (md := zmd_0) zh_0 zh_39 rfl (by decide) (by decide) (Or.inr (by decide)) zp_39 (zrow_callV (mdc := zmd_39) (index := 155) (md := zmd_0) zh_0 (by decide +kernel) rfl rfl zc_39 rfl (by decide) zw_7_66 zw_7_67 zw_7_68 zw_1_10 zd_39) trivial
theorem zr_0_1630 : zOK zPre 0 1630 (s_ld (nat_lit 45067) (nat_lit 6) (nat_lit 1632)) := ok_ld0 (t := 0) (i := 6) (zrow_iload (md := zmd_0) zh_0 (by decide +kernel) rfl)
theorem zr_0_1632 : zOK zPre 0 1632 (s_ic (nat_lit 0) zu_eq (nat_lit 1637) (nat_lit 1635)) := ok_ic_eq (off := 5) (md := zmd_0) zh_0 (by decide +kernel) (by decide +kernel) rfl
theorem zr_0_1637 : zOK zPre 0 1637 (s_ld (nat_lit 45067) (nat_lit 6) (nat_lit 1639)) := ok_ld0 (t := 0) (i := 6) (zrow_iload (md := zmd_0) zh_0 (by decide +kernel) rfl)
theorem zr_0_1639 : zOK zPre 0 1639 (s_if (nat_lit 1) zi_ne (nat_lit 1654) (nat_lit 1642)) := ok_if_ne (off := 15) (md := zmd_0) zh_0 (by decide +kernel) (by decide +kernel) rfl
theorem zr_0_1642 : zOK zPre 0 1642 (s_ld_3 (nat_lit 1136) (nat_lit 1643)) := zokE (zld_3 _ _) (ok_ld0 (t := 4) (i := 3) (zrow_aload_n (k := 3) (md := zmd_0) zh_0 (by decide +kernel) rfl rfl))
theorem zr_0_1643 : zOK zPre 0 1643 (s_k (nat_lit 0) (nat_lit 1644)) := ok_iconst (n := 0) (md := zmd_0) zh_0 (by decide +kernel) rfl (by decide +kernel)
theorem zr_0_1644 : zOK zPre 0 1644 (s_ald (nat_lit 21) (nat_lit 21) (nat_lit 1645)) := ok_ald0 (by decide) (by decide) (by decide) (zrow_laload (md := zmd_0) zh_0 (by decide +kernel) rfl)
theorem zr_0_1645 : zOK zPre 0 1645 (s_ld (nat_lit 45067) (nat_lit 7) (nat_lit 1647)) := ok_ld0 (t := 0) (i := 7) (zrow_iload (md := zmd_0) zh_0 (by decide +kernel) rfl)
theorem zr_0_1647 : zOK zPre 0 1647 (s_i2l (nat_lit 1648)) := ok_i2l (md := zmd_0) zh_0 (by decide +kernel) rfl
theorem zr_0_1648 : zOK zPre 0 1648 (s_lcmp (nat_lit 1649)) := ok_lcmp (md := zmd_0) zh_0 (by decide +kernel) rfl
theorem zr_0_1649 : zOK zPre 0 1649 (s_if (nat_lit 0) zi_eq (nat_lit 1654) (nat_lit 1652)) := ok_if_eq (off := 5) (md := zmd_0) zh_0 (by decide +kernel) (by decide +kernel) rfl
theorem zr_0_1654 : zOK zPre 0 1654 (s_go (nat_lit 2913)) := ok_go (off := 1259) (md := zmd_0) zh_0 (by decide +kernel) (by decide +kernel)
theorem zr_0_1657 : zOK zPre 0 1657 (s_ld_1 (nat_lit 1136) (nat_lit 1658)) := zokE (zld_1 _ _) (ok_ld0 (t := 4) (i := 1) (zrow_aload_n (k := 1) (md := zmd_0) zh_0 (by decide +kernel) rfl rfl))
theorem zr_0_1658 : zOK zPre 0 1658 (s_call (nat_lit 8) (nat_lit 192) (nat_lit 2) (nat_lit 1) (nat_lit 1) [] (nat_lit 1661)) := ok_call (md := zmd_0) zh_0 zh_192 rfl (by decide) (by decide) (Or.inr (by decide)) zp_192 (zrow_callV (mdc := zmd_192) (index := 226) (md := zmd_0) zh_0 (by decide +kernel) rfl rfl zc_192 rfl (by decide) zw_2_160 zw_2_161 zw_2_162 zw_1_1 zd_192) trivial
theorem zr_0_1661 : zOK zPre 0 1661 (s_ld_2 (nat_lit 1136) (nat_lit 1662)) := zokE (zld_2 _ _) (ok_ld0 (t := 4) (i := 2) (zrow_aload_n (k := 2) (md := zmd_0) zh_0 (by decide +kernel) rfl rfl))
theorem zr_0_1662 : zOK zPre 0 1662 (s_call (nat_lit 10) (nat_lit 193) (nat_lit 2) (nat_lit 1) (nat_lit 1) [] (nat_lit 1665)) := ok_call (md := zmd_0) zh_0 zh_193 rfl (by decide) (by decide) (Or.inr (by decide)) zp_193 (zrow_callV (mdc := zmd_193) (index := 229) (md := zmd_0) zh_0 (by decide +kernel) rfl rfl zc_193 rfl (by decide) zw_10_53 zw_10_54 zw_10_55 zw_1_10 zd_193) trivial
theorem zr_0_1665 : zOK zPre 0 1665 (s_ic (nat_lit 0) zu_eq (nat_lit 2913) (nat_lit 1668)) := ok_ic_eq (off := 1248) (md := zmd_0) zh_0 (by decide +kernel) (by decide +kernel) rfl
theorem zr_0_1670 : zOK zPre 0 1670 (s_ld_1 (nat_lit 1136) (nat_lit 1671)) := zokE (zld_1 _ _) (ok_ld0 (t := 4) (i := 1) (zrow_aload_n (k := 1) (md := zmd_0) zh_0 (by decide +kernel) rfl rfl))
theorem zr_0_1671 : zOK zPre 0 1671 (s_ld_0 (nat_lit 1136) (nat_lit 1672)) := zokE (zld_0 _ _) (ok_ld0 (t := 4) (i := 0) (zrow_aload_n (k := 0) (md := zmd_0) zh_0 (by decide +kernel) rfl rfl))
theorem zr_0_1672 : zOK zPre 0 1672 (s_ld_5 (nat_lit 45067) (nat_lit 1674)) := zokE (zld_5 _ _) (ok_ld0 (t := 0) (i := 5) (zrow_iload (md := zmd_0) zh_0 (by decide +kernel) rfl))
theorem zr_0_1674 : zOK zPre 0 1674 (s_k (nat_lit 16) (nat_lit 1675)) := ok_iconst (n := 1) (md := zmd_0) zh_0 (by decide +kernel) rfl (by decide +kernel)
theorem zr_0_1675 : zOK zPre 0 1675 (s_iadd (nat_lit 1676)) := ok_iadd (md := zmd_0) zh_0 (by decide +kernel) rfl
theorem zr_0_1676 : zOK zPre 0 1676 (s_sld (nat_lit 1677)) := ok_sld (md := zmd_0) zh_0 (by decide +kernel) rfl
theorem zr_0_1677 : zOK zPre 0 1677 (s_ld_3 (nat_lit 1136) (nat_lit 1678)) := zokE (zld_3 _ _) (ok_ld0 (t := 4) (i := 3) (zrow_aload_n (k := 3) (md := zmd_0) zh_0 (by decide +kernel) rfl rfl))
theorem zr_0_1678 : zOK zPre 0 1678 (s_call (nat_lit 99) (nat_lit 195) (nat_lit 4) (nat_lit 3) (nat_lit 1) [] (nat_lit 1681)) := ok_call (md := zmd_0) zh_0 zh_195 rfl (by decide) (by decide) (Or.inl rfl) zp_195 (zrow_callSX (mdc := zmd_195) (index := 230) (md := zmd_0) zh_0 (by decide +kernel) rfl rfl zc_195 zw_5_9 zw_5_10 zw_1_0 zd_195) trivial
theorem zr_0_1681 : zOK zPre 0 1681 (s_s1 (nat_lit 45067) (nat_lit 6) (nat_lit 1683)) := ok_s10 (t := 0) (i := 6) (zrow_istore (md := zmd_0) zh_0 (by decide +kernel) rfl)
theorem zr_0_1683 : zOK zPre 0 1683 (s_ld_2 (nat_lit 1136) (nat_lit 1684)) := zokE (zld_2 _ _) (ok_ld0 (t := 4) (i := 2) (zrow_aload_n (k := 2) (md := zmd_0) zh_0 (by decide +kernel) rfl rfl))
theorem zr_0_1684 : zOK zPre 0 1684 (s_ld_0 (nat_lit 1136) (nat_lit 1685)) := zokE (zld_0 _ _) (ok_ld0 (t := 4) (i := 0) (zrow_aload_n (k := 0) (md := zmd_0) zh_0 (by decide +kernel) rfl rfl))
theorem zr_0_1685 : zOK zPre 0 1685 (s_ld_5 (nat_lit 45067) (nat_lit 1687)) := zokE (zld_5 _ _) (ok_ld0 (t := 0) (i := 5) (zrow_iload (md := zmd_0) zh_0 (by decide +kernel) rfl))
theorem zr_0_1687 : zOK zPre 0 1687 (s_k (nat_lit 16) (nat_lit 1688)) := ok_iconst (n := 1) (md := zmd_0) zh_0 (by decide +kernel) rfl (by decide +kernel)
theorem zr_0_1688 : zOK zPre 0 1688 (s_iadd (nat_lit 1689)) := ok_iadd (md := zmd_0) zh_0 (by decide +kernel) rfl
theorem zr_0_1689 : zOK zPre 0 1689 (s_sld (nat_lit 1690)) := ok_sld (md := zmd_0) zh_0 (by decide +kernel) rfl
theorem zr_0_1690 : zOK zPre 0 1690 (s_call (nat_lit 10) (nat_lit 197) (nat_lit 4) (nat_lit 2) (nat_lit 1) [] (nat_lit 1693)) := ok_call (md := zmd_0) zh_0 zh_197 rfl (by decide) (by decide) (Or.inr (by decide)) zp_197 (zrow_callV (mdc := zmd_197) (index := 232) (md := zmd_0) zh_0 (by decide +kernel) rfl rfl zc_197 rfl (by decide) zw_10_66 zw_10_67 zw_10_68 zw_1_10 zd_197) trivial
theorem zr_0_1693 : zOK zPre 0 1693 (s_s1 (nat_lit 45067) (nat_lit 7) (nat_lit 1695)) := ok_s10 (t := 0) (i := 7) (zrow_istore (md := zmd_0) zh_0 (by decide +kernel) rfl)
theorem zr_0_1695 : zOK zPre 0 1695 (s_ld_2 (nat_lit 1136) (nat_lit 1696)) := zokE (zld_2 _ _) (ok_ld0 (t := 4) (i := 2) (zrow_aload_n (k := 2) (md := zmd_0) zh_0 (by decide +kernel) rfl rfl))
theorem zr_0_1696 : zOK zPre 0 1696 (s_call (nat_lit 10) (nat_lit 39) (nat_lit 1) (nat_lit 1) (nat_lit 1) [] (nat_lit 1699)) := ok_call (md := zmd_0) zh_0 zh_39 rfl (by decide) (by decide) (Or.inr (by decide)) zp_39 (zrow_callV (mdc := zmd_39) (index := 155) (md := zmd_0) zh_0 (by decide +kernel) rfl rfl zc_39 rfl (by decide) zw_7_66 zw_7_67 zw_7_68 zw_1_10 zd_39) trivial
theorem zr_0_1699 : zOK zPre 0 1699 (s_ld (nat_lit 45067) (nat_lit 6) (nat_lit 1701)) := ok_ld0 (t := 0) (i := 6) (zrow_iload (md := zmd_0) zh_0 (by decide +kernel) rfl)
theorem zr_0_1701 : zOK zPre 0 1701 (s_ic (nat_lit 0) zu_eq (nat_lit 1706) (nat_lit 1704)) := ok_ic_eq (off := 5) (md := zmd_0) zh_0 (by decide +kernel) (by decide +kernel) rfl
theorem zr_0_1706 : zOK zPre 0 1706 (s_ld (nat_lit 45067) (nat_lit 6) (nat_lit 1708)) := ok_ld0 (t := 0) (i := 6) (zrow_iload (md := zmd_0) zh_0 (by decide +kernel) rfl)
theorem zr_0_1708 : zOK zPre 0 1708 (s_if (nat_lit 1) zi_ne (nat_lit 1723) (nat_lit 1711)) := ok_if_ne (off := 15) (md := zmd_0) zh_0 (by decide +kernel) (by decide +kernel) rfl
theorem zr_0_1711 : zOK zPre 0 1711 (s_ld_3 (nat_lit 1136) (nat_lit 1712)) := zokE (zld_3 _ _) (ok_ld0 (t := 4) (i := 3) (zrow_aload_n (k := 3) (md := zmd_0) zh_0 (by decide +kernel) rfl rfl))
theorem zr_0_1712 : zOK zPre 0 1712 (s_k (nat_lit 0) (nat_lit 1713)) := ok_iconst (n := 0) (md := zmd_0) zh_0 (by decide +kernel) rfl (by decide +kernel)
theorem zr_0_1713 : zOK zPre 0 1713 (s_ald (nat_lit 21) (nat_lit 21) (nat_lit 1714)) := ok_ald0 (by decide) (by decide) (by decide) (zrow_laload (md := zmd_0) zh_0 (by decide +kernel) rfl)
theorem zr_0_1714 : zOK zPre 0 1714 (s_ld (nat_lit 45067) (nat_lit 7) (nat_lit 1716)) := ok_ld0 (t := 0) (i := 7) (zrow_iload (md := zmd_0) zh_0 (by decide +kernel) rfl)
theorem zr_0_1716 : zOK zPre 0 1716 (s_i2l (nat_lit 1717)) := ok_i2l (md := zmd_0) zh_0 (by decide +kernel) rfl
theorem zr_0_1717 : zOK zPre 0 1717 (s_lcmp (nat_lit 1718)) := ok_lcmp (md := zmd_0) zh_0 (by decide +kernel) rfl
theorem zr_0_1718 : zOK zPre 0 1718 (s_if (nat_lit 0) zi_eq (nat_lit 1723) (nat_lit 1721)) := ok_if_eq (off := 5) (md := zmd_0) zh_0 (by decide +kernel) (by decide +kernel) rfl
theorem zr_0_1723 : zOK zPre 0 1723 (s_go (nat_lit 2913)) := ok_go (off := 1190) (md := zmd_0) zh_0 (by decide +kernel) (by decide +kernel)
theorem zr_0_1726 : zOK zPre 0 1726 (s_ld_1 (nat_lit 1136) (nat_lit 1727)) := zokE (zld_1 _ _) (ok_ld0 (t := 4) (i := 1) (zrow_aload_n (k := 1) (md := zmd_0) zh_0 (by decide +kernel) rfl rfl))
theorem zr_0_1727 : zOK zPre 0 1727 (s_ld_0 (nat_lit 1136) (nat_lit 1728)) := zokE (zld_0 _ _) (ok_ld0 (t := 4) (i := 0) (zrow_aload_n (k := 0) (md := zmd_0) zh_0 (by decide +kernel) rfl rfl))
theorem zr_0_1728 : zOK zPre 0 1728 (s_ld_5 (nat_lit 45067) (nat_lit 1730)) := zokE (zld_5 _ _) (ok_ld0 (t := 0) (i := 5) (zrow_iload (md := zmd_0) zh_0 (by decide +kernel) rfl))
theorem zr_0_1730 : zOK zPre 0 1730 (s_k (nat_lit 16) (nat_lit 1731)) := ok_iconst (n := 1) (md := zmd_0) zh_0 (by decide +kernel) rfl (by decide +kernel)
theorem zr_0_1731 : zOK zPre 0 1731 (s_iadd (nat_lit 1732)) := ok_iadd (md := zmd_0) zh_0 (by decide +kernel) rfl
theorem zr_0_1732 : zOK zPre 0 1732 (s_sld (nat_lit 1733)) := ok_sld (md := zmd_0) zh_0 (by decide +kernel) rfl
theorem zr_0_1733 : zOK zPre 0 1733 (s_ld_3 (nat_lit 1136) (nat_lit 1734)) := zokE (zld_3 _ _) (ok_ld0 (t := 4) (i := 3) (zrow_aload_n (k := 3) (md := zmd_0) zh_0 (by decide +kernel) rfl rfl))
theorem zr_0_1734 : zOK zPre 0 1734 (s_call (nat_lit 99) (nat_lit 199) (nat_lit 4) (nat_lit 3) (nat_lit 1) [] (nat_lit 1737)) := ok_call (md := zmd_0) zh_0 zh_199 rfl (by decide) (by decide) (Or.inl rfl) zp_199 (zrow_callSX (mdc := zmd_199) (index := 233) (md := zmd_0) zh_0 (by decide +kernel) rfl rfl zc_199 zw_5_25 zw_5_26 zw_1_0 zd_199) trivial
theorem zr_0_1737 : zOK zPre 0 1737 (s_s1 (nat_lit 45067) (nat_lit 6) (nat_lit 1739)) := ok_s10 (t := 0) (i := 6) (zrow_istore (md := zmd_0) zh_0 (by decide +kernel) rfl)
theorem zr_0_1739 : zOK zPre 0 1739 (s_ld_2 (nat_lit 1136) (nat_lit 1740)) := zokE (zld_2 _ _) (ok_ld0 (t := 4) (i := 2) (zrow_aload_n (k := 2) (md := zmd_0) zh_0 (by decide +kernel) rfl rfl))
theorem zr_0_1740 : zOK zPre 0 1740 (s_ld_0 (nat_lit 1136) (nat_lit 1741)) := zokE (zld_0 _ _) (ok_ld0 (t := 4) (i := 0) (zrow_aload_n (k := 0) (md := zmd_0) zh_0 (by decide +kernel) rfl rfl))
theorem zr_0_1741 : zOK zPre 0 1741 (s_ld_5 (nat_lit 45067) (nat_lit 1743)) := zokE (zld_5 _ _) (ok_ld0 (t := 0) (i := 5) (zrow_iload (md := zmd_0) zh_0 (by decide +kernel) rfl))
theorem zr_0_1743 : zOK zPre 0 1743 (s_k (nat_lit 16) (nat_lit 1744)) := ok_iconst (n := 1) (md := zmd_0) zh_0 (by decide +kernel) rfl (by decide +kernel)
theorem zr_0_1744 : zOK zPre 0 1744 (s_iadd (nat_lit 1745)) := ok_iadd (md := zmd_0) zh_0 (by decide +kernel) rfl
theorem zr_0_1745 : zOK zPre 0 1745 (s_sld (nat_lit 1746)) := ok_sld (md := zmd_0) zh_0 (by decide +kernel) rfl
theorem zr_0_1746 : zOK zPre 0 1746 (s_call (nat_lit 10) (nat_lit 202) (nat_lit 4) (nat_lit 2) (nat_lit 1) [] (nat_lit 1749)) := ok_call (md := zmd_0) zh_0 zh_202 rfl (by decide) (by decide) (Or.inr (by decide)) zp_202 (zrow_callV (mdc := zmd_202) (index := 235) (md := zmd_0) zh_0 (by decide +kernel) rfl rfl zc_202 rfl (by decide) zw_10_101 zw_10_102 zw_10_103 zw_1_10 zd_202) trivial
theorem zr_0_1749 : zOK zPre 0 1749 (s_s1 (nat_lit 45067) (nat_lit 7) (nat_lit 1751)) := ok_s10 (t := 0) (i := 7) (zrow_istore (md := zmd_0) zh_0 (by decide +kernel) rfl)
theorem zr_0_1751 : zOK zPre 0 1751 (s_ld_2 (nat_lit 1136) (nat_lit 1752)) := zokE (zld_2 _ _) (ok_ld0 (t := 4) (i := 2) (zrow_aload_n (k := 2) (md := zmd_0) zh_0 (by decide +kernel) rfl rfl))
theorem zr_0_1752 : zOK zPre 0 1752 (s_call (nat_lit 10) (nat_lit 39) (nat_lit 1) (nat_lit 1) (nat_lit 1) [] (nat_lit 1755)) := ok_call (md := zmd_0) zh_0 zh_39 rfl (by decide) (by decide) (Or.inr (by decide)) zp_39 (zrow_callV (mdc := zmd_39) (index := 155) (md := zmd_0) zh_0 (by decide +kernel) rfl rfl zc_39 rfl (by decide) zw_7_66 zw_7_67 zw_7_68 zw_1_10 zd_39) trivial
theorem zr_0_1755 : zOK zPre 0 1755 (s_ld (nat_lit 45067) (nat_lit 6) (nat_lit 1757)) := ok_ld0 (t := 0) (i := 6) (zrow_iload (md := zmd_0) zh_0 (by decide +kernel) rfl)
theorem zr_0_1757 : zOK zPre 0 1757 (s_ic (nat_lit 0) zu_eq (nat_lit 1762) (nat_lit 1760)) := ok_ic_eq (off := 5) (md := zmd_0) zh_0 (by decide +kernel) (by decide +kernel) rfl
theorem zr_0_1762 : zOK zPre 0 1762 (s_ld (nat_lit 45067) (nat_lit 6) (nat_lit 1764)) := ok_ld0 (t := 0) (i := 6) (zrow_iload (md := zmd_0) zh_0 (by decide +kernel) rfl)
theorem zr_0_1764 : zOK zPre 0 1764 (s_if (nat_lit 1) zi_ne (nat_lit 1779) (nat_lit 1767)) := ok_if_ne (off := 15) (md := zmd_0) zh_0 (by decide +kernel) (by decide +kernel) rfl
theorem zr_0_1767 : zOK zPre 0 1767 (s_ld_3 (nat_lit 1136) (nat_lit 1768)) := zokE (zld_3 _ _) (ok_ld0 (t := 4) (i := 3) (zrow_aload_n (k := 3) (md := zmd_0) zh_0 (by decide +kernel) rfl rfl))
theorem zr_0_1768 : zOK zPre 0 1768 (s_k (nat_lit 0) (nat_lit 1769)) := ok_iconst (n := 0) (md := zmd_0) zh_0 (by decide +kernel) rfl (by decide +kernel)
theorem zr_0_1769 : zOK zPre 0 1769 (s_ald (nat_lit 21) (nat_lit 21) (nat_lit 1770)) := ok_ald0 (by decide) (by decide) (by decide) (zrow_laload (md := zmd_0) zh_0 (by decide +kernel) rfl)
theorem zr_0_1770 : zOK zPre 0 1770 (s_ld (nat_lit 45067) (nat_lit 7) (nat_lit 1772)) := ok_ld0 (t := 0) (i := 7) (zrow_iload (md := zmd_0) zh_0 (by decide +kernel) rfl)
theorem zr_0_1772 : zOK zPre 0 1772 (s_i2l (nat_lit 1773)) := ok_i2l (md := zmd_0) zh_0 (by decide +kernel) rfl
theorem zr_0_1773 : zOK zPre 0 1773 (s_lcmp (nat_lit 1774)) := ok_lcmp (md := zmd_0) zh_0 (by decide +kernel) rfl
theorem zr_0_1774 : zOK zPre 0 1774 (s_if (nat_lit 0) zi_eq (nat_lit 1779) (nat_lit 1777)) := ok_if_eq (off := 5) (md := zmd_0) zh_0 (by decide +kernel) (by decide +kernel) rfl
theorem zr_0_1779 : zOK zPre 0 1779 (s_go (nat_lit 2913)) := ok_go (off := 1134) (md := zmd_0) zh_0 (by decide +kernel) (by decide +kernel)
theorem zr_0_1782 : zOK zPre 0 1782 (s_ld_1 (nat_lit 1136) (nat_lit 1783)) := zokE (zld_1 _ _) (ok_ld0 (t := 4) (i := 1) (zrow_aload_n (k := 1) (md := zmd_0) zh_0 (by decide +kernel) rfl rfl))
theorem zr_0_1783 : zOK zPre 0 1783 (s_ld_0 (nat_lit 1136) (nat_lit 1784)) := zokE (zld_0 _ _) (ok_ld0 (t := 4) (i := 0) (zrow_aload_n (k := 0) (md := zmd_0) zh_0 (by decide +kernel) rfl rfl))
theorem zr_0_1784 : zOK zPre 0 1784 (s_ld_5 (nat_lit 45067) (nat_lit 1786)) := zokE (zld_5 _ _) (ok_ld0 (t := 0) (i := 5) (zrow_iload (md := zmd_0) zh_0 (by decide +kernel) rfl))
theorem zr_0_1786 : zOK zPre 0 1786 (s_k (nat_lit 16) (nat_lit 1787)) := ok_iconst (n := 1) (md := zmd_0) zh_0 (by decide +kernel) rfl (by decide +kernel)
theorem zr_0_1787 : zOK zPre 0 1787 (s_iadd (nat_lit 1788)) := ok_iadd (md := zmd_0) zh_0 (by decide +kernel) rfl
theorem zr_0_1788 : zOK zPre 0 1788 (s_sld (nat_lit 1789)) := ok_sld (md := zmd_0) zh_0 (by decide +kernel) rfl
theorem zr_0_1789 : zOK zPre 0 1789 (s_ld_3 (nat_lit 1136) (nat_lit 1790)) := zokE (zld_3 _ _) (ok_ld0 (t := 4) (i := 3) (zrow_aload_n (k := 3) (md := zmd_0) zh_0 (by decide +kernel) rfl rfl))
theorem zr_0_1790 : zOK zPre 0 1790 (s_call (nat_lit 99) (nat_lit 203) (nat_lit 4) (nat_lit 3) (nat_lit 1) [] (nat_lit 1793)) := ok_call (md := zmd_0) zh_0 zh_203 rfl (by decide) (by decide) (Or.inl rfl) zp_203 (zrow_callSX (mdc := zmd_203) (index := 236) (md := zmd_0) zh_0 (by decide +kernel) rfl rfl zc_203 zw_5_39 zw_5_40 zw_1_0 zd_203) trivial
theorem zr_0_1793 : zOK zPre 0 1793 (s_s1 (nat_lit 45067) (nat_lit 6) (nat_lit 1795)) := ok_s10 (t := 0) (i := 6) (zrow_istore (md := zmd_0) zh_0 (by decide +kernel) rfl)
theorem zr_0_1795 : zOK zPre 0 1795 (s_ld_2 (nat_lit 1136) (nat_lit 1796)) := zokE (zld_2 _ _) (ok_ld0 (t := 4) (i := 2) (zrow_aload_n (k := 2) (md := zmd_0) zh_0 (by decide +kernel) rfl rfl))
theorem zr_0_1796 : zOK zPre 0 1796 (s_ld_0 (nat_lit 1136) (nat_lit 1797)) := zokE (zld_0 _ _) (ok_ld0 (t := 4) (i := 0) (zrow_aload_n (k := 0) (md := zmd_0) zh_0 (by decide +kernel) rfl rfl))
theorem zr_0_1797 : zOK zPre 0 1797 (s_ld_5 (nat_lit 45067) (nat_lit 1799)) := zokE (zld_5 _ _) (ok_ld0 (t := 0) (i := 5) (zrow_iload (md := zmd_0) zh_0 (by decide +kernel) rfl))
theorem zr_0_1799 : zOK zPre 0 1799 (s_k (nat_lit 16) (nat_lit 1800)) := ok_iconst (n := 1) (md := zmd_0) zh_0 (by decide +kernel) rfl (by decide +kernel)
theorem zr_0_1800 : zOK zPre 0 1800 (s_iadd (nat_lit 1801)) := ok_iadd (md := zmd_0) zh_0 (by decide +kernel) rfl
theorem zr_0_1801 : zOK zPre 0 1801 (s_sld (nat_lit 1802)) := ok_sld (md := zmd_0) zh_0 (by decide +kernel) rfl
theorem zr_0_1802 : zOK zPre 0 1802 (s_call (nat_lit 10) (nat_lit 205) (nat_lit 2) (nat_lit 2) (nat_lit 1) [] (nat_lit 1805)) := ok_call (md := zmd_0) zh_0 zh_205 rfl (by decide) (by decide) (Or.inr (by decide)) zp_205 (zrow_callV (mdc := zmd_205) (index := 238) (md := zmd_0) zh_0 (by decide +kernel) rfl rfl zc_205 rfl (by decide) zw_10_106 zw_10_107 zw_10_108 zw_1_10 zd_205) trivial
theorem zr_0_1805 : zOK zPre 0 1805 (s_s1 (nat_lit 45067) (nat_lit 7) (nat_lit 1807)) := ok_s10 (t := 0) (i := 7) (zrow_istore (md := zmd_0) zh_0 (by decide +kernel) rfl)
theorem zr_0_1807 : zOK zPre 0 1807 (s_ld_2 (nat_lit 1136) (nat_lit 1808)) := zokE (zld_2 _ _) (ok_ld0 (t := 4) (i := 2) (zrow_aload_n (k := 2) (md := zmd_0) zh_0 (by decide +kernel) rfl rfl))
theorem zr_0_1808 : zOK zPre 0 1808 (s_call (nat_lit 10) (nat_lit 39) (nat_lit 1) (nat_lit 1) (nat_lit 1) [] (nat_lit 1811)) := ok_call (md := zmd_0) zh_0 zh_39 rfl (by decide) (by decide) (Or.inr (by decide)) zp_39 (zrow_callV (mdc := zmd_39) (index := 155) (md := zmd_0) zh_0 (by decide +kernel) rfl rfl zc_39 rfl (by decide) zw_7_66 zw_7_67 zw_7_68 zw_1_10 zd_39) trivial
theorem zr_0_1811 : zOK zPre 0 1811 (s_ld (nat_lit 45067) (nat_lit 6) (nat_lit 1813)) := ok_ld0 (t := 0) (i := 6) (zrow_iload (md := zmd_0) zh_0 (by decide +kernel) rfl)
theorem zr_0_1813 : zOK zPre 0 1813 (s_ic (nat_lit 0) zu_eq (nat_lit 1818) (nat_lit 1816)) := ok_ic_eq (off := 5) (md := zmd_0) zh_0 (by decide +kernel) (by decide +kernel) rfl
theorem zr_0_1818 : zOK zPre 0 1818 (s_ld (nat_lit 45067) (nat_lit 6) (nat_lit 1820)) := ok_ld0 (t := 0) (i := 6) (zrow_iload (md := zmd_0) zh_0 (by decide +kernel) rfl)
theorem zr_0_1820 : zOK zPre 0 1820 (s_if (nat_lit 1) zi_ne (nat_lit 1835) (nat_lit 1823)) := ok_if_ne (off := 15) (md := zmd_0) zh_0 (by decide +kernel) (by decide +kernel) rfl
theorem zr_0_1835 : zOK zPre 0 1835 (s_go (nat_lit 2913)) := ok_go (off := 1078) (md := zmd_0) zh_0 (by decide +kernel) (by decide +kernel)
theorem zr_0_1838 : zOK zPre 0 1838 (s_ld_1 (nat_lit 1136) (nat_lit 1839)) := zokE (zld_1 _ _) (ok_ld0 (t := 4) (i := 1) (zrow_aload_n (k := 1) (md := zmd_0) zh_0 (by decide +kernel) rfl rfl))
theorem zr_0_1839 : zOK zPre 0 1839 (s_ld_0 (nat_lit 1136) (nat_lit 1840)) := zokE (zld_0 _ _) (ok_ld0 (t := 4) (i := 0) (zrow_aload_n (k := 0) (md := zmd_0) zh_0 (by decide +kernel) rfl rfl))
theorem zr_0_1840 : zOK zPre 0 1840 (s_ld_5 (nat_lit 45067) (nat_lit 1842)) := zokE (zld_5 _ _) (ok_ld0 (t := 0) (i := 5) (zrow_iload (md := zmd_0) zh_0 (by decide +kernel) rfl))
theorem zr_0_1842 : zOK zPre 0 1842 (s_k (nat_lit 16) (nat_lit 1843)) := ok_iconst (n := 1) (md := zmd_0) zh_0 (by decide +kernel) rfl (by decide +kernel)
theorem zr_0_1843 : zOK zPre 0 1843 (s_iadd (nat_lit 1844)) := ok_iadd (md := zmd_0) zh_0 (by decide +kernel) rfl
theorem zr_0_1844 : zOK zPre 0 1844 (s_sld (nat_lit 1845)) := ok_sld (md := zmd_0) zh_0 (by decide +kernel) rfl
theorem zr_0_1845 : zOK zPre 0 1845 (s_ld_0 (nat_lit 1136) (nat_lit 1846)) := zokE (zld_0 _ _) (ok_ld0 (t := 4) (i := 0) (zrow_aload_n (k := 0) (md := zmd_0) zh_0 (by decide +kernel) rfl rfl))
theorem zr_0_1846 : zOK zPre 0 1846 (s_ld_5 (nat_lit 45067) (nat_lit 1848)) := zokE (zld_5 _ _) (ok_ld0 (t := 0) (i := 5) (zrow_iload (md := zmd_0) zh_0 (by decide +kernel) rfl))
theorem zr_0_1848 : zOK zPre 0 1848 (s_k (nat_lit 32) (nat_lit 1849)) := ok_iconst (n := 2) (md := zmd_0) zh_0 (by decide +kernel) rfl (by decide +kernel)
theorem zr_0_1849 : zOK zPre 0 1849 (s_iadd (nat_lit 1850)) := ok_iadd (md := zmd_0) zh_0 (by decide +kernel) rfl
theorem zr_0_1850 : zOK zPre 0 1850 (s_sld (nat_lit 1851)) := ok_sld (md := zmd_0) zh_0 (by decide +kernel) rfl
theorem zr_0_1851 : zOK zPre 0 1851 (s_ld_0 (nat_lit 1136) (nat_lit 1852)) := zokE (zld_0 _ _) (ok_ld0 (t := 4) (i := 0) (zrow_aload_n (k := 0) (md := zmd_0) zh_0 (by decide +kernel) rfl rfl))
theorem zr_0_1852 : zOK zPre 0 1852 (s_ld_5 (nat_lit 45067) (nat_lit 1854)) := zokE (zld_5 _ _) (ok_ld0 (t := 0) (i := 5) (zrow_iload (md := zmd_0) zh_0 (by decide +kernel) rfl))
theorem zr_0_1854 : zOK zPre 0 1854 (s_k (nat_lit 48) (nat_lit 1855)) := ok_iconst (n := 3) (md := zmd_0) zh_0 (by decide +kernel) rfl (by decide +kernel)
theorem zr_0_1855 : zOK zPre 0 1855 (s_iadd (nat_lit 1856)) := ok_iadd (md := zmd_0) zh_0 (by decide +kernel) rfl
theorem zr_0_1856 : zOK zPre 0 1856 (s_sld (nat_lit 1857)) := ok_sld (md := zmd_0) zh_0 (by decide +kernel) rfl
theorem zr_0_1857 : zOK zPre 0 1857 (s_ld_0 (nat_lit 1136) (nat_lit 1858)) := zokE (zld_0 _ _) (ok_ld0 (t := 4) (i := 0) (zrow_aload_n (k := 0) (md := zmd_0) zh_0 (by decide +kernel) rfl rfl))
theorem zr_0_1858 : zOK zPre 0 1858 (s_ld_5 (nat_lit 45067) (nat_lit 1860)) := zokE (zld_5 _ _) (ok_ld0 (t := 0) (i := 5) (zrow_iload (md := zmd_0) zh_0 (by decide +kernel) rfl))
theorem zr_0_1860 : zOK zPre 0 1860 (s_k (nat_lit 64) (nat_lit 1861)) := ok_iconst (n := 4) (md := zmd_0) zh_0 (by decide +kernel) rfl (by decide +kernel)
theorem zr_0_1861 : zOK zPre 0 1861 (s_iadd (nat_lit 1862)) := ok_iadd (md := zmd_0) zh_0 (by decide +kernel) rfl
theorem zr_0_1862 : zOK zPre 0 1862 (s_sld (nat_lit 1863)) := ok_sld (md := zmd_0) zh_0 (by decide +kernel) rfl
theorem zr_0_1863 : zOK zPre 0 1863 (s_ld_3 (nat_lit 1136) (nat_lit 1864)) := zokE (zld_3 _ _) (ok_ld0 (t := 4) (i := 3) (zrow_aload_n (k := 3) (md := zmd_0) zh_0 (by decide +kernel) rfl rfl))
theorem zr_0_1864 : zOK zPre 0 1864 (s_call (nat_lit 99) (nat_lit 206) (nat_lit 7) (nat_lit 6) (nat_lit 1) [] (nat_lit 1867)) := ok_call (md := zmd_0) zh_0 zh_206 rfl (by decide) (by decide) (Or.inl rfl) zp_206 (zrow_callSX (mdc := zmd_206) (index := 239) (md := zmd_0) zh_0 (by decide +kernel) rfl rfl zc_206 zw_5_46 zw_5_47 zw_1_0 zd_206) trivial
theorem zr_0_1867 : zOK zPre 0 1867 (s_s1 (nat_lit 45067) (nat_lit 6) (nat_lit 1869)) := ok_s10 (t := 0) (i := 6) (zrow_istore (md := zmd_0) zh_0 (by decide +kernel) rfl)
theorem zr_0_1869 : zOK zPre 0 1869 (s_ld_2 (nat_lit 1136) (nat_lit 1870)) := zokE (zld_2 _ _) (ok_ld0 (t := 4) (i := 2) (zrow_aload_n (k := 2) (md := zmd_0) zh_0 (by decide +kernel) rfl rfl))
theorem zr_0_1870 : zOK zPre 0 1870 (s_ld_0 (nat_lit 1136) (nat_lit 1871)) := zokE (zld_0 _ _) (ok_ld0 (t := 4) (i := 0) (zrow_aload_n (k := 0) (md := zmd_0) zh_0 (by decide +kernel) rfl rfl))
theorem zr_0_1871 : zOK zPre 0 1871 (s_ld_5 (nat_lit 45067) (nat_lit 1873)) := zokE (zld_5 _ _) (ok_ld0 (t := 0) (i := 5) (zrow_iload (md := zmd_0) zh_0 (by decide +kernel) rfl))
theorem zr_0_1873 : zOK zPre 0 1873 (s_k (nat_lit 16) (nat_lit 1874)) := ok_iconst (n := 1) (md := zmd_0) zh_0 (by decide +kernel) rfl (by decide +kernel)
theorem zr_0_1874 : zOK zPre 0 1874 (s_iadd (nat_lit 1875)) := ok_iadd (md := zmd_0) zh_0 (by decide +kernel) rfl
theorem zr_0_1875 : zOK zPre 0 1875 (s_sld (nat_lit 1876)) := ok_sld (md := zmd_0) zh_0 (by decide +kernel) rfl
theorem zr_0_1876 : zOK zPre 0 1876 (s_ld_0 (nat_lit 1136) (nat_lit 1877)) := zokE (zld_0 _ _) (ok_ld0 (t := 4) (i := 0) (zrow_aload_n (k := 0) (md := zmd_0) zh_0 (by decide +kernel) rfl rfl))
theorem zr_0_1877 : zOK zPre 0 1877 (s_ld_5 (nat_lit 45067) (nat_lit 1879)) := zokE (zld_5 _ _) (ok_ld0 (t := 0) (i := 5) (zrow_iload (md := zmd_0) zh_0 (by decide +kernel) rfl))
theorem zr_0_1879 : zOK zPre 0 1879 (s_k (nat_lit 32) (nat_lit 1880)) := ok_iconst (n := 2) (md := zmd_0) zh_0 (by decide +kernel) rfl (by decide +kernel)
theorem zr_0_1880 : zOK zPre 0 1880 (s_iadd (nat_lit 1881)) := ok_iadd (md := zmd_0) zh_0 (by decide +kernel) rfl
theorem zr_0_1881 : zOK zPre 0 1881 (s_sld (nat_lit 1882)) := ok_sld (md := zmd_0) zh_0 (by decide +kernel) rfl
theorem zr_0_1882 : zOK zPre 0 1882 (s_ld_0 (nat_lit 1136) (nat_lit 1883)) := zokE (zld_0 _ _) (ok_ld0 (t := 4) (i := 0) (zrow_aload_n (k := 0) (md := zmd_0) zh_0 (by decide +kernel) rfl rfl))
theorem zr_0_1883 : zOK zPre 0 1883 (s_ld_5 (nat_lit 45067) (nat_lit 1885)) := zokE (zld_5 _ _) (ok_ld0 (t := 0) (i := 5) (zrow_iload (md := zmd_0) zh_0 (by decide +kernel) rfl))
theorem zr_0_1885 : zOK zPre 0 1885 (s_k (nat_lit 48) (nat_lit 1886)) := ok_iconst (n := 3) (md := zmd_0) zh_0 (by decide +kernel) rfl (by decide +kernel)
theorem zr_0_1886 : zOK zPre 0 1886 (s_iadd (nat_lit 1887)) := ok_iadd (md := zmd_0) zh_0 (by decide +kernel) rfl
theorem zr_0_1887 : zOK zPre 0 1887 (s_sld (nat_lit 1888)) := ok_sld (md := zmd_0) zh_0 (by decide +kernel) rfl
theorem zr_0_1888 : zOK zPre 0 1888 (s_ld_0 (nat_lit 1136) (nat_lit 1889)) := zokE (zld_0 _ _) (ok_ld0 (t := 4) (i := 0) (zrow_aload_n (k := 0) (md := zmd_0) zh_0 (by decide +kernel) rfl rfl))
theorem zr_0_1889 : zOK zPre 0 1889 (s_ld_5 (nat_lit 45067) (nat_lit 1891)) := zokE (zld_5 _ _) (ok_ld0 (t := 0) (i := 5) (zrow_iload (md := zmd_0) zh_0 (by decide +kernel) rfl))
theorem zr_0_1891 : zOK zPre 0 1891 (s_k (nat_lit 64) (nat_lit 1892)) := ok_iconst (n := 4) (md := zmd_0) zh_0 (by decide +kernel) rfl (by decide +kernel)
theorem zr_0_1892 : zOK zPre 0 1892 (s_iadd (nat_lit 1893)) := ok_iadd (md := zmd_0) zh_0 (by decide +kernel) rfl
theorem zr_0_1893 : zOK zPre 0 1893 (s_sld (nat_lit 1894)) := ok_sld (md := zmd_0) zh_0 (by decide +kernel) rfl
theorem zr_0_1894 : zOK zPre 0 1894 (s_call (nat_lit 10) (nat_lit 208) (nat_lit 7) (nat_lit 5) (nat_lit 1) [] (nat_lit 1897)) := ok_call (md := zmd_0) zh_0 zh_208 rfl (by decide) (by decide) (Or.inr (by decide)) zp_208 (zrow_callV (mdc := zmd_208) (index := 241) (md := zmd_0) zh_0 (by decide +kernel) rfl rfl zc_208 rfl (by decide) zw_10_110 zw_10_111 zw_10_112 zw_1_10 zd_208) trivial
theorem zr_0_1897 : zOK zPre 0 1897 (s_s1 (nat_lit 45067) (nat_lit 7) (nat_lit 1899)) := ok_s10 (t := 0) (i := 7) (zrow_istore (md := zmd_0) zh_0 (by decide +kernel) rfl)
theorem zr_0_1899 : zOK zPre 0 1899 (s_ld_2 (nat_lit 1136) (nat_lit 1900)) := zokE (zld_2 _ _) (ok_ld0 (t := 4) (i := 2) (zrow_aload_n (k := 2) (md := zmd_0) zh_0 (by decide +kernel) rfl rfl))
theorem zr_0_1900 : zOK zPre 0 1900 (s_call (nat_lit 10) (nat_lit 39) (nat_lit 1) (nat_lit 1) (nat_lit 1) [] (nat_lit 1903)) := ok_call (md := zmd_0) zh_0 zh_39 rfl (by decide) (by decide) (Or.inr (by decide)) zp_39 (zrow_callV (mdc := zmd_39) (index := 155) (md := zmd_0) zh_0 (by decide +kernel) rfl rfl zc_39 rfl (by decide) zw_7_66 zw_7_67 zw_7_68 zw_1_10 zd_39) trivial
theorem zr_0_1903 : zOK zPre 0 1903 (s_ld (nat_lit 45067) (nat_lit 6) (nat_lit 1905)) := ok_ld0 (t := 0) (i := 6) (zrow_iload (md := zmd_0) zh_0 (by decide +kernel) rfl)
theorem zr_0_1905 : zOK zPre 0 1905 (s_ic (nat_lit 0) zu_eq (nat_lit 1910) (nat_lit 1908)) := ok_ic_eq (off := 5) (md := zmd_0) zh_0 (by decide +kernel) (by decide +kernel) rfl
theorem zr_0_1910 : zOK zPre 0 1910 (s_ld (nat_lit 45067) (nat_lit 6) (nat_lit 1912)) := ok_ld0 (t := 0) (i := 6) (zrow_iload (md := zmd_0) zh_0 (by decide +kernel) rfl)
theorem zr_0_1912 : zOK zPre 0 1912 (s_if (nat_lit 1) zi_ne (nat_lit 1927) (nat_lit 1915)) := ok_if_ne (off := 15) (md := zmd_0) zh_0 (by decide +kernel) (by decide +kernel) rfl
theorem zr_0_1927 : zOK zPre 0 1927 (s_go (nat_lit 2913)) := ok_go (off := 986) (md := zmd_0) zh_0 (by decide +kernel) (by decide +kernel)
theorem zr_0_1930 : zOK zPre 0 1930 (s_ld_1 (nat_lit 1136) (nat_lit 1931)) := zokE (zld_1 _ _) (ok_ld0 (t := 4) (i := 1) (zrow_aload_n (k := 1) (md := zmd_0) zh_0 (by decide +kernel) rfl rfl))
theorem zr_0_1931 : zOK zPre 0 1931 (s_ld_0 (nat_lit 1136) (nat_lit 1932)) := zokE (zld_0 _ _) (ok_ld0 (t := 4) (i := 0) (zrow_aload_n (k := 0) (md := zmd_0) zh_0 (by decide +kernel) rfl rfl))
theorem zr_0_1932 : zOK zPre 0 1932 (s_ld_5 (nat_lit 45067) (nat_lit 1934)) := zokE (zld_5 _ _) (ok_ld0 (t := 0) (i := 5) (zrow_iload (md := zmd_0) zh_0 (by decide +kernel) rfl))
theorem zr_0_1934 : zOK zPre 0 1934 (s_k (nat_lit 16) (nat_lit 1935)) := ok_iconst (n := 1) (md := zmd_0) zh_0 (by decide +kernel) rfl (by decide +kernel)
theorem zr_0_1935 : zOK zPre 0 1935 (s_iadd (nat_lit 1936)) := ok_iadd (md := zmd_0) zh_0 (by decide +kernel) rfl
theorem zr_0_1936 : zOK zPre 0 1936 (s_sld (nat_lit 1937)) := ok_sld (md := zmd_0) zh_0 (by decide +kernel) rfl
theorem zr_0_1937 : zOK zPre 0 1937 (s_ld_0 (nat_lit 1136) (nat_lit 1938)) := zokE (zld_0 _ _) (ok_ld0 (t := 4) (i := 0) (zrow_aload_n (k := 0) (md := zmd_0) zh_0 (by decide +kernel) rfl rfl))
theorem zr_0_1938 : zOK zPre 0 1938 (s_ld_5 (nat_lit 45067) (nat_lit 1940)) := zokE (zld_5 _ _) (ok_ld0 (t := 0) (i := 5) (zrow_iload (md := zmd_0) zh_0 (by decide +kernel) rfl))
theorem zr_0_1940 : zOK zPre 0 1940 (s_k (nat_lit 32) (nat_lit 1941)) := ok_iconst (n := 2) (md := zmd_0) zh_0 (by decide +kernel) rfl (by decide +kernel)
theorem zr_0_1941 : zOK zPre 0 1941 (s_iadd (nat_lit 1942)) := ok_iadd (md := zmd_0) zh_0 (by decide +kernel) rfl
theorem zr_0_1942 : zOK zPre 0 1942 (s_sld (nat_lit 1943)) := ok_sld (md := zmd_0) zh_0 (by decide +kernel) rfl
theorem zr_0_1943 : zOK zPre 0 1943 (s_ld_0 (nat_lit 1136) (nat_lit 1944)) := zokE (zld_0 _ _) (ok_ld0 (t := 4) (i := 0) (zrow_aload_n (k := 0) (md := zmd_0) zh_0 (by decide +kernel) rfl rfl))
theorem zr_0_1944 : zOK zPre 0 1944 (s_ld_5 (nat_lit 45067) (nat_lit 1946)) := zokE (zld_5 _ _) (ok_ld0 (t := 0) (i := 5) (zrow_iload (md := zmd_0) zh_0 (by decide +kernel) rfl))
theorem zr_0_1946 : zOK zPre 0 1946 (s_k (nat_lit 48) (nat_lit 1947)) := ok_iconst (n := 3) (md := zmd_0) zh_0 (by decide +kernel) rfl (by decide +kernel)
theorem zr_0_1947 : zOK zPre 0 1947 (s_iadd (nat_lit 1948)) := ok_iadd (md := zmd_0) zh_0 (by decide +kernel) rfl
theorem zr_0_1948 : zOK zPre 0 1948 (s_sld (nat_lit 1949)) := ok_sld (md := zmd_0) zh_0 (by decide +kernel) rfl
theorem zr_0_1949 : zOK zPre 0 1949 (s_ld_3 (nat_lit 1136) (nat_lit 1950)) := zokE (zld_3 _ _) (ok_ld0 (t := 4) (i := 3) (zrow_aload_n (k := 3) (md := zmd_0) zh_0 (by decide +kernel) rfl rfl))
end RowsOK
