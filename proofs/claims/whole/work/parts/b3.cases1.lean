/-! ===== the law, cases 24 to 47 ===== -/
section LAW1
variable {p : Program} {l : Launch} {e : Env} {s : State} {m : MethodId} {below : List Frame} {meth : Method} {c : Code} {H : Heap} {locs : List Loc} {Q : State → Prop}
variable {ls : Array Slot} {g : xG} {u : xM} {b L : Nat} {xs : Nat → Int32} {ad : Nat → Nat} {q0 q1 i : Nat}
set_option maxHeartbeats 4000000 in
set_option maxRecDepth 100000 in
theorem lw_24 (X : L_C p s m meth c g b L xs) (hw : y_W g (lwA s) [] ad KA u s.heap H locs) (I : INV u) (hq0 : ad 0 = q0) (hq1 : ad 272 = q1) (hl : lv_has ls 4 (lwL b q0 q1 i)) (hi : i + 6 ≤ L) (kk : ∀ (u' : xM) (H' : Heap) (locs' : List Loc), y_W g (lwA s) [] ad KA u' s.heap H' locs' → INV u' → W p l e room_1 s m #[Value.ref b] below meth c H' locs' 290 15295 Q (F0 m 2206 ls [])) : W p l e room_1 s m #[Value.ref b] below meth c H locs 290 15295 Q (F0 m 1017 ls []) := by
  have hx := X.1.1.1
  have hb := X.1.1.2.1
  have hown := X.1.1.2.2.2.1
  have hts := X.1.1.2.2.2.2.1
  refine lv_aload_n hx hb dL_law_1017 rfl (lv_at hl 1 rfl) ?_
  refine L_arg X hw.2.2 hl 1 (by omega) (by decide) dL_law_1018 dL_law_1019 dL_law_1020 dL_law_1021 dL_law_1022 ?_
  refine y_calli hw (y_runV (ci := 10) X.1 hw (m_X10_linked l (y_xD KA_nd hw.2.1) KA_x (K_linked I (xs (i + 1)))) k_X (KA_x 0 (by decide)) hq0 rfl (x_gV xw_1132 xw_1133 xw_1134 xw_2 xw_1135) rfl rfl qX10_linked ⟨Nat.le_of_ble_eq_true rfl, Nat.le_of_ble_eq_true rfl⟩ rfl hl.1 rfl (Nat.le_of_ble_eq_true rfl) dL_law_1023 ⟨Nat.le_of_ble_eq_true rfl, Nat.le_of_ble_eq_true rfl⟩) (fun r1 u1 H locs hw h1 => ?_)
  refine lv_aload_n hx hb dL_law_1026 rfl (lv_at hl 2 rfl) ?_
  refine L_arg X hw.2.2 hl 1 (by omega) (by decide) dL_law_1027 dL_law_1028 dL_law_1029 dL_law_1030 dL_law_1031 ?_
  refine y_calli hw (y_runV (ci := 11) X.1 hw (m_X11_linked l (y_xD KA_nd hw.2.1) KA_m h1) k_M (KA_m 272 (by decide) (by decide)) hq1 rfl (x_gV xw_1148 xw_1149 xw_1150 xw_5 xw_1151) rfl rfl qX11_linked ⟨Nat.le_of_ble_eq_true rfl, Nat.le_of_ble_eq_true rfl⟩ rfl hl.1 rfl (Nat.le_of_ble_eq_true rfl) dL_law_1032 ⟨Nat.le_of_ble_eq_true rfl, Nat.le_of_ble_eq_true rfl⟩) (fun r2 u2 H locs hw h2 => ?_)
  exact lv_icmp_eq (tgt := 2206) hx hb dL_law_1035 (by decide) (fun _ => kk _ _ _ hw h2.2) (fun z => absurd h2.1 z)
set_option maxHeartbeats 4000000 in
set_option maxRecDepth 100000 in
theorem lw_25 (X : L_C p s m meth c g b L xs) (hw : y_W g (lwA s) [] ad KA u s.heap H locs) (I : INV u) (hq0 : ad 0 = q0) (hq1 : ad 272 = q1) (hl : lv_has ls 4 (lwL b q0 q1 i)) (hi : i + 6 ≤ L) (kk : ∀ (u' : xM) (H' : Heap) (locs' : List Loc), y_W g (lwA s) [] ad KA u' s.heap H' locs' → INV u' → W p l e room_1 s m #[Value.ref b] below meth c H' locs' 290 15295 Q (F0 m 2206 ls [])) : W p l e room_1 s m #[Value.ref b] below meth c H locs 290 15295 Q (F0 m 1040 ls []) := by
  have hx := X.1.1.1
  have hb := X.1.1.2.1
  have hown := X.1.1.2.2.2.1
  have hts := X.1.1.2.2.2.2.1
  refine lv_aload_n hx hb dL_law_1040 rfl (lv_at hl 1 rfl) ?_
  refine L_arg X hw.2.2 hl 1 (by omega) (by decide) dL_law_1041 dL_law_1042 dL_law_1043 dL_law_1044 dL_law_1045 ?_
  refine y_calli hw (y_runV (ci := 10) X.1 hw (m_X10_hour l (y_xD KA_nd hw.2.1) KA_x (K_hour I (xs (i + 1)))) k_X (KA_x 0 (by decide)) hq0 rfl (x_gV xw_1156 xw_1157 xw_1158 xw_2 xw_1159) rfl rfl qX10_hour ⟨Nat.le_of_ble_eq_true rfl, Nat.le_of_ble_eq_true rfl⟩ rfl hl.1 rfl (Nat.le_of_ble_eq_true rfl) dL_law_1046 ⟨Nat.le_of_ble_eq_true rfl, Nat.le_of_ble_eq_true rfl⟩) (fun r1 u1 H locs hw h1 => ?_)
  refine lv_aload_n hx hb dL_law_1049 rfl (lv_at hl 2 rfl) ?_
  refine L_arg X hw.2.2 hl 1 (by omega) (by decide) dL_law_1050 dL_law_1051 dL_law_1052 dL_law_1053 dL_law_1054 ?_
  refine y_calli hw (y_runV (ci := 11) X.1 hw (m_X11_hour l (y_xD KA_nd hw.2.1) KA_m h1) k_M (KA_m 272 (by decide) (by decide)) hq1 rfl (x_gV xw_1192 xw_1193 xw_1194 xw_5 xw_1195) rfl rfl qX11_hour ⟨Nat.le_of_ble_eq_true rfl, Nat.le_of_ble_eq_true rfl⟩ rfl hl.1 rfl (Nat.le_of_ble_eq_true rfl) dL_law_1055 ⟨Nat.le_of_ble_eq_true rfl, Nat.le_of_ble_eq_true rfl⟩) (fun r2 u2 H locs hw h2 => ?_)
  exact lv_icmp_eq (tgt := 2206) hx hb dL_law_1058 (by decide) (fun _ => kk _ _ _ hw h2.2) (fun z => absurd h2.1 z)
set_option maxHeartbeats 4000000 in
set_option maxRecDepth 100000 in
theorem lw_26 (X : L_C p s m meth c g b L xs) (hw : y_W g (lwA s) [] ad KA u s.heap H locs) (I : INV u) (hq0 : ad 0 = q0) (hq1 : ad 272 = q1) (hl : lv_has ls 4 (lwL b q0 q1 i)) (hi : i + 6 ≤ L) (kk : ∀ (u' : xM) (H' : Heap) (locs' : List Loc), y_W g (lwA s) [] ad KA u' s.heap H' locs' → INV u' → W p l e room_1 s m #[Value.ref b] below meth c H' locs' 290 15295 Q (F0 m 2206 ls [])) : W p l e room_1 s m #[Value.ref b] below meth c H locs 290 15295 Q (F0 m 1063 ls []) := by
  have hx := X.1.1.1
  have hb := X.1.1.2.1
  have hown := X.1.1.2.2.2.1
  have hts := X.1.1.2.2.2.2.1
  refine lv_aload_n hx hb dL_law_1063 rfl (lv_at hl 1 rfl) ?_
  refine L_arg X hw.2.2 hl 1 (by omega) (by decide) dL_law_1064 dL_law_1065 dL_law_1066 dL_law_1067 dL_law_1068 ?_
  refine L_arg X hw.2.2 hl 2 (by omega) (by decide) dL_law_1069 dL_law_1070 dL_law_1071 dL_law_1072 dL_law_1073 ?_
  refine L_bool X dL_law_1074 dL_law_1077 dL_law_1078 dL_law_1081 ?_
  refine y_callz hw (y_runV (ci := 10) X.1 hw (m_X10_hold l (y_xD KA_nd hw.2.1) KA_x (K_hold I (xs (i + 1)) (decide ((xs (i + 2)) ≠ 0)))) k_X (KA_x 0 (by decide)) hq0 rfl (x_gV xw_1213 xw_1214 xw_1215 xw_2 xw_1216) rfl rfl qX10_hold ⟨Nat.le_of_ble_eq_true rfl, Nat.le_of_ble_eq_true rfl⟩ rfl hl.1 rfl (Nat.le_of_ble_eq_true rfl) dL_law_1082 ⟨Nat.le_of_ble_eq_true rfl, Nat.le_of_ble_eq_true rfl⟩) (fun r1 u1 H locs hw h1 => ?_)
  refine lv_aload_n hx hb dL_law_1085 rfl (lv_at hl 2 rfl) ?_
  refine L_arg X hw.2.2 hl 1 (by omega) (by decide) dL_law_1086 dL_law_1087 dL_law_1088 dL_law_1089 dL_law_1090 ?_
  refine L_arg X hw.2.2 hl 2 (by omega) (by decide) dL_law_1091 dL_law_1092 dL_law_1093 dL_law_1094 dL_law_1095 ?_
  refine L_bool X dL_law_1096 dL_law_1099 dL_law_1100 dL_law_1103 ?_
  refine y_callz hw (y_runV (ci := 11) X.1 hw (m_X11_hold l (y_xD KA_nd hw.2.1) KA_m h1) k_M (KA_m 272 (by decide) (by decide)) hq1 rfl (x_gV xw_1221 xw_1222 xw_1223 xw_5 xw_1224) rfl rfl qX11_hold ⟨Nat.le_of_ble_eq_true rfl, Nat.le_of_ble_eq_true rfl⟩ rfl hl.1 rfl (Nat.le_of_ble_eq_true rfl) dL_law_1104 ⟨Nat.le_of_ble_eq_true rfl, Nat.le_of_ble_eq_true rfl⟩) (fun r2 u2 H locs hw h2 => ?_)
  exact lv_icmp_eq (tgt := 2206) hx hb dL_law_1107 (by decide) (fun _ => kk _ _ _ hw h2.2) (fun z => absurd (by rw [h2.1]) z)
set_option maxHeartbeats 4000000 in
set_option maxRecDepth 100000 in
theorem lw_27 (X : L_C p s m meth c g b L xs) (hw : y_W g (lwA s) [] ad KA u s.heap H locs) (I : INV u) (hq0 : ad 0 = q0) (hq1 : ad 272 = q1) (hl : lv_has ls 4 (lwL b q0 q1 i)) (hi : i + 6 ≤ L) (kk : ∀ (u' : xM) (H' : Heap) (locs' : List Loc), y_W g (lwA s) [] ad KA u' s.heap H' locs' → INV u' → W p l e room_1 s m #[Value.ref b] below meth c H' locs' 290 15295 Q (F0 m 2206 ls [])) : W p l e room_1 s m #[Value.ref b] below meth c H locs 290 15295 Q (F0 m 1112 ls []) := by
  have hx := X.1.1.1
  have hb := X.1.1.2.1
  have hown := X.1.1.2.2.2.1
  have hts := X.1.1.2.2.2.2.1
  refine lv_aload_n hx hb dL_law_1112 rfl (lv_at hl 1 rfl) ?_
  refine L_arg X hw.2.2 hl 1 (by omega) (by decide) dL_law_1113 dL_law_1114 dL_law_1115 dL_law_1116 dL_law_1117 ?_
  refine L_arg X hw.2.2 hl 2 (by omega) (by decide) dL_law_1118 dL_law_1119 dL_law_1120 dL_law_1121 dL_law_1122 ?_
  refine L_bool X dL_law_1123 dL_law_1126 dL_law_1127 dL_law_1130 ?_
  refine y_callz hw (y_runV (ci := 10) X.1 hw (m_X10_wall l (y_xD KA_nd hw.2.1) KA_x (K_wall I (xs (i + 1)) (decide ((xs (i + 2)) ≠ 0)))) k_X (KA_x 0 (by decide)) hq0 rfl (x_gV xw_1229 xw_1230 xw_1231 xw_2 xw_1232) rfl rfl qX10_wall ⟨Nat.le_of_ble_eq_true rfl, Nat.le_of_ble_eq_true rfl⟩ rfl hl.1 rfl (Nat.le_of_ble_eq_true rfl) dL_law_1131 ⟨Nat.le_of_ble_eq_true rfl, Nat.le_of_ble_eq_true rfl⟩) (fun r1 u1 H locs hw h1 => ?_)
  refine lv_aload_n hx hb dL_law_1134 rfl (lv_at hl 2 rfl) ?_
  refine L_arg X hw.2.2 hl 1 (by omega) (by decide) dL_law_1135 dL_law_1136 dL_law_1137 dL_law_1138 dL_law_1139 ?_
  refine L_arg X hw.2.2 hl 2 (by omega) (by decide) dL_law_1140 dL_law_1141 dL_law_1142 dL_law_1143 dL_law_1144 ?_
  refine L_bool X dL_law_1145 dL_law_1148 dL_law_1149 dL_law_1152 ?_
  refine y_callz hw (y_runV (ci := 11) X.1 hw (m_X11_wall l (y_xD KA_nd hw.2.1) KA_m h1) k_M (KA_m 272 (by decide) (by decide)) hq1 rfl (x_gV xw_1234 xw_1235 xw_1236 xw_5 xw_1237) rfl rfl qX11_wall ⟨Nat.le_of_ble_eq_true rfl, Nat.le_of_ble_eq_true rfl⟩ rfl hl.1 rfl (Nat.le_of_ble_eq_true rfl) dL_law_1153 ⟨Nat.le_of_ble_eq_true rfl, Nat.le_of_ble_eq_true rfl⟩) (fun r2 u2 H locs hw h2 => ?_)
  exact lv_icmp_eq (tgt := 2206) hx hb dL_law_1156 (by decide) (fun _ => kk _ _ _ hw h2.2) (fun z => absurd (by rw [h2.1]) z)
set_option maxHeartbeats 4000000 in
set_option maxRecDepth 100000 in
theorem lw_28 (X : L_C p s m meth c g b L xs) (hw : y_W g (lwA s) [] ad KA u s.heap H locs) (I : INV u) (hq0 : ad 0 = q0) (hq1 : ad 272 = q1) (hl : lv_has ls 4 (lwL b q0 q1 i)) (hi : i + 6 ≤ L) (kk : ∀ (u' : xM) (H' : Heap) (locs' : List Loc), y_W g (lwA s) [] ad KA u' s.heap H' locs' → INV u' → W p l e room_1 s m #[Value.ref b] below meth c H' locs' 290 15295 Q (F0 m 2206 ls [])) : W p l e room_1 s m #[Value.ref b] below meth c H locs 290 15295 Q (F0 m 1161 ls []) := by
  have hx := X.1.1.1
  have hb := X.1.1.2.1
  have hown := X.1.1.2.2.2.1
  have hts := X.1.1.2.2.2.2.1
  refine lv_aload_n hx hb dL_law_1161 rfl (lv_at hl 1 rfl) ?_
  refine L_arg X hw.2.2 hl 1 (by omega) (by decide) dL_law_1162 dL_law_1163 dL_law_1164 dL_law_1165 dL_law_1166 ?_
  refine L_arg X hw.2.2 hl 2 (by omega) (by decide) dL_law_1167 dL_law_1168 dL_law_1169 dL_law_1170 dL_law_1171 ?_
  refine y_calli hw (y_runV (ci := 10) X.1 hw (m_X10_bail l (y_xD KA_nd hw.2.1) KA_x (K_bail I (xs (i + 1)) (xs (i + 2)))) k_X (KA_x 0 (by decide)) hq0 rfl (x_gV xw_1238 xw_1239 xw_1240 xw_2 xw_1241) rfl rfl qX10_bail ⟨Nat.le_of_ble_eq_true rfl, Nat.le_of_ble_eq_true rfl⟩ rfl hl.1 rfl (Nat.le_of_ble_eq_true rfl) dL_law_1172 ⟨Nat.le_of_ble_eq_true rfl, Nat.le_of_ble_eq_true rfl⟩) (fun r1 u1 H locs hw h1 => ?_)
  refine lv_aload_n hx hb dL_law_1175 rfl (lv_at hl 2 rfl) ?_
  refine L_arg X hw.2.2 hl 1 (by omega) (by decide) dL_law_1176 dL_law_1177 dL_law_1178 dL_law_1179 dL_law_1180 ?_
  refine L_arg X hw.2.2 hl 2 (by omega) (by decide) dL_law_1181 dL_law_1182 dL_law_1183 dL_law_1184 dL_law_1185 ?_
  refine y_calli hw (y_runV (ci := 11) X.1 hw (m_X11_bail l (y_xD KA_nd hw.2.1) KA_m h1) k_M (KA_m 272 (by decide) (by decide)) hq1 rfl (x_gV xw_1242 xw_1243 xw_1244 xw_5 xw_1245) rfl rfl qX11_bail ⟨Nat.le_of_ble_eq_true rfl, Nat.le_of_ble_eq_true rfl⟩ rfl hl.1 rfl (Nat.le_of_ble_eq_true rfl) dL_law_1186 ⟨Nat.le_of_ble_eq_true rfl, Nat.le_of_ble_eq_true rfl⟩) (fun r2 u2 H locs hw h2 => ?_)
  exact lv_icmp_eq (tgt := 2206) hx hb dL_law_1189 (by decide) (fun _ => kk _ _ _ hw h2.2) (fun z => absurd h2.1 z)
set_option maxHeartbeats 4000000 in
set_option maxRecDepth 100000 in
theorem lw_29 (X : L_C p s m meth c g b L xs) (hw : y_W g (lwA s) [] ad KA u s.heap H locs) (I : INV u) (hq0 : ad 0 = q0) (hq1 : ad 272 = q1) (hl : lv_has ls 4 (lwL b q0 q1 i)) (hi : i + 6 ≤ L) (kk : ∀ (u' : xM) (H' : Heap) (locs' : List Loc), y_W g (lwA s) [] ad KA u' s.heap H' locs' → INV u' → W p l e room_1 s m #[Value.ref b] below meth c H' locs' 290 15295 Q (F0 m 2206 ls [])) : W p l e room_1 s m #[Value.ref b] below meth c H locs 290 15295 Q (F0 m 1194 ls []) := by
  have hx := X.1.1.1
  have hb := X.1.1.2.1
  have hown := X.1.1.2.2.2.1
  have hts := X.1.1.2.2.2.2.1
  refine lv_aload_n hx hb dL_law_1194 rfl (lv_at hl 1 rfl) ?_
  refine y_calli hw (y_runV (ci := 10) X.1 hw (m_X10_wipe l (y_xD KA_nd hw.2.1) KA_x (K_wipe I)) k_X (KA_x 0 (by decide)) hq0 rfl (x_gV xw_1251 xw_1252 xw_1253 xw_2 xw_1254) rfl rfl qX10_wipe ⟨Nat.le_of_ble_eq_true rfl, Nat.le_of_ble_eq_true rfl⟩ rfl hl.1 rfl (Nat.le_of_ble_eq_true rfl) dL_law_1195 ⟨Nat.le_of_ble_eq_true rfl, Nat.le_of_ble_eq_true rfl⟩) (fun r1 u1 H locs hw h1 => ?_)
  refine lv_aload_n hx hb dL_law_1198 rfl (lv_at hl 2 rfl) ?_
  refine y_calli hw (y_runV (ci := 11) X.1 hw (m_X11_wipe l (y_xD KA_nd hw.2.1) KA_m h1) k_M (KA_m 272 (by decide) (by decide)) hq1 rfl (x_gV xw_1259 xw_1260 xw_1261 xw_5 xw_1262) rfl rfl qX11_wipe ⟨Nat.le_of_ble_eq_true rfl, Nat.le_of_ble_eq_true rfl⟩ rfl hl.1 rfl (Nat.le_of_ble_eq_true rfl) dL_law_1199 ⟨Nat.le_of_ble_eq_true rfl, Nat.le_of_ble_eq_true rfl⟩) (fun r2 u2 H locs hw h2 => ?_)
  exact lv_icmp_eq (tgt := 2206) hx hb dL_law_1202 (by decide) (fun _ => kk _ _ _ hw h2.2) (fun z => absurd h2.1 z)
set_option maxHeartbeats 4000000 in
set_option maxRecDepth 100000 in
theorem lw_30 (X : L_C p s m meth c g b L xs) (hw : y_W g (lwA s) [] ad KA u s.heap H locs) (I : INV u) (hq0 : ad 0 = q0) (hq1 : ad 272 = q1) (hl : lv_has ls 4 (lwL b q0 q1 i)) (hi : i + 6 ≤ L) (kk : ∀ (u' : xM) (H' : Heap) (locs' : List Loc), y_W g (lwA s) [] ad KA u' s.heap H' locs' → INV u' → W p l e room_1 s m #[Value.ref b] below meth c H' locs' 290 15295 Q (F0 m 2206 ls [])) : W p l e room_1 s m #[Value.ref b] below meth c H locs 290 15295 Q (F0 m 1207 ls []) := by
  have hx := X.1.1.1
  have hb := X.1.1.2.1
  have hown := X.1.1.2.2.2.1
  have hts := X.1.1.2.2.2.2.1
  refine lv_aload_n hx hb dL_law_1207 rfl (lv_at hl 1 rfl) ?_
  refine L_arg X hw.2.2 hl 1 (by omega) (by decide) dL_law_1208 dL_law_1209 dL_law_1210 dL_law_1211 dL_law_1212 ?_
  refine L_arg X hw.2.2 hl 2 (by omega) (by decide) dL_law_1213 dL_law_1214 dL_law_1215 dL_law_1216 dL_law_1217 ?_
  refine L_arg X hw.2.2 hl 3 (by omega) (by decide) dL_law_1218 dL_law_1219 dL_law_1220 dL_law_1221 dL_law_1222 ?_
  refine L_bool X dL_law_1223 dL_law_1226 dL_law_1227 dL_law_1230 ?_
  refine y_callz hw (y_runV (ci := 10) X.1 hw (m_X10_rota l (y_xD KA_nd hw.2.1) KA_x (K_rota I (xs (i + 1)) (xs (i + 2)) (decide ((xs (i + 3)) ≠ 0)))) k_X (KA_x 0 (by decide)) hq0 rfl (x_gV xw_1267 xw_1268 xw_1269 xw_2 xw_1270) rfl rfl qX10_rota ⟨Nat.le_of_ble_eq_true rfl, Nat.le_of_ble_eq_true rfl⟩ rfl hl.1 rfl (Nat.le_of_ble_eq_true rfl) dL_law_1231 ⟨Nat.le_of_ble_eq_true rfl, Nat.le_of_ble_eq_true rfl⟩) (fun r1 u1 H locs hw h1 => ?_)
  refine lv_aload_n hx hb dL_law_1234 rfl (lv_at hl 2 rfl) ?_
  refine L_arg X hw.2.2 hl 1 (by omega) (by decide) dL_law_1235 dL_law_1236 dL_law_1237 dL_law_1238 dL_law_1239 ?_
  refine L_arg X hw.2.2 hl 2 (by omega) (by decide) dL_law_1240 dL_law_1241 dL_law_1242 dL_law_1243 dL_law_1244 ?_
  refine L_arg X hw.2.2 hl 3 (by omega) (by decide) dL_law_1245 dL_law_1246 dL_law_1247 dL_law_1248 dL_law_1249 ?_
  refine L_bool X dL_law_1250 dL_law_1253 dL_law_1254 dL_law_1257 ?_
  refine y_callz hw (y_runV (ci := 11) X.1 hw (m_X11_rota l (y_xD KA_nd hw.2.1) KA_m h1) k_M (KA_m 272 (by decide) (by decide)) hq1 rfl (x_gV xw_1272 xw_1273 xw_1274 xw_5 xw_1275) rfl rfl qX11_rota ⟨Nat.le_of_ble_eq_true rfl, Nat.le_of_ble_eq_true rfl⟩ rfl hl.1 rfl (Nat.le_of_ble_eq_true rfl) dL_law_1258 ⟨Nat.le_of_ble_eq_true rfl, Nat.le_of_ble_eq_true rfl⟩) (fun r2 u2 H locs hw h2 => ?_)
  exact lv_icmp_eq (tgt := 2206) hx hb dL_law_1261 (by decide) (fun _ => kk _ _ _ hw h2.2) (fun z => absurd (by rw [h2.1]) z)
set_option maxHeartbeats 4000000 in
set_option maxRecDepth 100000 in
theorem lw_31 (X : L_C p s m meth c g b L xs) (hw : y_W g (lwA s) [] ad KA u s.heap H locs) (I : INV u) (hq0 : ad 0 = q0) (hq1 : ad 272 = q1) (hl : lv_has ls 4 (lwL b q0 q1 i)) (hi : i + 6 ≤ L) (kk : ∀ (u' : xM) (H' : Heap) (locs' : List Loc), y_W g (lwA s) [] ad KA u' s.heap H' locs' → INV u' → W p l e room_1 s m #[Value.ref b] below meth c H' locs' 290 15295 Q (F0 m 2206 ls [])) : W p l e room_1 s m #[Value.ref b] below meth c H locs 290 15295 Q (F0 m 1266 ls []) := by
  have hx := X.1.1.1
  have hb := X.1.1.2.1
  have hown := X.1.1.2.2.2.1
  have hts := X.1.1.2.2.2.2.1
  refine lv_aload_n hx hb dL_law_1266 rfl (lv_at hl 1 rfl) ?_
  refine L_arg X hw.2.2 hl 1 (by omega) (by decide) dL_law_1267 dL_law_1268 dL_law_1269 dL_law_1270 dL_law_1271 ?_
  refine L_arg X hw.2.2 hl 2 (by omega) (by decide) dL_law_1272 dL_law_1273 dL_law_1274 dL_law_1275 dL_law_1276 ?_
  refine y_callz hw (y_runV (ci := 10) X.1 hw (m_X10_moon l (y_xD KA_nd hw.2.1) KA_x (K_moon I (xs (i + 1)) (xs (i + 2)))) k_X (KA_x 0 (by decide)) hq0 rfl (x_gV xw_1276 xw_1277 xw_1278 xw_2 xw_1279) rfl rfl qX10_moon ⟨Nat.le_of_ble_eq_true rfl, Nat.le_of_ble_eq_true rfl⟩ rfl hl.1 rfl (Nat.le_of_ble_eq_true rfl) dL_law_1277 ⟨Nat.le_of_ble_eq_true rfl, Nat.le_of_ble_eq_true rfl⟩) (fun r1 u1 H locs hw h1 => ?_)
  refine lv_aload_n hx hb dL_law_1280 rfl (lv_at hl 2 rfl) ?_
  refine L_arg X hw.2.2 hl 1 (by omega) (by decide) dL_law_1281 dL_law_1282 dL_law_1283 dL_law_1284 dL_law_1285 ?_
  refine L_arg X hw.2.2 hl 2 (by omega) (by decide) dL_law_1286 dL_law_1287 dL_law_1288 dL_law_1289 dL_law_1290 ?_
  refine y_callz hw (y_runV (ci := 11) X.1 hw (m_X11_moon l (y_xD KA_nd hw.2.1) KA_m h1) k_M (KA_m 272 (by decide) (by decide)) hq1 rfl (x_gV xw_1280 xw_1281 xw_1282 xw_5 xw_1283) rfl rfl qX11_moon ⟨Nat.le_of_ble_eq_true rfl, Nat.le_of_ble_eq_true rfl⟩ rfl hl.1 rfl (Nat.le_of_ble_eq_true rfl) dL_law_1291 ⟨Nat.le_of_ble_eq_true rfl, Nat.le_of_ble_eq_true rfl⟩) (fun r2 u2 H locs hw h2 => ?_)
  exact lv_icmp_eq (tgt := 2206) hx hb dL_law_1294 (by decide) (fun _ => kk _ _ _ hw h2.2) (fun z => absurd (by rw [h2.1]) z)
set_option maxHeartbeats 4000000 in
set_option maxRecDepth 100000 in
theorem lw_32 (X : L_C p s m meth c g b L xs) (hw : y_W g (lwA s) [] ad KA u s.heap H locs) (I : INV u) (hq0 : ad 0 = q0) (hq1 : ad 272 = q1) (hl : lv_has ls 4 (lwL b q0 q1 i)) (hi : i + 6 ≤ L) (kk : ∀ (u' : xM) (H' : Heap) (locs' : List Loc), y_W g (lwA s) [] ad KA u' s.heap H' locs' → INV u' → W p l e room_1 s m #[Value.ref b] below meth c H' locs' 290 15295 Q (F0 m 2206 ls [])) : W p l e room_1 s m #[Value.ref b] below meth c H locs 290 15295 Q (F0 m 1299 ls []) := by
  have hx := X.1.1.1
  have hb := X.1.1.2.1
  have hown := X.1.1.2.2.2.1
  have hts := X.1.1.2.2.2.2.1
  refine lv_aload_n hx hb dL_law_1299 rfl (lv_at hl 1 rfl) ?_
  refine L_arg X hw.2.2 hl 1 (by omega) (by decide) dL_law_1300 dL_law_1301 dL_law_1302 dL_law_1303 dL_law_1304 ?_
  refine L_arg X hw.2.2 hl 2 (by omega) (by decide) dL_law_1305 dL_law_1306 dL_law_1307 dL_law_1308 dL_law_1309 ?_
  refine y_callz hw (y_runV (ci := 10) X.1 hw (m_X10_pump l (y_xD KA_nd hw.2.1) KA_x (K_pump I (xs (i + 1)) (xs (i + 2)))) k_X (KA_x 0 (by decide)) hq0 rfl (x_gV xw_1284 xw_1285 xw_1286 xw_2 xw_1287) rfl rfl qX10_pump ⟨Nat.le_of_ble_eq_true rfl, Nat.le_of_ble_eq_true rfl⟩ rfl hl.1 rfl (Nat.le_of_ble_eq_true rfl) dL_law_1310 ⟨Nat.le_of_ble_eq_true rfl, Nat.le_of_ble_eq_true rfl⟩) (fun r1 u1 H locs hw h1 => ?_)
  refine lv_aload_n hx hb dL_law_1313 rfl (lv_at hl 2 rfl) ?_
  refine L_arg X hw.2.2 hl 1 (by omega) (by decide) dL_law_1314 dL_law_1315 dL_law_1316 dL_law_1317 dL_law_1318 ?_
  refine L_arg X hw.2.2 hl 2 (by omega) (by decide) dL_law_1319 dL_law_1320 dL_law_1321 dL_law_1322 dL_law_1323 ?_
  refine y_callz hw (y_runV (ci := 11) X.1 hw (m_X11_pump l (y_xD KA_nd hw.2.1) KA_m h1) k_M (KA_m 272 (by decide) (by decide)) hq1 rfl (x_gV xw_1288 xw_1289 xw_1290 xw_5 xw_1291) rfl rfl qX11_pump ⟨Nat.le_of_ble_eq_true rfl, Nat.le_of_ble_eq_true rfl⟩ rfl hl.1 rfl (Nat.le_of_ble_eq_true rfl) dL_law_1324 ⟨Nat.le_of_ble_eq_true rfl, Nat.le_of_ble_eq_true rfl⟩) (fun r2 u2 H locs hw h2 => ?_)
  exact lv_icmp_eq (tgt := 2206) hx hb dL_law_1327 (by decide) (fun _ => kk _ _ _ hw h2.2) (fun z => absurd (by rw [h2.1]) z)
set_option maxHeartbeats 4000000 in
set_option maxRecDepth 100000 in
theorem lw_33 (X : L_C p s m meth c g b L xs) (hw : y_W g (lwA s) [] ad KA u s.heap H locs) (I : INV u) (hq0 : ad 0 = q0) (hq1 : ad 272 = q1) (hl : lv_has ls 4 (lwL b q0 q1 i)) (hi : i + 6 ≤ L) (kk : ∀ (u' : xM) (H' : Heap) (locs' : List Loc), y_W g (lwA s) [] ad KA u' s.heap H' locs' → INV u' → W p l e room_1 s m #[Value.ref b] below meth c H' locs' 290 15295 Q (F0 m 2206 ls [])) : W p l e room_1 s m #[Value.ref b] below meth c H locs 290 15295 Q (F0 m 1332 ls []) := by
  have hx := X.1.1.1
  have hb := X.1.1.2.1
  have hown := X.1.1.2.2.2.1
  have hts := X.1.1.2.2.2.2.1
  refine lv_aload_n hx hb dL_law_1332 rfl (lv_at hl 1 rfl) ?_
  refine L_arg X hw.2.2 hl 1 (by omega) (by decide) dL_law_1333 dL_law_1334 dL_law_1335 dL_law_1336 dL_law_1337 ?_
  refine L_arg X hw.2.2 hl 2 (by omega) (by decide) dL_law_1338 dL_law_1339 dL_law_1340 dL_law_1341 dL_law_1342 ?_
  refine y_calli hw (y_runV (ci := 10) X.1 hw (m_X10_raise l (y_xD KA_nd hw.2.1) KA_x (K_raise I (xs (i + 1)) (xs (i + 2)))) k_X (KA_x 0 (by decide)) hq0 rfl (x_gV xw_1292 xw_1293 xw_1294 xw_2 xw_1295) rfl rfl qX10_raise ⟨Nat.le_of_ble_eq_true rfl, Nat.le_of_ble_eq_true rfl⟩ rfl hl.1 rfl (Nat.le_of_ble_eq_true rfl) dL_law_1343 ⟨Nat.le_of_ble_eq_true rfl, Nat.le_of_ble_eq_true rfl⟩) (fun r1 u1 H locs hw h1 => ?_)
  refine lv_aload_n hx hb dL_law_1346 rfl (lv_at hl 2 rfl) ?_
  refine L_arg X hw.2.2 hl 1 (by omega) (by decide) dL_law_1347 dL_law_1348 dL_law_1349 dL_law_1350 dL_law_1351 ?_
  refine L_arg X hw.2.2 hl 2 (by omega) (by decide) dL_law_1352 dL_law_1353 dL_law_1354 dL_law_1355 dL_law_1356 ?_
  refine y_calli hw (y_runV (ci := 11) X.1 hw (m_X11_raise l (y_xD KA_nd hw.2.1) KA_m h1) k_M (KA_m 272 (by decide) (by decide)) hq1 rfl (x_gV xw_1296 xw_1297 xw_1298 xw_5 xw_1299) rfl rfl qX11_raise ⟨Nat.le_of_ble_eq_true rfl, Nat.le_of_ble_eq_true rfl⟩ rfl hl.1 rfl (Nat.le_of_ble_eq_true rfl) dL_law_1357 ⟨Nat.le_of_ble_eq_true rfl, Nat.le_of_ble_eq_true rfl⟩) (fun r2 u2 H locs hw h2 => ?_)
  exact lv_icmp_eq (tgt := 2206) hx hb dL_law_1360 (by decide) (fun _ => kk _ _ _ hw h2.2) (fun z => absurd h2.1 z)
set_option maxHeartbeats 4000000 in
set_option maxRecDepth 100000 in
theorem lw_34 (X : L_C p s m meth c g b L xs) (hw : y_W g (lwA s) [] ad KA u s.heap H locs) (I : INV u) (hq0 : ad 0 = q0) (hq1 : ad 272 = q1) (hl : lv_has ls 4 (lwL b q0 q1 i)) (hi : i + 6 ≤ L) (kk : ∀ (u' : xM) (H' : Heap) (locs' : List Loc), y_W g (lwA s) [] ad KA u' s.heap H' locs' → INV u' → W p l e room_1 s m #[Value.ref b] below meth c H' locs' 290 15295 Q (F0 m 2206 ls [])) : W p l e room_1 s m #[Value.ref b] below meth c H locs 290 15295 Q (F0 m 1365 ls []) := by
  have hx := X.1.1.1
  have hb := X.1.1.2.1
  have hown := X.1.1.2.2.2.1
  have hts := X.1.1.2.2.2.2.1
  refine lv_aload_n hx hb dL_law_1365 rfl (lv_at hl 1 rfl) ?_
  refine L_arg X hw.2.2 hl 1 (by omega) (by decide) dL_law_1366 dL_law_1367 dL_law_1368 dL_law_1369 dL_law_1370 ?_
  refine y_calli hw (y_runV (ci := 10) X.1 hw (m_X10_build l (y_xD KA_nd hw.2.1) KA_x (K_build I (xs (i + 1)))) k_X (KA_x 0 (by decide)) hq0 rfl (x_gV xw_1301 xw_1302 xw_1303 xw_2 xw_1304) rfl rfl qX10_build ⟨Nat.le_of_ble_eq_true rfl, Nat.le_of_ble_eq_true rfl⟩ rfl hl.1 rfl (Nat.le_of_ble_eq_true rfl) dL_law_1371 ⟨Nat.le_of_ble_eq_true rfl, Nat.le_of_ble_eq_true rfl⟩) (fun r1 u1 H locs hw h1 => ?_)
  refine lv_aload_n hx hb dL_law_1374 rfl (lv_at hl 2 rfl) ?_
  refine L_arg X hw.2.2 hl 1 (by omega) (by decide) dL_law_1375 dL_law_1376 dL_law_1377 dL_law_1378 dL_law_1379 ?_
  refine y_calli hw (y_runV (ci := 11) X.1 hw (m_X11_build l (y_xD KA_nd hw.2.1) KA_m h1) k_M (KA_m 272 (by decide) (by decide)) hq1 rfl (x_gV xw_1316 xw_1317 xw_1318 xw_5 xw_1319) rfl rfl qX11_build ⟨Nat.le_of_ble_eq_true rfl, Nat.le_of_ble_eq_true rfl⟩ rfl hl.1 rfl (Nat.le_of_ble_eq_true rfl) dL_law_1380 ⟨Nat.le_of_ble_eq_true rfl, Nat.le_of_ble_eq_true rfl⟩) (fun r2 u2 H locs hw h2 => ?_)
  exact lv_icmp_eq (tgt := 2206) hx hb dL_law_1383 (by decide) (fun _ => kk _ _ _ hw h2.2) (fun z => absurd h2.1 z)
set_option maxHeartbeats 4000000 in
set_option maxRecDepth 100000 in
theorem lw_35 (X : L_C p s m meth c g b L xs) (hw : y_W g (lwA s) [] ad KA u s.heap H locs) (I : INV u) (hq0 : ad 0 = q0) (hq1 : ad 272 = q1) (hl : lv_has ls 4 (lwL b q0 q1 i)) (hi : i + 6 ≤ L) (kk : ∀ (u' : xM) (H' : Heap) (locs' : List Loc), y_W g (lwA s) [] ad KA u' s.heap H' locs' → INV u' → W p l e room_1 s m #[Value.ref b] below meth c H' locs' 290 15295 Q (F0 m 2206 ls [])) : W p l e room_1 s m #[Value.ref b] below meth c H locs 290 15295 Q (F0 m 1388 ls []) := by
  have hx := X.1.1.1
  have hb := X.1.1.2.1
  have hown := X.1.1.2.2.2.1
  have hts := X.1.1.2.2.2.2.1
  refine lv_aload_n hx hb dL_law_1388 rfl (lv_at hl 1 rfl) ?_
  refine L_arg X hw.2.2 hl 1 (by omega) (by decide) dL_law_1389 dL_law_1390 dL_law_1391 dL_law_1392 dL_law_1393 ?_
  refine L_arg X hw.2.2 hl 2 (by omega) (by decide) dL_law_1394 dL_law_1395 dL_law_1396 dL_law_1397 dL_law_1398 ?_
  refine y_calli hw (y_runV (ci := 10) X.1 hw (m_X10_later l (y_xD KA_nd hw.2.1) KA_x (K_later I (xs (i + 1)) (xs (i + 2)))) k_X (KA_x 0 (by decide)) hq0 rfl (x_gV xw_1323 xw_1324 xw_1325 xw_2 xw_1326) rfl rfl qX10_later ⟨Nat.le_of_ble_eq_true rfl, Nat.le_of_ble_eq_true rfl⟩ rfl hl.1 rfl (Nat.le_of_ble_eq_true rfl) dL_law_1399 ⟨Nat.le_of_ble_eq_true rfl, Nat.le_of_ble_eq_true rfl⟩) (fun r1 u1 H locs hw h1 => ?_)
  refine lv_aload_n hx hb dL_law_1402 rfl (lv_at hl 2 rfl) ?_
  refine L_arg X hw.2.2 hl 1 (by omega) (by decide) dL_law_1403 dL_law_1404 dL_law_1405 dL_law_1406 dL_law_1407 ?_
  refine L_arg X hw.2.2 hl 2 (by omega) (by decide) dL_law_1408 dL_law_1409 dL_law_1410 dL_law_1411 dL_law_1412 ?_
  refine y_calli hw (y_runV (ci := 11) X.1 hw (m_X11_later l (y_xD KA_nd hw.2.1) KA_m h1) k_M (KA_m 272 (by decide) (by decide)) hq1 rfl (x_gV xw_1331 xw_1332 xw_1333 xw_5 xw_1334) rfl rfl qX11_later ⟨Nat.le_of_ble_eq_true rfl, Nat.le_of_ble_eq_true rfl⟩ rfl hl.1 rfl (Nat.le_of_ble_eq_true rfl) dL_law_1413 ⟨Nat.le_of_ble_eq_true rfl, Nat.le_of_ble_eq_true rfl⟩) (fun r2 u2 H locs hw h2 => ?_)
  exact lv_icmp_eq (tgt := 2206) hx hb dL_law_1416 (by decide) (fun _ => kk _ _ _ hw h2.2) (fun z => absurd h2.1 z)
set_option maxHeartbeats 4000000 in
set_option maxRecDepth 100000 in
theorem lw_36 (X : L_C p s m meth c g b L xs) (hw : y_W g (lwA s) [] ad KA u s.heap H locs) (I : INV u) (hq0 : ad 0 = q0) (hq1 : ad 272 = q1) (hl : lv_has ls 4 (lwL b q0 q1 i)) (hi : i + 6 ≤ L) (kk : ∀ (u' : xM) (H' : Heap) (locs' : List Loc), y_W g (lwA s) [] ad KA u' s.heap H' locs' → INV u' → W p l e room_1 s m #[Value.ref b] below meth c H' locs' 290 15295 Q (F0 m 2206 ls [])) : W p l e room_1 s m #[Value.ref b] below meth c H locs 290 15295 Q (F0 m 1421 ls []) := by
  have hx := X.1.1.1
  have hb := X.1.1.2.1
  have hown := X.1.1.2.2.2.1
  have hts := X.1.1.2.2.2.2.1
  refine lv_aload_n hx hb dL_law_1421 rfl (lv_at hl 1 rfl) ?_
  refine L_arg X hw.2.2 hl 1 (by omega) (by decide) dL_law_1422 dL_law_1423 dL_law_1424 dL_law_1425 dL_law_1426 ?_
  refine y_calli hw (y_runV (ci := 10) X.1 hw (m_X10_allLater l (y_xD KA_nd hw.2.1) KA_x (K_allLater I (xs (i + 1)))) k_X (KA_x 0 (by decide)) hq0 rfl (x_gV xw_1350 xw_1351 xw_1352 xw_2 xw_1353) rfl rfl qX10_allLater ⟨Nat.le_of_ble_eq_true rfl, Nat.le_of_ble_eq_true rfl⟩ rfl hl.1 rfl (Nat.le_of_ble_eq_true rfl) dL_law_1427 ⟨Nat.le_of_ble_eq_true rfl, Nat.le_of_ble_eq_true rfl⟩) (fun r1 u1 H locs hw h1 => ?_)
  refine lv_aload_n hx hb dL_law_1430 rfl (lv_at hl 2 rfl) ?_
  refine L_arg X hw.2.2 hl 1 (by omega) (by decide) dL_law_1431 dL_law_1432 dL_law_1433 dL_law_1434 dL_law_1435 ?_
  refine y_calli hw (y_runV (ci := 11) X.1 hw (m_X11_allLater l (y_xD KA_nd hw.2.1) KA_m h1) k_M (KA_m 272 (by decide) (by decide)) hq1 rfl (x_gV xw_1360 xw_1361 xw_1362 xw_5 xw_1363) rfl rfl qX11_allLater ⟨Nat.le_of_ble_eq_true rfl, Nat.le_of_ble_eq_true rfl⟩ rfl hl.1 rfl (Nat.le_of_ble_eq_true rfl) dL_law_1436 ⟨Nat.le_of_ble_eq_true rfl, Nat.le_of_ble_eq_true rfl⟩) (fun r2 u2 H locs hw h2 => ?_)
  exact lv_icmp_eq (tgt := 2206) hx hb dL_law_1439 (by decide) (fun _ => kk _ _ _ hw h2.2) (fun z => absurd h2.1 z)
set_option maxHeartbeats 4000000 in
set_option maxRecDepth 100000 in
theorem lw_37 (X : L_C p s m meth c g b L xs) (hw : y_W g (lwA s) [] ad KA u s.heap H locs) (I : INV u) (hq0 : ad 0 = q0) (hq1 : ad 272 = q1) (hl : lv_has ls 4 (lwL b q0 q1 i)) (hi : i + 6 ≤ L) (kk : ∀ (u' : xM) (H' : Heap) (locs' : List Loc), y_W g (lwA s) [] ad KA u' s.heap H' locs' → INV u' → W p l e room_1 s m #[Value.ref b] below meth c H' locs' 290 15295 Q (F0 m 2206 ls [])) : W p l e room_1 s m #[Value.ref b] below meth c H locs 290 15295 Q (F0 m 1444 ls []) := by
  have hx := X.1.1.1
  have hb := X.1.1.2.1
  have hown := X.1.1.2.2.2.1
  have hts := X.1.1.2.2.2.2.1
  refine lv_aload_n hx hb dL_law_1444 rfl (lv_at hl 1 rfl) ?_
  refine L_arg X hw.2.2 hl 1 (by omega) (by decide) dL_law_1445 dL_law_1446 dL_law_1447 dL_law_1448 dL_law_1449 ?_
  refine y_calli hw (y_runV (ci := 10) X.1 hw (m_X10_wetIn l (y_xD KA_nd hw.2.1) KA_x (K_wetIn I (xs (i + 1)))) k_X (KA_x 0 (by decide)) hq0 rfl (x_gV xw_1364 xw_1365 xw_1366 xw_2 xw_1367) rfl rfl qX10_wetIn ⟨Nat.le_of_ble_eq_true rfl, Nat.le_of_ble_eq_true rfl⟩ rfl hl.1 rfl (Nat.le_of_ble_eq_true rfl) dL_law_1450 ⟨Nat.le_of_ble_eq_true rfl, Nat.le_of_ble_eq_true rfl⟩) (fun r1 u1 H locs hw h1 => ?_)
  refine lv_aload_n hx hb dL_law_1453 rfl (lv_at hl 2 rfl) ?_
  refine L_arg X hw.2.2 hl 1 (by omega) (by decide) dL_law_1454 dL_law_1455 dL_law_1456 dL_law_1457 dL_law_1458 ?_
  refine y_calli hw (y_runV (ci := 11) X.1 hw (m_X11_wetIn l (y_xD KA_nd hw.2.1) KA_m h1) k_M (KA_m 272 (by decide) (by decide)) hq1 rfl (x_gV xw_1369 xw_1370 xw_1371 xw_5 xw_1372) rfl rfl qX11_wetIn ⟨Nat.le_of_ble_eq_true rfl, Nat.le_of_ble_eq_true rfl⟩ rfl hl.1 rfl (Nat.le_of_ble_eq_true rfl) dL_law_1459 ⟨Nat.le_of_ble_eq_true rfl, Nat.le_of_ble_eq_true rfl⟩) (fun r2 u2 H locs hw h2 => ?_)
  exact lv_icmp_eq (tgt := 2206) hx hb dL_law_1462 (by decide) (fun _ => kk _ _ _ hw h2.2) (fun z => absurd h2.1 z)
set_option maxHeartbeats 4000000 in
set_option maxRecDepth 100000 in
theorem lw_38 (X : L_C p s m meth c g b L xs) (hw : y_W g (lwA s) [] ad KA u s.heap H locs) (I : INV u) (hq0 : ad 0 = q0) (hq1 : ad 272 = q1) (hl : lv_has ls 4 (lwL b q0 q1 i)) (hi : i + 6 ≤ L) (kk : ∀ (u' : xM) (H' : Heap) (locs' : List Loc), y_W g (lwA s) [] ad KA u' s.heap H' locs' → INV u' → W p l e room_1 s m #[Value.ref b] below meth c H' locs' 290 15295 Q (F0 m 2206 ls [])) : W p l e room_1 s m #[Value.ref b] below meth c H locs 290 15295 Q (F0 m 1467 ls []) := by
  have hx := X.1.1.1
  have hb := X.1.1.2.1
  have hown := X.1.1.2.2.2.1
  have hts := X.1.1.2.2.2.2.1
  refine lv_aload_n hx hb dL_law_1467 rfl (lv_at hl 1 rfl) ?_
  refine L_arg X hw.2.2 hl 1 (by omega) (by decide) dL_law_1468 dL_law_1469 dL_law_1470 dL_law_1471 dL_law_1472 ?_
  refine y_calli hw (y_runV (ci := 10) X.1 hw (m_X10_drownsIn l (y_xD KA_nd hw.2.1) KA_x (K_drownsIn I (xs (i + 1)))) k_X (KA_x 0 (by decide)) hq0 rfl (x_gV xw_1377 xw_1378 xw_1379 xw_2 xw_1380) rfl rfl qX10_drownsIn ⟨Nat.le_of_ble_eq_true rfl, Nat.le_of_ble_eq_true rfl⟩ rfl hl.1 rfl (Nat.le_of_ble_eq_true rfl) dL_law_1473 ⟨Nat.le_of_ble_eq_true rfl, Nat.le_of_ble_eq_true rfl⟩) (fun r1 u1 H locs hw h1 => ?_)
  refine lv_aload_n hx hb dL_law_1476 rfl (lv_at hl 2 rfl) ?_
  refine L_arg X hw.2.2 hl 1 (by omega) (by decide) dL_law_1477 dL_law_1478 dL_law_1479 dL_law_1480 dL_law_1481 ?_
  refine y_calli hw (y_runV (ci := 11) X.1 hw (m_X11_drownsIn l (y_xD KA_nd hw.2.1) KA_m h1) k_M (KA_m 272 (by decide) (by decide)) hq1 rfl (x_gV xw_1381 xw_1382 xw_1383 xw_5 xw_1384) rfl rfl qX11_drownsIn ⟨Nat.le_of_ble_eq_true rfl, Nat.le_of_ble_eq_true rfl⟩ rfl hl.1 rfl (Nat.le_of_ble_eq_true rfl) dL_law_1482 ⟨Nat.le_of_ble_eq_true rfl, Nat.le_of_ble_eq_true rfl⟩) (fun r2 u2 H locs hw h2 => ?_)
  exact lv_icmp_eq (tgt := 2206) hx hb dL_law_1485 (by decide) (fun _ => kk _ _ _ hw h2.2) (fun z => absurd h2.1 z)
set_option maxHeartbeats 4000000 in
set_option maxRecDepth 100000 in
theorem lw_39 (X : L_C p s m meth c g b L xs) (hw : y_W g (lwA s) [] ad KA u s.heap H locs) (I : INV u) (hq0 : ad 0 = q0) (hq1 : ad 272 = q1) (hl : lv_has ls 4 (lwL b q0 q1 i)) (hi : i + 6 ≤ L) (kk : ∀ (u' : xM) (H' : Heap) (locs' : List Loc), y_W g (lwA s) [] ad KA u' s.heap H' locs' → INV u' → W p l e room_1 s m #[Value.ref b] below meth c H' locs' 290 15295 Q (F0 m 2206 ls [])) : W p l e room_1 s m #[Value.ref b] below meth c H locs 290 15295 Q (F0 m 1490 ls []) := by
  have hx := X.1.1.1
  have hb := X.1.1.2.1
  have hown := X.1.1.2.2.2.1
  have hts := X.1.1.2.2.2.2.1
  refine lv_aload_n hx hb dL_law_1490 rfl (lv_at hl 1 rfl) ?_
  refine y_calli hw (y_runV (ci := 10) X.1 hw (m_X10_dryIn l (y_xD KA_nd hw.2.1) KA_x (K_dryIn I)) k_X (KA_x 0 (by decide)) hq0 rfl (x_gV xw_1385 xw_1386 xw_1387 xw_2 xw_1388) rfl rfl qX10_dryIn ⟨Nat.le_of_ble_eq_true rfl, Nat.le_of_ble_eq_true rfl⟩ rfl hl.1 rfl (Nat.le_of_ble_eq_true rfl) dL_law_1491 ⟨Nat.le_of_ble_eq_true rfl, Nat.le_of_ble_eq_true rfl⟩) (fun r1 u1 H locs hw h1 => ?_)
  refine lv_aload_n hx hb dL_law_1494 rfl (lv_at hl 2 rfl) ?_
  refine y_calli hw (y_runV (ci := 11) X.1 hw (m_X11_dryIn l (y_xD KA_nd hw.2.1) KA_m h1) k_M (KA_m 272 (by decide) (by decide)) hq1 rfl (x_gV xw_1389 xw_1390 xw_1391 xw_5 xw_1392) rfl rfl qX11_dryIn ⟨Nat.le_of_ble_eq_true rfl, Nat.le_of_ble_eq_true rfl⟩ rfl hl.1 rfl (Nat.le_of_ble_eq_true rfl) dL_law_1495 ⟨Nat.le_of_ble_eq_true rfl, Nat.le_of_ble_eq_true rfl⟩) (fun r2 u2 H locs hw h2 => ?_)
  exact lv_icmp_eq (tgt := 2206) hx hb dL_law_1498 (by decide) (fun _ => kk _ _ _ hw h2.2) (fun z => absurd h2.1 z)
set_option maxHeartbeats 4000000 in
set_option maxRecDepth 100000 in
theorem lw_40 (X : L_C p s m meth c g b L xs) (hw : y_W g (lwA s) [] ad KA u s.heap H locs) (I : INV u) (hq0 : ad 0 = q0) (hq1 : ad 272 = q1) (hl : lv_has ls 4 (lwL b q0 q1 i)) (hi : i + 6 ≤ L) (kk : ∀ (u' : xM) (H' : Heap) (locs' : List Loc), y_W g (lwA s) [] ad KA u' s.heap H' locs' → INV u' → W p l e room_1 s m #[Value.ref b] below meth c H' locs' 290 15295 Q (F0 m 2206 ls [])) : W p l e room_1 s m #[Value.ref b] below meth c H locs 290 15295 Q (F0 m 1503 ls []) := by
  have hx := X.1.1.1
  have hb := X.1.1.2.1
  have hown := X.1.1.2.2.2.1
  have hts := X.1.1.2.2.2.2.1
  refine lv_aload_n hx hb dL_law_1503 rfl (lv_at hl 1 rfl) ?_
  refine L_arg X hw.2.2 hl 1 (by omega) (by decide) dL_law_1504 dL_law_1505 dL_law_1506 dL_law_1507 dL_law_1508 ?_
  refine y_calli hw (y_runV (ci := 10) X.1 hw (m_X10_fails l (y_xD KA_nd hw.2.1) KA_x (K_fails I (xs (i + 1)))) k_X (KA_x 0 (by decide)) hq0 rfl (x_gV xw_1393 xw_1394 xw_1395 xw_2 xw_1396) rfl rfl qX10_fails ⟨Nat.le_of_ble_eq_true rfl, Nat.le_of_ble_eq_true rfl⟩ rfl hl.1 rfl (Nat.le_of_ble_eq_true rfl) dL_law_1509 ⟨Nat.le_of_ble_eq_true rfl, Nat.le_of_ble_eq_true rfl⟩) (fun r1 u1 H locs hw h1 => ?_)
  refine lv_aload_n hx hb dL_law_1512 rfl (lv_at hl 2 rfl) ?_
  refine L_arg X hw.2.2 hl 1 (by omega) (by decide) dL_law_1513 dL_law_1514 dL_law_1515 dL_law_1516 dL_law_1517 ?_
  refine y_calli hw (y_runV (ci := 11) X.1 hw (m_X11_fails l (y_xD KA_nd hw.2.1) KA_m h1) k_M (KA_m 272 (by decide) (by decide)) hq1 rfl (x_gV xw_1397 xw_1398 xw_1399 xw_5 xw_1400) rfl rfl qX11_fails ⟨Nat.le_of_ble_eq_true rfl, Nat.le_of_ble_eq_true rfl⟩ rfl hl.1 rfl (Nat.le_of_ble_eq_true rfl) dL_law_1518 ⟨Nat.le_of_ble_eq_true rfl, Nat.le_of_ble_eq_true rfl⟩) (fun r2 u2 H locs hw h2 => ?_)
  exact lv_icmp_eq (tgt := 2206) hx hb dL_law_1521 (by decide) (fun _ => kk _ _ _ hw h2.2) (fun z => absurd h2.1 z)
set_option maxHeartbeats 4000000 in
set_option maxRecDepth 100000 in
theorem lw_41 (X : L_C p s m meth c g b L xs) (hw : y_W g (lwA s) [] ad KA u s.heap H locs) (I : INV u) (hq0 : ad 0 = q0) (hq1 : ad 272 = q1) (hl : lv_has ls 4 (lwL b q0 q1 i)) (hi : i + 6 ≤ L) (kk : ∀ (u' : xM) (H' : Heap) (locs' : List Loc), y_W g (lwA s) [] ad KA u' s.heap H' locs' → INV u' → W p l e room_1 s m #[Value.ref b] below meth c H' locs' 290 15295 Q (F0 m 2206 ls [])) : W p l e room_1 s m #[Value.ref b] below meth c H locs 290 15295 Q (F0 m 1526 ls []) := by
  have hx := X.1.1.1
  have hb := X.1.1.2.1
  have hown := X.1.1.2.2.2.1
  have hts := X.1.1.2.2.2.2.1
  refine lv_aload_n hx hb dL_law_1526 rfl (lv_at hl 1 rfl) ?_
  refine y_calli hw (y_runV (ci := 10) X.1 hw (m_X10_worst l (y_xD KA_nd hw.2.1) KA_x (K_worst I)) k_X (KA_x 0 (by decide)) hq0 rfl (x_gV xw_1407 xw_1408 xw_1409 xw_2 xw_1410) rfl rfl qX10_worst ⟨Nat.le_of_ble_eq_true rfl, Nat.le_of_ble_eq_true rfl⟩ rfl hl.1 rfl (Nat.le_of_ble_eq_true rfl) dL_law_1527 ⟨Nat.le_of_ble_eq_true rfl, Nat.le_of_ble_eq_true rfl⟩) (fun r1 u1 H locs hw h1 => ?_)
  refine lv_aload_n hx hb dL_law_1530 rfl (lv_at hl 2 rfl) ?_
  refine y_calli hw (y_runV (ci := 11) X.1 hw (m_X11_worst l (y_xD KA_nd hw.2.1) KA_m h1) k_M (KA_m 272 (by decide) (by decide)) hq1 rfl (x_gV xw_1411 xw_1412 xw_1413 xw_5 xw_1414) rfl rfl qX11_worst ⟨Nat.le_of_ble_eq_true rfl, Nat.le_of_ble_eq_true rfl⟩ rfl hl.1 rfl (Nat.le_of_ble_eq_true rfl) dL_law_1531 ⟨Nat.le_of_ble_eq_true rfl, Nat.le_of_ble_eq_true rfl⟩) (fun r2 u2 H locs hw h2 => ?_)
  exact lv_icmp_eq (tgt := 2206) hx hb dL_law_1534 (by decide) (fun _ => kk _ _ _ hw h2.2) (fun z => absurd h2.1 z)
set_option maxHeartbeats 4000000 in
set_option maxRecDepth 100000 in
theorem lw_42 (X : L_C p s m meth c g b L xs) (hw : y_W g (lwA s) [] ad KA u s.heap H locs) (I : INV u) (hq0 : ad 0 = q0) (hq1 : ad 272 = q1) (hl : lv_has ls 4 (lwL b q0 q1 i)) (hi : i + 6 ≤ L) (kk : ∀ (u' : xM) (H' : Heap) (locs' : List Loc), y_W g (lwA s) [] ad KA u' s.heap H' locs' → INV u' → W p l e room_1 s m #[Value.ref b] below meth c H' locs' 290 15295 Q (F0 m 2206 ls [])) : W p l e room_1 s m #[Value.ref b] below meth c H locs 290 15295 Q (F0 m 1539 ls []) := by
  have hx := X.1.1.1
  have hb := X.1.1.2.1
  have hown := X.1.1.2.2.2.1
  have hts := X.1.1.2.2.2.2.1
  refine lv_aload_n hx hb dL_law_1539 rfl (lv_at hl 1 rfl) ?_
  refine L_arg X hw.2.2 hl 1 (by omega) (by decide) dL_law_1540 dL_law_1541 dL_law_1542 dL_law_1543 dL_law_1544 ?_
  refine y_calli hw (y_runV (ci := 10) X.1 hw (m_X10_sillFor l (y_xD KA_nd hw.2.1) KA_x (K_sillFor I (xs (i + 1)))) k_X (KA_x 0 (by decide)) hq0 rfl (x_gV xw_1415 xw_1416 xw_1417 xw_2 xw_1418) rfl rfl qX10_sillFor ⟨Nat.le_of_ble_eq_true rfl, Nat.le_of_ble_eq_true rfl⟩ rfl hl.1 rfl (Nat.le_of_ble_eq_true rfl) dL_law_1545 ⟨Nat.le_of_ble_eq_true rfl, Nat.le_of_ble_eq_true rfl⟩) (fun r1 u1 H locs hw h1 => ?_)
  refine lv_aload_n hx hb dL_law_1548 rfl (lv_at hl 2 rfl) ?_
  refine L_arg X hw.2.2 hl 1 (by omega) (by decide) dL_law_1549 dL_law_1550 dL_law_1551 dL_law_1552 dL_law_1553 ?_
  refine y_calli hw (y_runV (ci := 11) X.1 hw (m_X11_sillFor l (y_xD KA_nd hw.2.1) KA_m h1) k_M (KA_m 272 (by decide) (by decide)) hq1 rfl (x_gV xw_1423 xw_1424 xw_1425 xw_5 xw_1426) rfl rfl qX11_sillFor ⟨Nat.le_of_ble_eq_true rfl, Nat.le_of_ble_eq_true rfl⟩ rfl hl.1 rfl (Nat.le_of_ble_eq_true rfl) dL_law_1554 ⟨Nat.le_of_ble_eq_true rfl, Nat.le_of_ble_eq_true rfl⟩) (fun r2 u2 H locs hw h2 => ?_)
  exact lv_icmp_eq (tgt := 2206) hx hb dL_law_1557 (by decide) (fun _ => kk _ _ _ hw h2.2) (fun z => absurd h2.1 z)
set_option maxHeartbeats 4000000 in
set_option maxRecDepth 100000 in
theorem lw_43 (X : L_C p s m meth c g b L xs) (hw : y_W g (lwA s) [] ad KA u s.heap H locs) (I : INV u) (hq0 : ad 0 = q0) (hq1 : ad 272 = q1) (hl : lv_has ls 4 (lwL b q0 q1 i)) (hi : i + 6 ≤ L) (kk : ∀ (u' : xM) (H' : Heap) (locs' : List Loc), y_W g (lwA s) [] ad KA u' s.heap H' locs' → INV u' → W p l e room_1 s m #[Value.ref b] below meth c H' locs' 290 15295 Q (F0 m 2206 ls [])) : W p l e room_1 s m #[Value.ref b] below meth c H locs 290 15295 Q (F0 m 1562 ls []) := by
  have hx := X.1.1.1
  have hb := X.1.1.2.1
  have hown := X.1.1.2.2.2.1
  have hts := X.1.1.2.2.2.2.1
  refine lv_aload_n hx hb dL_law_1562 rfl (lv_at hl 1 rfl) ?_
  refine L_arg X hw.2.2 hl 1 (by omega) (by decide) dL_law_1563 dL_law_1564 dL_law_1565 dL_law_1566 dL_law_1567 ?_
  refine L_arg X hw.2.2 hl 2 (by omega) (by decide) dL_law_1568 dL_law_1569 dL_law_1570 dL_law_1571 dL_law_1572 ?_
  refine y_calli hw (y_runV (ci := 10) X.1 hw (m_X10_through l (y_xD KA_nd hw.2.1) KA_x (K_through I (xs (i + 1)) (xs (i + 2)))) k_X (KA_x 0 (by decide)) hq0 rfl (x_gV xw_1427 xw_1428 xw_1429 xw_2 xw_1430) rfl rfl qX10_through ⟨Nat.le_of_ble_eq_true rfl, Nat.le_of_ble_eq_true rfl⟩ rfl hl.1 rfl (Nat.le_of_ble_eq_true rfl) dL_law_1573 ⟨Nat.le_of_ble_eq_true rfl, Nat.le_of_ble_eq_true rfl⟩) (fun r1 u1 H locs hw h1 => ?_)
  refine lv_aload_n hx hb dL_law_1576 rfl (lv_at hl 2 rfl) ?_
  refine L_arg X hw.2.2 hl 1 (by omega) (by decide) dL_law_1577 dL_law_1578 dL_law_1579 dL_law_1580 dL_law_1581 ?_
  refine L_arg X hw.2.2 hl 2 (by omega) (by decide) dL_law_1582 dL_law_1583 dL_law_1584 dL_law_1585 dL_law_1586 ?_
  refine y_calli hw (y_runV (ci := 11) X.1 hw (m_X11_through l (y_xD KA_nd hw.2.1) KA_m h1) k_M (KA_m 272 (by decide) (by decide)) hq1 rfl (x_gV xw_1432 xw_1433 xw_1434 xw_5 xw_1435) rfl rfl qX11_through ⟨Nat.le_of_ble_eq_true rfl, Nat.le_of_ble_eq_true rfl⟩ rfl hl.1 rfl (Nat.le_of_ble_eq_true rfl) dL_law_1587 ⟨Nat.le_of_ble_eq_true rfl, Nat.le_of_ble_eq_true rfl⟩) (fun r2 u2 H locs hw h2 => ?_)
  exact lv_icmp_eq (tgt := 2206) hx hb dL_law_1590 (by decide) (fun _ => kk _ _ _ hw h2.2) (fun z => absurd h2.1 z)
set_option maxHeartbeats 4000000 in
set_option maxRecDepth 100000 in
theorem lw_44 (X : L_C p s m meth c g b L xs) (hw : y_W g (lwA s) [] ad KA u s.heap H locs) (I : INV u) (hq0 : ad 0 = q0) (hq1 : ad 272 = q1) (hl : lv_has ls 4 (lwL b q0 q1 i)) (hi : i + 6 ≤ L) (kk : ∀ (u' : xM) (H' : Heap) (locs' : List Loc), y_W g (lwA s) [] ad KA u' s.heap H' locs' → INV u' → W p l e room_1 s m #[Value.ref b] below meth c H' locs' 290 15295 Q (F0 m 2206 ls [])) : W p l e room_1 s m #[Value.ref b] below meth c H locs 290 15295 Q (F0 m 1595 ls []) := by
  have hx := X.1.1.1
  have hb := X.1.1.2.1
  have hown := X.1.1.2.2.2.1
  have hts := X.1.1.2.2.2.2.1
  refine lv_aload_n hx hb dL_law_1595 rfl (lv_at hl 1 rfl) ?_
  refine L_arg X hw.2.2 hl 1 (by omega) (by decide) dL_law_1596 dL_law_1597 dL_law_1598 dL_law_1599 dL_law_1600 ?_
  refine L_arg X hw.2.2 hl 2 (by omega) (by decide) dL_law_1601 dL_law_1602 dL_law_1603 dL_law_1604 dL_law_1605 ?_
  refine y_calli hw (y_runV (ci := 10) X.1 hw (m_X10_greatest l (y_xD KA_nd hw.2.1) KA_x (K_greatest I (xs (i + 1)) (xs (i + 2)))) k_X (KA_x 0 (by decide)) hq0 rfl (x_gV xw_1436 xw_1437 xw_1438 xw_2 xw_1439) rfl rfl qX10_greatest ⟨Nat.le_of_ble_eq_true rfl, Nat.le_of_ble_eq_true rfl⟩ rfl hl.1 rfl (Nat.le_of_ble_eq_true rfl) dL_law_1606 ⟨Nat.le_of_ble_eq_true rfl, Nat.le_of_ble_eq_true rfl⟩) (fun r1 u1 H locs hw h1 => ?_)
  refine lv_aload_n hx hb dL_law_1609 rfl (lv_at hl 2 rfl) ?_
  refine L_arg X hw.2.2 hl 1 (by omega) (by decide) dL_law_1610 dL_law_1611 dL_law_1612 dL_law_1613 dL_law_1614 ?_
  refine L_arg X hw.2.2 hl 2 (by omega) (by decide) dL_law_1615 dL_law_1616 dL_law_1617 dL_law_1618 dL_law_1619 ?_
  refine y_calli hw (y_runV (ci := 11) X.1 hw (m_X11_greatest l (y_xD KA_nd hw.2.1) KA_m h1) k_M (KA_m 272 (by decide) (by decide)) hq1 rfl (x_gV xw_1440 xw_1441 xw_1442 xw_5 xw_1443) rfl rfl qX11_greatest ⟨Nat.le_of_ble_eq_true rfl, Nat.le_of_ble_eq_true rfl⟩ rfl hl.1 rfl (Nat.le_of_ble_eq_true rfl) dL_law_1620 ⟨Nat.le_of_ble_eq_true rfl, Nat.le_of_ble_eq_true rfl⟩) (fun r2 u2 H locs hw h2 => ?_)
  exact lv_icmp_eq (tgt := 2206) hx hb dL_law_1623 (by decide) (fun _ => kk _ _ _ hw h2.2) (fun z => absurd h2.1 z)
set_option maxHeartbeats 4000000 in
set_option maxRecDepth 100000 in
theorem lw_45 (X : L_C p s m meth c g b L xs) (hw : y_W g (lwA s) [] ad KA u s.heap H locs) (I : INV u) (hq0 : ad 0 = q0) (hq1 : ad 272 = q1) (hl : lv_has ls 4 (lwL b q0 q1 i)) (hi : i + 6 ≤ L) (kk : ∀ (u' : xM) (H' : Heap) (locs' : List Loc), y_W g (lwA s) [] ad KA u' s.heap H' locs' → INV u' → W p l e room_1 s m #[Value.ref b] below meth c H' locs' 290 15295 Q (F0 m 2206 ls [])) : W p l e room_1 s m #[Value.ref b] below meth c H locs 290 15295 Q (F0 m 1628 ls []) := by
  have hx := X.1.1.1
  have hb := X.1.1.2.1
  have hown := X.1.1.2.2.2.1
  have hts := X.1.1.2.2.2.2.1
  refine lv_aload_n hx hb dL_law_1628 rfl (lv_at hl 1 rfl) ?_
  refine y_calli hw (y_runV (ci := 10) X.1 hw (m_X10_firstDrowned l (y_xD KA_nd hw.2.1) KA_x (K_firstDrowned I)) k_X (KA_x 0 (by decide)) hq0 rfl (x_gV xw_1444 xw_1445 xw_1446 xw_2 xw_1447) rfl rfl qX10_firstDrowned ⟨Nat.le_of_ble_eq_true rfl, Nat.le_of_ble_eq_true rfl⟩ rfl hl.1 rfl (Nat.le_of_ble_eq_true rfl) dL_law_1629 ⟨Nat.le_of_ble_eq_true rfl, Nat.le_of_ble_eq_true rfl⟩) (fun r1 u1 H locs hw h1 => ?_)
  refine lv_aload_n hx hb dL_law_1632 rfl (lv_at hl 2 rfl) ?_
  refine y_calli hw (y_runV (ci := 11) X.1 hw (m_X11_firstDrowned l (y_xD KA_nd hw.2.1) KA_m h1) k_M (KA_m 272 (by decide) (by decide)) hq1 rfl (x_gV xw_1452 xw_1453 xw_1454 xw_5 xw_1455) rfl rfl qX11_firstDrowned ⟨Nat.le_of_ble_eq_true rfl, Nat.le_of_ble_eq_true rfl⟩ rfl hl.1 rfl (Nat.le_of_ble_eq_true rfl) dL_law_1633 ⟨Nat.le_of_ble_eq_true rfl, Nat.le_of_ble_eq_true rfl⟩) (fun r2 u2 H locs hw h2 => ?_)
  exact lv_icmp_eq (tgt := 2206) hx hb dL_law_1636 (by decide) (fun _ => kk _ _ _ hw h2.2) (fun z => absurd h2.1 z)
set_option maxHeartbeats 4000000 in
set_option maxRecDepth 100000 in
theorem lw_46 (X : L_C p s m meth c g b L xs) (hw : y_W g (lwA s) [] ad KA u s.heap H locs) (I : INV u) (hq0 : ad 0 = q0) (hq1 : ad 272 = q1) (hl : lv_has ls 4 (lwL b q0 q1 i)) (hi : i + 6 ≤ L) (kk : ∀ (u' : xM) (H' : Heap) (locs' : List Loc), y_W g (lwA s) [] ad KA u' s.heap H' locs' → INV u' → W p l e room_1 s m #[Value.ref b] below meth c H' locs' 290 15295 Q (F0 m 2206 ls [])) : W p l e room_1 s m #[Value.ref b] below meth c H locs 290 15295 Q (F0 m 1641 ls []) := by
  have hx := X.1.1.1
  have hb := X.1.1.2.1
  have hown := X.1.1.2.2.2.1
  have hts := X.1.1.2.2.2.2.1
  refine lv_aload_n hx hb dL_law_1641 rfl (lv_at hl 1 rfl) ?_
  refine L_arg X hw.2.2 hl 1 (by omega) (by decide) dL_law_1642 dL_law_1643 dL_law_1644 dL_law_1645 dL_law_1646 ?_
  refine y_calli hw (y_runV (ci := 10) X.1 hw (m_X10_bestHour l (y_xD KA_nd hw.2.1) KA_x (K_bestHour I (xs (i + 1)))) k_X (KA_x 0 (by decide)) hq0 rfl (x_gV xw_1456 xw_1457 xw_1458 xw_2 xw_1459) rfl rfl qX10_bestHour ⟨Nat.le_of_ble_eq_true rfl, Nat.le_of_ble_eq_true rfl⟩ rfl hl.1 rfl (Nat.le_of_ble_eq_true rfl) dL_law_1647 ⟨Nat.le_of_ble_eq_true rfl, Nat.le_of_ble_eq_true rfl⟩) (fun r1 u1 H locs hw h1 => ?_)
  refine lv_aload_n hx hb dL_law_1650 rfl (lv_at hl 2 rfl) ?_
  refine L_arg X hw.2.2 hl 1 (by omega) (by decide) dL_law_1651 dL_law_1652 dL_law_1653 dL_law_1654 dL_law_1655 ?_
  refine y_calli hw (y_runV (ci := 11) X.1 hw (m_X11_bestHour l (y_xD KA_nd hw.2.1) KA_m h1) k_M (KA_m 272 (by decide) (by decide)) hq1 rfl (x_gV xw_1461 xw_1462 xw_1463 xw_5 xw_1464) rfl rfl qX11_bestHour ⟨Nat.le_of_ble_eq_true rfl, Nat.le_of_ble_eq_true rfl⟩ rfl hl.1 rfl (Nat.le_of_ble_eq_true rfl) dL_law_1656 ⟨Nat.le_of_ble_eq_true rfl, Nat.le_of_ble_eq_true rfl⟩) (fun r2 u2 H locs hw h2 => ?_)
  exact lv_icmp_eq (tgt := 2206) hx hb dL_law_1659 (by decide) (fun _ => kk _ _ _ hw h2.2) (fun z => absurd h2.1 z)
set_option maxHeartbeats 4000000 in
set_option maxRecDepth 100000 in
theorem lw_47 (X : L_C p s m meth c g b L xs) (hw : y_W g (lwA s) [] ad KA u s.heap H locs) (I : INV u) (hq0 : ad 0 = q0) (hq1 : ad 272 = q1) (hl : lv_has ls 4 (lwL b q0 q1 i)) (hi : i + 6 ≤ L) (kk : ∀ (u' : xM) (H' : Heap) (locs' : List Loc), y_W g (lwA s) [] ad KA u' s.heap H' locs' → INV u' → W p l e room_1 s m #[Value.ref b] below meth c H' locs' 290 15295 Q (F0 m 2206 ls [])) : W p l e room_1 s m #[Value.ref b] below meth c H locs 290 15295 Q (F0 m 1664 ls []) := by
  have hx := X.1.1.1
  have hb := X.1.1.2.1
  have hown := X.1.1.2.2.2.1
  have hts := X.1.1.2.2.2.2.1
  refine lv_aload_n hx hb dL_law_1664 rfl (lv_at hl 1 rfl) ?_
  refine L_arg X hw.2.2 hl 1 (by omega) (by decide) dL_law_1665 dL_law_1666 dL_law_1667 dL_law_1668 dL_law_1669 ?_
  refine y_calli hw (y_runV (ci := 10) X.1 hw (m_X10_pumpFor l (y_xD KA_nd hw.2.1) KA_x (K_pumpFor I (xs (i + 1)))) k_X (KA_x 0 (by decide)) hq0 rfl (x_gV xw_1466 xw_1467 xw_1468 xw_2 xw_1469) rfl rfl qX10_pumpFor ⟨Nat.le_of_ble_eq_true rfl, Nat.le_of_ble_eq_true rfl⟩ rfl hl.1 rfl (Nat.le_of_ble_eq_true rfl) dL_law_1670 ⟨Nat.le_of_ble_eq_true rfl, Nat.le_of_ble_eq_true rfl⟩) (fun r1 u1 H locs hw h1 => ?_)
  refine lv_aload_n hx hb dL_law_1673 rfl (lv_at hl 2 rfl) ?_
  refine L_arg X hw.2.2 hl 1 (by omega) (by decide) dL_law_1674 dL_law_1675 dL_law_1676 dL_law_1677 dL_law_1678 ?_
  refine y_calli hw (y_runV (ci := 11) X.1 hw (m_X11_pumpFor l (y_xD KA_nd hw.2.1) KA_m h1) k_M (KA_m 272 (by decide) (by decide)) hq1 rfl (x_gV xw_1470 xw_1471 xw_1472 xw_5 xw_1473) rfl rfl qX11_pumpFor ⟨Nat.le_of_ble_eq_true rfl, Nat.le_of_ble_eq_true rfl⟩ rfl hl.1 rfl (Nat.le_of_ble_eq_true rfl) dL_law_1679 ⟨Nat.le_of_ble_eq_true rfl, Nat.le_of_ble_eq_true rfl⟩) (fun r2 u2 H locs hw h2 => ?_)
  exact lv_icmp_eq (tgt := 2206) hx hb dL_law_1682 (by decide) (fun _ => kk _ _ _ hw h2.2) (fun z => absurd h2.1 z)
set_option maxHeartbeats 4000000 in
set_option maxRecDepth 100000 in
theorem lw_all1 (X : L_C p s m meth c g b L xs) (hw : y_W g (lwA s) [] ad KA u s.heap H locs) (I : INV u) (hq0 : ad 0 = q0) (hq1 : ad 272 = q1) (hl : lv_has ls 4 (lwL b q0 q1 i)) (hi : i + 6 ≤ L) (kk : ∀ (u' : xM) (H' : Heap) (locs' : List Loc), y_W g (lwA s) [] ad KA u' s.heap H' locs' → INV u' → W p l e room_1 s m #[Value.ref b] below meth c H' locs' 290 15295 Q (F0 m 2206 ls [])) {n : Nat} (hn : n = 24 ∨ n = 25 ∨ n = 26 ∨ n = 27 ∨ n = 28 ∨ n = 29 ∨ n = 30 ∨ n = 31 ∨ n = 32 ∨ n = 33 ∨ n = 34 ∨ n = 35 ∨ n = 36 ∨ n = 37 ∨ n = 38 ∨ n = 39 ∨ n = 40 ∨ n = 41 ∨ n = 42 ∨ n = 43 ∨ n = 44 ∨ n = 45 ∨ n = 46 ∨ n = 47) : W p l e room_1 s m #[Value.ref b] below meth c H locs 290 15295 Q (F0 m 33 ls [.int (nI n)]) := by
  have hx := X.1.1.1
  have hb := X.1.1.2.1
  rcases hn with rfl | rfl | rfl | rfl | rfl | rfl | rfl | rfl | rfl | rfl | rfl | rfl | rfl | rfl | rfl | rfl | rfl | rfl | rfl | rfl | rfl | rfl | rfl | rfl
  · exact lv_tableIn (off := 984) (tgt := 1017) hx hb dL_law_33 (by decide +kernel) (by decide +kernel) (by decide +kernel) (by decide +kernel) (lw_24 X hw I hq0 hq1 hl hi kk)
  · exact lv_tableIn (off := 1007) (tgt := 1040) hx hb dL_law_33 (by decide +kernel) (by decide +kernel) (by decide +kernel) (by decide +kernel) (lw_25 X hw I hq0 hq1 hl hi kk)
  · exact lv_tableIn (off := 1030) (tgt := 1063) hx hb dL_law_33 (by decide +kernel) (by decide +kernel) (by decide +kernel) (by decide +kernel) (lw_26 X hw I hq0 hq1 hl hi kk)
  · exact lv_tableIn (off := 1079) (tgt := 1112) hx hb dL_law_33 (by decide +kernel) (by decide +kernel) (by decide +kernel) (by decide +kernel) (lw_27 X hw I hq0 hq1 hl hi kk)
  · exact lv_tableIn (off := 1128) (tgt := 1161) hx hb dL_law_33 (by decide +kernel) (by decide +kernel) (by decide +kernel) (by decide +kernel) (lw_28 X hw I hq0 hq1 hl hi kk)
  · exact lv_tableIn (off := 1161) (tgt := 1194) hx hb dL_law_33 (by decide +kernel) (by decide +kernel) (by decide +kernel) (by decide +kernel) (lw_29 X hw I hq0 hq1 hl hi kk)
  · exact lv_tableIn (off := 1174) (tgt := 1207) hx hb dL_law_33 (by decide +kernel) (by decide +kernel) (by decide +kernel) (by decide +kernel) (lw_30 X hw I hq0 hq1 hl hi kk)
  · exact lv_tableIn (off := 1233) (tgt := 1266) hx hb dL_law_33 (by decide +kernel) (by decide +kernel) (by decide +kernel) (by decide +kernel) (lw_31 X hw I hq0 hq1 hl hi kk)
  · exact lv_tableIn (off := 1266) (tgt := 1299) hx hb dL_law_33 (by decide +kernel) (by decide +kernel) (by decide +kernel) (by decide +kernel) (lw_32 X hw I hq0 hq1 hl hi kk)
  · exact lv_tableIn (off := 1299) (tgt := 1332) hx hb dL_law_33 (by decide +kernel) (by decide +kernel) (by decide +kernel) (by decide +kernel) (lw_33 X hw I hq0 hq1 hl hi kk)
  · exact lv_tableIn (off := 1332) (tgt := 1365) hx hb dL_law_33 (by decide +kernel) (by decide +kernel) (by decide +kernel) (by decide +kernel) (lw_34 X hw I hq0 hq1 hl hi kk)
  · exact lv_tableIn (off := 1355) (tgt := 1388) hx hb dL_law_33 (by decide +kernel) (by decide +kernel) (by decide +kernel) (by decide +kernel) (lw_35 X hw I hq0 hq1 hl hi kk)
  · exact lv_tableIn (off := 1388) (tgt := 1421) hx hb dL_law_33 (by decide +kernel) (by decide +kernel) (by decide +kernel) (by decide +kernel) (lw_36 X hw I hq0 hq1 hl hi kk)
  · exact lv_tableIn (off := 1411) (tgt := 1444) hx hb dL_law_33 (by decide +kernel) (by decide +kernel) (by decide +kernel) (by decide +kernel) (lw_37 X hw I hq0 hq1 hl hi kk)
  · exact lv_tableIn (off := 1434) (tgt := 1467) hx hb dL_law_33 (by decide +kernel) (by decide +kernel) (by decide +kernel) (by decide +kernel) (lw_38 X hw I hq0 hq1 hl hi kk)
  · exact lv_tableIn (off := 1457) (tgt := 1490) hx hb dL_law_33 (by decide +kernel) (by decide +kernel) (by decide +kernel) (by decide +kernel) (lw_39 X hw I hq0 hq1 hl hi kk)
  · exact lv_tableIn (off := 1470) (tgt := 1503) hx hb dL_law_33 (by decide +kernel) (by decide +kernel) (by decide +kernel) (by decide +kernel) (lw_40 X hw I hq0 hq1 hl hi kk)
  · exact lv_tableIn (off := 1493) (tgt := 1526) hx hb dL_law_33 (by decide +kernel) (by decide +kernel) (by decide +kernel) (by decide +kernel) (lw_41 X hw I hq0 hq1 hl hi kk)
  · exact lv_tableIn (off := 1506) (tgt := 1539) hx hb dL_law_33 (by decide +kernel) (by decide +kernel) (by decide +kernel) (by decide +kernel) (lw_42 X hw I hq0 hq1 hl hi kk)
  · exact lv_tableIn (off := 1529) (tgt := 1562) hx hb dL_law_33 (by decide +kernel) (by decide +kernel) (by decide +kernel) (by decide +kernel) (lw_43 X hw I hq0 hq1 hl hi kk)
  · exact lv_tableIn (off := 1562) (tgt := 1595) hx hb dL_law_33 (by decide +kernel) (by decide +kernel) (by decide +kernel) (by decide +kernel) (lw_44 X hw I hq0 hq1 hl hi kk)
  · exact lv_tableIn (off := 1595) (tgt := 1628) hx hb dL_law_33 (by decide +kernel) (by decide +kernel) (by decide +kernel) (by decide +kernel) (lw_45 X hw I hq0 hq1 hl hi kk)
  · exact lv_tableIn (off := 1608) (tgt := 1641) hx hb dL_law_33 (by decide +kernel) (by decide +kernel) (by decide +kernel) (by decide +kernel) (lw_46 X hw I hq0 hq1 hl hi kk)
  · exact lv_tableIn (off := 1631) (tgt := 1664) hx hb dL_law_33 (by decide +kernel) (by decide +kernel) (by decide +kernel) (by decide +kernel) (lw_47 X hw I hq0 hq1 hl hi kk)
end LAW1
