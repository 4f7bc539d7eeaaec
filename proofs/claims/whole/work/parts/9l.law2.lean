/-! THE LAW'S CASES, 3 of 3: each calls one side, then the other, and their answers are one -/
section Law2
variable {p : Program} {l : Launch} {e : Env} {s : State} {m : MethodId} {below : List Frame} {meth : Method} {c : Code} {b L : Nat} {xs : Nat → Int32} {D : va_G} {cy : Nat → ClassId} {ad : Nat → Nat → Nat} {nx : List (Nat × Nat)} {Mx Mm : Mem} {H : Heap} {locs : List Loc} {cells slots : Nat} {Q : State → Prop} {ls : Array Slot} {i : Nat}
set_option maxRecDepth 100000 in
set_option maxHeartbeats 4000000 in
theorem lw_under (C : LC p s m c b L xs D cy) (hs : LSt D cy ad nx Mx Mm s H locs) (hi : i + 6 ≤ L) (hL : L ≤ 3072) (hl : lv_has ls 4 [(0, .ref b), (1, .ref (ad 0 0)), (2, .ref (ad 100 0)), (3, .int (nI i))]) (hcs : cells + 47 ≤ 600000 ∧ slots + 1235 ≤ 7302250) (kk : LK p l e s m below meth c b D cy Q ls (cells + 47) (slots + 1235) (ad 0 0) (ad 100 0)) : W p l e room_1 s m #[Value.ref b] below meth c H locs cells slots Q (F0 m 1017 ls []) := by
  obtain ⟨hG, hN, hB, ⟨hR, hF⟩, hw⟩ := hs
  obtain ⟨hx, hb, -⟩ := id C
  have h0 : lv_has ls 4 [(0, .ref b), (3, .int (nI i))] := lv_sub hl [0, 3] rfl
  obtain ⟨r, Mx', Mm', ex, em, hR'⟩ := q_under hR (xs (i + 1)) (xs (i + 2)) (xs (i + 3))
  have hF' := FRE_k hR hR' (kk_X10_under (G := gA Mm 100 57) rfl _ em) hF
  have hS := hw.2.2
  refine lv_aload_n hx hb dl_1017 rfl (lv_at hl 1 rfl) ?_
  refine lc_A (pc := 1018) (k := 1) C hS (by omega) hL hl h0 (by decide) ⟨dl_1018, dl_1019, dl_1020, dl_1021, dl_1022⟩ ?_
  refine lc_A (pc := 1023) (k := 2) C hS (by omega) hL hl h0 (by decide) ⟨dl_1023, dl_1024, dl_1025, dl_1026, dl_1027⟩ ?_
  refine lc_A (pc := 1028) (k := 3) C hS (by omega) hL hl h0 (by decide) ⟨dl_1028, dl_1029, dl_1030, dl_1031, dl_1032⟩ ?_
  refine lc_X (pc := 1033) (Mx' := Mx') (v := .int r) (As := [.int (xs (i + 1)), .int (xs (i + 2)), .int (xs (i + 3))]) (rest := []) C hG hN hw (fun A => m_X9_under hN ex) mv_X9_under t5_56 ⟨rfl, rfl, Nat.le_of_ble_eq_true rfl, Nat.le_of_ble_eq_true rfl⟩ rfl hl.1 rfl (Nat.le_of_ble_eq_true rfl) ⟨by omega, by omega⟩ dl_1033 (fun H locs hw => ?_)
  have hS := hw.2.2
  refine lv_aload_n hx hb dl_1036 rfl (lv_at hl 2 rfl) ?_
  refine lc_A (pc := 1037) (k := 1) C hS (by omega) hL hl h0 (by decide) ⟨dl_1037, dl_1038, dl_1039, dl_1040, dl_1041⟩ ?_
  refine lc_A (pc := 1042) (k := 2) C hS (by omega) hL hl h0 (by decide) ⟨dl_1042, dl_1043, dl_1044, dl_1045, dl_1046⟩ ?_
  refine lc_A (pc := 1047) (k := 3) C hS (by omega) hL hl h0 (by decide) ⟨dl_1047, dl_1048, dl_1049, dl_1050, dl_1051⟩ ?_
  refine lc_M (pc := 1052) (Mm' := Mm') (v := .int r) (As := [.int (xs (i + 1)), .int (xs (i + 2)), .int (xs (i + 3))]) (rest := [.int r]) C hG hw (fun A => m_X10_under Ob_10 em) mv_X10_under t8_64 ⟨rfl, rfl, Nat.le_of_ble_eq_true rfl, Nat.le_of_ble_eq_true rfl⟩ rfl hl.1 rfl (Nat.le_of_ble_eq_true rfl) ⟨by omega, by omega⟩ dl_1052 (fun H locs hw => ?_)
  refine lv_icmp_eq (tgt := 1390) hx hb dl_1055 (by decide) (fun _ => ?_) (fun q => absurd rfl q)
  refine W.widen (k := cells + 47) (n := slots + 1235) (by omega) (by omega) ?_
  exact kk ad nx Mx' Mm' H locs ⟨hG, hN, hB, ⟨hR', hF'⟩, hw⟩ rfl rfl
set_option maxRecDepth 100000 in
set_option maxHeartbeats 4000000 in
theorem lw_hands (C : LC p s m c b L xs D cy) (hs : LSt D cy ad nx Mx Mm s H locs) (hi : i + 6 ≤ L) (hL : L ≤ 3072) (hl : lv_has ls 4 [(0, .ref b), (1, .ref (ad 0 0)), (2, .ref (ad 100 0)), (3, .int (nI i))]) (hcs : cells + 47 ≤ 600000 ∧ slots + 1235 ≤ 7302250) (kk : LK p l e s m below meth c b D cy Q ls (cells + 47) (slots + 1235) (ad 0 0) (ad 100 0)) : W p l e room_1 s m #[Value.ref b] below meth c H locs cells slots Q (F0 m 1060 ls []) := by
  obtain ⟨hG, hN, hB, ⟨hR, hF⟩, hw⟩ := hs
  obtain ⟨hx, hb, -⟩ := id C
  have h0 : lv_has ls 4 [(0, .ref b), (3, .int (nI i))] := lv_sub hl [0, 3] rfl
  obtain ⟨r, Mx', Mm', ex, em, hR'⟩ := q_hands hR (xs (i + 1)) (xs (i + 2))
  have hF' := FRE_k hR hR' (kk_X10_hands (G := gA Mm 100 57) rfl _ em) hF
  have hS := hw.2.2
  refine lv_aload_n hx hb dl_1060 rfl (lv_at hl 1 rfl) ?_
  refine lc_A (pc := 1061) (k := 1) C hS (by omega) hL hl h0 (by decide) ⟨dl_1061, dl_1062, dl_1063, dl_1064, dl_1065⟩ ?_
  refine lc_A (pc := 1066) (k := 2) C hS (by omega) hL hl h0 (by decide) ⟨dl_1066, dl_1067, dl_1068, dl_1069, dl_1070⟩ ?_
  refine lc_X (pc := 1071) (Mx' := Mx') (v := .int r) (As := [.int (xs (i + 1)), .int (xs (i + 2))]) (rest := []) C hG hN hw (fun A => m_X9_hands hN ex) mv_X9_hands t5_62 ⟨rfl, rfl, Nat.le_of_ble_eq_true rfl, Nat.le_of_ble_eq_true rfl⟩ rfl hl.1 rfl (Nat.le_of_ble_eq_true rfl) ⟨by omega, by omega⟩ dl_1071 (fun H locs hw => ?_)
  have hS := hw.2.2
  refine lv_aload_n hx hb dl_1074 rfl (lv_at hl 2 rfl) ?_
  refine lc_A (pc := 1075) (k := 1) C hS (by omega) hL hl h0 (by decide) ⟨dl_1075, dl_1076, dl_1077, dl_1078, dl_1079⟩ ?_
  refine lc_A (pc := 1080) (k := 2) C hS (by omega) hL hl h0 (by decide) ⟨dl_1080, dl_1081, dl_1082, dl_1083, dl_1084⟩ ?_
  refine lc_M (pc := 1085) (Mm' := Mm') (v := .int r) (As := [.int (xs (i + 1)), .int (xs (i + 2))]) (rest := [.int r]) C hG hw (fun A => m_X10_hands Ob_10 em) mv_X10_hands t8_68 ⟨rfl, rfl, Nat.le_of_ble_eq_true rfl, Nat.le_of_ble_eq_true rfl⟩ rfl hl.1 rfl (Nat.le_of_ble_eq_true rfl) ⟨by omega, by omega⟩ dl_1085 (fun H locs hw => ?_)
  refine lv_icmp_eq (tgt := 1390) hx hb dl_1088 (by decide) (fun _ => ?_) (fun q => absurd rfl q)
  refine W.widen (k := cells + 47) (n := slots + 1235) (by omega) (by omega) ?_
  exact kk ad nx Mx' Mm' H locs ⟨hG, hN, hB, ⟨hR', hF'⟩, hw⟩ rfl rfl
set_option maxRecDepth 100000 in
set_option maxHeartbeats 4000000 in
theorem lw_spools (C : LC p s m c b L xs D cy) (hs : LSt D cy ad nx Mx Mm s H locs) (hi : i + 6 ≤ L) (hL : L ≤ 3072) (hl : lv_has ls 4 [(0, .ref b), (1, .ref (ad 0 0)), (2, .ref (ad 100 0)), (3, .int (nI i))]) (hcs : cells + 47 ≤ 600000 ∧ slots + 1235 ≤ 7302250) (kk : LK p l e s m below meth c b D cy Q ls (cells + 47) (slots + 1235) (ad 0 0) (ad 100 0)) : W p l e room_1 s m #[Value.ref b] below meth c H locs cells slots Q (F0 m 1093 ls []) := by
  obtain ⟨hG, hN, hB, ⟨hR, hF⟩, hw⟩ := hs
  obtain ⟨hx, hb, -⟩ := id C
  have h0 : lv_has ls 4 [(0, .ref b), (3, .int (nI i))] := lv_sub hl [0, 3] rfl
  obtain ⟨r, Mx', Mm', ex, em, hR'⟩ := q_spools hR (xs (i + 1)) (xs (i + 2))
  have hF' := FRE_k hR hR' (kk_X10_spools (G := gA Mm 100 57) rfl _ em) hF
  have hS := hw.2.2
  refine lv_aload_n hx hb dl_1093 rfl (lv_at hl 1 rfl) ?_
  refine lc_A (pc := 1094) (k := 1) C hS (by omega) hL hl h0 (by decide) ⟨dl_1094, dl_1095, dl_1096, dl_1097, dl_1098⟩ ?_
  refine lc_A (pc := 1099) (k := 2) C hS (by omega) hL hl h0 (by decide) ⟨dl_1099, dl_1100, dl_1101, dl_1102, dl_1103⟩ ?_
  refine lc_X (pc := 1104) (Mx' := Mx') (v := .int r) (As := [.int (xs (i + 1)), .int (xs (i + 2))]) (rest := []) C hG hN hw (fun A => m_X9_spools hN ex) mv_X9_spools t5_74 ⟨rfl, rfl, Nat.le_of_ble_eq_true rfl, Nat.le_of_ble_eq_true rfl⟩ rfl hl.1 rfl (Nat.le_of_ble_eq_true rfl) ⟨by omega, by omega⟩ dl_1104 (fun H locs hw => ?_)
  have hS := hw.2.2
  refine lv_aload_n hx hb dl_1107 rfl (lv_at hl 2 rfl) ?_
  refine lc_A (pc := 1108) (k := 1) C hS (by omega) hL hl h0 (by decide) ⟨dl_1108, dl_1109, dl_1110, dl_1111, dl_1112⟩ ?_
  refine lc_A (pc := 1113) (k := 2) C hS (by omega) hL hl h0 (by decide) ⟨dl_1113, dl_1114, dl_1115, dl_1116, dl_1117⟩ ?_
  refine lc_M (pc := 1118) (Mm' := Mm') (v := .int r) (As := [.int (xs (i + 1)), .int (xs (i + 2))]) (rest := [.int r]) C hG hw (fun A => m_X10_spools Ob_10 em) mv_X10_spools t8_80 ⟨rfl, rfl, Nat.le_of_ble_eq_true rfl, Nat.le_of_ble_eq_true rfl⟩ rfl hl.1 rfl (Nat.le_of_ble_eq_true rfl) ⟨by omega, by omega⟩ dl_1118 (fun H locs hw => ?_)
  refine lv_icmp_eq (tgt := 1390) hx hb dl_1121 (by decide) (fun _ => ?_) (fun q => absurd rfl q)
  refine W.widen (k := cells + 47) (n := slots + 1235) (by omega) (by omega) ?_
  exact kk ad nx Mx' Mm' H locs ⟨hG, hN, hB, ⟨hR', hF'⟩, hw⟩ rfl rfl
set_option maxRecDepth 100000 in
set_option maxHeartbeats 4000000 in
theorem lw_grown (C : LC p s m c b L xs D cy) (hs : LSt D cy ad nx Mx Mm s H locs) (hi : i + 6 ≤ L) (hL : L ≤ 3072) (hl : lv_has ls 4 [(0, .ref b), (1, .ref (ad 0 0)), (2, .ref (ad 100 0)), (3, .int (nI i))]) (hcs : cells + 47 ≤ 600000 ∧ slots + 1235 ≤ 7302250) (kk : LK p l e s m below meth c b D cy Q ls (cells + 47) (slots + 1235) (ad 0 0) (ad 100 0)) : W p l e room_1 s m #[Value.ref b] below meth c H locs cells slots Q (F0 m 1126 ls []) := by
  obtain ⟨hG, hN, hB, ⟨hR, hF⟩, hw⟩ := hs
  obtain ⟨hx, hb, -⟩ := id C
  have h0 : lv_has ls 4 [(0, .ref b), (3, .int (nI i))] := lv_sub hl [0, 3] rfl
  obtain ⟨r, Mx', Mm', ex, em, hR'⟩ := q_grown hR (xs (i + 1)) (xs (i + 2))
  obtain ⟨ex2, rfl⟩ := wM_of ex
  have hF' := FRE_k hR hR' (kk_X10_grown (G := gA Mm 100 57) rfl _ em) hF
  have hS := hw.2.2
  refine lv_aload_n hx hb dl_1126 rfl (lv_at hl 1 rfl) ?_
  refine lc_A (pc := 1127) (k := 1) C hS (by omega) hL hl h0 (by decide) ⟨dl_1127, dl_1128, dl_1129, dl_1130, dl_1131⟩ ?_
  refine lc_A (pc := 1132) (k := 2) C hS (by omega) hL hl h0 (by decide) ⟨dl_1132, dl_1133, dl_1134, dl_1135, dl_1136⟩ ?_
  refine lc_X (pc := 1137) (Mx' := Mx) (v := .int r) (As := [.int (xs (i + 1)), .int (xs (i + 2))]) (rest := []) C hG hN hw (fun A => m_X9_grown hN ex2) mv_X9_grown t5_94 ⟨rfl, rfl, Nat.le_of_ble_eq_true rfl, Nat.le_of_ble_eq_true rfl⟩ rfl hl.1 rfl (Nat.le_of_ble_eq_true rfl) ⟨by omega, by omega⟩ dl_1137 (fun H locs hw => ?_)
  have hS := hw.2.2
  refine lv_aload_n hx hb dl_1140 rfl (lv_at hl 2 rfl) ?_
  refine lc_A (pc := 1141) (k := 1) C hS (by omega) hL hl h0 (by decide) ⟨dl_1141, dl_1142, dl_1143, dl_1144, dl_1145⟩ ?_
  refine lc_A (pc := 1146) (k := 2) C hS (by omega) hL hl h0 (by decide) ⟨dl_1146, dl_1147, dl_1148, dl_1149, dl_1150⟩ ?_
  refine lc_M (pc := 1151) (Mm' := Mm') (v := .int r) (As := [.int (xs (i + 1)), .int (xs (i + 2))]) (rest := [.int r]) C hG hw (fun A => m_X10_grown Ob_10 em) mv_X10_grown t8_88 ⟨rfl, rfl, Nat.le_of_ble_eq_true rfl, Nat.le_of_ble_eq_true rfl⟩ rfl hl.1 rfl (Nat.le_of_ble_eq_true rfl) ⟨by omega, by omega⟩ dl_1151 (fun H locs hw => ?_)
  refine lv_icmp_eq (tgt := 1390) hx hb dl_1154 (by decide) (fun _ => ?_) (fun q => absurd rfl q)
  refine W.widen (k := cells + 47) (n := slots + 1235) (by omega) (by omega) ?_
  exact kk ad nx Mx Mm' H locs ⟨hG, hN, hB, ⟨hR', hF'⟩, hw⟩ rfl rfl
set_option maxRecDepth 100000 in
set_option maxHeartbeats 4000000 in
theorem lw_home (C : LC p s m c b L xs D cy) (hs : LSt D cy ad nx Mx Mm s H locs) (hi : i + 6 ≤ L) (hL : L ≤ 3072) (hl : lv_has ls 4 [(0, .ref b), (1, .ref (ad 0 0)), (2, .ref (ad 100 0)), (3, .int (nI i))]) (hcs : cells + 47 ≤ 600000 ∧ slots + 1235 ≤ 7302250) (kk : LK p l e s m below meth c b D cy Q ls (cells + 47) (slots + 1235) (ad 0 0) (ad 100 0)) : W p l e room_1 s m #[Value.ref b] below meth c H locs cells slots Q (F0 m 1159 ls []) := by
  obtain ⟨hG, hN, hB, ⟨hR, hF⟩, hw⟩ := hs
  obtain ⟨hx, hb, -⟩ := id C
  have h0 : lv_has ls 4 [(0, .ref b), (3, .int (nI i))] := lv_sub hl [0, 3] rfl
  obtain ⟨r, Mx', Mm', ex, em, hR'⟩ := q_home hR (xs (i + 1)) ((!decide (xs (i + 2) = 0)))
  have hF' := FRE_k hR hR' (kk_X10_home (G := gA Mm 100 57) rfl _ em) hF
  have hS := hw.2.2
  refine lv_aload_n hx hb dl_1159 rfl (lv_at hl 1 rfl) ?_
  refine lc_A (pc := 1160) (k := 1) C hS (by omega) hL hl h0 (by decide) ⟨dl_1160, dl_1161, dl_1162, dl_1163, dl_1164⟩ ?_
  refine lc_A (pc := 1165) (k := 2) C hS (by omega) hL hl h0 (by decide) ⟨dl_1165, dl_1166, dl_1167, dl_1168, dl_1169⟩ ?_
  refine lc_B (pc := 1170) C ⟨dl_1170, dl_1173, dl_1174, dl_1177⟩ ?_
  refine lc_X (pc := 1178) (Mx' := Mx') (v := .int r) (As := [.int (xs (i + 1)), .int (b2i (!decide (xs (i + 2) = 0)))]) (rest := []) C hG hN hw (fun A => m_X9_home hN ex) mv_X9_home t5_98 ⟨rfl, rfl, Nat.le_of_ble_eq_true rfl, Nat.le_of_ble_eq_true rfl⟩ rfl hl.1 rfl (Nat.le_of_ble_eq_true rfl) ⟨by omega, by omega⟩ dl_1178 (fun H locs hw => ?_)
  have hS := hw.2.2
  refine lv_aload_n hx hb dl_1181 rfl (lv_at hl 2 rfl) ?_
  refine lc_A (pc := 1182) (k := 1) C hS (by omega) hL hl h0 (by decide) ⟨dl_1182, dl_1183, dl_1184, dl_1185, dl_1186⟩ ?_
  refine lc_A (pc := 1187) (k := 2) C hS (by omega) hL hl h0 (by decide) ⟨dl_1187, dl_1188, dl_1189, dl_1190, dl_1191⟩ ?_
  refine lc_B (pc := 1192) C ⟨dl_1192, dl_1195, dl_1196, dl_1199⟩ ?_
  refine lc_M (pc := 1200) (Mm' := Mm') (v := .int r) (As := [.int (xs (i + 1)), .int (b2i (!decide (xs (i + 2) = 0)))]) (rest := [.int r]) C hG hw (fun A => m_X10_home Ob_10 em) mv_X10_home t8_92 ⟨rfl, rfl, Nat.le_of_ble_eq_true rfl, Nat.le_of_ble_eq_true rfl⟩ rfl hl.1 rfl (Nat.le_of_ble_eq_true rfl) ⟨by omega, by omega⟩ dl_1200 (fun H locs hw => ?_)
  refine lv_icmp_eq (tgt := 1390) hx hb dl_1203 (by decide) (fun _ => ?_) (fun q => absurd rfl q)
  refine W.widen (k := cells + 47) (n := slots + 1235) (by omega) (by omega) ?_
  exact kk ad nx Mx' Mm' H locs ⟨hG, hN, hB, ⟨hR', hF'⟩, hw⟩ rfl rfl
set_option maxRecDepth 100000 in
set_option maxHeartbeats 4000000 in
theorem lw_way (C : LC p s m c b L xs D cy) (hs : LSt D cy ad nx Mx Mm s H locs) (hi : i + 6 ≤ L) (hL : L ≤ 3072) (hl : lv_has ls 4 [(0, .ref b), (1, .ref (ad 0 0)), (2, .ref (ad 100 0)), (3, .int (nI i))]) (hcs : cells + 47 ≤ 600000 ∧ slots + 1235 ≤ 7302250) (kk : LK p l e s m below meth c b D cy Q ls (cells + 47) (slots + 1235) (ad 0 0) (ad 100 0)) : W p l e room_1 s m #[Value.ref b] below meth c H locs cells slots Q (F0 m 1208 ls []) := by
  obtain ⟨hG, hN, hB, ⟨hR, hF⟩, hw⟩ := hs
  obtain ⟨hx, hb, -⟩ := id C
  have h0 : lv_has ls 4 [(0, .ref b), (3, .int (nI i))] := lv_sub hl [0, 3] rfl
  obtain ⟨r, Mx', Mm', ex, em, hR'⟩ := q_way hR (xs (i + 1)) (xs (i + 2)) (xs (i + 3))
  obtain ⟨ex2, rfl⟩ := wM_of ex
  have hF' := FRE_k hR hR' (kk_X10_way (G := gA Mm 100 57) rfl _ em) hF
  have hS := hw.2.2
  refine lv_aload_n hx hb dl_1208 rfl (lv_at hl 1 rfl) ?_
  refine lc_A (pc := 1209) (k := 1) C hS (by omega) hL hl h0 (by decide) ⟨dl_1209, dl_1210, dl_1211, dl_1212, dl_1213⟩ ?_
  refine lc_A (pc := 1214) (k := 2) C hS (by omega) hL hl h0 (by decide) ⟨dl_1214, dl_1215, dl_1216, dl_1217, dl_1218⟩ ?_
  refine lc_A (pc := 1219) (k := 3) C hS (by omega) hL hl h0 (by decide) ⟨dl_1219, dl_1220, dl_1221, dl_1222, dl_1223⟩ ?_
  refine lc_X (pc := 1224) (Mx' := Mx) (v := .int r) (As := [.int (xs (i + 1)), .int (xs (i + 2)), .int (xs (i + 3))]) (rest := []) C hG hN hw (fun A => m_X9_way hN ex2) mv_X9_way t5_102 ⟨rfl, rfl, Nat.le_of_ble_eq_true rfl, Nat.le_of_ble_eq_true rfl⟩ rfl hl.1 rfl (Nat.le_of_ble_eq_true rfl) ⟨by omega, by omega⟩ dl_1224 (fun H locs hw => ?_)
  have hS := hw.2.2
  refine lv_aload_n hx hb dl_1227 rfl (lv_at hl 2 rfl) ?_
  refine lc_A (pc := 1228) (k := 1) C hS (by omega) hL hl h0 (by decide) ⟨dl_1228, dl_1229, dl_1230, dl_1231, dl_1232⟩ ?_
  refine lc_A (pc := 1233) (k := 2) C hS (by omega) hL hl h0 (by decide) ⟨dl_1233, dl_1234, dl_1235, dl_1236, dl_1237⟩ ?_
  refine lc_A (pc := 1238) (k := 3) C hS (by omega) hL hl h0 (by decide) ⟨dl_1238, dl_1239, dl_1240, dl_1241, dl_1242⟩ ?_
  refine lc_M (pc := 1243) (Mm' := Mm') (v := .int r) (As := [.int (xs (i + 1)), .int (xs (i + 2)), .int (xs (i + 3))]) (rest := [.int r]) C hG hw (fun A => m_X10_way Ob_10 em) mv_X10_way t8_96 ⟨rfl, rfl, Nat.le_of_ble_eq_true rfl, Nat.le_of_ble_eq_true rfl⟩ rfl hl.1 rfl (Nat.le_of_ble_eq_true rfl) ⟨by omega, by omega⟩ dl_1243 (fun H locs hw => ?_)
  refine lv_icmp_eq (tgt := 1390) hx hb dl_1246 (by decide) (fun _ => ?_) (fun q => absurd rfl q)
  refine W.widen (k := cells + 47) (n := slots + 1235) (by omega) (by omega) ?_
  exact kk ad nx Mx Mm' H locs ⟨hG, hN, hB, ⟨hR', hF'⟩, hw⟩ rfl rfl
set_option maxRecDepth 100000 in
set_option maxHeartbeats 4000000 in
theorem lw_enough (C : LC p s m c b L xs D cy) (hs : LSt D cy ad nx Mx Mm s H locs) (hi : i + 6 ≤ L) (hL : L ≤ 3072) (hl : lv_has ls 4 [(0, .ref b), (1, .ref (ad 0 0)), (2, .ref (ad 100 0)), (3, .int (nI i))]) (hcs : cells + 47 ≤ 600000 ∧ slots + 1235 ≤ 7302250) (kk : LK p l e s m below meth c b D cy Q ls (cells + 47) (slots + 1235) (ad 0 0) (ad 100 0)) : W p l e room_1 s m #[Value.ref b] below meth c H locs cells slots Q (F0 m 1251 ls []) := by
  obtain ⟨hG, hN, hB, ⟨hR, hF⟩, hw⟩ := hs
  obtain ⟨hx, hb, -⟩ := id C
  have h0 : lv_has ls 4 [(0, .ref b), (3, .int (nI i))] := lv_sub hl [0, 3] rfl
  obtain ⟨r, Mx', Mm', ex, em, hR'⟩ := q_enough hR (xs (i + 1)) (xs (i + 2)) (xs (i + 3)) ((!decide (xs (i + 4) = 0)))
  obtain ⟨ex2, rfl⟩ := wM_of ex
  have hF' := FRE_k hR hR' (kk_X10_enough (G := gA Mm 100 57) rfl _ em) hF
  have hS := hw.2.2
  refine lv_aload_n hx hb dl_1251 rfl (lv_at hl 1 rfl) ?_
  refine lc_A (pc := 1252) (k := 1) C hS (by omega) hL hl h0 (by decide) ⟨dl_1252, dl_1253, dl_1254, dl_1255, dl_1256⟩ ?_
  refine lc_A (pc := 1257) (k := 2) C hS (by omega) hL hl h0 (by decide) ⟨dl_1257, dl_1258, dl_1259, dl_1260, dl_1261⟩ ?_
  refine lc_A (pc := 1262) (k := 3) C hS (by omega) hL hl h0 (by decide) ⟨dl_1262, dl_1263, dl_1264, dl_1265, dl_1266⟩ ?_
  refine lc_A (pc := 1267) (k := 4) C hS (by omega) hL hl h0 (by decide) ⟨dl_1267, dl_1268, dl_1269, dl_1270, dl_1271⟩ ?_
  refine lc_B (pc := 1272) C ⟨dl_1272, dl_1275, dl_1276, dl_1279⟩ ?_
  refine lc_X (pc := 1280) (Mx' := Mx) (v := .long r) (As := [.int (xs (i + 1)), .int (xs (i + 2)), .int (xs (i + 3)), .int (b2i (!decide (xs (i + 4) = 0)))]) (rest := []) C hG hN hw (fun A => m_X9_enough hN ex2) mv_X9_enough t5_108 ⟨rfl, rfl, Nat.le_of_ble_eq_true rfl, Nat.le_of_ble_eq_true rfl⟩ rfl hl.1 rfl (Nat.le_of_ble_eq_true rfl) ⟨by omega, by omega⟩ dl_1280 (fun H locs hw => ?_)
  have hS := hw.2.2
  refine lv_aload_n hx hb dl_1283 rfl (lv_at hl 2 rfl) ?_
  refine lc_A (pc := 1284) (k := 1) C hS (by omega) hL hl h0 (by decide) ⟨dl_1284, dl_1285, dl_1286, dl_1287, dl_1288⟩ ?_
  refine lc_A (pc := 1289) (k := 2) C hS (by omega) hL hl h0 (by decide) ⟨dl_1289, dl_1290, dl_1291, dl_1292, dl_1293⟩ ?_
  refine lc_A (pc := 1294) (k := 3) C hS (by omega) hL hl h0 (by decide) ⟨dl_1294, dl_1295, dl_1296, dl_1297, dl_1298⟩ ?_
  refine lc_A (pc := 1299) (k := 4) C hS (by omega) hL hl h0 (by decide) ⟨dl_1299, dl_1300, dl_1301, dl_1302, dl_1303⟩ ?_
  refine lc_B (pc := 1304) C ⟨dl_1304, dl_1307, dl_1308, dl_1311⟩ ?_
  refine lc_M (pc := 1312) (Mm' := Mm') (v := .long r) (As := [.int (xs (i + 1)), .int (xs (i + 2)), .int (xs (i + 3)), .int (b2i (!decide (xs (i + 4) = 0)))]) (rest := [.long r]) C hG hw (fun A => m_X10_enough Ob_10 em) mv_X10_enough t8_100 ⟨rfl, rfl, Nat.le_of_ble_eq_true rfl, Nat.le_of_ble_eq_true rfl⟩ rfl hl.1 rfl (Nat.le_of_ble_eq_true rfl) ⟨by omega, by omega⟩ dl_1312 (fun H locs hw => ?_)
  refine W.lcmp hx hb dl_1315 ?_
  rw [lg_same]
  refine lv_if_eq (tgt := 1390) hx hb dl_1316 (by decide) (fun _ => ?_) (fun q => absurd rfl q)
  refine W.widen (k := cells + 47) (n := slots + 1235) (by omega) (by omega) ?_
  exact kk ad nx Mx Mm' H locs ⟨hG, hN, hB, ⟨hR', hF'⟩, hw⟩ rfl rfl
set_option maxRecDepth 100000 in
set_option maxHeartbeats 4000000 in
theorem lw_count (C : LC p s m c b L xs D cy) (hs : LSt D cy ad nx Mx Mm s H locs) (hi : i + 6 ≤ L) (hL : L ≤ 3072) (hl : lv_has ls 4 [(0, .ref b), (1, .ref (ad 0 0)), (2, .ref (ad 100 0)), (3, .int (nI i))]) (hcs : cells + 47 ≤ 600000 ∧ slots + 1235 ≤ 7302250) (kk : LK p l e s m below meth c b D cy Q ls (cells + 47) (slots + 1235) (ad 0 0) (ad 100 0)) : W p l e room_1 s m #[Value.ref b] below meth c H locs cells slots Q (F0 m 1321 ls []) := by
  obtain ⟨hG, hN, hB, ⟨hR, hF⟩, hw⟩ := hs
  obtain ⟨hx, hb, -⟩ := id C
  have h0 : lv_has ls 4 [(0, .ref b), (3, .int (nI i))] := lv_sub hl [0, 3] rfl
  obtain ⟨r, Mx', Mm', ex, em, hR'⟩ := q_count hR (xs (i + 1))
  obtain ⟨ex2, rfl⟩ := wM_of ex
  have hF' := FRE_k hR hR' (kk_X10_count (G := gA Mm 100 57) rfl _ em) hF
  have hS := hw.2.2
  refine lv_aload_n hx hb dl_1321 rfl (lv_at hl 1 rfl) ?_
  refine lc_A (pc := 1322) (k := 1) C hS (by omega) hL hl h0 (by decide) ⟨dl_1322, dl_1323, dl_1324, dl_1325, dl_1326⟩ ?_
  refine lc_X (pc := 1327) (Mx' := Mx) (v := .int r) (As := [.int (xs (i + 1))]) (rest := []) C hG hN hw (fun A => m_X9_count hN ex2) mv_X9_count t5_112 ⟨rfl, rfl, Nat.le_of_ble_eq_true rfl, Nat.le_of_ble_eq_true rfl⟩ rfl hl.1 rfl (Nat.le_of_ble_eq_true rfl) ⟨by omega, by omega⟩ dl_1327 (fun H locs hw => ?_)
  have hS := hw.2.2
  refine lv_aload_n hx hb dl_1330 rfl (lv_at hl 2 rfl) ?_
  refine lc_A (pc := 1331) (k := 1) C hS (by omega) hL hl h0 (by decide) ⟨dl_1331, dl_1332, dl_1333, dl_1334, dl_1335⟩ ?_
  refine lc_M (pc := 1336) (Mm' := Mm') (v := .int r) (As := [.int (xs (i + 1))]) (rest := [.int r]) C hG hw (fun A => m_X10_count Ob_10 em) mv_X10_count t8_104 ⟨rfl, rfl, Nat.le_of_ble_eq_true rfl, Nat.le_of_ble_eq_true rfl⟩ rfl hl.1 rfl (Nat.le_of_ble_eq_true rfl) ⟨by omega, by omega⟩ dl_1336 (fun H locs hw => ?_)
  refine lv_icmp_eq (tgt := 1390) hx hb dl_1339 (by decide) (fun _ => ?_) (fun q => absurd rfl q)
  refine W.widen (k := cells + 47) (n := slots + 1235) (by omega) (by omega) ?_
  exact kk ad nx Mx Mm' H locs ⟨hG, hN, hB, ⟨hR', hF'⟩, hw⟩ rfl rfl
set_option maxRecDepth 100000 in
set_option maxHeartbeats 4000000 in
theorem lw_image (C : LC p s m c b L xs D cy) (hs : LSt D cy ad nx Mx Mm s H locs) (hi : i + 6 ≤ L) (hL : L ≤ 3072) (hl : lv_has ls 4 [(0, .ref b), (1, .ref (ad 0 0)), (2, .ref (ad 100 0)), (3, .int (nI i))]) (hcs : cells + 47 ≤ 600000 ∧ slots + 1235 ≤ 7302250) (kk : LK p l e s m below meth c b D cy Q ls (cells + 47) (slots + 1235) (ad 0 0) (ad 100 0)) : W p l e room_1 s m #[Value.ref b] below meth c H locs cells slots Q (F0 m 1344 ls []) := by
  obtain ⟨hG, hN, hB, ⟨hR, hF⟩, hw⟩ := hs
  obtain ⟨hx, hb, -⟩ := id C
  have h0 : lv_has ls 4 [(0, .ref b), (3, .int (nI i))] := lv_sub hl [0, 3] rfl
  rcases img_cases (xs (i + 1)) with ha | ⟨j, hj, ha⟩
  · obtain ⟨Mm', em, hR'⟩ := q_img_n hR ha
    have hF' := hF
    have hS := hw.2.2
    refine lv_aload_n hx hb dl_1344 rfl (lv_at hl 1 rfl) ?_
    refine lc_A (pc := 1345) (k := 1) C hS (by omega) hL hl h0 (by decide) ⟨dl_1345, dl_1346, dl_1347, dl_1348, dl_1349⟩ ?_
    refine lc_X (pc := 1350) (Mx' := Mx) (v := .int (b2i false)) (As := [.int (xs (i + 1))]) (rest := []) C hG hN hw (fun A => mi_out hN (img_out ha)) mv_X9_image t5_113 ⟨rfl, rfl, Nat.le_of_ble_eq_true rfl, Nat.le_of_ble_eq_true rfl⟩ rfl hl.1 rfl (Nat.le_of_ble_eq_true rfl) ⟨by omega, by omega⟩ dl_1350 (fun H locs hw => ?_)
    have hS := hw.2.2
    refine lv_aload_n hx hb dl_1353 rfl (lv_at hl 2 rfl) ?_
    refine lc_A (pc := 1354) (k := 1) C hS (by omega) hL hl h0 (by decide) ⟨dl_1354, dl_1355, dl_1356, dl_1357, dl_1358⟩ ?_
    refine lc_M (pc := 1359) (Mm' := Mm') (v := .int (b2i false)) (As := [.int (xs (i + 1))]) (rest := [.int (b2i false)]) C hG hw (fun A => m_X10_image Ob_10 em) mv_X10_image t8_108 ⟨rfl, rfl, Nat.le_of_ble_eq_true rfl, Nat.le_of_ble_eq_true rfl⟩ rfl hl.1 rfl (Nat.le_of_ble_eq_true rfl) ⟨by omega, by omega⟩ dl_1359 (fun H locs hw => ?_)
    refine lv_icmp_eq (tgt := 1390) hx hb dl_1362 (by decide) (fun _ => ?_) (fun q => absurd rfl q)
    refine W.widen (k := cells + 47) (n := slots + 1235) (by omega) (by omega) ?_
    exact kk ad nx Mx Mm' H locs ⟨hG, hN, hB, ⟨hR', hF'⟩, hw⟩ rfl rfl
  · by_cases hj0 : gA Mx 0 1 j = 0
    · obtain ⟨Mx', Mm', ex, em, hR'⟩ := img_new hR hj
      have hF' := img_fre hj ex hF
      have hS := hw.2.2
      refine lv_aload_n hx hb dl_1344 rfl (lv_at hl 1 rfl) ?_
      refine lc_A (pc := 1345) (k := 1) C hS (by omega) hL hl h0 (by decide) ⟨dl_1345, dl_1346, dl_1347, dl_1348, dl_1349⟩ ?_
      rw [ha]
      refine lc_N (pc := 1350) (rest := []) C hG hN hB hF hw hj hj0 ex t5_113 hl.1 rfl (Nat.le_of_ble_eq_true rfl) ⟨by omega, by omega⟩ dl_1350 (fun h u H locs hw => ?_)
      have hG' : Gx (adT ad (21 + 9 * j) h u) (A0 s) s s.heap := Gx_ad hG (by funext k; exact adT_out (by omega) k) (by funext k; exact adT_out (by omega) k)
      have hl : lv_has ls 4 [(0, .ref b), (1, .ref (adT ad (21 + 9 * j) h u 0 0)), (2, .ref (adT ad (21 + 9 * j) h u 100 0)), (3, .int (nI i))] := by
        rw [adT_out (by omega), adT_out (by omega)]
        exact hl
      have hS := hw.2.2
      refine lv_aload_n hx hb dl_1353 rfl (lv_at hl 2 rfl) ?_
      refine lc_A (pc := 1354) (k := 1) C hS (by omega) hL hl h0 (by decide) ⟨dl_1354, dl_1355, dl_1356, dl_1357, dl_1358⟩ ?_
      rw [ha]
      refine lc_M (pc := 1359) (Mm' := Mm') (v := .int (b2i true)) (As := [.int (nI j)]) (rest := [.int (b2i true)]) C hG' hw (fun A => m_X10_image Ob_10 em) mv_X10_image t8_108 ⟨rfl, rfl, Nat.le_of_ble_eq_true rfl, Nat.le_of_ble_eq_true rfl⟩ rfl hl.1 rfl (Nat.le_of_ble_eq_true rfl) ⟨by omega, by omega⟩ dl_1359 (fun H locs hw => ?_)
      refine lv_icmp_eq (tgt := 1390) hx hb dl_1362 (by decide) (fun _ => ?_) (fun q => absurd rfl q)
      exact kk _ _ Mx' Mm' H locs ⟨hG', NsC_add (by omega) hN, NB_add hB (ns5_nb _ (by omega)), ⟨hR', hF'⟩, hw⟩ (adT_out (by omega) 0) (adT_out (by omega) 0)
    · obtain ⟨Mx', Mm', ex, em, hR'⟩ := img_has hR hj hj0
      have hF' := img_fre0 hj ex hF
      have hS := hw.2.2
      refine lv_aload_n hx hb dl_1344 rfl (lv_at hl 1 rfl) ?_
      refine lc_A (pc := 1345) (k := 1) C hS (by omega) hL hl h0 (by decide) ⟨dl_1345, dl_1346, dl_1347, dl_1348, dl_1349⟩ ?_
      rw [ha]
      refine lc_X (pc := 1350) (Mx' := Mx') (v := .int (b2i true)) (As := [.int (nI j)]) (rest := []) C hG hN hw (fun A => mi_has hN hj hj0 ex) mv_X9_image t5_113 ⟨rfl, rfl, Nat.le_of_ble_eq_true rfl, Nat.le_of_ble_eq_true rfl⟩ rfl hl.1 rfl (Nat.le_of_ble_eq_true rfl) ⟨by omega, by omega⟩ dl_1350 (fun H locs hw => ?_)
      have hS := hw.2.2
      refine lv_aload_n hx hb dl_1353 rfl (lv_at hl 2 rfl) ?_
      refine lc_A (pc := 1354) (k := 1) C hS (by omega) hL hl h0 (by decide) ⟨dl_1354, dl_1355, dl_1356, dl_1357, dl_1358⟩ ?_
      rw [ha]
      refine lc_M (pc := 1359) (Mm' := Mm') (v := .int (b2i true)) (As := [.int (nI j)]) (rest := [.int (b2i true)]) C hG hw (fun A => m_X10_image Ob_10 em) mv_X10_image t8_108 ⟨rfl, rfl, Nat.le_of_ble_eq_true rfl, Nat.le_of_ble_eq_true rfl⟩ rfl hl.1 rfl (Nat.le_of_ble_eq_true rfl) ⟨by omega, by omega⟩ dl_1359 (fun H locs hw => ?_)
      refine lv_icmp_eq (tgt := 1390) hx hb dl_1362 (by decide) (fun _ => ?_) (fun q => absurd rfl q)
      refine W.widen (k := cells + 47) (n := slots + 1235) (by omega) (by omega) ?_
      exact kk ad nx Mx' Mm' H locs ⟨hG, hN, hB, ⟨hR', hF'⟩, hw⟩ rfl rfl
set_option maxRecDepth 100000 in
set_option maxHeartbeats 4000000 in
theorem lw_again (C : LC p s m c b L xs D cy) (hs : LSt D cy ad nx Mx Mm s H locs) (hi : i + 6 ≤ L) (hL : L ≤ 3072) (hl : lv_has ls 4 [(0, .ref b), (1, .ref (ad 0 0)), (2, .ref (ad 100 0)), (3, .int (nI i))]) (hcs : cells + 47 ≤ 600000 ∧ slots + 1235 ≤ 7302250) (kk : LK p l e s m below meth c b D cy Q ls (cells + 47) (slots + 1235) (ad 0 0) (ad 100 0)) : W p l e room_1 s m #[Value.ref b] below meth c H locs cells slots Q (F0 m 1367 ls []) := by
  obtain ⟨hG, hN, hB, ⟨hR, hF⟩, hw⟩ := hs
  obtain ⟨hx, hb, -⟩ := id C
  have h0 : lv_has ls 4 [(0, .ref b), (3, .int (nI i))] := lv_sub hl [0, 3] rfl
  obtain ⟨r, Mx', Mm', ex, em, hR'⟩ := q_again hR (xs (i + 1))
  have hF' := FRE_k hR hR' (kk_X10_again (G := gA Mm 100 57) rfl _ em) hF
  have hS := hw.2.2
  refine lv_aload_n hx hb dl_1367 rfl (lv_at hl 1 rfl) ?_
  refine lc_A (pc := 1368) (k := 1) C hS (by omega) hL hl h0 (by decide) ⟨dl_1368, dl_1369, dl_1370, dl_1371, dl_1372⟩ ?_
  refine lc_X (pc := 1373) (Mx' := Mx') (v := .int (b2i r)) (As := [.int (xs (i + 1))]) (rest := []) C hG hN hw (fun A => m_X9_again hN ex) mv_X9_again t5_122 ⟨rfl, rfl, Nat.le_of_ble_eq_true rfl, Nat.le_of_ble_eq_true rfl⟩ rfl hl.1 rfl (Nat.le_of_ble_eq_true rfl) ⟨by omega, by omega⟩ dl_1373 (fun H locs hw => ?_)
  have hS := hw.2.2
  refine lv_aload_n hx hb dl_1376 rfl (lv_at hl 2 rfl) ?_
  refine lc_A (pc := 1377) (k := 1) C hS (by omega) hL hl h0 (by decide) ⟨dl_1377, dl_1378, dl_1379, dl_1380, dl_1381⟩ ?_
  refine lc_M (pc := 1382) (Mm' := Mm') (v := .int (b2i r)) (As := [.int (xs (i + 1))]) (rest := [.int (b2i r)]) C hG hw (fun A => m_X10_again Ob_10 em) mv_X10_again t8_119 ⟨rfl, rfl, Nat.le_of_ble_eq_true rfl, Nat.le_of_ble_eq_true rfl⟩ rfl hl.1 rfl (Nat.le_of_ble_eq_true rfl) ⟨by omega, by omega⟩ dl_1382 (fun H locs hw => ?_)
  refine lv_icmp_eq (tgt := 1390) hx hb dl_1385 (by decide) (fun _ => ?_) (fun q => absurd rfl q)
  refine W.widen (k := cells + 47) (n := slots + 1235) (by omega) (by omega) ?_
  exact kk ad nx Mx' Mm' H locs ⟨hG, hN, hB, ⟨hR', hF'⟩, hw⟩ rfl rfl
end Law2
