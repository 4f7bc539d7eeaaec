/-! THE LAW'S CASES, 2 of 3: each calls one side, then the other, and their answers are one -/
section Law1
variable {p : Program} {l : Launch} {e : Env} {s : State} {m : MethodId} {below : List Frame} {meth : Method} {c : Code} {b L : Nat} {xs : Nat → Int32} {D : va_G} {cy : Nat → ClassId} {ad : Nat → Nat → Nat} {nx : List (Nat × Nat)} {Mx Mm : Mem} {H : Heap} {locs : List Loc} {cells slots : Nat} {Q : State → Prop} {ls : Array Slot} {i : Nat}
set_option maxRecDepth 100000 in
set_option maxHeartbeats 4000000 in
theorem lw_sewn (C : LC p s m c b L xs D cy) (hs : LSt D cy ad nx Mx Mm s H locs) (hi : i + 6 ≤ L) (hL : L ≤ 3072) (hl : lv_has ls 4 [(0, .ref b), (1, .ref (ad 0 0)), (2, .ref (ad 100 0)), (3, .int (nI i))]) (hcs : cells + 47 ≤ 600000 ∧ slots + 1235 ≤ 7302250) (kk : LK p l e s m below meth c b D cy Q ls (cells + 47) (slots + 1235) (ad 0 0) (ad 100 0)) : W p l e room_1 s m #[Value.ref b] below meth c H locs cells slots Q (F0 m 539 ls []) := by
  obtain ⟨hG, hN, hB, ⟨hR, hF⟩, hw⟩ := hs
  obtain ⟨hx, hb, -⟩ := id C
  have h0 : lv_has ls 4 [(0, .ref b), (3, .int (nI i))] := lv_sub hl [0, 3] rfl
  obtain ⟨r, Mx', Mm', ex, em, hR'⟩ := q_sewn hR (xs (i + 1)) (xs (i + 2))
  have hF' := FRE_k hR hR' (kk_X10_sewn (G := gA Mm 100 57) rfl _ em) hF
  have hS := hw.2.2
  refine lv_aload_n hx hb dl_539 rfl (lv_at hl 1 rfl) ?_
  refine lc_A (pc := 540) (k := 1) C hS (by omega) hL hl h0 (by decide) ⟨dl_540, dl_541, dl_542, dl_543, dl_544⟩ ?_
  refine lc_A (pc := 545) (k := 2) C hS (by omega) hL hl h0 (by decide) ⟨dl_545, dl_546, dl_547, dl_548, dl_549⟩ ?_
  refine lc_X (pc := 550) (Mx' := Mx') (v := .int r) (As := [.int (xs (i + 1)), .int (xs (i + 2))]) (rest := []) C hG hN hw (fun A => m_X9_sewn hN ex) mv_X9_sewn t4_106 ⟨rfl, rfl, Nat.le_of_ble_eq_true rfl, Nat.le_of_ble_eq_true rfl⟩ rfl hl.1 rfl (Nat.le_of_ble_eq_true rfl) ⟨by omega, by omega⟩ dl_550 (fun H locs hw => ?_)
  have hS := hw.2.2
  refine lv_aload_n hx hb dl_553 rfl (lv_at hl 2 rfl) ?_
  refine lc_A (pc := 554) (k := 1) C hS (by omega) hL hl h0 (by decide) ⟨dl_554, dl_555, dl_556, dl_557, dl_558⟩ ?_
  refine lc_A (pc := 559) (k := 2) C hS (by omega) hL hl h0 (by decide) ⟨dl_559, dl_560, dl_561, dl_562, dl_563⟩ ?_
  refine lc_M (pc := 564) (Mm' := Mm') (v := .int r) (As := [.int (xs (i + 1)), .int (xs (i + 2))]) (rest := [.int r]) C hG hw (fun A => m_X10_sewn Ob_10 em) mv_X10_sewn t7_139 ⟨rfl, rfl, Nat.le_of_ble_eq_true rfl, Nat.le_of_ble_eq_true rfl⟩ rfl hl.1 rfl (Nat.le_of_ble_eq_true rfl) ⟨by omega, by omega⟩ dl_564 (fun H locs hw => ?_)
  refine lv_icmp_eq (tgt := 1390) hx hb dl_567 (by decide) (fun _ => ?_) (fun q => absurd rfl q)
  refine W.widen (k := cells + 47) (n := slots + 1235) (by omega) (by omega) ?_
  exact kk ad nx Mx' Mm' H locs ⟨hG, hN, hB, ⟨hR', hF'⟩, hw⟩ rfl rfl
set_option maxRecDepth 100000 in
set_option maxHeartbeats 4000000 in
theorem lw_parted (C : LC p s m c b L xs D cy) (hs : LSt D cy ad nx Mx Mm s H locs) (hi : i + 6 ≤ L) (hL : L ≤ 3072) (hl : lv_has ls 4 [(0, .ref b), (1, .ref (ad 0 0)), (2, .ref (ad 100 0)), (3, .int (nI i))]) (hcs : cells + 47 ≤ 600000 ∧ slots + 1235 ≤ 7302250) (kk : LK p l e s m below meth c b D cy Q ls (cells + 47) (slots + 1235) (ad 0 0) (ad 100 0)) : W p l e room_1 s m #[Value.ref b] below meth c H locs cells slots Q (F0 m 572 ls []) := by
  obtain ⟨hG, hN, hB, ⟨hR, hF⟩, hw⟩ := hs
  obtain ⟨hx, hb, -⟩ := id C
  have h0 : lv_has ls 4 [(0, .ref b), (3, .int (nI i))] := lv_sub hl [0, 3] rfl
  obtain ⟨r, Mx', Mm', ex, em, hR'⟩ := q_parted hR (xs (i + 1)) (xs (i + 2)) (xs (i + 3)) ((!decide (xs (i + 4) = 0)))
  obtain ⟨ex2, rfl⟩ := wM_of ex
  have hF' := FRE_k hR hR' (kk_X10_parted (G := gA Mm 100 57) rfl _ em) hF
  have hS := hw.2.2
  refine lv_aload_n hx hb dl_572 rfl (lv_at hl 1 rfl) ?_
  refine lc_A (pc := 573) (k := 1) C hS (by omega) hL hl h0 (by decide) ⟨dl_573, dl_574, dl_575, dl_576, dl_577⟩ ?_
  refine lc_A (pc := 578) (k := 2) C hS (by omega) hL hl h0 (by decide) ⟨dl_578, dl_579, dl_580, dl_581, dl_582⟩ ?_
  refine lc_A (pc := 583) (k := 3) C hS (by omega) hL hl h0 (by decide) ⟨dl_583, dl_584, dl_585, dl_586, dl_587⟩ ?_
  refine lc_A (pc := 588) (k := 4) C hS (by omega) hL hl h0 (by decide) ⟨dl_588, dl_589, dl_590, dl_591, dl_592⟩ ?_
  refine lc_B (pc := 593) C ⟨dl_593, dl_596, dl_597, dl_600⟩ ?_
  refine lc_X (pc := 601) (Mx' := Mx) (v := .int r) (As := [.int (xs (i + 1)), .int (xs (i + 2)), .int (xs (i + 3)), .int (b2i (!decide (xs (i + 4) = 0)))]) (rest := []) C hG hN hw (fun A => m_X9_parted hN ex2) mv_X9_parted t4_115 ⟨rfl, rfl, Nat.le_of_ble_eq_true rfl, Nat.le_of_ble_eq_true rfl⟩ rfl hl.1 rfl (Nat.le_of_ble_eq_true rfl) ⟨by omega, by omega⟩ dl_601 (fun H locs hw => ?_)
  have hS := hw.2.2
  refine lv_aload_n hx hb dl_604 rfl (lv_at hl 2 rfl) ?_
  refine lc_A (pc := 605) (k := 1) C hS (by omega) hL hl h0 (by decide) ⟨dl_605, dl_606, dl_607, dl_608, dl_609⟩ ?_
  refine lc_A (pc := 610) (k := 2) C hS (by omega) hL hl h0 (by decide) ⟨dl_610, dl_611, dl_612, dl_613, dl_614⟩ ?_
  refine lc_A (pc := 615) (k := 3) C hS (by omega) hL hl h0 (by decide) ⟨dl_615, dl_616, dl_617, dl_618, dl_619⟩ ?_
  refine lc_A (pc := 620) (k := 4) C hS (by omega) hL hl h0 (by decide) ⟨dl_620, dl_621, dl_622, dl_623, dl_624⟩ ?_
  refine lc_B (pc := 625) C ⟨dl_625, dl_628, dl_629, dl_632⟩ ?_
  refine lc_M (pc := 633) (Mm' := Mm') (v := .int r) (As := [.int (xs (i + 1)), .int (xs (i + 2)), .int (xs (i + 3)), .int (b2i (!decide (xs (i + 4) = 0)))]) (rest := [.int r]) C hG hw (fun A => m_X10_parted Ob_10 em) mv_X10_parted t7_150 ⟨rfl, rfl, Nat.le_of_ble_eq_true rfl, Nat.le_of_ble_eq_true rfl⟩ rfl hl.1 rfl (Nat.le_of_ble_eq_true rfl) ⟨by omega, by omega⟩ dl_633 (fun H locs hw => ?_)
  refine lv_icmp_eq (tgt := 1390) hx hb dl_636 (by decide) (fun _ => ?_) (fun q => absurd rfl q)
  refine W.widen (k := cells + 47) (n := slots + 1235) (by omega) (by omega) ?_
  exact kk ad nx Mx Mm' H locs ⟨hG, hN, hB, ⟨hR', hF'⟩, hw⟩ rfl rfl
set_option maxRecDepth 100000 in
set_option maxHeartbeats 4000000 in
theorem lw_town (C : LC p s m c b L xs D cy) (hs : LSt D cy ad nx Mx Mm s H locs) (hi : i + 6 ≤ L) (hL : L ≤ 3072) (hl : lv_has ls 4 [(0, .ref b), (1, .ref (ad 0 0)), (2, .ref (ad 100 0)), (3, .int (nI i))]) (hcs : cells + 47 ≤ 600000 ∧ slots + 1235 ≤ 7302250) (kk : LK p l e s m below meth c b D cy Q ls (cells + 47) (slots + 1235) (ad 0 0) (ad 100 0)) : W p l e room_1 s m #[Value.ref b] below meth c H locs cells slots Q (F0 m 641 ls []) := by
  obtain ⟨hG, hN, hB, ⟨hR, hF⟩, hw⟩ := hs
  obtain ⟨hx, hb, -⟩ := id C
  have h0 : lv_has ls 4 [(0, .ref b), (3, .int (nI i))] := lv_sub hl [0, 3] rfl
  obtain ⟨r, Mx', Mm', ex, em, hR'⟩ := q_town hR (xs (i + 1)) (xs (i + 2))
  obtain ⟨ex2, rfl⟩ := wM_of ex
  have hF' := FRE_k hR hR' (kk_X10_town (G := gA Mm 100 57) rfl _ em) hF
  have hS := hw.2.2
  refine lv_aload_n hx hb dl_641 rfl (lv_at hl 1 rfl) ?_
  refine lc_A (pc := 642) (k := 1) C hS (by omega) hL hl h0 (by decide) ⟨dl_642, dl_643, dl_644, dl_645, dl_646⟩ ?_
  refine lc_A (pc := 647) (k := 2) C hS (by omega) hL hl h0 (by decide) ⟨dl_647, dl_648, dl_649, dl_650, dl_651⟩ ?_
  refine lc_X (pc := 652) (Mx' := Mx) (v := .int r) (As := [.int (xs (i + 1)), .int (xs (i + 2))]) (rest := []) C hG hN hw (fun A => m_X9_town hN ex2) mv_X9_town t4_125 ⟨rfl, rfl, Nat.le_of_ble_eq_true rfl, Nat.le_of_ble_eq_true rfl⟩ rfl hl.1 rfl (Nat.le_of_ble_eq_true rfl) ⟨by omega, by omega⟩ dl_652 (fun H locs hw => ?_)
  have hS := hw.2.2
  refine lv_aload_n hx hb dl_655 rfl (lv_at hl 2 rfl) ?_
  refine lc_A (pc := 656) (k := 1) C hS (by omega) hL hl h0 (by decide) ⟨dl_656, dl_657, dl_658, dl_659, dl_660⟩ ?_
  refine lc_A (pc := 661) (k := 2) C hS (by omega) hL hl h0 (by decide) ⟨dl_661, dl_662, dl_663, dl_664, dl_665⟩ ?_
  refine lc_M (pc := 666) (Mm' := Mm') (v := .int r) (As := [.int (xs (i + 1)), .int (xs (i + 2))]) (rest := [.int r]) C hG hw (fun A => m_X10_town Ob_10 em) mv_X10_town t7_158 ⟨rfl, rfl, Nat.le_of_ble_eq_true rfl, Nat.le_of_ble_eq_true rfl⟩ rfl hl.1 rfl (Nat.le_of_ble_eq_true rfl) ⟨by omega, by omega⟩ dl_666 (fun H locs hw => ?_)
  refine lv_icmp_eq (tgt := 1390) hx hb dl_669 (by decide) (fun _ => ?_) (fun q => absurd rfl q)
  refine W.widen (k := cells + 47) (n := slots + 1235) (by omega) (by omega) ?_
  exact kk ad nx Mx Mm' H locs ⟨hG, hN, hB, ⟨hR', hF'⟩, hw⟩ rfl rfl
set_option maxRecDepth 100000 in
set_option maxHeartbeats 4000000 in
theorem lw_done (C : LC p s m c b L xs D cy) (hs : LSt D cy ad nx Mx Mm s H locs) (hi : i + 6 ≤ L) (hL : L ≤ 3072) (hl : lv_has ls 4 [(0, .ref b), (1, .ref (ad 0 0)), (2, .ref (ad 100 0)), (3, .int (nI i))]) (hcs : cells + 47 ≤ 600000 ∧ slots + 1235 ≤ 7302250) (kk : LK p l e s m below meth c b D cy Q ls (cells + 47) (slots + 1235) (ad 0 0) (ad 100 0)) : W p l e room_1 s m #[Value.ref b] below meth c H locs cells slots Q (F0 m 674 ls []) := by
  obtain ⟨hG, hN, hB, ⟨hR, hF⟩, hw⟩ := hs
  obtain ⟨hx, hb, -⟩ := id C
  have h0 : lv_has ls 4 [(0, .ref b), (3, .int (nI i))] := lv_sub hl [0, 3] rfl
  obtain ⟨r, Mx', Mm', ex, em, hR'⟩ := q_done hR (xs (i + 1)) (xs (i + 2)) (xs (i + 3)) (xs (i + 4))
  have hF' := FRE_k hR hR' (kk_X10_done (G := gA Mm 100 57) rfl _ em) hF
  have hS := hw.2.2
  refine lv_aload_n hx hb dl_674 rfl (lv_at hl 1 rfl) ?_
  refine lc_A (pc := 675) (k := 1) C hS (by omega) hL hl h0 (by decide) ⟨dl_675, dl_676, dl_677, dl_678, dl_679⟩ ?_
  refine lc_A (pc := 680) (k := 2) C hS (by omega) hL hl h0 (by decide) ⟨dl_680, dl_681, dl_682, dl_683, dl_684⟩ ?_
  refine lc_A (pc := 685) (k := 3) C hS (by omega) hL hl h0 (by decide) ⟨dl_685, dl_686, dl_687, dl_688, dl_689⟩ ?_
  refine lc_A (pc := 690) (k := 4) C hS (by omega) hL hl h0 (by decide) ⟨dl_690, dl_691, dl_692, dl_693, dl_694⟩ ?_
  refine lc_X (pc := 695) (Mx' := Mx') (v := .int r) (As := [.int (xs (i + 1)), .int (xs (i + 2)), .int (xs (i + 3)), .int (xs (i + 4))]) (rest := []) C hG hN hw (fun A => m_X9_done hN ex) mv_X9_done t4_141 ⟨rfl, rfl, Nat.le_of_ble_eq_true rfl, Nat.le_of_ble_eq_true rfl⟩ rfl hl.1 rfl (Nat.le_of_ble_eq_true rfl) ⟨by omega, by omega⟩ dl_695 (fun H locs hw => ?_)
  have hS := hw.2.2
  refine lv_aload_n hx hb dl_698 rfl (lv_at hl 2 rfl) ?_
  refine lc_A (pc := 699) (k := 1) C hS (by omega) hL hl h0 (by decide) ⟨dl_699, dl_700, dl_701, dl_702, dl_703⟩ ?_
  refine lc_A (pc := 704) (k := 2) C hS (by omega) hL hl h0 (by decide) ⟨dl_704, dl_705, dl_706, dl_707, dl_708⟩ ?_
  refine lc_A (pc := 709) (k := 3) C hS (by omega) hL hl h0 (by decide) ⟨dl_709, dl_710, dl_711, dl_712, dl_713⟩ ?_
  refine lc_A (pc := 714) (k := 4) C hS (by omega) hL hl h0 (by decide) ⟨dl_714, dl_715, dl_716, dl_717, dl_718⟩ ?_
  refine lc_M (pc := 719) (Mm' := Mm') (v := .int r) (As := [.int (xs (i + 1)), .int (xs (i + 2)), .int (xs (i + 3)), .int (xs (i + 4))]) (rest := [.int r]) C hG hw (fun A => m_X10_done Ob_10 em) mv_X10_done t7_174 ⟨rfl, rfl, Nat.le_of_ble_eq_true rfl, Nat.le_of_ble_eq_true rfl⟩ rfl hl.1 rfl (Nat.le_of_ble_eq_true rfl) ⟨by omega, by omega⟩ dl_719 (fun H locs hw => ?_)
  refine lv_icmp_eq (tgt := 1390) hx hb dl_722 (by decide) (fun _ => ?_) (fun q => absurd rfl q)
  refine W.widen (k := cells + 47) (n := slots + 1235) (by omega) (by omega) ?_
  exact kk ad nx Mx' Mm' H locs ⟨hG, hN, hB, ⟨hR', hF'⟩, hw⟩ rfl rfl
set_option maxRecDepth 100000 in
set_option maxHeartbeats 4000000 in
theorem lw_rounds (C : LC p s m c b L xs D cy) (hs : LSt D cy ad nx Mx Mm s H locs) (hi : i + 6 ≤ L) (hL : L ≤ 3072) (hl : lv_has ls 4 [(0, .ref b), (1, .ref (ad 0 0)), (2, .ref (ad 100 0)), (3, .int (nI i))]) (hcs : cells + 47 ≤ 600000 ∧ slots + 1235 ≤ 7302250) (kk : LK p l e s m below meth c b D cy Q ls (cells + 47) (slots + 1235) (ad 0 0) (ad 100 0)) : W p l e room_1 s m #[Value.ref b] below meth c H locs cells slots Q (F0 m 727 ls []) := by
  obtain ⟨hG, hN, hB, ⟨hR, hF⟩, hw⟩ := hs
  obtain ⟨hx, hb, -⟩ := id C
  have h0 : lv_has ls 4 [(0, .ref b), (3, .int (nI i))] := lv_sub hl [0, 3] rfl
  obtain ⟨r, Mx', Mm', ex, em, hR'⟩ := q_rounds hR (xs (i + 1)) (xs (i + 2))
  have hF' := FRE_k hR hR' (kk_X10_rounds (G := gA Mm 100 57) rfl _ em) hF
  have hS := hw.2.2
  refine lv_aload_n hx hb dl_727 rfl (lv_at hl 1 rfl) ?_
  refine lc_A (pc := 728) (k := 1) C hS (by omega) hL hl h0 (by decide) ⟨dl_728, dl_729, dl_730, dl_731, dl_732⟩ ?_
  refine lc_A (pc := 733) (k := 2) C hS (by omega) hL hl h0 (by decide) ⟨dl_733, dl_734, dl_735, dl_736, dl_737⟩ ?_
  refine lc_X (pc := 738) (Mx' := Mx') (v := .int r) (As := [.int (xs (i + 1)), .int (xs (i + 2))]) (rest := []) C hG hN hw (fun A => m_X9_rounds hN ex) mv_X9_rounds t4_180 ⟨rfl, rfl, Nat.le_of_ble_eq_true rfl, Nat.le_of_ble_eq_true rfl⟩ rfl hl.1 rfl (Nat.le_of_ble_eq_true rfl) ⟨by omega, by omega⟩ dl_738 (fun H locs hw => ?_)
  have hS := hw.2.2
  refine lv_aload_n hx hb dl_741 rfl (lv_at hl 2 rfl) ?_
  refine lc_A (pc := 742) (k := 1) C hS (by omega) hL hl h0 (by decide) ⟨dl_742, dl_743, dl_744, dl_745, dl_746⟩ ?_
  refine lc_A (pc := 747) (k := 2) C hS (by omega) hL hl h0 (by decide) ⟨dl_747, dl_748, dl_749, dl_750, dl_751⟩ ?_
  refine lc_M (pc := 752) (Mm' := Mm') (v := .int r) (As := [.int (xs (i + 1)), .int (xs (i + 2))]) (rest := [.int r]) C hG hw (fun A => m_X10_rounds Ob_10 em) mv_X10_rounds t7_194 ⟨rfl, rfl, Nat.le_of_ble_eq_true rfl, Nat.le_of_ble_eq_true rfl⟩ rfl hl.1 rfl (Nat.le_of_ble_eq_true rfl) ⟨by omega, by omega⟩ dl_752 (fun H locs hw => ?_)
  refine lv_icmp_eq (tgt := 1390) hx hb dl_755 (by decide) (fun _ => ?_) (fun q => absurd rfl q)
  refine W.widen (k := cells + 47) (n := slots + 1235) (by omega) (by omega) ?_
  exact kk ad nx Mx' Mm' H locs ⟨hG, hN, hB, ⟨hR', hF'⟩, hw⟩ rfl rfl
set_option maxRecDepth 100000 in
set_option maxHeartbeats 4000000 in
theorem lw_cloth (C : LC p s m c b L xs D cy) (hs : LSt D cy ad nx Mx Mm s H locs) (hi : i + 6 ≤ L) (hL : L ≤ 3072) (hl : lv_has ls 4 [(0, .ref b), (1, .ref (ad 0 0)), (2, .ref (ad 100 0)), (3, .int (nI i))]) (hcs : cells + 47 ≤ 600000 ∧ slots + 1235 ≤ 7302250) (kk : LK p l e s m below meth c b D cy Q ls (cells + 47) (slots + 1235) (ad 0 0) (ad 100 0)) : W p l e room_1 s m #[Value.ref b] below meth c H locs cells slots Q (F0 m 760 ls []) := by
  obtain ⟨hG, hN, hB, ⟨hR, hF⟩, hw⟩ := hs
  obtain ⟨hx, hb, -⟩ := id C
  have h0 : lv_has ls 4 [(0, .ref b), (3, .int (nI i))] := lv_sub hl [0, 3] rfl
  obtain ⟨r, Mx', Mm', ex, em, hR'⟩ := q_cloth hR (xs (i + 1)) (xs (i + 2)) (xs (i + 3)) (xs (i + 4)) (xs (i + 5))
  obtain ⟨ex2, rfl⟩ := wM_of ex
  have hF' := FRE_k hR hR' (kk_X10_cloth (G := gA Mm 100 57) rfl _ em) hF
  have hS := hw.2.2
  refine lv_aload_n hx hb dl_760 rfl (lv_at hl 1 rfl) ?_
  refine lc_A (pc := 761) (k := 1) C hS (by omega) hL hl h0 (by decide) ⟨dl_761, dl_762, dl_763, dl_764, dl_765⟩ ?_
  refine lc_A (pc := 766) (k := 2) C hS (by omega) hL hl h0 (by decide) ⟨dl_766, dl_767, dl_768, dl_769, dl_770⟩ ?_
  refine lc_A (pc := 771) (k := 3) C hS (by omega) hL hl h0 (by decide) ⟨dl_771, dl_772, dl_773, dl_774, dl_775⟩ ?_
  refine lc_A (pc := 776) (k := 4) C hS (by omega) hL hl h0 (by decide) ⟨dl_776, dl_777, dl_778, dl_779, dl_780⟩ ?_
  refine lc_A (pc := 781) (k := 5) C hS (by omega) hL hl h0 (by decide) ⟨dl_781, dl_782, dl_783, dl_784, dl_785⟩ ?_
  refine lc_X (pc := 786) (Mx' := Mx) (v := .long r) (As := [.int (xs (i + 1)), .int (xs (i + 2)), .int (xs (i + 3)), .int (xs (i + 4)), .int (xs (i + 5))]) (rest := []) C hG hN hw (fun A => m_X9_cloth hN ex2) mv_X9_cloth t4_215 ⟨rfl, rfl, Nat.le_of_ble_eq_true rfl, Nat.le_of_ble_eq_true rfl⟩ rfl hl.1 rfl (Nat.le_of_ble_eq_true rfl) ⟨by omega, by omega⟩ dl_786 (fun H locs hw => ?_)
  have hS := hw.2.2
  refine lv_aload_n hx hb dl_789 rfl (lv_at hl 2 rfl) ?_
  refine lc_A (pc := 790) (k := 1) C hS (by omega) hL hl h0 (by decide) ⟨dl_790, dl_791, dl_792, dl_793, dl_794⟩ ?_
  refine lc_A (pc := 795) (k := 2) C hS (by omega) hL hl h0 (by decide) ⟨dl_795, dl_796, dl_797, dl_798, dl_799⟩ ?_
  refine lc_A (pc := 800) (k := 3) C hS (by omega) hL hl h0 (by decide) ⟨dl_800, dl_801, dl_802, dl_803, dl_804⟩ ?_
  refine lc_A (pc := 805) (k := 4) C hS (by omega) hL hl h0 (by decide) ⟨dl_805, dl_806, dl_807, dl_808, dl_809⟩ ?_
  refine lc_A (pc := 810) (k := 5) C hS (by omega) hL hl h0 (by decide) ⟨dl_810, dl_811, dl_812, dl_813, dl_814⟩ ?_
  refine lc_M (pc := 815) (Mm' := Mm') (v := .long r) (As := [.int (xs (i + 1)), .int (xs (i + 2)), .int (xs (i + 3)), .int (xs (i + 4)), .int (xs (i + 5))]) (rest := [.long r]) C hG hw (fun A => m_X10_cloth Ob_10 em) mv_X10_cloth t7_226 ⟨rfl, rfl, Nat.le_of_ble_eq_true rfl, Nat.le_of_ble_eq_true rfl⟩ rfl hl.1 rfl (Nat.le_of_ble_eq_true rfl) ⟨by omega, by omega⟩ dl_815 (fun H locs hw => ?_)
  refine W.lcmp hx hb dl_818 ?_
  rw [lg_same]
  refine lv_if_eq (tgt := 1390) hx hb dl_819 (by decide) (fun _ => ?_) (fun q => absurd rfl q)
  refine W.widen (k := cells + 47) (n := slots + 1235) (by omega) (by omega) ?_
  exact kk ad nx Mx Mm' H locs ⟨hG, hN, hB, ⟨hR', hF'⟩, hw⟩ rfl rfl
set_option maxRecDepth 100000 in
set_option maxHeartbeats 4000000 in
theorem lw_fact (C : LC p s m c b L xs D cy) (hs : LSt D cy ad nx Mx Mm s H locs) (hi : i + 6 ≤ L) (hL : L ≤ 3072) (hl : lv_has ls 4 [(0, .ref b), (1, .ref (ad 0 0)), (2, .ref (ad 100 0)), (3, .int (nI i))]) (hcs : cells + 47 ≤ 600000 ∧ slots + 1235 ≤ 7302250) (kk : LK p l e s m below meth c b D cy Q ls (cells + 47) (slots + 1235) (ad 0 0) (ad 100 0)) : W p l e room_1 s m #[Value.ref b] below meth c H locs cells slots Q (F0 m 824 ls []) := by
  obtain ⟨hG, hN, hB, ⟨hR, hF⟩, hw⟩ := hs
  obtain ⟨hx, hb, -⟩ := id C
  have h0 : lv_has ls 4 [(0, .ref b), (3, .int (nI i))] := lv_sub hl [0, 3] rfl
  obtain ⟨r, Mx', Mm', ex, em, hR'⟩ := q_fact hR (xs (i + 1)) (xs (i + 2)) (xs (i + 3))
  obtain ⟨ex2, rfl⟩ := wM_of ex
  have hF' := FRE_k hR hR' (kk_X10_fact (G := gA Mm 100 57) rfl _ em) hF
  have hS := hw.2.2
  refine lv_aload_n hx hb dl_824 rfl (lv_at hl 1 rfl) ?_
  refine lc_A (pc := 825) (k := 1) C hS (by omega) hL hl h0 (by decide) ⟨dl_825, dl_826, dl_827, dl_828, dl_829⟩ ?_
  refine lc_A (pc := 830) (k := 2) C hS (by omega) hL hl h0 (by decide) ⟨dl_830, dl_831, dl_832, dl_833, dl_834⟩ ?_
  refine lc_A (pc := 835) (k := 3) C hS (by omega) hL hl h0 (by decide) ⟨dl_835, dl_836, dl_837, dl_838, dl_839⟩ ?_
  refine lc_X (pc := 840) (Mx' := Mx) (v := .int r) (As := [.int (xs (i + 1)), .int (xs (i + 2)), .int (xs (i + 3))]) (rest := []) C hG hN hw (fun A => m_X9_fact hN ex2) mv_X9_fact t4_235 ⟨rfl, rfl, Nat.le_of_ble_eq_true rfl, Nat.le_of_ble_eq_true rfl⟩ rfl hl.1 rfl (Nat.le_of_ble_eq_true rfl) ⟨by omega, by omega⟩ dl_840 (fun H locs hw => ?_)
  have hS := hw.2.2
  refine lv_aload_n hx hb dl_843 rfl (lv_at hl 2 rfl) ?_
  refine lc_A (pc := 844) (k := 1) C hS (by omega) hL hl h0 (by decide) ⟨dl_844, dl_845, dl_846, dl_847, dl_848⟩ ?_
  refine lc_A (pc := 849) (k := 2) C hS (by omega) hL hl h0 (by decide) ⟨dl_849, dl_850, dl_851, dl_852, dl_853⟩ ?_
  refine lc_A (pc := 854) (k := 3) C hS (by omega) hL hl h0 (by decide) ⟨dl_854, dl_855, dl_856, dl_857, dl_858⟩ ?_
  refine lc_M (pc := 859) (Mm' := Mm') (v := .int r) (As := [.int (xs (i + 1)), .int (xs (i + 2)), .int (xs (i + 3))]) (rest := [.int r]) C hG hw (fun A => m_X10_fact Ob_10 em) mv_X10_fact t8_3 ⟨rfl, rfl, Nat.le_of_ble_eq_true rfl, Nat.le_of_ble_eq_true rfl⟩ rfl hl.1 rfl (Nat.le_of_ble_eq_true rfl) ⟨by omega, by omega⟩ dl_859 (fun H locs hw => ?_)
  refine lv_icmp_eq (tgt := 1390) hx hb dl_862 (by decide) (fun _ => ?_) (fun q => absurd rfl q)
  refine W.widen (k := cells + 47) (n := slots + 1235) (by omega) (by omega) ?_
  exact kk ad nx Mx Mm' H locs ⟨hG, hN, hB, ⟨hR', hF'⟩, hw⟩ rfl rfl
set_option maxRecDepth 100000 in
set_option maxHeartbeats 4000000 in
theorem lw_fits (C : LC p s m c b L xs D cy) (hs : LSt D cy ad nx Mx Mm s H locs) (hi : i + 6 ≤ L) (hL : L ≤ 3072) (hl : lv_has ls 4 [(0, .ref b), (1, .ref (ad 0 0)), (2, .ref (ad 100 0)), (3, .int (nI i))]) (hcs : cells + 47 ≤ 600000 ∧ slots + 1235 ≤ 7302250) (kk : LK p l e s m below meth c b D cy Q ls (cells + 47) (slots + 1235) (ad 0 0) (ad 100 0)) : W p l e room_1 s m #[Value.ref b] below meth c H locs cells slots Q (F0 m 867 ls []) := by
  obtain ⟨hG, hN, hB, ⟨hR, hF⟩, hw⟩ := hs
  obtain ⟨hx, hb, -⟩ := id C
  have h0 : lv_has ls 4 [(0, .ref b), (3, .int (nI i))] := lv_sub hl [0, 3] rfl
  obtain ⟨r, Mx', Mm', ex, em, hR'⟩ := q_fits hR (xs (i + 1)) (xs (i + 2)) (xs (i + 3)) (xs (i + 4))
  have hF' := FRE_k hR hR' (kk_X10_fits (G := gA Mm 100 57) rfl _ em) hF
  have hS := hw.2.2
  refine lv_aload_n hx hb dl_867 rfl (lv_at hl 1 rfl) ?_
  refine lc_A (pc := 868) (k := 1) C hS (by omega) hL hl h0 (by decide) ⟨dl_868, dl_869, dl_870, dl_871, dl_872⟩ ?_
  refine lc_A (pc := 873) (k := 2) C hS (by omega) hL hl h0 (by decide) ⟨dl_873, dl_874, dl_875, dl_876, dl_877⟩ ?_
  refine lc_A (pc := 878) (k := 3) C hS (by omega) hL hl h0 (by decide) ⟨dl_878, dl_879, dl_880, dl_881, dl_882⟩ ?_
  refine lc_A (pc := 883) (k := 4) C hS (by omega) hL hl h0 (by decide) ⟨dl_883, dl_884, dl_885, dl_886, dl_887⟩ ?_
  refine lc_X (pc := 888) (Mx' := Mx') (v := .long r) (As := [.int (xs (i + 1)), .int (xs (i + 2)), .int (xs (i + 3)), .int (xs (i + 4))]) (rest := []) C hG hN hw (fun A => m_X9_fits hN ex) mv_X9_fits t5_7 ⟨rfl, rfl, Nat.le_of_ble_eq_true rfl, Nat.le_of_ble_eq_true rfl⟩ rfl hl.1 rfl (Nat.le_of_ble_eq_true rfl) ⟨by omega, by omega⟩ dl_888 (fun H locs hw => ?_)
  have hS := hw.2.2
  refine lv_aload_n hx hb dl_891 rfl (lv_at hl 2 rfl) ?_
  refine lc_A (pc := 892) (k := 1) C hS (by omega) hL hl h0 (by decide) ⟨dl_892, dl_893, dl_894, dl_895, dl_896⟩ ?_
  refine lc_A (pc := 897) (k := 2) C hS (by omega) hL hl h0 (by decide) ⟨dl_897, dl_898, dl_899, dl_900, dl_901⟩ ?_
  refine lc_A (pc := 902) (k := 3) C hS (by omega) hL hl h0 (by decide) ⟨dl_902, dl_903, dl_904, dl_905, dl_906⟩ ?_
  refine lc_A (pc := 907) (k := 4) C hS (by omega) hL hl h0 (by decide) ⟨dl_907, dl_908, dl_909, dl_910, dl_911⟩ ?_
  refine lc_M (pc := 912) (Mm' := Mm') (v := .long r) (As := [.int (xs (i + 1)), .int (xs (i + 2)), .int (xs (i + 3)), .int (xs (i + 4))]) (rest := [.long r]) C hG hw (fun A => m_X10_fits Ob_10 em) mv_X10_fits t8_19 ⟨rfl, rfl, Nat.le_of_ble_eq_true rfl, Nat.le_of_ble_eq_true rfl⟩ rfl hl.1 rfl (Nat.le_of_ble_eq_true rfl) ⟨by omega, by omega⟩ dl_912 (fun H locs hw => ?_)
  refine W.lcmp hx hb dl_915 ?_
  rw [lg_same]
  refine lv_if_eq (tgt := 1390) hx hb dl_916 (by decide) (fun _ => ?_) (fun q => absurd rfl q)
  refine W.widen (k := cells + 47) (n := slots + 1235) (by omega) (by omega) ?_
  exact kk ad nx Mx' Mm' H locs ⟨hG, hN, hB, ⟨hR', hF'⟩, hw⟩ rfl rfl
set_option maxRecDepth 100000 in
set_option maxHeartbeats 4000000 in
theorem lw_sure (C : LC p s m c b L xs D cy) (hs : LSt D cy ad nx Mx Mm s H locs) (hi : i + 6 ≤ L) (hL : L ≤ 3072) (hl : lv_has ls 4 [(0, .ref b), (1, .ref (ad 0 0)), (2, .ref (ad 100 0)), (3, .int (nI i))]) (hcs : cells + 47 ≤ 600000 ∧ slots + 1235 ≤ 7302250) (kk : LK p l e s m below meth c b D cy Q ls (cells + 47) (slots + 1235) (ad 0 0) (ad 100 0)) : W p l e room_1 s m #[Value.ref b] below meth c H locs cells slots Q (F0 m 921 ls []) := by
  obtain ⟨hG, hN, hB, ⟨hR, hF⟩, hw⟩ := hs
  obtain ⟨hx, hb, -⟩ := id C
  have h0 : lv_has ls 4 [(0, .ref b), (3, .int (nI i))] := lv_sub hl [0, 3] rfl
  obtain ⟨r, Mx', Mm', ex, em, hR'⟩ := q_sure hR (xs (i + 1)) (xs (i + 2)) (xs (i + 3))
  have hF' := FRE_k hR hR' (kk_X10_sure (G := gA Mm 100 57) rfl _ em) hF
  have hS := hw.2.2
  refine lv_aload_n hx hb dl_921 rfl (lv_at hl 1 rfl) ?_
  refine lc_A (pc := 922) (k := 1) C hS (by omega) hL hl h0 (by decide) ⟨dl_922, dl_923, dl_924, dl_925, dl_926⟩ ?_
  refine lc_A (pc := 927) (k := 2) C hS (by omega) hL hl h0 (by decide) ⟨dl_927, dl_928, dl_929, dl_930, dl_931⟩ ?_
  refine lc_A (pc := 932) (k := 3) C hS (by omega) hL hl h0 (by decide) ⟨dl_932, dl_933, dl_934, dl_935, dl_936⟩ ?_
  refine lc_X (pc := 937) (Mx' := Mx') (v := .int r) (As := [.int (xs (i + 1)), .int (xs (i + 2)), .int (xs (i + 3))]) (rest := []) C hG hN hw (fun A => m_X9_sure hN ex) mv_X9_sure t5_30 ⟨rfl, rfl, Nat.le_of_ble_eq_true rfl, Nat.le_of_ble_eq_true rfl⟩ rfl hl.1 rfl (Nat.le_of_ble_eq_true rfl) ⟨by omega, by omega⟩ dl_937 (fun H locs hw => ?_)
  have hS := hw.2.2
  refine lv_aload_n hx hb dl_940 rfl (lv_at hl 2 rfl) ?_
  refine lc_A (pc := 941) (k := 1) C hS (by omega) hL hl h0 (by decide) ⟨dl_941, dl_942, dl_943, dl_944, dl_945⟩ ?_
  refine lc_A (pc := 946) (k := 2) C hS (by omega) hL hl h0 (by decide) ⟨dl_946, dl_947, dl_948, dl_949, dl_950⟩ ?_
  refine lc_A (pc := 951) (k := 3) C hS (by omega) hL hl h0 (by decide) ⟨dl_951, dl_952, dl_953, dl_954, dl_955⟩ ?_
  refine lc_M (pc := 956) (Mm' := Mm') (v := .int r) (As := [.int (xs (i + 1)), .int (xs (i + 2)), .int (xs (i + 3))]) (rest := [.int r]) C hG hw (fun A => m_X10_sure Ob_10 em) mv_X10_sure t8_39 ⟨rfl, rfl, Nat.le_of_ble_eq_true rfl, Nat.le_of_ble_eq_true rfl⟩ rfl hl.1 rfl (Nat.le_of_ble_eq_true rfl) ⟨by omega, by omega⟩ dl_956 (fun H locs hw => ?_)
  refine lv_icmp_eq (tgt := 1390) hx hb dl_959 (by decide) (fun _ => ?_) (fun q => absurd rfl q)
  refine W.widen (k := cells + 47) (n := slots + 1235) (by omega) (by omega) ?_
  exact kk ad nx Mx' Mm' H locs ⟨hG, hN, hB, ⟨hR', hF'⟩, hw⟩ rfl rfl
set_option maxRecDepth 100000 in
set_option maxHeartbeats 4000000 in
theorem lw_drawn (C : LC p s m c b L xs D cy) (hs : LSt D cy ad nx Mx Mm s H locs) (hi : i + 6 ≤ L) (hL : L ≤ 3072) (hl : lv_has ls 4 [(0, .ref b), (1, .ref (ad 0 0)), (2, .ref (ad 100 0)), (3, .int (nI i))]) (hcs : cells + 47 ≤ 600000 ∧ slots + 1235 ≤ 7302250) (kk : LK p l e s m below meth c b D cy Q ls (cells + 47) (slots + 1235) (ad 0 0) (ad 100 0)) : W p l e room_1 s m #[Value.ref b] below meth c H locs cells slots Q (F0 m 964 ls []) := by
  obtain ⟨hG, hN, hB, ⟨hR, hF⟩, hw⟩ := hs
  obtain ⟨hx, hb, -⟩ := id C
  have h0 : lv_has ls 4 [(0, .ref b), (3, .int (nI i))] := lv_sub hl [0, 3] rfl
  obtain ⟨r, Mx', Mm', ex, em, hR'⟩ := q_drawn hR (xs (i + 1)) (xs (i + 2)) (xs (i + 3)) (xs (i + 4))
  have hF' := FRE_k hR hR' (kk_X10_drawn (G := gA Mm 100 57) rfl _ em) hF
  have hS := hw.2.2
  refine lv_aload_n hx hb dl_964 rfl (lv_at hl 1 rfl) ?_
  refine lc_A (pc := 965) (k := 1) C hS (by omega) hL hl h0 (by decide) ⟨dl_965, dl_966, dl_967, dl_968, dl_969⟩ ?_
  refine lc_A (pc := 970) (k := 2) C hS (by omega) hL hl h0 (by decide) ⟨dl_970, dl_971, dl_972, dl_973, dl_974⟩ ?_
  refine lc_A (pc := 975) (k := 3) C hS (by omega) hL hl h0 (by decide) ⟨dl_975, dl_976, dl_977, dl_978, dl_979⟩ ?_
  refine lc_A (pc := 980) (k := 4) C hS (by omega) hL hl h0 (by decide) ⟨dl_980, dl_981, dl_982, dl_983, dl_984⟩ ?_
  refine lc_X (pc := 985) (Mx' := Mx') (v := .int r) (As := [.int (xs (i + 1)), .int (xs (i + 2)), .int (xs (i + 3)), .int (xs (i + 4))]) (rest := []) C hG hN hw (fun A => m_X9_drawn hN ex) mv_X9_drawn t5_43 ⟨rfl, rfl, Nat.le_of_ble_eq_true rfl, Nat.le_of_ble_eq_true rfl⟩ rfl hl.1 rfl (Nat.le_of_ble_eq_true rfl) ⟨by omega, by omega⟩ dl_985 (fun H locs hw => ?_)
  have hS := hw.2.2
  refine lv_aload_n hx hb dl_988 rfl (lv_at hl 2 rfl) ?_
  refine lc_A (pc := 989) (k := 1) C hS (by omega) hL hl h0 (by decide) ⟨dl_989, dl_990, dl_991, dl_992, dl_993⟩ ?_
  refine lc_A (pc := 994) (k := 2) C hS (by omega) hL hl h0 (by decide) ⟨dl_994, dl_995, dl_996, dl_997, dl_998⟩ ?_
  refine lc_A (pc := 999) (k := 3) C hS (by omega) hL hl h0 (by decide) ⟨dl_999, dl_1000, dl_1001, dl_1002, dl_1003⟩ ?_
  refine lc_A (pc := 1004) (k := 4) C hS (by omega) hL hl h0 (by decide) ⟨dl_1004, dl_1005, dl_1006, dl_1007, dl_1008⟩ ?_
  refine lc_M (pc := 1009) (Mm' := Mm') (v := .int r) (As := [.int (xs (i + 1)), .int (xs (i + 2)), .int (xs (i + 3)), .int (xs (i + 4))]) (rest := [.int r]) C hG hw (fun A => m_X10_drawn Ob_10 em) mv_X10_drawn t8_51 ⟨rfl, rfl, Nat.le_of_ble_eq_true rfl, Nat.le_of_ble_eq_true rfl⟩ rfl hl.1 rfl (Nat.le_of_ble_eq_true rfl) ⟨by omega, by omega⟩ dl_1009 (fun H locs hw => ?_)
  refine lv_icmp_eq (tgt := 1390) hx hb dl_1012 (by decide) (fun _ => ?_) (fun q => absurd rfl q)
  refine W.widen (k := cells + 47) (n := slots + 1235) (by omega) (by omega) ?_
  exact kk ad nx Mx' Mm' H locs ⟨hG, hN, hB, ⟨hR', hF'⟩, hw⟩ rfl rfl
end Law1
