section FR_23_X9c
variable {p : Program} {l : Launch} {e : Env} {R : Room} {s : State} {m : MethodId} {args : Array Value} {below : List Frame} {meth : Method} {c : Code} {H : Heap} {locs : List Loc} {cells slots : Nat} {Q : State → Prop} {D : va_G} {cy : Nat → ClassId} {ad : Nat → Nat → Nat} {ns : List (Nat × Nat)} {A : Nat → Prop} {M M' : Mem} {cc : ByteArray} {nL : Nat} {ret : Option FieldType} {pc : Nat} {ls : Array Slot} {rest : List Value}
theorem fg_X9_37 (X : Cx p s m args meth c D cy ad A RX9 cc nL ret) (hS : St D cy ad ns A M s.heap H locs) (ho : Ob ns 9 0) (hdg : decode cc pc = .ok (.getfield 37, 3)) (kk : W p l e R s m args below meth c H locs cells slots Q (F0 m (pc + 3) ls (.ref (ad 17 0) :: rest))) : W p l e R s m args below meth c H locs cells slots Q (F0 m pc ls (.ref (ad 0 0) :: rest)) := r_get X hS (C := RX9) (T := TX9) (N := 6) (k := 4) tf9 rfl rfl ho (by decide) t2_171 ⟨rfl, rfl, rfl⟩ rfl hdg kk
theorem fg_X9_123 (X : Cx p s m args meth c D cy ad A RX9 cc nL ret) (hS : St D cy ad ns A M s.heap H locs) {o : Nat} (ho : Ob ns 0 o) (hdg : decode cc pc = .ok (.getfield 123, 3)) (kk : W p l e R s m args below meth c H locs cells slots Q (F0 m (pc + 3) ls (.int (gI M o 0) :: rest))) : W p l e R s m args below meth c H locs cells slots Q (F0 m pc ls (.ref (ad o 0) :: rest)) := r_get X hS (C := RX0) (T := TX0) (N := 7) (k := 0) tf0 rfl rfl ho (by decide) t1_45 ⟨rfl, rfl, rfl⟩ (by unfold fv; rw [ho.1]; rfl) hdg kk
end FR_23_X9c
section MT_23_X9c
variable {p : Program} {l : Launch} {e : Env} {s : State} {m : MethodId} {args : Array Value} {below : List Frame} {meth : Method} {c : Code} {D : va_G} {cy : Nat → ClassId} {ad : Nat → Nat → Nat} {ns : List (Nat × Nat)} {A : Nat → Prop}
/-! SewnYear.orderedAt(I)LSewnYear$Coat; -/
def rm_X9_orderedAt : Room := { frames := 3, cells := 0, slots := 0, locals := 81 }
def f_X9_orderedAt (M : Mem) (a1 : Int32) : Option (Option Nat × Mem) :=
  bn (f_X9_coatAt M a1) fun r2 => opt r2 (some (none, M)) fun o3 => (bn (f_X3_take M o3) fun M5 => bp (f_X3_layFirst M5) fun r8 M7 => if r8 = true then (some ((some o3), M7)) else (some (none, M7)))
set_option maxRecDepth 100000 in
set_option maxHeartbeats 4000000 in
theorem m_X9_orderedAt {l : Launch} {D : va_G} {cy : Nat → ClassId} {ad : Nat → Nat → Nat} {ns : List (Nat × Nat)} {A : Nat → Prop} {M : Mem} (hN : NsC ns) {a1 : Int32} {r : Option Nat × Mem} (hX : f_X9_orderedAt M a1 = some r) : Ct l yX9_orderedAt cX9_orderedAt 3 ((some (.object "SewnYear$Coat"))) rm_X9_orderedAt D cy ad ns A [.ref (ad 0 0), .int a1] M r.2 (some (rv ad r.1)) := by
  refine ct_of (lv := [(0, .ref (ad 0 0)), (1, .int a1)]) (by decide) (Nat.le_of_ble_eq_true rfl) rfl ?_
  intro p e s m args below meth c ls X hl hS
  obtain ⟨hx, hb, hml, hown, hts, hK, hr, hlk, hA, hG⟩ := id X
  obtain ⟨H, hH⟩ : ∃ z, z = s.heap := ⟨_, rfl⟩
  obtain ⟨locs, hlo⟩ : ∃ z : List Loc, z = [] := ⟨_, rfl⟩
  have hS : St D cy ad ns A M s.heap H locs := by rw [hH, hlo]; exact hS
  have hgoal : W p l e rm_X9_orderedAt s m args below meth c H locs 0 0 (MQ below (QC D cy ad ns A r.2 (some (rv ad r.1))) args s 0 0 A) (F0 m 0 ls []) := by
    unfold f_X9_orderedAt at hX
    refine lv_aload_n hx hb dX9_orderedAt_0 rfl (lv_at hl 0 rfl) ?_
    refine lv_iload_n hx hb dX9_orderedAt_1 rfl (lv_at hl 1 rfl) ?_
    obtain ⟨r2, h1, hX⟩ := bn_of hX
    refine r_callV1 (v := rv ad r2) (As := [.int a1]) (rest := []) X hS (m_X9_coatAt hN h1) mv_X9_coatAt rfl (o_of hN (o := 0) (c := 9) (by decide) rfl) t3_179 ⟨rfl, rfl, Nat.le_of_ble_eq_true rfl, Nat.le_of_ble_eq_true rfl⟩ rfl hl.1 rfl (Nat.le_of_ble_eq_true rfl) ⟨Nat.zero_le _, Nat.zero_le _⟩ dX9_orderedAt_2 (fun H locs hS => ?_)
    have qr2 : ∀ o, r2 = some o → Ob ns 0 o := fun o e => ob_X9_coatAt hN (by rw [← e]; exact h1)
    refine lv_astore_nR (lv' := [(2, rv ad r2), (0, .ref (ad 0 0)), (1, .int a1)]) hx hb dX9_orderedAt_5 rfl hl (by decide) rfl (fun ls hl => ?_)
    rcases r2 with _ | o3
    · have hX := opt_n hX
      have hl : lv_has ls 3 [(2, .null), (0, .ref (ad 0 0)), (1, .int a1)] := hl
      refine lv_aload_nN hx hb dX9_orderedAt_6 rfl (lv_at hl 0 rfl) ?_
      refine lv_ifnonnullN hx hb dX9_orderedAt_7 ?_
      refine lv_null hx hb dX9_orderedAt_10 ?_
      obtain rfl := some_of hX
      exact x_R (v := none) X hS dX9_orderedAt_11
    · have hX := opt_s hX
      have hl : lv_has ls 3 [(2, .ref (ad o3 0)), (0, .ref (ad 0 0)), (1, .int a1)] := hl
      refine lv_aload_n hx hb dX9_orderedAt_6 rfl (lv_at hl 0 rfl) ?_
      refine lv_ifnonnull (tgt := 12) hx hb dX9_orderedAt_7 (by decide) ?_
      refine lv_aload_n hx hb dX9_orderedAt_12 rfl (lv_at hl 1 rfl) ?_
      refine fg_X9_37 X hS (o_of hN (o := 0) (c := 9) (by decide) rfl) dX9_orderedAt_13 ?_
      refine lv_aload_n hx hb dX9_orderedAt_16 rfl (lv_at hl 0 rfl) ?_
      obtain ⟨M5, h4, hX⟩ := bn_of hX
      refine r_callV0 (As := [.ref (ad o3 0)]) (rest := []) X hS (m_X3_take hN (qr2 o3 rfl) h4) mv_X3_take rfl (o_of hN (o := 17) (c := 3) (by decide) rfl) t4_31 ⟨rfl, rfl, Nat.le_of_ble_eq_true rfl, Nat.le_of_ble_eq_true rfl⟩ rfl hl.1 rfl (Nat.le_of_ble_eq_true rfl) ⟨Nat.zero_le _, Nat.zero_le _⟩ dX9_orderedAt_17 (fun H locs hS => ?_)
      refine lv_aload_n hx hb dX9_orderedAt_20 rfl (lv_at hl 1 rfl) ?_
      refine fg_X9_37 X hS (o_of hN (o := 0) (c := 9) (by decide) rfl) dX9_orderedAt_21 ?_
      obtain ⟨r8, M7, h6, hX⟩ := bp_of hX
      refine r_callV1 (v := .int (b2i r8)) (As := []) (rest := []) X hS (m_X3_layFirst hN h6) mv_X3_layFirst rfl (o_of hN (o := 17) (c := 3) (by decide) rfl) t4_59 ⟨rfl, rfl, Nat.le_of_ble_eq_true rfl, Nat.le_of_ble_eq_true rfl⟩ rfl hl.1 rfl (Nat.le_of_ble_eq_true rfl) ⟨Nat.zero_le _, Nat.zero_le _⟩ dX9_orderedAt_24 (fun H locs hS => ?_)
      refine lv_if_eq (tgt := 34) hx hb dX9_orderedAt_27 (by decide) (fun c9 => ?_) (fun c9 => ?_)
      · have hX := if_bf c9 hX
        refine lv_null hx hb dX9_orderedAt_34 ?_
        obtain rfl := some_of hX
        exact x_R (v := none) X hS dX9_orderedAt_35
      · have hX := if_bt c9 hX
        refine lv_aload_n hx hb dX9_orderedAt_30 rfl (lv_at hl 0 rfl) ?_
        refine lv_goto (tgt := 35) hx hb dX9_orderedAt_31 (by decide) ?_
        obtain rfl := some_of hX
        exact x_R (v := (some o3)) X hS dX9_orderedAt_35
  rw [hH, hlo] at hgoal
  exact hgoal
theorem mv_X9_orderedAt : Mv yX9_orderedAt RX9 cX9_orderedAt 3 ((some (.object "SewnYear$Coat"))) 1 := ⟨t4_58, t4_57, ts_2, t1_1, ⟨by decide, by decide⟩, by decide +kernel⟩
/-! SewnYear.seenAt(II)LSewnYear$Coat; -/
def rm_X9_seenAt : Room := { frames := 2, cells := 0, slots := 0, locals := 81 }
def f_X9_seenAt (M : Mem) (a1 : Int32) (a2 : Int32) : Option (Option Nat × Mem) :=
  bn (f_X9_coatAt M a1) fun r2 => bn (f_X9_sightAt M a2) fun r4 => opt r2 (some (none, M)) fun o5 => (opt r4 (some (none, M)) fun o6 => (bn (f_X4_highestSeam M o6) fun r8 => if r8 < (gI M o5 0) then (bn (f_X3_take M o5) fun M11 => bn (f_X3_see M11 o6) fun M13 => some ((some o5), M13)) else (some (none, M))))
set_option maxRecDepth 100000 in
set_option maxHeartbeats 4000000 in
theorem m_X9_seenAt {l : Launch} {D : va_G} {cy : Nat → ClassId} {ad : Nat → Nat → Nat} {ns : List (Nat × Nat)} {A : Nat → Prop} {M : Mem} (hN : NsC ns) {a1 : Int32} {a2 : Int32} {r : Option Nat × Mem} (hX : f_X9_seenAt M a1 a2 = some r) : Ct l yX9_seenAt cX9_seenAt 5 ((some (.object "SewnYear$Coat"))) rm_X9_seenAt D cy ad ns A [.ref (ad 0 0), .int a1, .int a2] M r.2 (some (rv ad r.1)) := by
  refine ct_of (lv := [(0, .ref (ad 0 0)), (1, .int a1), (2, .int a2)]) (by decide) (Nat.le_of_ble_eq_true rfl) rfl ?_
  intro p e s m args below meth c ls X hl hS
  obtain ⟨hx, hb, hml, hown, hts, hK, hr, hlk, hA, hG⟩ := id X
  obtain ⟨H, hH⟩ : ∃ z, z = s.heap := ⟨_, rfl⟩
  obtain ⟨locs, hlo⟩ : ∃ z : List Loc, z = [] := ⟨_, rfl⟩
  have hS : St D cy ad ns A M s.heap H locs := by rw [hH, hlo]; exact hS
  have hgoal : W p l e rm_X9_seenAt s m args below meth c H locs 0 0 (MQ below (QC D cy ad ns A r.2 (some (rv ad r.1))) args s 0 0 A) (F0 m 0 ls []) := by
    unfold f_X9_seenAt at hX
    refine lv_aload_n hx hb dX9_seenAt_0 rfl (lv_at hl 0 rfl) ?_
    refine lv_iload_n hx hb dX9_seenAt_1 rfl (lv_at hl 1 rfl) ?_
    obtain ⟨r2, h1, hX⟩ := bn_of hX
    refine r_callV1 (v := rv ad r2) (As := [.int a1]) (rest := []) X hS (m_X9_coatAt hN h1) mv_X9_coatAt rfl (o_of hN (o := 0) (c := 9) (by decide) rfl) t3_179 ⟨rfl, rfl, Nat.le_of_ble_eq_true rfl, Nat.le_of_ble_eq_true rfl⟩ rfl hl.1 rfl (Nat.le_of_ble_eq_true rfl) ⟨Nat.zero_le _, Nat.zero_le _⟩ dX9_seenAt_2 (fun H locs hS => ?_)
    have qr2 : ∀ o, r2 = some o → Ob ns 0 o := fun o e => ob_X9_coatAt hN (by rw [← e]; exact h1)
    refine lv_astore_nR (lv' := [(3, rv ad r2), (0, .ref (ad 0 0)), (1, .int a1), (2, .int a2)]) hx hb dX9_seenAt_5 rfl hl (by decide) rfl (fun ls hl => ?_)
    refine lv_aload_n hx hb dX9_seenAt_6 rfl (lv_at hl 1 rfl) ?_
    refine lv_iload_n hx hb dX9_seenAt_7 rfl (lv_at hl 3 rfl) ?_
    obtain ⟨r4, h3, hX⟩ := bn_of hX
    refine r_callV1 (v := rv ad r4) (As := [.int a2]) (rest := []) X hS (m_X9_sightAt hN h3) mv_X9_sightAt rfl (o_of hN (o := 0) (c := 9) (by decide) rfl) t4_239 ⟨rfl, rfl, Nat.le_of_ble_eq_true rfl, Nat.le_of_ble_eq_true rfl⟩ rfl hl.1 rfl (Nat.le_of_ble_eq_true rfl) ⟨Nat.zero_le _, Nat.zero_le _⟩ dX9_seenAt_8 (fun H locs hS => ?_)
    have qr4 : ∀ o, r4 = some o → Ob ns 4 o := fun o e => ob_X9_sightAt hN (by rw [← e]; exact h3)
    refine lv_astoreR (lv' := [(4, rv ad r4), (3, rv ad r2), (0, .ref (ad 0 0)), (1, .int a1), (2, .int a2)]) hx hb dX9_seenAt_11 hl (by decide) (by cases r2 <;> rfl) (fun ls hl => ?_)
    rcases r2 with _ | o5
    · have hX := opt_n hX
      have hl : lv_has ls 5 [(4, rv ad r4), (3, .null), (0, .ref (ad 0 0)), (1, .int a1), (2, .int a2)] := hl
      refine lv_aload_nN hx hb dX9_seenAt_13 rfl (lv_at hl 1 rfl) ?_
      refine lv_ifnullN (tgt := 34) hx hb dX9_seenAt_14 (by decide) ?_
      refine lv_null hx hb dX9_seenAt_34 ?_
      obtain rfl := some_of hX
      exact x_R (v := none) X hS dX9_seenAt_35
    · have hX := opt_s hX
      have hl : lv_has ls 5 [(4, rv ad r4), (3, .ref (ad o5 0)), (0, .ref (ad 0 0)), (1, .int a1), (2, .int a2)] := hl
      refine lv_aload_n hx hb dX9_seenAt_13 rfl (lv_at hl 1 rfl) ?_
      refine lv_ifnull hx hb dX9_seenAt_14 ?_
      rcases r4 with _ | o6
      · have hX := opt_n hX
        have hl : lv_has ls 5 [(4, .null), (3, .ref (ad o5 0)), (0, .ref (ad 0 0)), (1, .int a1), (2, .int a2)] := hl
        refine lv_aloadN hx hb dX9_seenAt_17 (lv_at hl 0 rfl) ?_
        refine lv_ifnullN (tgt := 34) hx hb dX9_seenAt_19 (by decide) ?_
        refine lv_null hx hb dX9_seenAt_34 ?_
        obtain rfl := some_of hX
        exact x_R (v := none) X hS dX9_seenAt_35
      · have hX := opt_s hX
        have hl : lv_has ls 5 [(4, .ref (ad o6 0)), (3, .ref (ad o5 0)), (0, .ref (ad 0 0)), (1, .int a1), (2, .int a2)] := hl
        refine lv_aload hx hb dX9_seenAt_17 (lv_at hl 0 rfl) ?_
        refine lv_ifnull hx hb dX9_seenAt_19 ?_
        refine lv_aload hx hb dX9_seenAt_22 (lv_at hl 0 rfl) ?_
        obtain ⟨r8, h7, hX⟩ := bn_of hX
        refine r_callV1 (v := .int r8) (As := []) (rest := []) X hS (m_X4_highestSeam hN (qr4 o6 rfl) h7) mv_X4_highestSeam rfl (qr4 o6 rfl) t5_15 ⟨rfl, rfl, Nat.le_of_ble_eq_true rfl, Nat.le_of_ble_eq_true rfl⟩ rfl hl.1 rfl (Nat.le_of_ble_eq_true rfl) ⟨Nat.zero_le _, Nat.zero_le _⟩ dX9_seenAt_24 (fun H locs hS => ?_)
        refine lv_aload_n hx hb dX9_seenAt_27 rfl (lv_at hl 1 rfl) ?_
        refine fg_X9_123 X hS (qr2 o5 rfl) dX9_seenAt_28 ?_
        refine lv_icmp_lt (tgt := 36) hx hb dX9_seenAt_31 (by decide) (fun c9 => ?_) (fun c9 => ?_)
        · have hX := if_t c9 hX
          refine lv_aload_n hx hb dX9_seenAt_36 rfl (lv_at hl 2 rfl) ?_
          refine fg_X9_37 X hS (o_of hN (o := 0) (c := 9) (by decide) rfl) dX9_seenAt_37 ?_
          refine lv_aload_n hx hb dX9_seenAt_40 rfl (lv_at hl 1 rfl) ?_
          obtain ⟨M11, h10, hX⟩ := bn_of hX
          refine r_callV0 (As := [.ref (ad o5 0)]) (rest := []) X hS (m_X3_take hN (qr2 o5 rfl) h10) mv_X3_take rfl (o_of hN (o := 17) (c := 3) (by decide) rfl) t4_31 ⟨rfl, rfl, Nat.le_of_ble_eq_true rfl, Nat.le_of_ble_eq_true rfl⟩ rfl hl.1 rfl (Nat.le_of_ble_eq_true rfl) ⟨Nat.zero_le _, Nat.zero_le _⟩ dX9_seenAt_41 (fun H locs hS => ?_)
          refine lv_aload_n hx hb dX9_seenAt_44 rfl (lv_at hl 2 rfl) ?_
          refine fg_X9_37 X hS (o_of hN (o := 0) (c := 9) (by decide) rfl) dX9_seenAt_45 ?_
          refine lv_aload hx hb dX9_seenAt_48 (lv_at hl 0 rfl) ?_
          obtain ⟨M13, h12, hX⟩ := bn_of hX
          refine r_callV0 (As := [.ref (ad o6 0)]) (rest := []) X hS (m_X3_see hN (qr4 o6 rfl) h12) mv_X3_see rfl (o_of hN (o := 17) (c := 3) (by decide) rfl) t5_20 ⟨rfl, rfl, Nat.le_of_ble_eq_true rfl, Nat.le_of_ble_eq_true rfl⟩ rfl hl.1 rfl (Nat.le_of_ble_eq_true rfl) ⟨Nat.zero_le _, Nat.zero_le _⟩ dX9_seenAt_50 (fun H locs hS => ?_)
          refine lv_aload_n hx hb dX9_seenAt_53 rfl (lv_at hl 1 rfl) ?_
          obtain rfl := some_of hX
          exact x_R (v := (some o5)) X hS dX9_seenAt_54
        · have hX := if_f c9 hX
          refine lv_null hx hb dX9_seenAt_34 ?_
          obtain rfl := some_of hX
          exact x_R (v := none) X hS dX9_seenAt_35
  rw [hH, hlo] at hgoal
  exact hgoal
theorem mv_X9_seenAt : Mv yX9_seenAt RX9 cX9_seenAt 5 ((some (.object "SewnYear$Coat"))) 2 := ⟨t5_14, t5_13, ts_5, t1_1, ⟨by decide, by decide⟩, by decide +kernel⟩
end MT_23_X9c
