section FR_21_X9b
variable {p : Program} {l : Launch} {e : Env} {R : Room} {s : State} {m : MethodId} {args : Array Value} {below : List Frame} {meth : Method} {c : Code} {H : Heap} {locs : List Loc} {cells slots : Nat} {Q : State → Prop} {D : va_G} {cy : Nat → ClassId} {ad : Nat → Nat → Nat} {ns : List (Nat × Nat)} {A : Nat → Prop} {M M' : Mem} {cc : ByteArray} {nL : Nat} {ret : Option FieldType} {pc : Nat} {ls : Array Slot} {rest : List Value}
theorem fg_X9_12 (X : Cx p s m args meth c D cy ad A RX9 cc nL ret) (hS : St D cy ad ns A M s.heap H locs) (ho : Ob ns 9 0) (hdg : decode cc pc = .ok (.getfield 12, 3)) (kk : W p l e R s m args below meth c H locs cells slots Q (F0 m (pc + 3) ls (.ref (ad 1 0) :: rest))) : W p l e R s m args below meth c H locs cells slots Q (F0 m pc ls (.ref (ad 0 0) :: rest)) := r_get X hS (C := RX9) (T := TX9) (N := 6) (k := 0) tf9 rfl rfl ho (by decide) t2_167 ⟨rfl, rfl, rfl⟩ rfl hdg kk
theorem fg_X9_290 (X : Cx p s m args meth c D cy ad A RX9 cc nL ret) (hS : St D cy ad ns A M s.heap H locs) {o : Nat} (ho : Ob ns 5 o) (hdg : decode cc pc = .ok (.getfield 290, 3)) (kk : W p l e R s m args below meth c H locs cells slots Q (F0 m (pc + 3) ls (.ref (ad o (5 + 1)) :: rest))) : W p l e R s m args below meth c H locs cells slots Q (F0 m pc ls (.ref (ad o 0) :: rest)) := r_get X hS (C := RX5) (T := TX5) (N := 9) (k := 5) tf5 rfl rfl ho (by decide) t1_200 ⟨rfl, rfl, rfl⟩ (by unfold fv; rw [ho.1]; rfl) hdg kk
theorem fg_X9_294 (X : Cx p s m args meth c D cy ad A RX9 cc nL ret) (hS : St D cy ad ns A M s.heap H locs) {o : Nat} (ho : Ob ns 5 o) (hdg : decode cc pc = .ok (.getfield 294, 3)) (kk : W p l e R s m args below meth c H locs cells slots Q (F0 m (pc + 3) ls (.ref (ad o (6 + 1)) :: rest))) : W p l e R s m args below meth c H locs cells slots Q (F0 m pc ls (.ref (ad o 0) :: rest)) := r_get X hS (C := RX5) (T := TX5) (N := 9) (k := 6) tf5 rfl rfl ho (by decide) t1_202 ⟨rfl, rfl, rfl⟩ (by unfold fv; rw [ho.1]; rfl) hdg kk
theorem fg_X9_298 (X : Cx p s m args meth c D cy ad A RX9 cc nL ret) (hS : St D cy ad ns A M s.heap H locs) {o : Nat} (ho : Ob ns 5 o) (hdg : decode cc pc = .ok (.getfield 298, 3)) (kk : W p l e R s m args below meth c H locs cells slots Q (F0 m (pc + 3) ls (.ref (ad o (7 + 1)) :: rest))) : W p l e R s m args below meth c H locs cells slots Q (F0 m pc ls (.ref (ad o 0) :: rest)) := r_get X hS (C := RX5) (T := TX5) (N := 9) (k := 7) tf5 rfl rfl ho (by decide) t1_204 ⟨rfl, rfl, rfl⟩ (by unfold fv; rw [ho.1]; rfl) hdg kk
theorem fg_X9_302 (X : Cx p s m args meth c D cy ad A RX9 cc nL ret) (hS : St D cy ad ns A M s.heap H locs) {o : Nat} (ho : Ob ns 5 o) (hdg : decode cc pc = .ok (.getfield 302, 3)) (kk : W p l e R s m args below meth c H locs cells slots Q (F0 m (pc + 3) ls (.ref (ad o (8 + 1)) :: rest))) : W p l e R s m args below meth c H locs cells slots Q (F0 m pc ls (.ref (ad o 0) :: rest)) := r_get X hS (C := RX5) (T := TX5) (N := 9) (k := 8) tf5 rfl rfl ho (by decide) t1_206 ⟨rfl, rfl, rfl⟩ (by unfold fv; rw [ho.1]; rfl) hdg kk
end FR_21_X9b
section MT_21_X9b
variable {p : Program} {l : Launch} {e : Env} {s : State} {m : MethodId} {args : Array Value} {below : List Frame} {meth : Method} {c : Code} {D : va_G} {cy : Nat → ClassId} {ad : Nat → Nat → Nat} {ns : List (Nat × Nat)} {A : Nat → Prop}
/-! SewnYear.coatAt(I)LSewnYear$Coat; -/
def rm_X9_coatAt : Room := { frames := 1, cells := 0, slots := 0, locals := 22 }
def f_X9_coatAt (M : Mem) (a1 : Int32) : Option (Option Nat) :=
  bn (f_X5_has M 1 (nI 0) a1) fun r2 => if r2 = true then (gin a1 2 <| some (some (1 + 1 + ix a1))) else (some none)
set_option maxRecDepth 100000 in
set_option maxHeartbeats 4000000 in
theorem m_X9_coatAt {l : Launch} {D : va_G} {cy : Nat → ClassId} {ad : Nat → Nat → Nat} {ns : List (Nat × Nat)} {A : Nat → Prop} {M : Mem} (hN : NsC ns) {a1 : Int32} {r : Option Nat} (hX : f_X9_coatAt M a1 = some r) : Ct l yX9_coatAt cX9_coatAt 2 ((some (.object "SewnYear$Coat"))) rm_X9_coatAt D cy ad ns A [.ref (ad 0 0), .int a1] M M (some (rv ad r)) := by
  refine ct_of (lv := [(0, .ref (ad 0 0)), (1, .int a1)]) (by decide) (Nat.le_of_ble_eq_true rfl) rfl ?_
  intro p e s m args below meth c ls X hl hS
  obtain ⟨hx, hb, hml, hown, hts, hK, hr, hlk, hA, hG⟩ := id X
  obtain ⟨H, hH⟩ : ∃ z, z = s.heap := ⟨_, rfl⟩
  obtain ⟨locs, hlo⟩ : ∃ z : List Loc, z = [] := ⟨_, rfl⟩
  have hS : St D cy ad ns A M s.heap H locs := by rw [hH, hlo]; exact hS
  have hgoal : W p l e rm_X9_coatAt s m args below meth c H locs 0 0 (MQ below (QC D cy ad ns A M (some (rv ad r))) args s 0 0 A) (F0 m 0 ls []) := by
    unfold f_X9_coatAt at hX
    refine lv_aload_n hx hb dX9_coatAt_0 rfl (lv_at hl 0 rfl) ?_
    refine fg_X9_12 X hS (o_of hN (o := 0) (c := 9) (by decide) rfl) dX9_coatAt_1 ?_
    refine lv_iconst (v := nI 0) hx hb dX9_coatAt_4 (by decide) ?_
    refine lv_iload_n hx hb dX9_coatAt_5 rfl (lv_at hl 1 rfl) ?_
    obtain ⟨r2, h1, hX⟩ := bn_of hX
    refine r_callV1 (v := .int (b2i r2)) (As := [.int (nI 0), .int a1]) (rest := []) X hS (m_X5_has hN (o_of hN (o := 1) (c := 5) (by decide) rfl) h1) mv_X5_has rfl (o_of hN (o := 1) (c := 5) (by decide) rfl) t3_183 ⟨rfl, rfl, Nat.le_of_ble_eq_true rfl, Nat.le_of_ble_eq_true rfl⟩ rfl hl.1 rfl (Nat.le_of_ble_eq_true rfl) ⟨Nat.zero_le _, Nat.zero_le _⟩ dX9_coatAt_6 (fun H locs hS => ?_)
    refine lv_if_eq (tgt := 24) hx hb dX9_coatAt_9 (by decide) (fun c3 => ?_) (fun c3 => ?_)
    · have hX := if_bf c3 hX
      refine lv_null hx hb dX9_coatAt_24 ?_
      obtain rfl := some_of hX
      exact x_R (v := none) X hS dX9_coatAt_25
    · have hX := if_bt c3 hX
      refine lv_aload_n hx hb dX9_coatAt_12 rfl (lv_at hl 0 rfl) ?_
      refine fg_X9_12 X hS (o_of hN (o := 0) (c := 9) (by decide) rfl) dX9_coatAt_13 ?_
      refine fg_X9_290 X hS (o_of hN (o := 1) (c := 5) (by decide) rfl) dX9_coatAt_16 ?_
      refine lv_iload_n hx hb dX9_coatAt_19 rfl (lv_at hl 1 rfl) ?_
      obtain ⟨g4, hX⟩ := gin_of hX
      refine r_aald (o := 1) (k := 5) (n := 4) X hS (o_of hN (o := 1) (c := 5) (by decide) rfl) rfl (by decide) rfl rfl g4 dX9_coatAt_20 ?_
      have q5 := (hN.2 _ (o_of hN (o := 1) (c := 5) (by decide) rfl) _ (gin_lt g4)).1
      refine lv_goto (tgt := 25) hx hb dX9_coatAt_21 (by decide) ?_
      obtain rfl := some_of hX
      exact x_R (v := (some (1 + 1 + ix a1))) X hS dX9_coatAt_25
  rw [hH, hlo] at hgoal
  exact hgoal
theorem mv_X9_coatAt : Mv yX9_coatAt RX9 cX9_coatAt 2 ((some (.object "SewnYear$Coat"))) 1 := ⟨t3_182, t3_181, ts_0, t1_1, ⟨by decide, by decide⟩, by decide +kernel⟩
/-! SewnYear.lifeAt(I)LSewnYear$Life; -/
def rm_X9_lifeAt : Room := { frames := 1, cells := 0, slots := 0, locals := 22 }
def f_X9_lifeAt (M : Mem) (a1 : Int32) : Option (Option Nat) :=
  bn (f_X5_has M 1 (nI 1) a1) fun r2 => if r2 = true then (gin a1 2 <| some (some (1 + 3 + ix a1))) else (some none)
set_option maxRecDepth 100000 in
set_option maxHeartbeats 4000000 in
theorem m_X9_lifeAt {l : Launch} {D : va_G} {cy : Nat → ClassId} {ad : Nat → Nat → Nat} {ns : List (Nat × Nat)} {A : Nat → Prop} {M : Mem} (hN : NsC ns) {a1 : Int32} {r : Option Nat} (hX : f_X9_lifeAt M a1 = some r) : Ct l yX9_lifeAt cX9_lifeAt 2 ((some (.object "SewnYear$Life"))) rm_X9_lifeAt D cy ad ns A [.ref (ad 0 0), .int a1] M M (some (rv ad r)) := by
  refine ct_of (lv := [(0, .ref (ad 0 0)), (1, .int a1)]) (by decide) (Nat.le_of_ble_eq_true rfl) rfl ?_
  intro p e s m args below meth c ls X hl hS
  obtain ⟨hx, hb, hml, hown, hts, hK, hr, hlk, hA, hG⟩ := id X
  obtain ⟨H, hH⟩ : ∃ z, z = s.heap := ⟨_, rfl⟩
  obtain ⟨locs, hlo⟩ : ∃ z : List Loc, z = [] := ⟨_, rfl⟩
  have hS : St D cy ad ns A M s.heap H locs := by rw [hH, hlo]; exact hS
  have hgoal : W p l e rm_X9_lifeAt s m args below meth c H locs 0 0 (MQ below (QC D cy ad ns A M (some (rv ad r))) args s 0 0 A) (F0 m 0 ls []) := by
    unfold f_X9_lifeAt at hX
    refine lv_aload_n hx hb dX9_lifeAt_0 rfl (lv_at hl 0 rfl) ?_
    refine fg_X9_12 X hS (o_of hN (o := 0) (c := 9) (by decide) rfl) dX9_lifeAt_1 ?_
    refine lv_iconst (v := nI 1) hx hb dX9_lifeAt_4 (by decide) ?_
    refine lv_iload_n hx hb dX9_lifeAt_5 rfl (lv_at hl 1 rfl) ?_
    obtain ⟨r2, h1, hX⟩ := bn_of hX
    refine r_callV1 (v := .int (b2i r2)) (As := [.int (nI 1), .int a1]) (rest := []) X hS (m_X5_has hN (o_of hN (o := 1) (c := 5) (by decide) rfl) h1) mv_X5_has rfl (o_of hN (o := 1) (c := 5) (by decide) rfl) t3_183 ⟨rfl, rfl, Nat.le_of_ble_eq_true rfl, Nat.le_of_ble_eq_true rfl⟩ rfl hl.1 rfl (Nat.le_of_ble_eq_true rfl) ⟨Nat.zero_le _, Nat.zero_le _⟩ dX9_lifeAt_6 (fun H locs hS => ?_)
    refine lv_if_eq (tgt := 24) hx hb dX9_lifeAt_9 (by decide) (fun c3 => ?_) (fun c3 => ?_)
    · have hX := if_bf c3 hX
      refine lv_null hx hb dX9_lifeAt_24 ?_
      obtain rfl := some_of hX
      exact x_R (v := none) X hS dX9_lifeAt_25
    · have hX := if_bt c3 hX
      refine lv_aload_n hx hb dX9_lifeAt_12 rfl (lv_at hl 0 rfl) ?_
      refine fg_X9_12 X hS (o_of hN (o := 0) (c := 9) (by decide) rfl) dX9_lifeAt_13 ?_
      refine fg_X9_294 X hS (o_of hN (o := 1) (c := 5) (by decide) rfl) dX9_lifeAt_16 ?_
      refine lv_iload_n hx hb dX9_lifeAt_19 rfl (lv_at hl 1 rfl) ?_
      obtain ⟨g4, hX⟩ := gin_of hX
      refine r_aald (o := 1) (k := 6) (n := 5) X hS (o_of hN (o := 1) (c := 5) (by decide) rfl) rfl (by decide) rfl rfl g4 dX9_lifeAt_20 ?_
      have q5 := (hN.2 _ (o_of hN (o := 1) (c := 5) (by decide) rfl) _ (gin_lt g4)).2.1
      refine lv_goto (tgt := 25) hx hb dX9_lifeAt_21 (by decide) ?_
      obtain rfl := some_of hX
      exact x_R (v := (some (1 + 3 + ix a1))) X hS dX9_lifeAt_25
  rw [hH, hlo] at hgoal
  exact hgoal
theorem mv_X9_lifeAt : Mv yX9_lifeAt RX9 cX9_lifeAt 2 ((some (.object "SewnYear$Life"))) 1 := ⟨t3_202, t3_201, ts_1, t1_1, ⟨by decide, by decide⟩, by decide +kernel⟩
/-! SewnYear.townAt(I)LSewnYear$Town; -/
def rm_X9_townAt : Room := { frames := 1, cells := 0, slots := 0, locals := 22 }
def f_X9_townAt (M : Mem) (a1 : Int32) : Option (Option Nat) :=
  bn (f_X5_has M 1 (nI 2) a1) fun r2 => if r2 = true then (gin a1 2 <| some (some (1 + 5 + ix a1))) else (some none)
set_option maxRecDepth 100000 in
set_option maxHeartbeats 4000000 in
theorem m_X9_townAt {l : Launch} {D : va_G} {cy : Nat → ClassId} {ad : Nat → Nat → Nat} {ns : List (Nat × Nat)} {A : Nat → Prop} {M : Mem} (hN : NsC ns) {a1 : Int32} {r : Option Nat} (hX : f_X9_townAt M a1 = some r) : Ct l yX9_townAt cX9_townAt 2 ((some (.object "SewnYear$Town"))) rm_X9_townAt D cy ad ns A [.ref (ad 0 0), .int a1] M M (some (rv ad r)) := by
  refine ct_of (lv := [(0, .ref (ad 0 0)), (1, .int a1)]) (by decide) (Nat.le_of_ble_eq_true rfl) rfl ?_
  intro p e s m args below meth c ls X hl hS
  obtain ⟨hx, hb, hml, hown, hts, hK, hr, hlk, hA, hG⟩ := id X
  obtain ⟨H, hH⟩ : ∃ z, z = s.heap := ⟨_, rfl⟩
  obtain ⟨locs, hlo⟩ : ∃ z : List Loc, z = [] := ⟨_, rfl⟩
  have hS : St D cy ad ns A M s.heap H locs := by rw [hH, hlo]; exact hS
  have hgoal : W p l e rm_X9_townAt s m args below meth c H locs 0 0 (MQ below (QC D cy ad ns A M (some (rv ad r))) args s 0 0 A) (F0 m 0 ls []) := by
    unfold f_X9_townAt at hX
    refine lv_aload_n hx hb dX9_townAt_0 rfl (lv_at hl 0 rfl) ?_
    refine fg_X9_12 X hS (o_of hN (o := 0) (c := 9) (by decide) rfl) dX9_townAt_1 ?_
    refine lv_iconst (v := nI 2) hx hb dX9_townAt_4 (by decide) ?_
    refine lv_iload_n hx hb dX9_townAt_5 rfl (lv_at hl 1 rfl) ?_
    obtain ⟨r2, h1, hX⟩ := bn_of hX
    refine r_callV1 (v := .int (b2i r2)) (As := [.int (nI 2), .int a1]) (rest := []) X hS (m_X5_has hN (o_of hN (o := 1) (c := 5) (by decide) rfl) h1) mv_X5_has rfl (o_of hN (o := 1) (c := 5) (by decide) rfl) t3_183 ⟨rfl, rfl, Nat.le_of_ble_eq_true rfl, Nat.le_of_ble_eq_true rfl⟩ rfl hl.1 rfl (Nat.le_of_ble_eq_true rfl) ⟨Nat.zero_le _, Nat.zero_le _⟩ dX9_townAt_6 (fun H locs hS => ?_)
    refine lv_if_eq (tgt := 24) hx hb dX9_townAt_9 (by decide) (fun c3 => ?_) (fun c3 => ?_)
    · have hX := if_bf c3 hX
      refine lv_null hx hb dX9_townAt_24 ?_
      obtain rfl := some_of hX
      exact x_R (v := none) X hS dX9_townAt_25
    · have hX := if_bt c3 hX
      refine lv_aload_n hx hb dX9_townAt_12 rfl (lv_at hl 0 rfl) ?_
      refine fg_X9_12 X hS (o_of hN (o := 0) (c := 9) (by decide) rfl) dX9_townAt_13 ?_
      refine fg_X9_298 X hS (o_of hN (o := 1) (c := 5) (by decide) rfl) dX9_townAt_16 ?_
      refine lv_iload_n hx hb dX9_townAt_19 rfl (lv_at hl 1 rfl) ?_
      obtain ⟨g4, hX⟩ := gin_of hX
      refine r_aald (o := 1) (k := 7) (n := 6) X hS (o_of hN (o := 1) (c := 5) (by decide) rfl) rfl (by decide) rfl rfl g4 dX9_townAt_20 ?_
      have q5 := (hN.2 _ (o_of hN (o := 1) (c := 5) (by decide) rfl) _ (gin_lt g4)).2.2.1
      refine lv_goto (tgt := 25) hx hb dX9_townAt_21 (by decide) ?_
      obtain rfl := some_of hX
      exact x_R (v := (some (1 + 5 + ix a1))) X hS dX9_townAt_25
  rw [hH, hlo] at hgoal
  exact hgoal
theorem mv_X9_townAt : Mv yX9_townAt RX9 cX9_townAt 2 ((some (.object "SewnYear$Town"))) 1 := ⟨t4_132, t4_131, ts_3, t1_1, ⟨by decide, by decide⟩, by decide +kernel⟩
/-! SewnYear.sightAt(I)LSewnYear$Sight; -/
def rm_X9_sightAt : Room := { frames := 1, cells := 0, slots := 0, locals := 22 }
def f_X9_sightAt (M : Mem) (a1 : Int32) : Option (Option Nat) :=
  bn (f_X5_has M 1 (nI 3) a1) fun r2 => if r2 = true then (gin a1 2 <| some (some (1 + 7 + ix a1))) else (some none)
set_option maxRecDepth 100000 in
set_option maxHeartbeats 4000000 in
theorem m_X9_sightAt {l : Launch} {D : va_G} {cy : Nat → ClassId} {ad : Nat → Nat → Nat} {ns : List (Nat × Nat)} {A : Nat → Prop} {M : Mem} (hN : NsC ns) {a1 : Int32} {r : Option Nat} (hX : f_X9_sightAt M a1 = some r) : Ct l yX9_sightAt cX9_sightAt 2 ((some (.object "SewnYear$Sight"))) rm_X9_sightAt D cy ad ns A [.ref (ad 0 0), .int a1] M M (some (rv ad r)) := by
  refine ct_of (lv := [(0, .ref (ad 0 0)), (1, .int a1)]) (by decide) (Nat.le_of_ble_eq_true rfl) rfl ?_
  intro p e s m args below meth c ls X hl hS
  obtain ⟨hx, hb, hml, hown, hts, hK, hr, hlk, hA, hG⟩ := id X
  obtain ⟨H, hH⟩ : ∃ z, z = s.heap := ⟨_, rfl⟩
  obtain ⟨locs, hlo⟩ : ∃ z : List Loc, z = [] := ⟨_, rfl⟩
  have hS : St D cy ad ns A M s.heap H locs := by rw [hH, hlo]; exact hS
  have hgoal : W p l e rm_X9_sightAt s m args below meth c H locs 0 0 (MQ below (QC D cy ad ns A M (some (rv ad r))) args s 0 0 A) (F0 m 0 ls []) := by
    unfold f_X9_sightAt at hX
    refine lv_aload_n hx hb dX9_sightAt_0 rfl (lv_at hl 0 rfl) ?_
    refine fg_X9_12 X hS (o_of hN (o := 0) (c := 9) (by decide) rfl) dX9_sightAt_1 ?_
    refine lv_iconst (v := nI 3) hx hb dX9_sightAt_4 (by decide) ?_
    refine lv_iload_n hx hb dX9_sightAt_5 rfl (lv_at hl 1 rfl) ?_
    obtain ⟨r2, h1, hX⟩ := bn_of hX
    refine r_callV1 (v := .int (b2i r2)) (As := [.int (nI 3), .int a1]) (rest := []) X hS (m_X5_has hN (o_of hN (o := 1) (c := 5) (by decide) rfl) h1) mv_X5_has rfl (o_of hN (o := 1) (c := 5) (by decide) rfl) t3_183 ⟨rfl, rfl, Nat.le_of_ble_eq_true rfl, Nat.le_of_ble_eq_true rfl⟩ rfl hl.1 rfl (Nat.le_of_ble_eq_true rfl) ⟨Nat.zero_le _, Nat.zero_le _⟩ dX9_sightAt_6 (fun H locs hS => ?_)
    refine lv_if_eq (tgt := 24) hx hb dX9_sightAt_9 (by decide) (fun c3 => ?_) (fun c3 => ?_)
    · have hX := if_bf c3 hX
      refine lv_null hx hb dX9_sightAt_24 ?_
      obtain rfl := some_of hX
      exact x_R (v := none) X hS dX9_sightAt_25
    · have hX := if_bt c3 hX
      refine lv_aload_n hx hb dX9_sightAt_12 rfl (lv_at hl 0 rfl) ?_
      refine fg_X9_12 X hS (o_of hN (o := 0) (c := 9) (by decide) rfl) dX9_sightAt_13 ?_
      refine fg_X9_302 X hS (o_of hN (o := 1) (c := 5) (by decide) rfl) dX9_sightAt_16 ?_
      refine lv_iload_n hx hb dX9_sightAt_19 rfl (lv_at hl 1 rfl) ?_
      obtain ⟨g4, hX⟩ := gin_of hX
      refine r_aald (o := 1) (k := 8) (n := 7) X hS (o_of hN (o := 1) (c := 5) (by decide) rfl) rfl (by decide) rfl rfl g4 dX9_sightAt_20 ?_
      have q5 := (hN.2 _ (o_of hN (o := 1) (c := 5) (by decide) rfl) _ (gin_lt g4)).2.2.2
      refine lv_goto (tgt := 25) hx hb dX9_sightAt_21 (by decide) ?_
      obtain rfl := some_of hX
      exact x_R (v := (some (1 + 7 + ix a1))) X hS dX9_sightAt_25
  rw [hH, hlo] at hgoal
  exact hgoal
theorem mv_X9_sightAt : Mv yX9_sightAt RX9 cX9_sightAt 2 ((some (.object "SewnYear$Sight"))) 1 := ⟨t5_2, t5_1, ts_4, t1_1, ⟨by decide, by decide⟩, by decide +kernel⟩
end MT_21_X9b
