section FR_13_X9a
variable {p : Program} {l : Launch} {e : Env} {R : Room} {s : State} {m : MethodId} {args : Array Value} {below : List Frame} {meth : Method} {c : Code} {H : Heap} {locs : List Loc} {cells slots : Nat} {Q : State → Prop} {D : va_G} {cy : Nat → ClassId} {ad : Nat → Nat → Nat} {ns : List (Nat × Nat)} {A : Nat → Prop} {M M' : Mem} {cc : ByteArray} {nL : Nat} {ret : Option FieldType} {pc : Nat} {ls : Array Slot} {rest : List Value}
end FR_13_X9a
section MT_13_X9a
variable {p : Program} {l : Launch} {e : Env} {s : State} {m : MethodId} {args : Array Value} {below : List Frame} {meth : Method} {c : Code} {D : va_G} {cy : Nat → ClassId} {ad : Nat → Nat → Nat} {ns : List (Nat × Nat)} {A : Nat → Prop}
/-! SewnYear.areMonths(II)Z -/
def rm_X9_areMonths : Room := { frames := 0, cells := 0, slots := 0, locals := 0 }
def f_X9_areMonths (a1 : Int32) (a2 : Int32) : Option (Bool) :=
  if a1 < (nI 1) then (some false) else (if (nI 12) < a1 then (some false) else (if a2 < (nI 0) then (some false) else (if (nI 10) < a2 then (some false) else (some true))))
set_option maxRecDepth 100000 in
set_option maxHeartbeats 4000000 in
theorem m_X9_areMonths {l : Launch} {D : va_G} {cy : Nat → ClassId} {ad : Nat → Nat → Nat} {ns : List (Nat × Nat)} {A : Nat → Prop} {M : Mem} (hN : NsC ns) {a1 : Int32} {a2 : Int32} {r : Bool} (hX : f_X9_areMonths a1 a2 = some r) : Ct l yX9_areMonths cX9_areMonths 2 ((some .boolean)) rm_X9_areMonths D cy ad ns A [.int a1, .int a2] M M (some (.int (b2i r))) := by
  refine ct_of (lv := [(0, .int a1), (1, .int a2)]) (by decide) (Nat.le_of_ble_eq_true rfl) rfl ?_
  intro p e s m args below meth c ls X hl hS
  obtain ⟨hx, hb, hml, hown, hts, hK, hr, hlk, hA, hG⟩ := id X
  obtain ⟨H, hH⟩ : ∃ z, z = s.heap := ⟨_, rfl⟩
  obtain ⟨locs, hlo⟩ : ∃ z : List Loc, z = [] := ⟨_, rfl⟩
  have hS : St D cy ad ns A M s.heap H locs := by rw [hH, hlo]; exact hS
  have hgoal : W p l e rm_X9_areMonths s m args below meth c H locs 0 0 (MQ below (QC D cy ad ns A M (some (.int (b2i r)))) args s 0 0 A) (F0 m 0 ls []) := by
    unfold f_X9_areMonths at hX
    refine lv_iload_n hx hb dX9_areMonths_0 rfl (lv_at hl 0 rfl) ?_
    refine lv_iconst (v := nI 1) hx hb dX9_areMonths_1 (by decide) ?_
    refine lv_icmp_lt (tgt := 25) hx hb dX9_areMonths_2 (by decide) (fun c1 => ?_) (fun c1 => ?_)
    · have hX := if_t c1 hX
      refine lv_iconst (v := nI 0) hx hb dX9_areMonths_25 (by decide) ?_
      obtain rfl := some_of hX
      exact x_Z (v := false) X hS dX9_areMonths_26
    · have hX := if_f c1 hX
      refine lv_iload_n hx hb dX9_areMonths_5 rfl (lv_at hl 0 rfl) ?_
      refine lv_bipush (v := nI 12) hx hb dX9_areMonths_6 (by decide) ?_
      refine lv_icmp_gt (tgt := 25) hx hb dX9_areMonths_8 (by decide) (fun c2 => ?_) (fun c2 => ?_)
      · have hX := if_t c2 hX
        refine lv_iconst (v := nI 0) hx hb dX9_areMonths_25 (by decide) ?_
        obtain rfl := some_of hX
        exact x_Z (v := false) X hS dX9_areMonths_26
      · have hX := if_f c2 hX
        refine lv_iload_n hx hb dX9_areMonths_11 rfl (lv_at hl 1 rfl) ?_
        refine lv_if_lt (tgt := 25) hx hb dX9_areMonths_12 (by decide) (fun c3 => ?_) (fun c3 => ?_)
        · have hX := if_t c3 hX
          refine lv_iconst (v := nI 0) hx hb dX9_areMonths_25 (by decide) ?_
          obtain rfl := some_of hX
          exact x_Z (v := false) X hS dX9_areMonths_26
        · have hX := if_f c3 hX
          refine lv_iload_n hx hb dX9_areMonths_15 rfl (lv_at hl 1 rfl) ?_
          refine lv_bipush (v := nI 10) hx hb dX9_areMonths_16 (by decide) ?_
          refine lv_icmp_gt (tgt := 25) hx hb dX9_areMonths_18 (by decide) (fun c4 => ?_) (fun c4 => ?_)
          · have hX := if_t c4 hX
            refine lv_iconst (v := nI 0) hx hb dX9_areMonths_25 (by decide) ?_
            obtain rfl := some_of hX
            exact x_Z (v := false) X hS dX9_areMonths_26
          · have hX := if_f c4 hX
            refine lv_iconst (v := nI 1) hx hb dX9_areMonths_21 (by decide) ?_
            refine lv_goto (tgt := 26) hx hb dX9_areMonths_22 (by decide) ?_
            obtain rfl := some_of hX
            exact x_Z (v := true) X hS dX9_areMonths_26
  rw [hH, hlo] at hgoal
  exact hgoal
theorem ms_X9_areMonths : Ms yX9_areMonths cX9_areMonths 2 ((some .boolean)) 2 := ⟨t4_221, t4_220, t1_1, ⟨by decide, by decide⟩, by decide +kernel⟩
/-! SewnYear.isCost(I)Z -/
def rm_X9_isCost : Room := { frames := 0, cells := 0, slots := 0, locals := 0 }
def f_X9_isCost (a1 : Int32) : Option (Bool) :=
  if a1 < (nI 0) then (some false) else (if (nI 99) < a1 then (some false) else (some true))
set_option maxRecDepth 100000 in
set_option maxHeartbeats 4000000 in
theorem m_X9_isCost {l : Launch} {D : va_G} {cy : Nat → ClassId} {ad : Nat → Nat → Nat} {ns : List (Nat × Nat)} {A : Nat → Prop} {M : Mem} (hN : NsC ns) {a1 : Int32} {r : Bool} (hX : f_X9_isCost a1 = some r) : Ct l yX9_isCost cX9_isCost 1 ((some .boolean)) rm_X9_isCost D cy ad ns A [.int a1] M M (some (.int (b2i r))) := by
  refine ct_of (lv := [(0, .int a1)]) (by decide) (Nat.le_of_ble_eq_true rfl) rfl ?_
  intro p e s m args below meth c ls X hl hS
  obtain ⟨hx, hb, hml, hown, hts, hK, hr, hlk, hA, hG⟩ := id X
  obtain ⟨H, hH⟩ : ∃ z, z = s.heap := ⟨_, rfl⟩
  obtain ⟨locs, hlo⟩ : ∃ z : List Loc, z = [] := ⟨_, rfl⟩
  have hS : St D cy ad ns A M s.heap H locs := by rw [hH, hlo]; exact hS
  have hgoal : W p l e rm_X9_isCost s m args below meth c H locs 0 0 (MQ below (QC D cy ad ns A M (some (.int (b2i r)))) args s 0 0 A) (F0 m 0 ls []) := by
    unfold f_X9_isCost at hX
    refine lv_iload_n hx hb dX9_isCost_0 rfl (lv_at hl 0 rfl) ?_
    refine lv_if_lt (tgt := 14) hx hb dX9_isCost_1 (by decide) (fun c1 => ?_) (fun c1 => ?_)
    · have hX := if_t c1 hX
      refine lv_iconst (v := nI 0) hx hb dX9_isCost_14 (by decide) ?_
      obtain rfl := some_of hX
      exact x_Z (v := false) X hS dX9_isCost_15
    · have hX := if_f c1 hX
      refine lv_iload_n hx hb dX9_isCost_4 rfl (lv_at hl 0 rfl) ?_
      refine lv_bipush (v := nI 99) hx hb dX9_isCost_5 (by decide) ?_
      refine lv_icmp_gt (tgt := 14) hx hb dX9_isCost_7 (by decide) (fun c2 => ?_) (fun c2 => ?_)
      · have hX := if_t c2 hX
        refine lv_iconst (v := nI 0) hx hb dX9_isCost_14 (by decide) ?_
        obtain rfl := some_of hX
        exact x_Z (v := false) X hS dX9_isCost_15
      · have hX := if_f c2 hX
        refine lv_iconst (v := nI 1) hx hb dX9_isCost_10 (by decide) ?_
        refine lv_goto (tgt := 15) hx hb dX9_isCost_11 (by decide) ?_
        obtain rfl := some_of hX
        exact x_Z (v := true) X hS dX9_isCost_15
  rw [hH, hlo] at hgoal
  exact hgoal
theorem ms_X9_isCost : Ms yX9_isCost cX9_isCost 1 ((some .boolean)) 1 := ⟨t4_224, t4_223, t1_1, ⟨by decide, by decide⟩, by decide +kernel⟩
/-! SewnYear.begun(II)I -/
def rm_X9_begun : Room := { frames := 0, cells := 0, slots := 0, locals := 0 }
def f_X9_begun (a1 : Int32) (a2 : Int32) : Option (Int32) :=
  if (nI 1) ≤ a2 then (gnz a2 <| some (((a1 + a2) - (nI 1)) / a2)) else (some (nI 0))
set_option maxRecDepth 100000 in
set_option maxHeartbeats 4000000 in
theorem m_X9_begun {l : Launch} {D : va_G} {cy : Nat → ClassId} {ad : Nat → Nat → Nat} {ns : List (Nat × Nat)} {A : Nat → Prop} {M : Mem} (hN : NsC ns) {a1 : Int32} {a2 : Int32} {r : Int32} (hX : f_X9_begun a1 a2 = some r) : Ct l yX9_begun cX9_begun 2 ((some .int)) rm_X9_begun D cy ad ns A [.int a1, .int a2] M M (some (.int r)) := by
  refine ct_of (lv := [(0, .int a1), (1, .int a2)]) (by decide) (Nat.le_of_ble_eq_true rfl) rfl ?_
  intro p e s m args below meth c ls X hl hS
  obtain ⟨hx, hb, hml, hown, hts, hK, hr, hlk, hA, hG⟩ := id X
  obtain ⟨H, hH⟩ : ∃ z, z = s.heap := ⟨_, rfl⟩
  obtain ⟨locs, hlo⟩ : ∃ z : List Loc, z = [] := ⟨_, rfl⟩
  have hS : St D cy ad ns A M s.heap H locs := by rw [hH, hlo]; exact hS
  have hgoal : W p l e rm_X9_begun s m args below meth c H locs 0 0 (MQ below (QC D cy ad ns A M (some (.int r))) args s 0 0 A) (F0 m 0 ls []) := by
    unfold f_X9_begun at hX
    refine lv_iload_n hx hb dX9_begun_0 rfl (lv_at hl 1 rfl) ?_
    refine lv_iconst (v := nI 1) hx hb dX9_begun_1 (by decide) ?_
    refine lv_icmp_ge (tgt := 9) hx hb dX9_begun_2 (by decide) (fun c1 => ?_) (fun c1 => ?_)
    · have hX := if_t c1 hX
      refine lv_iload_n hx hb dX9_begun_9 rfl (lv_at hl 0 rfl) ?_
      refine lv_iload_n hx hb dX9_begun_10 rfl (lv_at hl 1 rfl) ?_
      refine lv_iadd hx hb dX9_begun_11 ?_
      refine lv_iconst (v := nI 1) hx hb dX9_begun_12 (by decide) ?_
      refine lv_isub hx hb dX9_begun_13 ?_
      refine lv_iload_n hx hb dX9_begun_14 rfl (lv_at hl 1 rfl) ?_
      obtain ⟨g2, hX⟩ := gnz_of hX
      refine lv_idiv hx hb dX9_begun_15 g2 ?_
      obtain rfl := some_of hX
      exact x_I (v := (((a1 + a2) - (nI 1)) / a2)) X hS dX9_begun_16
    · have hX := if_f c1 hX
      refine lv_iconst (v := nI 0) hx hb dX9_begun_5 (by decide) ?_
      refine lv_goto (tgt := 16) hx hb dX9_begun_6 (by decide) ?_
      obtain rfl := some_of hX
      exact x_I (v := (nI 0)) X hS dX9_begun_16
  rw [hH, hlo] at hgoal
  exact hgoal
theorem ms_X9_begun : Ms yX9_begun cX9_begun 2 ((some .int)) 2 := ⟨t4_92, t4_91, t1_1, ⟨by decide, by decide⟩, by decide +kernel⟩
/-! SewnYear.power(II)J -/
def rm_X9_power : Room := { frames := 0, cells := 0, slots := 0, locals := 0 }
def b_X9_power_5 (a1 : Int32) (a2 : Int32) (rc : Int64 → Int32 → Option (Int64)) (v_2 : Int64) (v_4 : Int32) : Option (Int64) :=
  if a2 ≤ v_4 then (some v_2) else (nm (v_2 * (Int32.toInt64 a1)) fun v2 => nm (v_4 + nI 1) fun v3 => rc v2 v3)
def f_X9_power_5 (a1 : Int32) (a2 : Int32) : Nat → (Int64 × Int32) → Option (Int64) := lp (fun rc q => b_X9_power_5 a1 a2 (fun x0 x1 => rc (x0, x1)) q.1 q.2)
def f_X9_power (a1 : Int32) (a2 : Int32) : Option (Int64) :=
  nm (lN 1) fun v4 => f_X9_power_5 a1 a2 FU (v4, (nI 0))
set_option maxRecDepth 100000 in
set_option maxHeartbeats 4000000 in
theorem n_X9_power_5 {a1 : Int32} {a2 : Int32} (X : Cx p s m args meth c D cy ad A RX9 cX9_power 5 ((some .long))) (hN : NsC ns) {M : Mem} : ∀ (n : Nat) (v_2 : Int64) (v_4 : Int32) (r : Int64), f_X9_power_5 a1 a2 n (v_2, v_4) = some r → ∀ (ls : Array Slot) (H : Heap) (locs : List Loc), lv_has ls 5 [(0, .int a1), (1, .int a2), (2, .long v_2), (4, .int v_4)] → St D cy ad ns A M s.heap H locs → W p l e rm_X9_power s m args below meth c H locs 0 0 (MQ below (QC D cy ad ns A M (some (.long r))) args s 0 0 A) (F0 m 5 ls []) := by
  obtain ⟨hx, hb, hml, hown, hts, hK, hr, hlk, hA, hG⟩ := id X
  intro n
  induction n with
  | zero => intro v_2 v_4 r hX; cases (show (none : Option (Int64)) = some r from hX)
  | succ n ih =>
    intro v_2 v_4 r hX ls H locs hl hS
    have hX : b_X9_power_5 a1 a2 (fun x0 x1 => f_X9_power_5 a1 a2 n (x0, x1)) v_2 v_4 = some r := hX
    unfold b_X9_power_5 at hX
    refine lv_iload hx hb dX9_power_5 (lv_at hl 3 rfl) ?_
    refine lv_iload_n hx hb dX9_power_7 rfl (lv_at hl 1 rfl) ?_
    refine lv_icmp_ge (tgt := 22) hx hb dX9_power_8 (by decide) (fun c1 => ?_) (fun c1 => ?_)
    · have hX := if_t c1 hX
      refine lv_lload_n hx hb dX9_power_22 rfl (lv_at hl 2 rfl) ?_
      obtain rfl := some_of hX
      exact x_L (v := v_2) X hS dX9_power_23
    · have hX := if_f c1 hX
      refine lv_lload_n hx hb dX9_power_11 rfl (lv_at hl 2 rfl) ?_
      refine lv_iload_n hx hb dX9_power_12 rfl (lv_at hl 0 rfl) ?_
      refine lv_i2l (v := (Int32.toInt64 a1)) hx hb dX9_power_13 rfl ?_
      refine lv_lmul hx hb dX9_power_14 ?_
      refine lv_topl (fun v2 ev2 => ?_)
      have hX := nm_of ev2 hX
      refine lv_lstore_n (lv' := [(2, .long v2), (0, .int a1), (1, .int a2), (4, .int v_4)]) hx hb dX9_power_15 rfl hl (by decide) rfl (fun ls hl => ?_)
      obtain ⟨v3, ev3⟩ : ∃ y : Int32, y = (v_4 + nI 1) := ⟨_, rfl⟩
      have hX := nm_of ev3 hX
      refine lv_iinc (v := v3) (lv' := [(4, .int v3), (2, .long v2), (0, .int a1), (1, .int a2)]) hx hb dX9_power_16 hl (k := 3) rfl (by rw [ev3]; rfl) (by decide) rfl (fun ls hl => ?_)
      refine lv_goto (tgt := 5) hx hb dX9_power_19 (by decide) ?_
      exact ih _ _ _ hX _ _ _ (lv_sub hl [2, 3, 1, 0] rfl) hS
set_option maxRecDepth 100000 in
set_option maxHeartbeats 4000000 in
theorem m_X9_power {l : Launch} {D : va_G} {cy : Nat → ClassId} {ad : Nat → Nat → Nat} {ns : List (Nat × Nat)} {A : Nat → Prop} {M : Mem} (hN : NsC ns) {a1 : Int32} {a2 : Int32} {r : Int64} (hX : f_X9_power a1 a2 = some r) : Ct l yX9_power cX9_power 5 ((some .long)) rm_X9_power D cy ad ns A [.int a1, .int a2] M M (some (.long r)) := by
  refine ct_of (lv := [(0, .int a1), (1, .int a2)]) (by decide) (Nat.le_of_ble_eq_true rfl) rfl ?_
  intro p e s m args below meth c ls X hl hS
  obtain ⟨hx, hb, hml, hown, hts, hK, hr, hlk, hA, hG⟩ := id X
  obtain ⟨H, hH⟩ : ∃ z, z = s.heap := ⟨_, rfl⟩
  obtain ⟨locs, hlo⟩ : ∃ z : List Loc, z = [] := ⟨_, rfl⟩
  have hS : St D cy ad ns A M s.heap H locs := by rw [hH, hlo]; exact hS
  have hgoal : W p l e rm_X9_power s m args below meth c H locs 0 0 (MQ below (QC D cy ad ns A M (some (.long r))) args s 0 0 A) (F0 m 0 ls []) := by
    unfold f_X9_power at hX
    refine lv_lconst (v := lN 1) hx hb dX9_power_0 (by decide) ?_
    refine lv_topl (fun v4 ev4 => ?_)
    have hX := nm_of ev4 hX
    refine lv_lstore_n (lv' := [(2, .long v4), (0, .int a1), (1, .int a2)]) hx hb dX9_power_1 rfl hl (by decide) rfl (fun ls hl => ?_)
    refine lv_iconst (v := nI 0) hx hb dX9_power_2 (by decide) ?_
    refine lv_istore (lv' := [(4, .int (nI 0)), (2, .long v4), (0, .int a1), (1, .int a2)]) hx hb dX9_power_3 hl (by decide) rfl (fun ls hl => ?_)
    exact n_X9_power_5 X hN _ _ _ _ hX _ _ _ (lv_sub hl [2, 3, 1, 0] rfl) hS
  rw [hH, hlo] at hgoal
  exact hgoal
theorem ms_X9_power : Ms yX9_power cX9_power 5 ((some .long)) 2 := ⟨t4_228, t4_227, t1_1, ⟨by decide, by decide⟩, by decide +kernel⟩
/-! SewnYear.weight(III)J -/
def rm_X9_weight : Room := { frames := 1, cells := 0, slots := 0, locals := 24 }
def b_X9_weight_5 (a1 : Int32) (a2 : Int32) (a3 : Int32) (rc : Int64 → Int32 → Option (Int64)) (v_3 : Int64) (v_5 : Int32) : Option (Int64) :=
  if a3 < v_5 then (bn (f_X9_power a2 a3) fun r3 => bn (f_X9_power ((nI 10) - a2) (a1 - a3)) fun r5 => some ((v_3 * r3) * r5)) else (gnl (Int32.toInt64 v_5) <| nm ((v_3 * (Int32.toInt64 ((a1 - a3) + v_5))) / (Int32.toInt64 v_5)) fun v7 => nm (v_5 + nI 1) fun v8 => rc v7 v8)
def f_X9_weight_5 (a1 : Int32) (a2 : Int32) (a3 : Int32) : Nat → (Int64 × Int32) → Option (Int64) := lp (fun rc q => b_X9_weight_5 a1 a2 a3 (fun x0 x1 => rc (x0, x1)) q.1 q.2)
def f_X9_weight (a1 : Int32) (a2 : Int32) (a3 : Int32) : Option (Int64) :=
  nm (lN 1) fun v9 => f_X9_weight_5 a1 a2 a3 FU (v9, (nI 1))
set_option maxRecDepth 100000 in
set_option maxHeartbeats 4000000 in
theorem n_X9_weight_5 {a1 : Int32} {a2 : Int32} {a3 : Int32} (X : Cx p s m args meth c D cy ad A RX9 cX9_weight 6 ((some .long))) (hN : NsC ns) {M : Mem} : ∀ (n : Nat) (v_3 : Int64) (v_5 : Int32) (r : Int64), f_X9_weight_5 a1 a2 a3 n (v_3, v_5) = some r → ∀ (ls : Array Slot) (H : Heap) (locs : List Loc), lv_has ls 6 [(0, .int a1), (1, .int a2), (2, .int a3), (3, .long v_3), (5, .int v_5)] → St D cy ad ns A M s.heap H locs → W p l e rm_X9_weight s m args below meth c H locs 0 0 (MQ below (QC D cy ad ns A M (some (.long r))) args s 0 0 A) (F0 m 5 ls []) := by
  obtain ⟨hx, hb, hml, hown, hts, hK, hr, hlk, hA, hG⟩ := id X
  intro n
  induction n with
  | zero => intro v_3 v_5 r hX; cases (show (none : Option (Int64)) = some r from hX)
  | succ n ih =>
    intro v_3 v_5 r hX ls H locs hl hS
    have hX : b_X9_weight_5 a1 a2 a3 (fun x0 x1 => f_X9_weight_5 a1 a2 a3 n (x0, x1)) v_3 v_5 = some r := hX
    unfold b_X9_weight_5 at hX
    refine lv_iload hx hb dX9_weight_5 (lv_at hl 4 rfl) ?_
    refine lv_iload_n hx hb dX9_weight_7 rfl (lv_at hl 2 rfl) ?_
    refine lv_icmp_gt (tgt := 31) hx hb dX9_weight_8 (by decide) (fun c1 => ?_) (fun c1 => ?_)
    · have hX := if_t c1 hX
      refine lv_lload_n hx hb dX9_weight_31 rfl (lv_at hl 3 rfl) ?_
      refine lv_iload_n hx hb dX9_weight_32 rfl (lv_at hl 1 rfl) ?_
      refine lv_iload_n hx hb dX9_weight_33 rfl (lv_at hl 2 rfl) ?_
      obtain ⟨r3, h2, hX⟩ := bn_of hX
      refine r_callS1 (v := .long r3) (As := [.int a2, .int a3]) (rest := [.long v_3]) X hS (m_X9_power (M := M) hN h2) ms_X9_power t4_226 ⟨rfl, rfl, Nat.le_of_ble_eq_true rfl, Nat.le_of_ble_eq_true rfl⟩ rfl hl.1 rfl (Nat.le_of_ble_eq_true rfl) ⟨Nat.zero_le _, Nat.zero_le _⟩ dX9_weight_34 (fun H locs hS => ?_)
      refine lv_lmul hx hb dX9_weight_37 ?_
      refine lv_bipush (v := nI 10) hx hb dX9_weight_38 (by decide) ?_
      refine lv_iload_n hx hb dX9_weight_40 rfl (lv_at hl 1 rfl) ?_
      refine lv_isub hx hb dX9_weight_41 ?_
      refine lv_iload_n hx hb dX9_weight_42 rfl (lv_at hl 0 rfl) ?_
      refine lv_iload_n hx hb dX9_weight_43 rfl (lv_at hl 2 rfl) ?_
      refine lv_isub hx hb dX9_weight_44 ?_
      obtain ⟨r5, h4, hX⟩ := bn_of hX
      refine r_callS1 (v := .long r5) (As := [.int ((nI 10) - a2), .int (a1 - a3)]) (rest := [.long (v_3 * r3)]) X hS (m_X9_power (M := M) hN h4) ms_X9_power t4_226 ⟨rfl, rfl, Nat.le_of_ble_eq_true rfl, Nat.le_of_ble_eq_true rfl⟩ rfl hl.1 rfl (Nat.le_of_ble_eq_true rfl) ⟨Nat.zero_le _, Nat.zero_le _⟩ dX9_weight_45 (fun H locs hS => ?_)
      refine lv_lmul hx hb dX9_weight_48 ?_
      obtain rfl := some_of hX
      exact x_L (v := ((v_3 * r3) * r5)) X hS dX9_weight_49
    · have hX := if_f c1 hX
      refine lv_lload_n hx hb dX9_weight_11 rfl (lv_at hl 3 rfl) ?_
      refine lv_iload_n hx hb dX9_weight_12 rfl (lv_at hl 0 rfl) ?_
      refine lv_iload_n hx hb dX9_weight_13 rfl (lv_at hl 2 rfl) ?_
      refine lv_isub hx hb dX9_weight_14 ?_
      refine lv_iload hx hb dX9_weight_15 (lv_at hl 4 rfl) ?_
      refine lv_iadd hx hb dX9_weight_17 ?_
      refine lv_i2l (v := (Int32.toInt64 ((a1 - a3) + v_5))) hx hb dX9_weight_18 rfl ?_
      refine lv_lmul hx hb dX9_weight_19 ?_
      refine lv_iload hx hb dX9_weight_20 (lv_at hl 4 rfl) ?_
      refine lv_i2l (v := (Int32.toInt64 v_5)) hx hb dX9_weight_22 rfl ?_
      obtain ⟨g6, hX⟩ := gnl_of hX
      refine lv_ldiv hx hb dX9_weight_23 g6 ?_
      refine lv_topl (fun v7 ev7 => ?_)
      have hX := nm_of ev7 hX
      refine lv_lstore_n (lv' := [(3, .long v7), (0, .int a1), (1, .int a2), (2, .int a3), (5, .int v_5)]) hx hb dX9_weight_24 rfl hl (by decide) rfl (fun ls hl => ?_)
      obtain ⟨v8, ev8⟩ : ∃ y : Int32, y = (v_5 + nI 1) := ⟨_, rfl⟩
      have hX := nm_of ev8 hX
      refine lv_iinc (v := v8) (lv' := [(5, .int v8), (3, .long v7), (0, .int a1), (1, .int a2), (2, .int a3)]) hx hb dX9_weight_25 hl (k := 4) rfl (by rw [ev8]; rfl) (by decide) rfl (fun ls hl => ?_)
      refine lv_goto (tgt := 5) hx hb dX9_weight_28 (by decide) ?_
      exact ih _ _ _ hX _ _ _ (lv_sub hl [2, 3, 4, 1, 0] rfl) hS
set_option maxRecDepth 100000 in
set_option maxHeartbeats 4000000 in
theorem m_X9_weight {l : Launch} {D : va_G} {cy : Nat → ClassId} {ad : Nat → Nat → Nat} {ns : List (Nat × Nat)} {A : Nat → Prop} {M : Mem} (hN : NsC ns) {a1 : Int32} {a2 : Int32} {a3 : Int32} {r : Int64} (hX : f_X9_weight a1 a2 a3 = some r) : Ct l yX9_weight cX9_weight 6 ((some .long)) rm_X9_weight D cy ad ns A [.int a1, .int a2, .int a3] M M (some (.long r)) := by
  refine ct_of (lv := [(0, .int a1), (1, .int a2), (2, .int a3)]) (by decide) (Nat.le_of_ble_eq_true rfl) rfl ?_
  intro p e s m args below meth c ls X hl hS
  obtain ⟨hx, hb, hml, hown, hts, hK, hr, hlk, hA, hG⟩ := id X
  obtain ⟨H, hH⟩ : ∃ z, z = s.heap := ⟨_, rfl⟩
  obtain ⟨locs, hlo⟩ : ∃ z : List Loc, z = [] := ⟨_, rfl⟩
  have hS : St D cy ad ns A M s.heap H locs := by rw [hH, hlo]; exact hS
  have hgoal : W p l e rm_X9_weight s m args below meth c H locs 0 0 (MQ below (QC D cy ad ns A M (some (.long r))) args s 0 0 A) (F0 m 0 ls []) := by
    unfold f_X9_weight at hX
    refine lv_lconst (v := lN 1) hx hb dX9_weight_0 (by decide) ?_
    refine lv_topl (fun v9 ev9 => ?_)
    have hX := nm_of ev9 hX
    refine lv_lstore_n (lv' := [(3, .long v9), (0, .int a1), (1, .int a2), (2, .int a3)]) hx hb dX9_weight_1 rfl hl (by decide) rfl (fun ls hl => ?_)
    refine lv_iconst (v := nI 1) hx hb dX9_weight_2 (by decide) ?_
    refine lv_istore (lv' := [(5, .int (nI 1)), (3, .long v9), (0, .int a1), (1, .int a2), (2, .int a3)]) hx hb dX9_weight_3 hl (by decide) rfl (fun ls hl => ?_)
    exact n_X9_weight_5 X hN _ _ _ _ hX _ _ _ (lv_sub hl [2, 3, 4, 1, 0] rfl) hS
  rw [hH, hlo] at hgoal
  exact hgoal
theorem ms_X9_weight : Ms yX9_weight cX9_weight 6 ((some .long)) 3 := ⟨t4_231, t4_230, t1_1, ⟨by decide, by decide⟩, by decide +kernel⟩
/-! SewnYear.inLeastTerms(JJZ)J -/
def rm_X9_inLeastTerms : Room := { frames := 0, cells := 0, slots := 0, locals := 0 }
def f_X9_inLeastTerms_45 (a1 : Int64) (a2 : Int64) (a3 : Bool) (v_5 : Int64) : Option (Int64) :=
  if (nI 0) ≤ (lg_cmp v_5 (lN 1)) then (if a3 = true then (gnl v_5 <| some (a2 / v_5)) else (gnl v_5 <| some (a1 / v_5))) else (some (-1 : Int64))
def b_X9_inLeastTerms_9 (a1 : Int64) (a2 : Int64) (a3 : Bool) (rc : Int64 → Int64 → Int32 → Option (Int64)) (v_5 : Int64) (v_7 : Int64) (v_9 : Int32) : Option (Int64) :=
  if (nI 1000) ≤ v_9 then (f_X9_inLeastTerms_45 a1 a2 a3 v_5) else (if (lg_cmp v_7 (lN 0)) = (nI 0) then (f_X9_inLeastTerms_45 a1 a2 a3 v_5) else (gnl v_7 <| nm (v_5 - v_5 / v_7 * v_7) fun v8 => nm (v_9 + nI 1) fun v9 => rc v_7 v8 v9))
def f_X9_inLeastTerms_9 (a1 : Int64) (a2 : Int64) (a3 : Bool) : Nat → (Int64 × Int64 × Int32) → Option (Int64) := lp (fun rc q => b_X9_inLeastTerms_9 a1 a2 a3 (fun x0 x1 x2 => rc (x0, x1, x2)) q.1 q.2.1 q.2.2)
def f_X9_inLeastTerms (a1 : Int64) (a2 : Int64) (a3 : Bool) : Option (Int64) :=
  f_X9_inLeastTerms_9 a1 a2 a3 FU (a2, a1, (nI 0))
set_option maxRecDepth 100000 in
set_option maxHeartbeats 4000000 in
theorem n_X9_inLeastTerms_45 {a1 : Int64} {a2 : Int64} {a3 : Bool} (X : Cx p s m args meth c D cy ad A RX9 cX9_inLeastTerms 12 ((some .long))) (hN : NsC ns) {M : Mem} {v_5 : Int64} {r : Int64} (hX : f_X9_inLeastTerms_45 a1 a2 a3 v_5 = some r) : ∀ (ls : Array Slot) (H : Heap) (locs : List Loc), lv_has ls 12 [(0, .long a1), (2, .long a2), (4, .int (b2i a3)), (5, .long v_5)] → St D cy ad ns A M s.heap H locs → W p l e rm_X9_inLeastTerms s m args below meth c H locs 0 0 (MQ below (QC D cy ad ns A M (some (.long r))) args s 0 0 A) (F0 m 45 ls []) := by
  obtain ⟨hx, hb, hml, hown, hts, hK, hr, hlk, hA, hG⟩ := id X
  intro ls H locs hl hS
  unfold f_X9_inLeastTerms_45 at hX
  refine lv_lload hx hb dX9_inLeastTerms_45 (lv_at hl 3 rfl) ?_
  refine lv_lconst (v := lN 1) hx hb dX9_inLeastTerms_47 (by decide) ?_
  refine W.lcmp hx hb dX9_inLeastTerms_48 ?_
  refine lv_if_ge (tgt := 56) hx hb dX9_inLeastTerms_49 (by decide) (fun c1 => ?_) (fun c1 => ?_)
  · have hX := if_t c1 hX
    refine lv_iload hx hb dX9_inLeastTerms_56 (lv_at hl 2 rfl) ?_
    refine lv_if_eq (tgt := 68) hx hb dX9_inLeastTerms_58 (by decide) (fun c2 => ?_) (fun c2 => ?_)
    · have hX := if_bf c2 hX
      refine lv_lload_n hx hb dX9_inLeastTerms_68 rfl (lv_at hl 0 rfl) ?_
      refine lv_lload hx hb dX9_inLeastTerms_69 (lv_at hl 3 rfl) ?_
      obtain ⟨g3, hX⟩ := gnl_of hX
      refine lv_ldiv hx hb dX9_inLeastTerms_71 g3 ?_
      obtain rfl := some_of hX
      exact x_L (v := (a1 / v_5)) X hS dX9_inLeastTerms_72
    · have hX := if_bt c2 hX
      refine lv_lload_n hx hb dX9_inLeastTerms_61 rfl (lv_at hl 1 rfl) ?_
      refine lv_lload hx hb dX9_inLeastTerms_62 (lv_at hl 3 rfl) ?_
      obtain ⟨g4, hX⟩ := gnl_of hX
      refine lv_ldiv hx hb dX9_inLeastTerms_64 g4 ?_
      refine lv_goto (tgt := 72) hx hb dX9_inLeastTerms_65 (by decide) ?_
      obtain rfl := some_of hX
      exact x_L (v := (a2 / v_5)) X hS dX9_inLeastTerms_72
  · have hX := if_f c1 hX
    refine lv_ldc2 hx hb (own := RX9) hown (hts _ t4_30) dX9_inLeastTerms_52 ?_
    obtain rfl := some_of hX
    exact x_L (v := (-1 : Int64)) X hS dX9_inLeastTerms_55
set_option maxRecDepth 100000 in
set_option maxHeartbeats 4000000 in
theorem n_X9_inLeastTerms_9 {a1 : Int64} {a2 : Int64} {a3 : Bool} (X : Cx p s m args meth c D cy ad A RX9 cX9_inLeastTerms 12 ((some .long))) (hN : NsC ns) {M : Mem} : ∀ (n : Nat) (v_5 : Int64) (v_7 : Int64) (v_9 : Int32) (r : Int64), f_X9_inLeastTerms_9 a1 a2 a3 n (v_5, v_7, v_9) = some r → ∀ (ls : Array Slot) (H : Heap) (locs : List Loc), lv_has ls 12 [(0, .long a1), (2, .long a2), (4, .int (b2i a3)), (5, .long v_5), (7, .long v_7), (9, .int v_9)] → St D cy ad ns A M s.heap H locs → W p l e rm_X9_inLeastTerms s m args below meth c H locs 0 0 (MQ below (QC D cy ad ns A M (some (.long r))) args s 0 0 A) (F0 m 9 ls []) := by
  obtain ⟨hx, hb, hml, hown, hts, hK, hr, hlk, hA, hG⟩ := id X
  intro n
  induction n with
  | zero => intro v_5 v_7 v_9 r hX; cases (show (none : Option (Int64)) = some r from hX)
  | succ n ih =>
    intro v_5 v_7 v_9 r hX ls H locs hl hS
    have hX : b_X9_inLeastTerms_9 a1 a2 a3 (fun x0 x1 x2 => f_X9_inLeastTerms_9 a1 a2 a3 n (x0, x1, x2)) v_5 v_7 v_9 = some r := hX
    unfold b_X9_inLeastTerms_9 at hX
    refine lv_iload hx hb dX9_inLeastTerms_9 (lv_at hl 5 rfl) ?_
    refine lv_sipush (v := nI 1000) hx hb dX9_inLeastTerms_11 (by decide) ?_
    refine lv_icmp_ge (tgt := 45) hx hb dX9_inLeastTerms_14 (by decide) (fun c5 => ?_) (fun c5 => ?_)
    · have hX := if_t c5 hX
      exact n_X9_inLeastTerms_45 X hN hX _ _ _ (lv_sub hl [0, 1, 2, 3] rfl) hS
    · have hX := if_f c5 hX
      refine lv_lload hx hb dX9_inLeastTerms_17 (lv_at hl 4 rfl) ?_
      refine lv_lconst (v := lN 0) hx hb dX9_inLeastTerms_19 (by decide) ?_
      refine W.lcmp hx hb dX9_inLeastTerms_20 ?_
      refine lv_if_eq (tgt := 45) hx hb dX9_inLeastTerms_21 (by decide) (fun c6 => ?_) (fun c6 => ?_)
      · have hX := if_t c6 hX
        exact n_X9_inLeastTerms_45 X hN hX _ _ _ (lv_sub hl [0, 1, 2, 3] rfl) hS
      · have hX := if_f c6 hX
        refine lv_lload hx hb dX9_inLeastTerms_24 (lv_at hl 3 rfl) ?_
        refine lv_lload hx hb dX9_inLeastTerms_26 (lv_at hl 4 rfl) ?_
        obtain ⟨g7, hX⟩ := gnl_of hX
        refine lv_lrem hx hb dX9_inLeastTerms_28 g7 ?_
        refine lv_topl (fun v8 ev8 => ?_)
        have hX := nm_of ev8 hX
        refine lv_lstore (lv' := [(10, .long v8), (0, .long a1), (2, .long a2), (4, .int (b2i a3)), (5, .long v_5), (7, .long v_7), (9, .int v_9)]) hx hb dX9_inLeastTerms_29 hl (by decide) rfl (fun ls hl => ?_)
        refine lv_lload hx hb dX9_inLeastTerms_31 (lv_at hl 5 rfl) ?_
        refine lv_lstore (lv' := [(5, .long v_7), (10, .long v8), (0, .long a1), (2, .long a2), (4, .int (b2i a3)), (7, .long v_7), (9, .int v_9)]) hx hb dX9_inLeastTerms_33 hl (by decide) rfl (fun ls hl => ?_)
        refine lv_lload hx hb dX9_inLeastTerms_35 (lv_at hl 1 rfl) ?_
        refine lv_lstore (lv' := [(7, .long v8), (5, .long v_7), (10, .long v8), (0, .long a1), (2, .long a2), (4, .int (b2i a3)), (9, .int v_9)]) hx hb dX9_inLeastTerms_37 hl (by decide) rfl (fun ls hl => ?_)
        obtain ⟨v9, ev9⟩ : ∃ y : Int32, y = (v_9 + nI 1) := ⟨_, rfl⟩
        have hX := nm_of ev9 hX
        refine lv_iinc (v := v9) (lv' := [(9, .int v9), (7, .long v8), (5, .long v_7), (10, .long v8), (0, .long a1), (2, .long a2), (4, .int (b2i a3))]) hx hb dX9_inLeastTerms_39 hl (k := 6) rfl (by rw [ev9]; rfl) (by decide) rfl (fun ls hl => ?_)
        refine lv_goto (tgt := 9) hx hb dX9_inLeastTerms_42 (by decide) ?_
        exact ih _ _ _ _ hX _ _ _ (lv_sub hl [4, 5, 6, 2, 1, 0] rfl) hS
set_option maxRecDepth 100000 in
set_option maxHeartbeats 4000000 in
theorem m_X9_inLeastTerms {l : Launch} {D : va_G} {cy : Nat → ClassId} {ad : Nat → Nat → Nat} {ns : List (Nat × Nat)} {A : Nat → Prop} {M : Mem} (hN : NsC ns) {a1 : Int64} {a2 : Int64} {a3 : Bool} {r : Int64} (hX : f_X9_inLeastTerms a1 a2 a3 = some r) : Ct l yX9_inLeastTerms cX9_inLeastTerms 12 ((some .long)) rm_X9_inLeastTerms D cy ad ns A [.long a1, .long a2, .int (b2i a3)] M M (some (.long r)) := by
  refine ct_of (lv := [(0, .long a1), (2, .long a2), (4, .int (b2i a3))]) (by decide) (Nat.le_of_ble_eq_true rfl) rfl ?_
  intro p e s m args below meth c ls X hl hS
  obtain ⟨hx, hb, hml, hown, hts, hK, hr, hlk, hA, hG⟩ := id X
  obtain ⟨H, hH⟩ : ∃ z, z = s.heap := ⟨_, rfl⟩
  obtain ⟨locs, hlo⟩ : ∃ z : List Loc, z = [] := ⟨_, rfl⟩
  have hS : St D cy ad ns A M s.heap H locs := by rw [hH, hlo]; exact hS
  have hgoal : W p l e rm_X9_inLeastTerms s m args below meth c H locs 0 0 (MQ below (QC D cy ad ns A M (some (.long r))) args s 0 0 A) (F0 m 0 ls []) := by
    unfold f_X9_inLeastTerms at hX
    refine lv_lload_n hx hb dX9_inLeastTerms_0 rfl (lv_at hl 1 rfl) ?_
    refine lv_lstore (lv' := [(5, .long a2), (0, .long a1), (2, .long a2), (4, .int (b2i a3))]) hx hb dX9_inLeastTerms_1 hl (by decide) rfl (fun ls hl => ?_)
    refine lv_lload_n hx hb dX9_inLeastTerms_3 rfl (lv_at hl 1 rfl) ?_
    refine lv_lstore (lv' := [(7, .long a1), (5, .long a2), (0, .long a1), (2, .long a2), (4, .int (b2i a3))]) hx hb dX9_inLeastTerms_4 hl (by decide) rfl (fun ls hl => ?_)
    refine lv_iconst (v := nI 0) hx hb dX9_inLeastTerms_6 (by decide) ?_
    refine lv_istore (lv' := [(9, .int (nI 0)), (7, .long a1), (5, .long a2), (0, .long a1), (2, .long a2), (4, .int (b2i a3))]) hx hb dX9_inLeastTerms_7 hl (by decide) rfl (fun ls hl => ?_)
    exact n_X9_inLeastTerms_9 X hN _ _ _ _ _ hX _ _ _ (lv_sub hl [3, 4, 5, 2, 1, 0] rfl) hS
  rw [hH, hlo] at hgoal
  exact hgoal
theorem ms_X9_inLeastTerms : Ms yX9_inLeastTerms cX9_inLeastTerms 12 ((some .long)) 3 := ⟨t4_234, t4_233, t1_1, ⟨by decide, by decide⟩, by decide +kernel⟩
end MT_13_X9a
