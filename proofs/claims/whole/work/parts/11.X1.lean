section FR_11_X1
variable {p : Program} {l : Launch} {e : Env} {R : Room} {s : State} {m : MethodId} {args : Array Value} {below : List Frame} {meth : Method} {c : Code} {H : Heap} {locs : List Loc} {cells slots : Nat} {Q : State → Prop} {D : va_G} {cy : Nat → ClassId} {ad : Nat → Nat → Nat} {ns : List (Nat × Nat)} {A : Nat → Prop} {M M' : Mem} {cc : ByteArray} {nL : Nat} {ret : Option FieldType} {pc : Nat} {ls : Array Slot} {rest : List Value}
theorem fg_X1_9 (X : Cx p s m args meth c D cy ad A RX1 cc nL ret) (hS : St D cy ad ns A M s.heap H locs) {o : Nat} (ho : Ob ns 1 o) (hdg : decode cc pc = .ok (.getfield 9, 3)) (kk : W p l e R s m args below meth c H locs cells slots Q (F0 m (pc + 3) ls (.ref (ad o (1 + 1)) :: rest))) : W p l e R s m args below meth c H locs cells slots Q (F0 m pc ls (.ref (ad o 0) :: rest)) := r_get X hS (C := RX1) (T := TX1) (N := 3) (k := 1) tf1 rfl rfl ho (by decide) t1_96 ⟨rfl, rfl, rfl⟩ (by unfold fv; rw [ho.1]; rfl) hdg kk
theorem fg_X1_15 (X : Cx p s m args meth c D cy ad A RX1 cc nL ret) (hS : St D cy ad ns A M s.heap H locs) {o : Nat} (ho : Ob ns 1 o) (hdg : decode cc pc = .ok (.getfield 15, 3)) (kk : W p l e R s m args below meth c H locs cells slots Q (F0 m (pc + 3) ls (.ref (ad o (2 + 1)) :: rest))) : W p l e R s m args below meth c H locs cells slots Q (F0 m pc ls (.ref (ad o 0) :: rest)) := r_get X hS (C := RX1) (T := TX1) (N := 3) (k := 2) tf1 rfl rfl ho (by decide) t1_98 ⟨rfl, rfl, rfl⟩ (by unfold fv; rw [ho.1]; rfl) hdg kk
theorem fg_X1_18 (X : Cx p s m args meth c D cy ad A RX1 cc nL ret) (hS : St D cy ad ns A M s.heap H locs) {o : Nat} (ho : Ob ns 1 o) (hdg : decode cc pc = .ok (.getfield 18, 3)) (kk : W p l e R s m args below meth c H locs cells slots Q (F0 m (pc + 3) ls (.int (gI M o 0) :: rest))) : W p l e R s m args below meth c H locs cells slots Q (F0 m pc ls (.ref (ad o 0) :: rest)) := r_get X hS (C := RX1) (T := TX1) (N := 3) (k := 0) tf1 rfl rfl ho (by decide) t1_92 ⟨rfl, rfl, rfl⟩ (by unfold fv; rw [ho.1]; rfl) hdg kk
theorem fp_X1_18 (X : Cx p s m args meth c D cy ad A RX1 cc nL ret) (hS : St D cy ad ns A M s.heap H locs) {o : Nat} (ho : Ob ns 1 o) {v : Int32} (hdg : decode cc pc = .ok (.putfield 18, 3)) (kk : ∀ (H1 : Heap) (locs1 : List Loc), St D cy ad ns A (sI M o 0 v) s.heap H1 locs1 → W p l e R s m args below meth c H1 locs1 cells slots Q (F0 m (pc + 3) ls rest)) : W p l e R s m args below meth c H locs cells slots Q (F0 m pc ls (.int v :: .ref (ad o 0) :: rest)) := r_put X hS (C := RX1) (T := TX1) (N := 3) (k := 0) tf1 rfl rfl tyX1 tyX1_ok nmX1 ho (by decide) t1_92 ⟨rfl, rfl, rfl⟩ rfl (ty := .int) (by decide +kernel) rfl rfl (wr_sI hS.1.2.2) (cel_sI (by rw [ho.1]; decide) (by rw [ho.1]; rfl)) (fun q hq => cel_sI' hq) hdg kk
end FR_11_X1
section MT_11_X1
variable {p : Program} {l : Launch} {e : Env} {s : State} {m : MethodId} {args : Array Value} {below : List Frame} {meth : Method} {c : Code} {D : va_G} {cy : Nat → ClassId} {ad : Nat → Nat → Nat} {ns : List (Nat × Nat)} {A : Nat → Prop}
/-! SewnYear$Life.take(LSewnYear$Life;)V -/
def rm_X1_take : Room := { frames := 1, cells := 0, slots := 0, locals := 60 }
def f_X1_take (M : Mem) (o : Nat) (a1 : Nat) : Option (Mem) :=
  nm (sI M o 0 (gI M a1 0)) fun M1 => nm (cpA M1 a1 1 o 1 40) fun M2 => nm (cpA M2 a1 2 o 2 40) fun M3 => some M3
set_option maxRecDepth 100000 in
set_option maxHeartbeats 4000000 in
theorem m_X1_take {l : Launch} {D : va_G} {cy : Nat → ClassId} {ad : Nat → Nat → Nat} {ns : List (Nat × Nat)} {A : Nat → Prop} {M : Mem} (hN : NsC ns) {o : Nat} {a1 : Nat} (ho : Ob ns 1 o) (ha1 : Ob ns 1 a1) {r : Mem} (hX : f_X1_take M o a1 = some r) : Ct l yX1_take cX1_take 2 ((none : Option Jvm.ClassFile.FieldType)) rm_X1_take D cy ad ns A [.ref (ad o 0), .ref (ad a1 0)] M r none := by
  refine ct_of (lv := [(0, .ref (ad o 0)), (1, .ref (ad a1 0))]) (by decide) (Nat.le_of_ble_eq_true rfl) rfl ?_
  intro p e s m args below meth c ls X hl hS
  obtain ⟨hx, hb, hml, hown, hts, hK, hr, hlk, hA, hG⟩ := id X
  obtain ⟨H, hH⟩ : ∃ z, z = s.heap := ⟨_, rfl⟩
  obtain ⟨locs, hlo⟩ : ∃ z : List Loc, z = [] := ⟨_, rfl⟩
  have hS : St D cy ad ns A M s.heap H locs := by rw [hH, hlo]; exact hS
  have hgoal : W p l e rm_X1_take s m args below meth c H locs 0 0 (MQ below (QC D cy ad ns A r none) args s 0 0 A) (F0 m 0 ls []) := by
    unfold f_X1_take at hX
    refine lv_aload_n hx hb dX1_take_0 rfl (lv_at hl 0 rfl) ?_
    refine lv_aload_n hx hb dX1_take_1 rfl (lv_at hl 1 rfl) ?_
    refine fg_X1_18 X hS ha1 dX1_take_2 ?_
    refine fp_X1_18 X hS ho dX1_take_5 (fun H locs hS => ?_)
    obtain ⟨M1, eM1, hS, hX⟩ := nm_mem hS hX
    refine lv_aload_n hx hb dX1_take_8 rfl (lv_at hl 1 rfl) ?_
    refine fg_X1_9 X hS ha1 dX1_take_9 ?_
    refine lv_iconst (v := nI 0) hx hb dX1_take_12 (by decide) ?_
    refine lv_aload_n hx hb dX1_take_13 rfl (lv_at hl 0 rfl) ?_
    refine fg_X1_9 X hS ho dX1_take_14 ?_
    refine lv_iconst (v := nI 0) hx hb dX1_take_17 (by decide) ?_
    refine lv_bipush (v := nI 40) hx hb dX1_take_18 (by decide) ?_
    refine r_copy (c0 := 1) (c1 := 1) (o := a1) (k := 1) (o' := o) (k' := 1) (n := 40) X hS ha1 ho rfl rfl (by decide) (by decide) (by decide) (by decide) hl.1 t3_157 t3_152 t3_151 t1_18 (Nat.le_of_ble_eq_true rfl) (Nat.le_of_ble_eq_true rfl) dX1_take_20 (fun H locs hS => ?_)
    obtain ⟨M2, eM2, hS, hX⟩ := nm_mem hS hX
    refine lv_aload_n hx hb dX1_take_23 rfl (lv_at hl 1 rfl) ?_
    refine fg_X1_15 X hS ha1 dX1_take_24 ?_
    refine lv_iconst (v := nI 0) hx hb dX1_take_27 (by decide) ?_
    refine lv_aload_n hx hb dX1_take_28 rfl (lv_at hl 0 rfl) ?_
    refine fg_X1_15 X hS ho dX1_take_29 ?_
    refine lv_iconst (v := nI 0) hx hb dX1_take_32 (by decide) ?_
    refine lv_bipush (v := nI 40) hx hb dX1_take_33 (by decide) ?_
    refine r_copy (c0 := 1) (c1 := 1) (o := a1) (k := 2) (o' := o) (k' := 2) (n := 40) X hS ha1 ho rfl rfl (by decide) (by decide) (by decide) (by decide) hl.1 t3_157 t3_152 t3_151 t1_18 (Nat.le_of_ble_eq_true rfl) (Nat.le_of_ble_eq_true rfl) dX1_take_35 (fun H locs hS => ?_)
    obtain ⟨M3, eM3, hS, hX⟩ := nm_mem hS hX
    obtain rfl := some_of hX
    exact x_V X hS dX1_take_38
  rw [hH, hlo] at hgoal
  exact hgoal
theorem mv_X1_take : Mv yX1_take RX1 cX1_take 2 ((none : Option Jvm.ClassFile.FieldType)) 1 := ⟨t3_156, t3_154, t3_155, t1_4, ⟨by decide, by decide⟩, by decide +kernel⟩
/-! SewnYear$Life.addDeed(II)V -/
def rm_X1_addDeed : Room := { frames := 0, cells := 0, slots := 0, locals := 0 }
def f_X1_addDeed (M : Mem) (o : Nat) (a1 : Int32) (a2 : Int32) : Option (Mem) :=
  if (nI 40) ≤ (gI M o 0) then (some M) else (gin (gI M o 0) 40 <| nm (sA M o 1 (ix (gI M o 0)) a1) fun M3 => gin (gI M3 o 0) 40 <| nm (sA M3 o 2 (ix (gI M3 o 0)) a2) fun M5 => nm (sI M5 o 0 ((gI M5 o 0) + (nI 1))) fun M6 => some M6)
set_option maxRecDepth 100000 in
set_option maxHeartbeats 4000000 in
theorem m_X1_addDeed {l : Launch} {D : va_G} {cy : Nat → ClassId} {ad : Nat → Nat → Nat} {ns : List (Nat × Nat)} {A : Nat → Prop} {M : Mem} (hN : NsC ns) {o : Nat} {a1 : Int32} {a2 : Int32} (ho : Ob ns 1 o) {r : Mem} (hX : f_X1_addDeed M o a1 a2 = some r) : Ct l yX1_addDeed cX1_addDeed 3 ((none : Option Jvm.ClassFile.FieldType)) rm_X1_addDeed D cy ad ns A [.ref (ad o 0), .int a1, .int a2] M r none := by
  refine ct_of (lv := [(0, .ref (ad o 0)), (1, .int a1), (2, .int a2)]) (by decide) (Nat.le_of_ble_eq_true rfl) rfl ?_
  intro p e s m args below meth c ls X hl hS
  obtain ⟨hx, hb, hml, hown, hts, hK, hr, hlk, hA, hG⟩ := id X
  obtain ⟨H, hH⟩ : ∃ z, z = s.heap := ⟨_, rfl⟩
  obtain ⟨locs, hlo⟩ : ∃ z : List Loc, z = [] := ⟨_, rfl⟩
  have hS : St D cy ad ns A M s.heap H locs := by rw [hH, hlo]; exact hS
  have hgoal : W p l e rm_X1_addDeed s m args below meth c H locs 0 0 (MQ below (QC D cy ad ns A r none) args s 0 0 A) (F0 m 0 ls []) := by
    unfold f_X1_addDeed at hX
    refine lv_aload_n hx hb dX1_addDeed_0 rfl (lv_at hl 0 rfl) ?_
    refine fg_X1_18 X hS ho dX1_addDeed_1 ?_
    refine lv_bipush (v := nI 40) hx hb dX1_addDeed_4 (by decide) ?_
    refine lv_icmp_ge (tgt := 39) hx hb dX1_addDeed_6 (by decide) (fun c1 => ?_) (fun c1 => ?_)
    · have hX := if_t c1 hX
      obtain rfl := some_of hX
      exact x_V X hS dX1_addDeed_39
    · have hX := if_f c1 hX
      refine lv_aload_n hx hb dX1_addDeed_9 rfl (lv_at hl 0 rfl) ?_
      refine fg_X1_9 X hS ho dX1_addDeed_10 ?_
      refine lv_aload_n hx hb dX1_addDeed_13 rfl (lv_at hl 0 rfl) ?_
      refine fg_X1_18 X hS ho dX1_addDeed_14 ?_
      refine lv_iload_n hx hb dX1_addDeed_17 rfl (lv_at hl 1 rfl) ?_
      obtain ⟨g2, hX⟩ := gin_of hX
      refine r_iast (ci := 1) (o := o) (k := 1) (n := 40) X hS ho rfl rfl g2 dX1_addDeed_18 (fun H locs hS => ?_)
      obtain ⟨M3, eM3, hS, hX⟩ := nm_mem hS hX
      refine lv_aload_n hx hb dX1_addDeed_19 rfl (lv_at hl 0 rfl) ?_
      refine fg_X1_15 X hS ho dX1_addDeed_20 ?_
      refine lv_aload_n hx hb dX1_addDeed_23 rfl (lv_at hl 0 rfl) ?_
      refine fg_X1_18 X hS ho dX1_addDeed_24 ?_
      refine lv_iload_n hx hb dX1_addDeed_27 rfl (lv_at hl 2 rfl) ?_
      obtain ⟨g4, hX⟩ := gin_of hX
      refine r_iast (ci := 1) (o := o) (k := 2) (n := 40) X hS ho rfl rfl g4 dX1_addDeed_28 (fun H locs hS => ?_)
      obtain ⟨M5, eM5, hS, hX⟩ := nm_mem hS hX
      refine lv_aload_n hx hb dX1_addDeed_29 rfl (lv_at hl 0 rfl) ?_
      refine lv_dup hx hb dX1_addDeed_30 rfl ?_
      refine fg_X1_18 X hS ho dX1_addDeed_31 ?_
      refine lv_iconst (v := nI 1) hx hb dX1_addDeed_34 (by decide) ?_
      refine lv_iadd hx hb dX1_addDeed_35 ?_
      refine fp_X1_18 X hS ho dX1_addDeed_36 (fun H locs hS => ?_)
      obtain ⟨M6, eM6, hS, hX⟩ := nm_mem hS hX
      obtain rfl := some_of hX
      exact x_V X hS dX1_addDeed_39
  rw [hH, hlo] at hgoal
  exact hgoal
theorem mv_X1_addDeed : Mv yX1_addDeed RX1 cX1_addDeed 3 ((none : Option Jvm.ClassFile.FieldType)) 2 := ⟨t3_125, t3_123, t3_124, t1_4, ⟨by decide, by decide⟩, by decide +kernel⟩
/-! SewnYear$Life.tell(II)I -/
def rm_X1_tell : Room := { frames := 0, cells := 0, slots := 0, locals := 0 }
def f_X1_tell_14 (M : Mem) (o : Nat) (a1 : Int32) (a2 : Int32) : Option (Int32) :=
  if a1 < (nI 0) then (some (-2)) else (if a1 < (gI M o 0) then (if a2 = nI 0 then (gin a1 40 <| some (gA M o 1 (ix a1))) else if a2 = nI 1 then (gin a1 40 <| some (gA M o 2 (ix a1))) else (some (-2))) else (some (-2)))
def f_X1_tell (M : Mem) (o : Nat) (a1 : Int32) (a2 : Int32) : Option (Int32) :=
  if a1 = (-1) then (if a2 = (nI 0) then (some (gI M o 0)) else (f_X1_tell_14 M o a1 a2)) else (f_X1_tell_14 M o a1 a2)
set_option maxRecDepth 100000 in
set_option maxHeartbeats 4000000 in
theorem n_X1_tell_14 {o : Nat} {a1 : Int32} {a2 : Int32} (X : Cx p s m args meth c D cy ad A RX1 cX1_tell 3 ((some .int))) (hN : NsC ns) (ho : Ob ns 1 o) {M : Mem} {r : Int32} (hX : f_X1_tell_14 M o a1 a2 = some r) : ∀ (ls : Array Slot) (H : Heap) (locs : List Loc), lv_has ls 3 [(0, .ref (ad o 0)), (1, .int a1), (2, .int a2)] → St D cy ad ns A M s.heap H locs → W p l e rm_X1_tell s m args below meth c H locs 0 0 (MQ below (QC D cy ad ns A M (some (.int r))) args s 0 0 A) (F0 m 14 ls []) := by
  obtain ⟨hx, hb, hml, hown, hts, hK, hr, hlk, hA, hG⟩ := id X
  intro ls H locs hl hS
  unfold f_X1_tell_14 at hX
  refine lv_iload_n hx hb dX1_tell_14 rfl (lv_at hl 1 rfl) ?_
  refine lv_if_lt (tgt := 26) hx hb dX1_tell_15 (by decide) (fun c1 => ?_) (fun c1 => ?_)
  · have hX := if_t c1 hX
    refine lv_bipush (v := (-2)) hx hb dX1_tell_26 (by decide) ?_
    obtain rfl := some_of hX
    exact x_I (v := (-2)) X hS dX1_tell_28
  · have hX := if_f c1 hX
    refine lv_iload_n hx hb dX1_tell_18 rfl (lv_at hl 1 rfl) ?_
    refine lv_aload_n hx hb dX1_tell_19 rfl (lv_at hl 0 rfl) ?_
    refine fg_X1_18 X hS ho dX1_tell_20 ?_
    refine lv_icmp_lt (tgt := 29) hx hb dX1_tell_23 (by decide) (fun c2 => ?_) (fun c2 => ?_)
    · have hX := if_t c2 hX
      refine lv_iload_n hx hb dX1_tell_29 rfl (lv_at hl 2 rfl) ?_
      by_cases c3 : a2 = nI 0
      · have hX := if_t c3 hX
        refine lv_lookup (off := 26) (tgt := 56) hx hb dX1_tell_30 (by decide) (by rw [c3]; rfl) (by decide) ?_
        refine lv_aload_n hx hb dX1_tell_56 rfl (lv_at hl 0 rfl) ?_
        refine fg_X1_9 X hS ho dX1_tell_57 ?_
        refine lv_iload_n hx hb dX1_tell_60 rfl (lv_at hl 1 rfl) ?_
        obtain ⟨g4, hX⟩ := gin_of hX
        refine r_iald (ci := 1) (o := o) (k := 1) (n := 40) X hS ho rfl rfl g4 dX1_tell_61 ?_
        obtain rfl := some_of hX
        exact x_I (v := (gA M o 1 (ix a1))) X hS dX1_tell_62
      have hX := if_f c3 hX
      by_cases c5 : a2 = nI 1
      · have hX := if_t c5 hX
        refine lv_lookup (off := 33) (tgt := 63) hx hb dX1_tell_30 (by decide) (by rw [c5]; rfl) (by decide) ?_
        refine lv_aload_n hx hb dX1_tell_63 rfl (lv_at hl 0 rfl) ?_
        refine fg_X1_15 X hS ho dX1_tell_64 ?_
        refine lv_iload_n hx hb dX1_tell_67 rfl (lv_at hl 1 rfl) ?_
        obtain ⟨g6, hX⟩ := gin_of hX
        refine r_iald (ci := 1) (o := o) (k := 2) (n := 40) X hS ho rfl rfl g6 dX1_tell_68 ?_
        obtain rfl := some_of hX
        exact x_I (v := (gA M o 2 (ix a1))) X hS dX1_tell_69
      have hX := if_f c5 hX
      refine lv_lookup (off := 40) (tgt := 70) hx hb dX1_tell_30 (by decide) (by show Op.lookupswitch.offset (_ :: _) _ _ = _; rw [lv_osw (a := 0) c3 (by decide), lv_osw (a := 1) c5 (by decide)]; rfl) (by decide) ?_
      refine lv_bipush (v := (-2)) hx hb dX1_tell_70 (by decide) ?_
      obtain rfl := some_of hX
      exact x_I (v := (-2)) X hS dX1_tell_72
    · have hX := if_f c2 hX
      refine lv_bipush (v := (-2)) hx hb dX1_tell_26 (by decide) ?_
      obtain rfl := some_of hX
      exact x_I (v := (-2)) X hS dX1_tell_28
set_option maxRecDepth 100000 in
set_option maxHeartbeats 4000000 in
theorem m_X1_tell {l : Launch} {D : va_G} {cy : Nat → ClassId} {ad : Nat → Nat → Nat} {ns : List (Nat × Nat)} {A : Nat → Prop} {M : Mem} (hN : NsC ns) {o : Nat} {a1 : Int32} {a2 : Int32} (ho : Ob ns 1 o) {r : Int32} (hX : f_X1_tell M o a1 a2 = some r) : Ct l yX1_tell cX1_tell 3 ((some .int)) rm_X1_tell D cy ad ns A [.ref (ad o 0), .int a1, .int a2] M M (some (.int r)) := by
  refine ct_of (lv := [(0, .ref (ad o 0)), (1, .int a1), (2, .int a2)]) (by decide) (Nat.le_of_ble_eq_true rfl) rfl ?_
  intro p e s m args below meth c ls X hl hS
  obtain ⟨hx, hb, hml, hown, hts, hK, hr, hlk, hA, hG⟩ := id X
  obtain ⟨H, hH⟩ : ∃ z, z = s.heap := ⟨_, rfl⟩
  obtain ⟨locs, hlo⟩ : ∃ z : List Loc, z = [] := ⟨_, rfl⟩
  have hS : St D cy ad ns A M s.heap H locs := by rw [hH, hlo]; exact hS
  have hgoal : W p l e rm_X1_tell s m args below meth c H locs 0 0 (MQ below (QC D cy ad ns A M (some (.int r))) args s 0 0 A) (F0 m 0 ls []) := by
    unfold f_X1_tell at hX
    refine lv_iload_n hx hb dX1_tell_0 rfl (lv_at hl 1 rfl) ?_
    refine lv_iconst (v := (-1)) hx hb dX1_tell_1 (by decide) ?_
    refine lv_icmp_ne (tgt := 14) hx hb dX1_tell_2 (by decide) (fun c7 => ?_) (fun c7 => ?_)
    · have hX := if_f c7 hX
      exact n_X1_tell_14 X hN ho hX _ _ _ (lv_sub hl [0, 1, 2] rfl) hS
    · have hX := if_t c7 hX
      refine lv_iload_n hx hb dX1_tell_5 rfl (lv_at hl 2 rfl) ?_
      refine lv_if_ne (tgt := 14) hx hb dX1_tell_6 (by decide) (fun c8 => ?_) (fun c8 => ?_)
      · have hX := if_f c8 hX
        exact n_X1_tell_14 X hN ho hX _ _ _ (lv_sub hl [0, 1, 2] rfl) hS
      · have hX := if_t c8 hX
        refine lv_aload_n hx hb dX1_tell_9 rfl (lv_at hl 0 rfl) ?_
        refine fg_X1_18 X hS ho dX1_tell_10 ?_
        obtain rfl := some_of hX
        exact x_I (v := (gI M o 0)) X hS dX1_tell_13
  rw [hH, hlo] at hgoal
  exact hgoal
theorem mv_X1_tell : Mv yX1_tell RX1 cX1_tell 3 ((some .int)) 2 := ⟨t3_206, t3_204, t3_205, t1_4, ⟨by decide, by decide⟩, by decide +kernel⟩
end MT_11_X1
