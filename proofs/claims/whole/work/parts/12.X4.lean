section FR_12_X4
variable {p : Program} {l : Launch} {e : Env} {R : Room} {s : State} {m : MethodId} {args : Array Value} {below : List Frame} {meth : Method} {c : Code} {H : Heap} {locs : List Loc} {cells slots : Nat} {Q : State → Prop} {D : va_G} {cy : Nat → ClassId} {ad : Nat → Nat → Nat} {ns : List (Nat × Nat)} {A : Nat → Prop} {M M' : Mem} {cc : ByteArray} {nL : Nat} {ret : Option FieldType} {pc : Nat} {ls : Array Slot} {rest : List Value}
theorem fg_X4_9 (X : Cx p s m args meth c D cy ad A RX4 cc nL ret) (hS : St D cy ad ns A M s.heap H locs) {o : Nat} (ho : Ob ns 4 o) (hdg : decode cc pc = .ok (.getfield 9, 3)) (kk : W p l e R s m args below meth c H locs cells slots Q (F0 m (pc + 3) ls (.ref (ad o (1 + 1)) :: rest))) : W p l e R s m args below meth c H locs cells slots Q (F0 m pc ls (.ref (ad o 0) :: rest)) := r_get X hS (C := RX4) (T := TX4) (N := 4) (k := 1) tf4 rfl rfl ho (by decide) t1_174 ⟨rfl, rfl, rfl⟩ (by unfold fv; rw [ho.1]; rfl) hdg kk
theorem fg_X4_15 (X : Cx p s m args meth c D cy ad A RX4 cc nL ret) (hS : St D cy ad ns A M s.heap H locs) {o : Nat} (ho : Ob ns 4 o) (hdg : decode cc pc = .ok (.getfield 15, 3)) (kk : W p l e R s m args below meth c H locs cells slots Q (F0 m (pc + 3) ls (.ref (ad o (2 + 1)) :: rest))) : W p l e R s m args below meth c H locs cells slots Q (F0 m pc ls (.ref (ad o 0) :: rest)) := r_get X hS (C := RX4) (T := TX4) (N := 4) (k := 2) tf4 rfl rfl ho (by decide) t1_176 ⟨rfl, rfl, rfl⟩ (by unfold fv; rw [ho.1]; rfl) hdg kk
theorem fg_X4_18 (X : Cx p s m args meth c D cy ad A RX4 cc nL ret) (hS : St D cy ad ns A M s.heap H locs) {o : Nat} (ho : Ob ns 4 o) (hdg : decode cc pc = .ok (.getfield 18, 3)) (kk : W p l e R s m args below meth c H locs cells slots Q (F0 m (pc + 3) ls (.ref (ad o (3 + 1)) :: rest))) : W p l e R s m args below meth c H locs cells slots Q (F0 m pc ls (.ref (ad o 0) :: rest)) := r_get X hS (C := RX4) (T := TX4) (N := 4) (k := 3) tf4 rfl rfl ho (by decide) t1_178 ⟨rfl, rfl, rfl⟩ (by unfold fv; rw [ho.1]; rfl) hdg kk
theorem fg_X4_21 (X : Cx p s m args meth c D cy ad A RX4 cc nL ret) (hS : St D cy ad ns A M s.heap H locs) {o : Nat} (ho : Ob ns 4 o) (hdg : decode cc pc = .ok (.getfield 21, 3)) (kk : W p l e R s m args below meth c H locs cells slots Q (F0 m (pc + 3) ls (.int (gI M o 0) :: rest))) : W p l e R s m args below meth c H locs cells slots Q (F0 m pc ls (.ref (ad o 0) :: rest)) := r_get X hS (C := RX4) (T := TX4) (N := 4) (k := 0) tf4 rfl rfl ho (by decide) t1_171 ⟨rfl, rfl, rfl⟩ (by unfold fv; rw [ho.1]; rfl) hdg kk
theorem fp_X4_21 (X : Cx p s m args meth c D cy ad A RX4 cc nL ret) (hS : St D cy ad ns A M s.heap H locs) {o : Nat} (ho : Ob ns 4 o) {v : Int32} (hdg : decode cc pc = .ok (.putfield 21, 3)) (kk : ∀ (H1 : Heap) (locs1 : List Loc), St D cy ad ns A (sI M o 0 v) s.heap H1 locs1 → W p l e R s m args below meth c H1 locs1 cells slots Q (F0 m (pc + 3) ls rest)) : W p l e R s m args below meth c H locs cells slots Q (F0 m pc ls (.int v :: .ref (ad o 0) :: rest)) := r_put X hS (C := RX4) (T := TX4) (N := 4) (k := 0) tf4 rfl rfl tyX4 tyX4_ok nmX4 ho (by decide) t1_171 ⟨rfl, rfl, rfl⟩ rfl (ty := .int) (by decide +kernel) rfl rfl (wr_sI hS.1.2.2) (cel_sI (by rw [ho.1]; decide) (by rw [ho.1]; rfl)) (fun q hq => cel_sI' hq) hdg kk
end FR_12_X4
section MT_12_X4
variable {p : Program} {l : Launch} {e : Env} {s : State} {m : MethodId} {args : Array Value} {below : List Frame} {meth : Method} {c : Code} {D : va_G} {cy : Nat → ClassId} {ad : Nat → Nat → Nat} {ns : List (Nat × Nat)} {A : Nat → Prop}
/-! SewnYear$Sight.take(LSewnYear$Sight;)V -/
def rm_X4_take : Room := { frames := 1, cells := 0, slots := 0, locals := 60 }
def f_X4_take (M : Mem) (o : Nat) (a1 : Nat) : Option (Mem) :=
  nm (sI M o 0 (gI M a1 0)) fun M1 => nm (cpA M1 a1 1 o 1 10) fun M2 => nm (cpA M2 a1 2 o 2 10) fun M3 => nm (cpA M3 a1 3 o 3 10) fun M4 => some M4
set_option maxRecDepth 100000 in
set_option maxHeartbeats 4000000 in
theorem m_X4_take {l : Launch} {D : va_G} {cy : Nat → ClassId} {ad : Nat → Nat → Nat} {ns : List (Nat × Nat)} {A : Nat → Prop} {M : Mem} (hN : NsC ns) {o : Nat} {a1 : Nat} (ho : Ob ns 4 o) (ha1 : Ob ns 4 a1) {r : Mem} (hX : f_X4_take M o a1 = some r) : Ct l yX4_take cX4_take 2 ((none : Option Jvm.ClassFile.FieldType)) rm_X4_take D cy ad ns A [.ref (ad o 0), .ref (ad a1 0)] M r none := by
  refine ct_of (lv := [(0, .ref (ad o 0)), (1, .ref (ad a1 0))]) (by decide) (Nat.le_of_ble_eq_true rfl) rfl ?_
  intro p e s m args below meth c ls X hl hS
  obtain ⟨hx, hb, hml, hown, hts, hK, hr, hlk, hA, hG⟩ := id X
  obtain ⟨H, hH⟩ : ∃ z, z = s.heap := ⟨_, rfl⟩
  obtain ⟨locs, hlo⟩ : ∃ z : List Loc, z = [] := ⟨_, rfl⟩
  have hS : St D cy ad ns A M s.heap H locs := by rw [hH, hlo]; exact hS
  have hgoal : W p l e rm_X4_take s m args below meth c H locs 0 0 (MQ below (QC D cy ad ns A r none) args s 0 0 A) (F0 m 0 ls []) := by
    unfold f_X4_take at hX
    refine lv_aload_n hx hb dX4_take_0 rfl (lv_at hl 0 rfl) ?_
    refine lv_aload_n hx hb dX4_take_1 rfl (lv_at hl 1 rfl) ?_
    refine fg_X4_21 X hS ha1 dX4_take_2 ?_
    refine fp_X4_21 X hS ho dX4_take_5 (fun H locs hS => ?_)
    obtain ⟨M1, eM1, hS, hX⟩ := nm_mem hS hX
    refine lv_aload_n hx hb dX4_take_8 rfl (lv_at hl 1 rfl) ?_
    refine fg_X4_9 X hS ha1 dX4_take_9 ?_
    refine lv_iconst (v := nI 0) hx hb dX4_take_12 (by decide) ?_
    refine lv_aload_n hx hb dX4_take_13 rfl (lv_at hl 0 rfl) ?_
    refine fg_X4_9 X hS ho dX4_take_14 ?_
    refine lv_iconst (v := nI 0) hx hb dX4_take_17 (by decide) ?_
    refine lv_bipush (v := nI 10) hx hb dX4_take_18 (by decide) ?_
    refine r_copy (c0 := 4) (c1 := 4) (o := a1) (k := 1) (o' := o) (k' := 1) (n := 10) X hS ha1 ho rfl rfl (by decide) (by decide) (by decide) (by decide) hl.1 t3_167 t3_152 t3_151 t1_18 (Nat.le_of_ble_eq_true rfl) (Nat.le_of_ble_eq_true rfl) dX4_take_20 (fun H locs hS => ?_)
    obtain ⟨M2, eM2, hS, hX⟩ := nm_mem hS hX
    refine lv_aload_n hx hb dX4_take_23 rfl (lv_at hl 1 rfl) ?_
    refine fg_X4_15 X hS ha1 dX4_take_24 ?_
    refine lv_iconst (v := nI 0) hx hb dX4_take_27 (by decide) ?_
    refine lv_aload_n hx hb dX4_take_28 rfl (lv_at hl 0 rfl) ?_
    refine fg_X4_15 X hS ho dX4_take_29 ?_
    refine lv_iconst (v := nI 0) hx hb dX4_take_32 (by decide) ?_
    refine lv_bipush (v := nI 10) hx hb dX4_take_33 (by decide) ?_
    refine r_copy (c0 := 4) (c1 := 4) (o := a1) (k := 2) (o' := o) (k' := 2) (n := 10) X hS ha1 ho rfl rfl (by decide) (by decide) (by decide) (by decide) hl.1 t3_167 t3_152 t3_151 t1_18 (Nat.le_of_ble_eq_true rfl) (Nat.le_of_ble_eq_true rfl) dX4_take_35 (fun H locs hS => ?_)
    obtain ⟨M3, eM3, hS, hX⟩ := nm_mem hS hX
    refine lv_aload_n hx hb dX4_take_38 rfl (lv_at hl 1 rfl) ?_
    refine fg_X4_18 X hS ha1 dX4_take_39 ?_
    refine lv_iconst (v := nI 0) hx hb dX4_take_42 (by decide) ?_
    refine lv_aload_n hx hb dX4_take_43 rfl (lv_at hl 0 rfl) ?_
    refine fg_X4_18 X hS ho dX4_take_44 ?_
    refine lv_iconst (v := nI 0) hx hb dX4_take_47 (by decide) ?_
    refine lv_bipush (v := nI 10) hx hb dX4_take_48 (by decide) ?_
    refine r_copy (c0 := 4) (c1 := 4) (o := a1) (k := 3) (o' := o) (k' := 3) (n := 10) X hS ha1 ho rfl rfl (by decide) (by decide) (by decide) (by decide) hl.1 t3_167 t3_152 t3_151 t1_18 (Nat.le_of_ble_eq_true rfl) (Nat.le_of_ble_eq_true rfl) dX4_take_50 (fun H locs hS => ?_)
    obtain ⟨M4, eM4, hS, hX⟩ := nm_mem hS hX
    obtain rfl := some_of hX
    exact x_V X hS dX4_take_53
  rw [hH, hlo] at hgoal
  exact hgoal
theorem mv_X4_take : Mv yX4_take RX4 cX4_take 2 ((none : Option Jvm.ClassFile.FieldType)) 1 := ⟨t3_166, t3_164, t3_165, t1_6, ⟨by decide, by decide⟩, by decide +kernel⟩
/-! SewnYear$Sight.addFact(III)V -/
def rm_X4_addFact : Room := { frames := 0, cells := 0, slots := 0, locals := 0 }
def f_X4_addFact (M : Mem) (o : Nat) (a1 : Int32) (a2 : Int32) (a3 : Int32) : Option (Mem) :=
  if (nI 10) ≤ (gI M o 0) then (some M) else (gin (gI M o 0) 10 <| nm (sA M o 1 (ix (gI M o 0)) a1) fun M3 => gin (gI M3 o 0) 10 <| nm (sA M3 o 2 (ix (gI M3 o 0)) a2) fun M5 => gin (gI M5 o 0) 10 <| nm (sA M5 o 3 (ix (gI M5 o 0)) a3) fun M7 => nm (sI M7 o 0 ((gI M7 o 0) + (nI 1))) fun M8 => some M8)
set_option maxRecDepth 100000 in
set_option maxHeartbeats 4000000 in
theorem m_X4_addFact {l : Launch} {D : va_G} {cy : Nat → ClassId} {ad : Nat → Nat → Nat} {ns : List (Nat × Nat)} {A : Nat → Prop} {M : Mem} (hN : NsC ns) {o : Nat} {a1 : Int32} {a2 : Int32} {a3 : Int32} (ho : Ob ns 4 o) {r : Mem} (hX : f_X4_addFact M o a1 a2 a3 = some r) : Ct l yX4_addFact cX4_addFact 4 ((none : Option Jvm.ClassFile.FieldType)) rm_X4_addFact D cy ad ns A [.ref (ad o 0), .int a1, .int a2, .int a3] M r none := by
  refine ct_of (lv := [(0, .ref (ad o 0)), (1, .int a1), (2, .int a2), (3, .int a3)]) (by decide) (Nat.le_of_ble_eq_true rfl) rfl ?_
  intro p e s m args below meth c ls X hl hS
  obtain ⟨hx, hb, hml, hown, hts, hK, hr, hlk, hA, hG⟩ := id X
  obtain ⟨H, hH⟩ : ∃ z, z = s.heap := ⟨_, rfl⟩
  obtain ⟨locs, hlo⟩ : ∃ z : List Loc, z = [] := ⟨_, rfl⟩
  have hS : St D cy ad ns A M s.heap H locs := by rw [hH, hlo]; exact hS
  have hgoal : W p l e rm_X4_addFact s m args below meth c H locs 0 0 (MQ below (QC D cy ad ns A r none) args s 0 0 A) (F0 m 0 ls []) := by
    unfold f_X4_addFact at hX
    refine lv_aload_n hx hb dX4_addFact_0 rfl (lv_at hl 0 rfl) ?_
    refine fg_X4_21 X hS ho dX4_addFact_1 ?_
    refine lv_bipush (v := nI 10) hx hb dX4_addFact_4 (by decide) ?_
    refine lv_icmp_ge (tgt := 49) hx hb dX4_addFact_6 (by decide) (fun c1 => ?_) (fun c1 => ?_)
    · have hX := if_t c1 hX
      obtain rfl := some_of hX
      exact x_V X hS dX4_addFact_49
    · have hX := if_f c1 hX
      refine lv_aload_n hx hb dX4_addFact_9 rfl (lv_at hl 0 rfl) ?_
      refine fg_X4_9 X hS ho dX4_addFact_10 ?_
      refine lv_aload_n hx hb dX4_addFact_13 rfl (lv_at hl 0 rfl) ?_
      refine fg_X4_21 X hS ho dX4_addFact_14 ?_
      refine lv_iload_n hx hb dX4_addFact_17 rfl (lv_at hl 1 rfl) ?_
      obtain ⟨g2, hX⟩ := gin_of hX
      refine r_iast (ci := 4) (o := o) (k := 1) (n := 10) X hS ho rfl rfl g2 dX4_addFact_18 (fun H locs hS => ?_)
      obtain ⟨M3, eM3, hS, hX⟩ := nm_mem hS hX
      refine lv_aload_n hx hb dX4_addFact_19 rfl (lv_at hl 0 rfl) ?_
      refine fg_X4_15 X hS ho dX4_addFact_20 ?_
      refine lv_aload_n hx hb dX4_addFact_23 rfl (lv_at hl 0 rfl) ?_
      refine fg_X4_21 X hS ho dX4_addFact_24 ?_
      refine lv_iload_n hx hb dX4_addFact_27 rfl (lv_at hl 2 rfl) ?_
      obtain ⟨g4, hX⟩ := gin_of hX
      refine r_iast (ci := 4) (o := o) (k := 2) (n := 10) X hS ho rfl rfl g4 dX4_addFact_28 (fun H locs hS => ?_)
      obtain ⟨M5, eM5, hS, hX⟩ := nm_mem hS hX
      refine lv_aload_n hx hb dX4_addFact_29 rfl (lv_at hl 0 rfl) ?_
      refine fg_X4_18 X hS ho dX4_addFact_30 ?_
      refine lv_aload_n hx hb dX4_addFact_33 rfl (lv_at hl 0 rfl) ?_
      refine fg_X4_21 X hS ho dX4_addFact_34 ?_
      refine lv_iload_n hx hb dX4_addFact_37 rfl (lv_at hl 3 rfl) ?_
      obtain ⟨g6, hX⟩ := gin_of hX
      refine r_iast (ci := 4) (o := o) (k := 3) (n := 10) X hS ho rfl rfl g6 dX4_addFact_38 (fun H locs hS => ?_)
      obtain ⟨M7, eM7, hS, hX⟩ := nm_mem hS hX
      refine lv_aload_n hx hb dX4_addFact_39 rfl (lv_at hl 0 rfl) ?_
      refine lv_dup hx hb dX4_addFact_40 rfl ?_
      refine fg_X4_21 X hS ho dX4_addFact_41 ?_
      refine lv_iconst (v := nI 1) hx hb dX4_addFact_44 (by decide) ?_
      refine lv_iadd hx hb dX4_addFact_45 ?_
      refine fp_X4_21 X hS ho dX4_addFact_46 (fun H locs hS => ?_)
      obtain ⟨M8, eM8, hS, hX⟩ := nm_mem hS hX
      obtain rfl := some_of hX
      exact x_V X hS dX4_addFact_49
  rw [hH, hlo] at hgoal
  exact hgoal
theorem mv_X4_addFact : Mv yX4_addFact RX4 cX4_addFact 4 ((none : Option Jvm.ClassFile.FieldType)) 3 := ⟨t3_141, t3_139, t3_140, t1_6, ⟨by decide, by decide⟩, by decide +kernel⟩
/-! SewnYear$Sight.tell(II)I -/
def rm_X4_tell : Room := { frames := 0, cells := 0, slots := 0, locals := 0 }
def f_X4_tell_14 (M : Mem) (o : Nat) (a1 : Int32) (a2 : Int32) : Option (Int32) :=
  if a1 < (nI 0) then (some (-2)) else (if a1 < (gI M o 0) then (if a2 = nI 0 then (gin a1 10 <| some (gA M o 1 (ix a1))) else if a2 = nI 1 then (gin a1 10 <| some (gA M o 2 (ix a1))) else if a2 = nI 2 then (gin a1 10 <| some (gA M o 3 (ix a1))) else (some (-2))) else (some (-2)))
def f_X4_tell (M : Mem) (o : Nat) (a1 : Int32) (a2 : Int32) : Option (Int32) :=
  if a1 = (-1) then (if a2 = (nI 0) then (some (gI M o 0)) else (f_X4_tell_14 M o a1 a2)) else (f_X4_tell_14 M o a1 a2)
set_option maxRecDepth 100000 in
set_option maxHeartbeats 4000000 in
theorem n_X4_tell_14 {o : Nat} {a1 : Int32} {a2 : Int32} (X : Cx p s m args meth c D cy ad A RX4 cX4_tell 3 ((some .int))) (hN : NsC ns) (ho : Ob ns 4 o) {M : Mem} {r : Int32} (hX : f_X4_tell_14 M o a1 a2 = some r) : ∀ (ls : Array Slot) (H : Heap) (locs : List Loc), lv_has ls 3 [(0, .ref (ad o 0)), (1, .int a1), (2, .int a2)] → St D cy ad ns A M s.heap H locs → W p l e rm_X4_tell s m args below meth c H locs 0 0 (MQ below (QC D cy ad ns A M (some (.int r))) args s 0 0 A) (F0 m 14 ls []) := by
  obtain ⟨hx, hb, hml, hown, hts, hK, hr, hlk, hA, hG⟩ := id X
  intro ls H locs hl hS
  unfold f_X4_tell_14 at hX
  refine lv_iload_n hx hb dX4_tell_14 rfl (lv_at hl 1 rfl) ?_
  refine lv_if_lt (tgt := 26) hx hb dX4_tell_15 (by decide) (fun c1 => ?_) (fun c1 => ?_)
  · have hX := if_t c1 hX
    refine lv_bipush (v := (-2)) hx hb dX4_tell_26 (by decide) ?_
    obtain rfl := some_of hX
    exact x_I (v := (-2)) X hS dX4_tell_28
  · have hX := if_f c1 hX
    refine lv_iload_n hx hb dX4_tell_18 rfl (lv_at hl 1 rfl) ?_
    refine lv_aload_n hx hb dX4_tell_19 rfl (lv_at hl 0 rfl) ?_
    refine fg_X4_21 X hS ho dX4_tell_20 ?_
    refine lv_icmp_lt (tgt := 29) hx hb dX4_tell_23 (by decide) (fun c2 => ?_) (fun c2 => ?_)
    · have hX := if_t c2 hX
      refine lv_iload_n hx hb dX4_tell_29 rfl (lv_at hl 2 rfl) ?_
      by_cases c3 : a2 = nI 0
      · have hX := if_t c3 hX
        refine r_tabIn c3 (off := 26) (tgt := 56) hx hb dX4_tell_30 (by decide) (by decide) (by decide) (by decide) ?_
        refine lv_aload_n hx hb dX4_tell_56 rfl (lv_at hl 0 rfl) ?_
        refine fg_X4_9 X hS ho dX4_tell_57 ?_
        refine lv_iload_n hx hb dX4_tell_60 rfl (lv_at hl 1 rfl) ?_
        obtain ⟨g4, hX⟩ := gin_of hX
        refine r_iald (ci := 4) (o := o) (k := 1) (n := 10) X hS ho rfl rfl g4 dX4_tell_61 ?_
        obtain rfl := some_of hX
        exact x_I (v := (gA M o 1 (ix a1))) X hS dX4_tell_62
      have hX := if_f c3 hX
      by_cases c5 : a2 = nI 1
      · have hX := if_t c5 hX
        refine r_tabIn c5 (off := 33) (tgt := 63) hx hb dX4_tell_30 (by decide) (by decide) (by decide) (by decide) ?_
        refine lv_aload_n hx hb dX4_tell_63 rfl (lv_at hl 0 rfl) ?_
        refine fg_X4_15 X hS ho dX4_tell_64 ?_
        refine lv_iload_n hx hb dX4_tell_67 rfl (lv_at hl 1 rfl) ?_
        obtain ⟨g6, hX⟩ := gin_of hX
        refine r_iald (ci := 4) (o := o) (k := 2) (n := 10) X hS ho rfl rfl g6 dX4_tell_68 ?_
        obtain rfl := some_of hX
        exact x_I (v := (gA M o 2 (ix a1))) X hS dX4_tell_69
      have hX := if_f c5 hX
      by_cases c7 : a2 = nI 2
      · have hX := if_t c7 hX
        refine r_tabIn c7 (off := 40) (tgt := 70) hx hb dX4_tell_30 (by decide) (by decide) (by decide) (by decide) ?_
        refine lv_aload_n hx hb dX4_tell_70 rfl (lv_at hl 0 rfl) ?_
        refine fg_X4_18 X hS ho dX4_tell_71 ?_
        refine lv_iload_n hx hb dX4_tell_74 rfl (lv_at hl 1 rfl) ?_
        obtain ⟨g8, hX⟩ := gin_of hX
        refine r_iald (ci := 4) (o := o) (k := 3) (n := 10) X hS ho rfl rfl g8 dX4_tell_75 ?_
        obtain rfl := some_of hX
        exact x_I (v := (gA M o 3 (ix a1))) X hS dX4_tell_76
      have hX := if_f c7 hX
      have ic3 : ¬ a2.toInt = 0 := lv_neT c3 rfl
      have ic5 : ¬ a2.toInt = 1 := lv_neT c5 rfl
      have ic7 : ¬ a2.toInt = 2 := lv_neT c7 rfl
      refine lv_tableOut (tgt := 77) hx hb dX4_tell_30 (by omega) (by decide) ?_
      refine lv_bipush (v := (-2)) hx hb dX4_tell_77 (by decide) ?_
      obtain rfl := some_of hX
      exact x_I (v := (-2)) X hS dX4_tell_79
    · have hX := if_f c2 hX
      refine lv_bipush (v := (-2)) hx hb dX4_tell_26 (by decide) ?_
      obtain rfl := some_of hX
      exact x_I (v := (-2)) X hS dX4_tell_28
set_option maxRecDepth 100000 in
set_option maxHeartbeats 4000000 in
theorem m_X4_tell {l : Launch} {D : va_G} {cy : Nat → ClassId} {ad : Nat → Nat → Nat} {ns : List (Nat × Nat)} {A : Nat → Prop} {M : Mem} (hN : NsC ns) {o : Nat} {a1 : Int32} {a2 : Int32} (ho : Ob ns 4 o) {r : Int32} (hX : f_X4_tell M o a1 a2 = some r) : Ct l yX4_tell cX4_tell 3 ((some .int)) rm_X4_tell D cy ad ns A [.ref (ad o 0), .int a1, .int a2] M M (some (.int r)) := by
  refine ct_of (lv := [(0, .ref (ad o 0)), (1, .int a1), (2, .int a2)]) (by decide) (Nat.le_of_ble_eq_true rfl) rfl ?_
  intro p e s m args below meth c ls X hl hS
  obtain ⟨hx, hb, hml, hown, hts, hK, hr, hlk, hA, hG⟩ := id X
  obtain ⟨H, hH⟩ : ∃ z, z = s.heap := ⟨_, rfl⟩
  obtain ⟨locs, hlo⟩ : ∃ z : List Loc, z = [] := ⟨_, rfl⟩
  have hS : St D cy ad ns A M s.heap H locs := by rw [hH, hlo]; exact hS
  have hgoal : W p l e rm_X4_tell s m args below meth c H locs 0 0 (MQ below (QC D cy ad ns A M (some (.int r))) args s 0 0 A) (F0 m 0 ls []) := by
    unfold f_X4_tell at hX
    refine lv_iload_n hx hb dX4_tell_0 rfl (lv_at hl 1 rfl) ?_
    refine lv_iconst (v := (-1)) hx hb dX4_tell_1 (by decide) ?_
    refine lv_icmp_ne (tgt := 14) hx hb dX4_tell_2 (by decide) (fun c9 => ?_) (fun c9 => ?_)
    · have hX := if_f c9 hX
      exact n_X4_tell_14 X hN ho hX _ _ _ (lv_sub hl [0, 1, 2] rfl) hS
    · have hX := if_t c9 hX
      refine lv_iload_n hx hb dX4_tell_5 rfl (lv_at hl 2 rfl) ?_
      refine lv_if_ne (tgt := 14) hx hb dX4_tell_6 (by decide) (fun c10 => ?_) (fun c10 => ?_)
      · have hX := if_f c10 hX
        exact n_X4_tell_14 X hN ho hX _ _ _ (lv_sub hl [0, 1, 2] rfl) hS
      · have hX := if_t c10 hX
        refine lv_aload_n hx hb dX4_tell_9 rfl (lv_at hl 0 rfl) ?_
        refine fg_X4_21 X hS ho dX4_tell_10 ?_
        obtain rfl := some_of hX
        exact x_I (v := (gI M o 0)) X hS dX4_tell_13
  rw [hH, hlo] at hgoal
  exact hgoal
theorem mv_X4_tell : Mv yX4_tell RX4 cX4_tell 3 ((some .int)) 2 := ⟨t5_6, t5_4, t5_5, t1_6, ⟨by decide, by decide⟩, by decide +kernel⟩
/-! SewnYear$Sight.highestSeam()I -/
def rm_X4_highestSeam : Room := { frames := 1, cells := 0, slots := 0, locals := 24 }
def f_X4_highestSeam_43 (M : Mem) (o : Nat) (k_4 : Int32 → Int32 → Option (Int32)) (v_1 : Int32) (v_2 : Int32) : Option (Int32) :=
  nm (v_2 + nI 1) fun v1 => k_4 v_1 v1
def b_X4_highestSeam_4 (M : Mem) (o : Nat) (rc : Int32 → Int32 → Option (Int32)) (v_1 : Int32) (v_2 : Int32) : Option (Int32) :=
  if (gI M o 0) ≤ v_2 then (some v_1) else (gin v_2 10 <| nm (mxI v_1 (gA M o 2 (ix v_2))) fun v4 => gin v_2 10 <| if (gA M o 1 (ix v_2)) = (nI 0) then (gin v_2 10 <| nm (mxI v4 (gA M o 3 (ix v_2))) fun v8 => f_X4_highestSeam_43 M o rc v8 v_2) else (f_X4_highestSeam_43 M o rc v4 v_2))
def f_X4_highestSeam_4 (M : Mem) (o : Nat) : Nat → (Int32 × Int32) → Option (Int32) := lp (fun rc q => b_X4_highestSeam_4 M o (fun x0 x1 => rc (x0, x1)) q.1 q.2)
def f_X4_highestSeam (M : Mem) (o : Nat) : Option (Int32) :=
  f_X4_highestSeam_4 M o FU ((-1), (nI 0))
set_option maxRecDepth 100000 in
set_option maxHeartbeats 4000000 in
theorem n_X4_highestSeam_43 {o : Nat} (X : Cx p s m args meth c D cy ad A RX4 cX4_highestSeam 3 ((some .int))) (hN : NsC ns) (ho : Ob ns 4 o) {M : Mem} {k_4 : Int32 → Int32 → Option (Int32)} {v_1 : Int32} {v_2 : Int32} {r : Int32} (hX : f_X4_highestSeam_43 M o k_4 v_1 v_2 = some r) : (∀ (v_1 : Int32) (v_2 : Int32) (r : Int32), k_4 v_1 v_2 = some r → ∀ (ls : Array Slot) (H : Heap) (locs : List Loc), lv_has ls 3 [(0, .ref (ad o 0)), (1, .int v_1), (2, .int v_2)] → St D cy ad ns A M s.heap H locs → W p l e rm_X4_highestSeam s m args below meth c H locs 0 0 (MQ below (QC D cy ad ns A M (some (.int r))) args s 0 0 A) (F0 m 4 ls [])) → ∀ (ls : Array Slot) (H : Heap) (locs : List Loc), lv_has ls 3 [(0, .ref (ad o 0)), (1, .int v_1), (2, .int v_2)] → St D cy ad ns A M s.heap H locs → W p l e rm_X4_highestSeam s m args below meth c H locs 0 0 (MQ below (QC D cy ad ns A M (some (.int r))) args s 0 0 A) (F0 m 43 ls []) := by
  obtain ⟨hx, hb, hml, hown, hts, hK, hr, hlk, hA, hG⟩ := id X
  intro hk_4 ls H locs hl hS
  unfold f_X4_highestSeam_43 at hX
  obtain ⟨v1, ev1⟩ : ∃ y : Int32, y = (v_2 + nI 1) := ⟨_, rfl⟩
  have hX := nm_of ev1 hX
  refine lv_iinc (v := v1) (lv' := [(2, .int v1), (0, .ref (ad o 0)), (1, .int v_1)]) hx hb dX4_highestSeam_43 hl (k := 2) rfl (by rw [ev1]; rfl) (by decide) rfl (fun ls hl => ?_)
  refine lv_goto (tgt := 4) hx hb dX4_highestSeam_46 (by decide) ?_
  exact hk_4 _ _ _ hX _ _ _ (lv_sub hl [1, 2, 0] rfl) hS
set_option maxRecDepth 100000 in
set_option maxHeartbeats 4000000 in
theorem n_X4_highestSeam_4 {o : Nat} (X : Cx p s m args meth c D cy ad A RX4 cX4_highestSeam 3 ((some .int))) (hN : NsC ns) (ho : Ob ns 4 o) {M : Mem} : ∀ (n : Nat) (v_1 : Int32) (v_2 : Int32) (r : Int32), f_X4_highestSeam_4 M o n (v_1, v_2) = some r → ∀ (ls : Array Slot) (H : Heap) (locs : List Loc), lv_has ls 3 [(0, .ref (ad o 0)), (1, .int v_1), (2, .int v_2)] → St D cy ad ns A M s.heap H locs → W p l e rm_X4_highestSeam s m args below meth c H locs 0 0 (MQ below (QC D cy ad ns A M (some (.int r))) args s 0 0 A) (F0 m 4 ls []) := by
  obtain ⟨hx, hb, hml, hown, hts, hK, hr, hlk, hA, hG⟩ := id X
  intro n
  induction n with
  | zero => intro v_1 v_2 r hX; cases (show (none : Option (Int32)) = some r from hX)
  | succ n ih =>
    intro v_1 v_2 r hX ls H locs hl hS
    have hX : b_X4_highestSeam_4 M o (fun x0 x1 => f_X4_highestSeam_4 M o n (x0, x1)) v_1 v_2 = some r := hX
    unfold b_X4_highestSeam_4 at hX
    refine lv_iload_n hx hb dX4_highestSeam_4 rfl (lv_at hl 2 rfl) ?_
    refine lv_aload_n hx hb dX4_highestSeam_5 rfl (lv_at hl 0 rfl) ?_
    refine fg_X4_21 X hS ho dX4_highestSeam_6 ?_
    refine lv_icmp_ge (tgt := 49) hx hb dX4_highestSeam_9 (by decide) (fun c2 => ?_) (fun c2 => ?_)
    · have hX := if_t c2 hX
      refine lv_iload_n hx hb dX4_highestSeam_49 rfl (lv_at hl 1 rfl) ?_
      obtain rfl := some_of hX
      exact x_I (v := v_1) X hS dX4_highestSeam_50
    · have hX := if_f c2 hX
      refine lv_iload_n hx hb dX4_highestSeam_12 rfl (lv_at hl 1 rfl) ?_
      refine lv_aload_n hx hb dX4_highestSeam_13 rfl (lv_at hl 0 rfl) ?_
      refine fg_X4_15 X hS ho dX4_highestSeam_14 ?_
      refine lv_iload_n hx hb dX4_highestSeam_17 rfl (lv_at hl 2 rfl) ?_
      obtain ⟨g3, hX⟩ := gin_of hX
      refine r_iald (ci := 4) (o := o) (k := 2) (n := 10) X hS ho rfl rfl g3 dX4_highestSeam_18 ?_
      refine va_mmax hx hb (hml.trans hl.1.symm) (own := RX4) hown (hts _ t5_19) (hts _ jm_max.1) (hts _ jm_max.2.1) (hts _ jm_max.2.2) (Nat.le_of_ble_eq_true rfl) (Nat.le_of_ble_eq_true rfl) (Nat.zero_le _) (Nat.zero_le _) dX4_highestSeam_19 ?_
      refine lv_topi (fun v4 ev4 => ?_)
      have hX := nm_of ev4 hX
      refine lv_istore_n (lv' := [(1, .int v4), (0, .ref (ad o 0)), (2, .int v_2)]) hx hb dX4_highestSeam_22 rfl hl (by decide) rfl (fun ls hl => ?_)
      refine lv_aload_n hx hb dX4_highestSeam_23 rfl (lv_at hl 1 rfl) ?_
      refine fg_X4_9 X hS ho dX4_highestSeam_24 ?_
      refine lv_iload_n hx hb dX4_highestSeam_27 rfl (lv_at hl 2 rfl) ?_
      obtain ⟨g5, hX⟩ := gin_of hX
      refine r_iald (ci := 4) (o := o) (k := 1) (n := 10) X hS ho rfl rfl g5 dX4_highestSeam_28 ?_
      refine lv_if_ne (tgt := 43) hx hb dX4_highestSeam_29 (by decide) (fun c6 => ?_) (fun c6 => ?_)
      · have hX := if_f c6 hX
        exact n_X4_highestSeam_43 X hN ho hX (fun z0 z1 r h ls H locs hl hS => ih z0 z1 r h ls H locs hl hS) _ _ _ (lv_sub hl [1, 0, 2] rfl) hS
      · have hX := if_t c6 hX
        refine lv_iload_n hx hb dX4_highestSeam_32 rfl (lv_at hl 0 rfl) ?_
        refine lv_aload_n hx hb dX4_highestSeam_33 rfl (lv_at hl 1 rfl) ?_
        refine fg_X4_18 X hS ho dX4_highestSeam_34 ?_
        refine lv_iload_n hx hb dX4_highestSeam_37 rfl (lv_at hl 2 rfl) ?_
        obtain ⟨g7, hX⟩ := gin_of hX
        refine r_iald (ci := 4) (o := o) (k := 3) (n := 10) X hS ho rfl rfl g7 dX4_highestSeam_38 ?_
        refine va_mmax hx hb (hml.trans hl.1.symm) (own := RX4) hown (hts _ t5_19) (hts _ jm_max.1) (hts _ jm_max.2.1) (hts _ jm_max.2.2) (Nat.le_of_ble_eq_true rfl) (Nat.le_of_ble_eq_true rfl) (Nat.zero_le _) (Nat.zero_le _) dX4_highestSeam_39 ?_
        refine lv_topi (fun v8 ev8 => ?_)
        have hX := nm_of ev8 hX
        refine lv_istore_n (lv' := [(1, .int v8), (0, .ref (ad o 0)), (2, .int v_2)]) hx hb dX4_highestSeam_42 rfl hl (by decide) rfl (fun ls hl => ?_)
        exact n_X4_highestSeam_43 X hN ho hX (fun z0 z1 r h ls H locs hl hS => ih z0 z1 r h ls H locs hl hS) _ _ _ (lv_sub hl [1, 0, 2] rfl) hS
set_option maxRecDepth 100000 in
set_option maxHeartbeats 4000000 in
theorem m_X4_highestSeam {l : Launch} {D : va_G} {cy : Nat → ClassId} {ad : Nat → Nat → Nat} {ns : List (Nat × Nat)} {A : Nat → Prop} {M : Mem} (hN : NsC ns) {o : Nat} (ho : Ob ns 4 o) {r : Int32} (hX : f_X4_highestSeam M o = some r) : Ct l yX4_highestSeam cX4_highestSeam 3 ((some .int)) rm_X4_highestSeam D cy ad ns A [.ref (ad o 0)] M M (some (.int r)) := by
  refine ct_of (lv := [(0, .ref (ad o 0))]) (by decide) (Nat.le_of_ble_eq_true rfl) rfl ?_
  intro p e s m args below meth c ls X hl hS
  obtain ⟨hx, hb, hml, hown, hts, hK, hr, hlk, hA, hG⟩ := id X
  obtain ⟨H, hH⟩ : ∃ z, z = s.heap := ⟨_, rfl⟩
  obtain ⟨locs, hlo⟩ : ∃ z : List Loc, z = [] := ⟨_, rfl⟩
  have hS : St D cy ad ns A M s.heap H locs := by rw [hH, hlo]; exact hS
  have hgoal : W p l e rm_X4_highestSeam s m args below meth c H locs 0 0 (MQ below (QC D cy ad ns A M (some (.int r))) args s 0 0 A) (F0 m 0 ls []) := by
    unfold f_X4_highestSeam at hX
    refine lv_iconst (v := (-1)) hx hb dX4_highestSeam_0 (by decide) ?_
    refine lv_istore_n (lv' := [(1, .int (-1)), (0, .ref (ad o 0))]) hx hb dX4_highestSeam_1 rfl hl (by decide) rfl (fun ls hl => ?_)
    refine lv_iconst (v := nI 0) hx hb dX4_highestSeam_2 (by decide) ?_
    refine lv_istore_n (lv' := [(2, .int (nI 0)), (1, .int (-1)), (0, .ref (ad o 0))]) hx hb dX4_highestSeam_3 rfl hl (by decide) rfl (fun ls hl => ?_)
    exact n_X4_highestSeam_4 X hN ho _ _ _ _ hX _ _ _ (lv_sub hl [2, 1, 0] rfl) hS
  rw [hH, hlo] at hgoal
  exact hgoal
theorem mv_X4_highestSeam : Mv yX4_highestSeam RX4 cX4_highestSeam 3 ((some .int)) 0 := ⟨t5_18, t5_16, t5_17, t1_6, ⟨by decide, by decide⟩, by decide +kernel⟩
end MT_12_X4
