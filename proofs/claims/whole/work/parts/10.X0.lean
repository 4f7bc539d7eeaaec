section FR_10_X0
variable {p : Program} {l : Launch} {e : Env} {R : Room} {s : State} {m : MethodId} {args : Array Value} {below : List Frame} {meth : Method} {c : Code} {H : Heap} {locs : List Loc} {cells slots : Nat} {Q : State → Prop} {D : va_G} {cy : Nat → ClassId} {ad : Nat → Nat → Nat} {ns : List (Nat × Nat)} {A : Nat → Prop} {M M' : Mem} {cc : ByteArray} {nL : Nat} {ret : Option FieldType} {pc : Nat} {ls : Array Slot} {rest : List Value}
theorem fg_X0_9 (X : Cx p s m args meth c D cy ad A RX0 cc nL ret) (hS : St D cy ad ns A M s.heap H locs) {o : Nat} (ho : Ob ns 0 o) (hdg : decode cc pc = .ok (.getfield 9, 3)) (kk : W p l e R s m args below meth c H locs cells slots Q (F0 m (pc + 3) ls (.int (gI M o 1) :: rest))) : W p l e R s m args below meth c H locs cells slots Q (F0 m pc ls (.ref (ad o 0) :: rest)) := r_get X hS (C := RX0) (T := TX0) (N := 7) (k := 1) tf0 rfl rfl ho (by decide) t1_46 ⟨rfl, rfl, rfl⟩ (by unfold fv; rw [ho.1]; rfl) hdg kk
theorem fp_X0_9 (X : Cx p s m args meth c D cy ad A RX0 cc nL ret) (hS : St D cy ad ns A M s.heap H locs) {o : Nat} (ho : Ob ns 0 o) {v : Int32} (hdg : decode cc pc = .ok (.putfield 9, 3)) (kk : ∀ (H1 : Heap) (locs1 : List Loc), St D cy ad ns A (sI M o 1 v) s.heap H1 locs1 → W p l e R s m args below meth c H1 locs1 cells slots Q (F0 m (pc + 3) ls rest)) : W p l e R s m args below meth c H locs cells slots Q (F0 m pc ls (.int v :: .ref (ad o 0) :: rest)) := r_put X hS (C := RX0) (T := TX0) (N := 7) (k := 1) tf0 rfl rfl tyX0 tyX0_ok nmX0 ho (by decide) t1_46 ⟨rfl, rfl, rfl⟩ rfl (ty := .int) (by decide +kernel) rfl rfl (wr_sI hS.1.2.2) (cel_sI (by rw [ho.1]; decide) (by rw [ho.1]; rfl)) (fun q hq => cel_sI' hq) hdg kk
theorem fg_X0_15 (X : Cx p s m args meth c D cy ad A RX0 cc nL ret) (hS : St D cy ad ns A M s.heap H locs) {o : Nat} (ho : Ob ns 0 o) (hdg : decode cc pc = .ok (.getfield 15, 3)) (kk : W p l e R s m args below meth c H locs cells slots Q (F0 m (pc + 3) ls (.ref (ad o (2 + 1)) :: rest))) : W p l e R s m args below meth c H locs cells slots Q (F0 m pc ls (.ref (ad o 0) :: rest)) := r_get X hS (C := RX0) (T := TX0) (N := 7) (k := 2) tf0 rfl rfl ho (by decide) t1_51 ⟨rfl, rfl, rfl⟩ (by unfold fv; rw [ho.1]; rfl) hdg kk
theorem fg_X0_19 (X : Cx p s m args meth c D cy ad A RX0 cc nL ret) (hS : St D cy ad ns A M s.heap H locs) {o : Nat} (ho : Ob ns 0 o) (hdg : decode cc pc = .ok (.getfield 19, 3)) (kk : W p l e R s m args below meth c H locs cells slots Q (F0 m (pc + 3) ls (.ref (ad o (3 + 1)) :: rest))) : W p l e R s m args below meth c H locs cells slots Q (F0 m pc ls (.ref (ad o 0) :: rest)) := r_get X hS (C := RX0) (T := TX0) (N := 7) (k := 3) tf0 rfl rfl ho (by decide) t1_54 ⟨rfl, rfl, rfl⟩ (by unfold fv; rw [ho.1]; rfl) hdg kk
theorem fg_X0_22 (X : Cx p s m args meth c D cy ad A RX0 cc nL ret) (hS : St D cy ad ns A M s.heap H locs) {o : Nat} (ho : Ob ns 0 o) (hdg : decode cc pc = .ok (.getfield 22, 3)) (kk : W p l e R s m args below meth c H locs cells slots Q (F0 m (pc + 3) ls (.ref (ad o (4 + 1)) :: rest))) : W p l e R s m args below meth c H locs cells slots Q (F0 m pc ls (.ref (ad o 0) :: rest)) := r_get X hS (C := RX0) (T := TX0) (N := 7) (k := 4) tf0 rfl rfl ho (by decide) t1_56 ⟨rfl, rfl, rfl⟩ (by unfold fv; rw [ho.1]; rfl) hdg kk
theorem fg_X0_25 (X : Cx p s m args meth c D cy ad A RX0 cc nL ret) (hS : St D cy ad ns A M s.heap H locs) {o : Nat} (ho : Ob ns 0 o) (hdg : decode cc pc = .ok (.getfield 25, 3)) (kk : W p l e R s m args below meth c H locs cells slots Q (F0 m (pc + 3) ls (.ref (ad o (5 + 1)) :: rest))) : W p l e R s m args below meth c H locs cells slots Q (F0 m pc ls (.ref (ad o 0) :: rest)) := r_get X hS (C := RX0) (T := TX0) (N := 7) (k := 5) tf0 rfl rfl ho (by decide) t1_59 ⟨rfl, rfl, rfl⟩ (by unfold fv; rw [ho.1]; rfl) hdg kk
theorem fg_X0_28 (X : Cx p s m args meth c D cy ad A RX0 cc nL ret) (hS : St D cy ad ns A M s.heap H locs) {o : Nat} (ho : Ob ns 0 o) (hdg : decode cc pc = .ok (.getfield 28, 3)) (kk : W p l e R s m args below meth c H locs cells slots Q (F0 m (pc + 3) ls (.ref (ad o (6 + 1)) :: rest))) : W p l e R s m args below meth c H locs cells slots Q (F0 m pc ls (.ref (ad o 0) :: rest)) := r_get X hS (C := RX0) (T := TX0) (N := 7) (k := 6) tf0 rfl rfl ho (by decide) t1_63 ⟨rfl, rfl, rfl⟩ (by unfold fv; rw [ho.1]; rfl) hdg kk
theorem fg_X0_31 (X : Cx p s m args meth c D cy ad A RX0 cc nL ret) (hS : St D cy ad ns A M s.heap H locs) {o : Nat} (ho : Ob ns 0 o) (hdg : decode cc pc = .ok (.getfield 31, 3)) (kk : W p l e R s m args below meth c H locs cells slots Q (F0 m (pc + 3) ls (.int (gI M o 0) :: rest))) : W p l e R s m args below meth c H locs cells slots Q (F0 m pc ls (.ref (ad o 0) :: rest)) := r_get X hS (C := RX0) (T := TX0) (N := 7) (k := 0) tf0 rfl rfl ho (by decide) t1_41 ⟨rfl, rfl, rfl⟩ (by unfold fv; rw [ho.1]; rfl) hdg kk
theorem fp_X0_31 (X : Cx p s m args meth c D cy ad A RX0 cc nL ret) (hS : St D cy ad ns A M s.heap H locs) {o : Nat} (ho : Ob ns 0 o) {v : Int32} (hdg : decode cc pc = .ok (.putfield 31, 3)) (kk : ∀ (H1 : Heap) (locs1 : List Loc), St D cy ad ns A (sI M o 0 v) s.heap H1 locs1 → W p l e R s m args below meth c H1 locs1 cells slots Q (F0 m (pc + 3) ls rest)) : W p l e R s m args below meth c H locs cells slots Q (F0 m pc ls (.int v :: .ref (ad o 0) :: rest)) := r_put X hS (C := RX0) (T := TX0) (N := 7) (k := 0) tf0 rfl rfl tyX0 tyX0_ok nmX0 ho (by decide) t1_41 ⟨rfl, rfl, rfl⟩ rfl (ty := .int) (by decide +kernel) rfl rfl (wr_sI hS.1.2.2) (cel_sI (by rw [ho.1]; decide) (by rw [ho.1]; rfl)) (fun q hq => cel_sI' hq) hdg kk
end FR_10_X0
section MT_10_X0
variable {p : Program} {l : Launch} {e : Env} {s : State} {m : MethodId} {args : Array Value} {below : List Frame} {meth : Method} {c : Code} {D : va_G} {cy : Nat → ClassId} {ad : Nat → Nat → Nat} {ns : List (Nat × Nat)} {A : Nat → Prop}
/-! SewnYear$Coat.clear()V -/
def rm_X0_clear : Room := { frames := 1, cells := 0, slots := 0, locals := 23 }
def f_X0_clear (M : Mem) (o : Nat) : Option (Mem) :=
  nm (sI M o 0 (nI 0)) fun M1 => nm (sI M1 o 1 (nI 1)) fun M2 => nm (flA M2 o 5 9 (nI 0)) fun M3 => nm (flA M3 o 6 100 (nI 0)) fun M4 => some M4
set_option maxRecDepth 100000 in
set_option maxHeartbeats 4000000 in
theorem m_X0_clear {l : Launch} {D : va_G} {cy : Nat → ClassId} {ad : Nat → Nat → Nat} {ns : List (Nat × Nat)} {A : Nat → Prop} {M : Mem} (hN : NsC ns) {o : Nat} (ho : Ob ns 0 o) {r : Mem} (hX : f_X0_clear M o = some r) : Ct l yX0_clear cX0_clear 1 ((none : Option Jvm.ClassFile.FieldType)) rm_X0_clear D cy ad ns A [.ref (ad o 0)] M r none := by
  refine ct_of (lv := [(0, .ref (ad o 0))]) (by decide) (Nat.le_of_ble_eq_true rfl) rfl ?_
  intro p e s m args below meth c ls X hl hS
  obtain ⟨hx, hb, hml, hown, hts, hK, hr, hlk, hA, hG⟩ := id X
  obtain ⟨H, hH⟩ : ∃ z, z = s.heap := ⟨_, rfl⟩
  obtain ⟨locs, hlo⟩ : ∃ z : List Loc, z = [] := ⟨_, rfl⟩
  have hS : St D cy ad ns A M s.heap H locs := by rw [hH, hlo]; exact hS
  have hgoal : W p l e rm_X0_clear s m args below meth c H locs 0 0 (MQ below (QC D cy ad ns A r none) args s 0 0 A) (F0 m 0 ls []) := by
    unfold f_X0_clear at hX
    refine lv_aload_n hx hb dX0_clear_0 rfl (lv_at hl 0 rfl) ?_
    refine lv_iconst (v := nI 0) hx hb dX0_clear_1 (by decide) ?_
    refine fp_X0_31 X hS ho dX0_clear_2 (fun H locs hS => ?_)
    obtain ⟨M1, eM1, hS, hX⟩ := nm_mem hS hX
    refine lv_aload_n hx hb dX0_clear_5 rfl (lv_at hl 0 rfl) ?_
    refine lv_iconst (v := nI 1) hx hb dX0_clear_6 (by decide) ?_
    refine fp_X0_9 X hS ho dX0_clear_7 (fun H locs hS => ?_)
    obtain ⟨M2, eM2, hS, hX⟩ := nm_mem hS hX
    refine lv_aload_n hx hb dX0_clear_10 rfl (lv_at hl 0 rfl) ?_
    refine fg_X0_25 X hS ho dX0_clear_11 ?_
    refine lv_iconst (v := nI 0) hx hb dX0_clear_14 (by decide) ?_
    refine r_callS0 (As := [.ref (ad o (5 + 1)), .int (nI 0)]) (rest := []) X hS (m_fill ho (k := 5) rfl rfl (by decide)) ms_fill t2_221 ⟨rfl, rfl, Nat.le_of_ble_eq_true rfl, Nat.le_of_ble_eq_true rfl⟩ rfl hl.1 rfl (Nat.le_of_ble_eq_true rfl) ⟨Nat.zero_le _, Nat.zero_le _⟩ dX0_clear_15 (fun H locs hS => ?_)
    obtain ⟨M3, eM3, hS, hX⟩ := nm_mem hS hX
    refine lv_aload_n hx hb dX0_clear_18 rfl (lv_at hl 0 rfl) ?_
    refine fg_X0_28 X hS ho dX0_clear_19 ?_
    refine lv_iconst (v := nI 0) hx hb dX0_clear_22 (by decide) ?_
    refine r_callS0 (As := [.ref (ad o (6 + 1)), .int (nI 0)]) (rest := []) X hS (m_fill ho (k := 6) rfl rfl (by decide)) ms_fill t2_221 ⟨rfl, rfl, Nat.le_of_ble_eq_true rfl, Nat.le_of_ble_eq_true rfl⟩ rfl hl.1 rfl (Nat.le_of_ble_eq_true rfl) ⟨Nat.zero_le _, Nat.zero_le _⟩ dX0_clear_23 (fun H locs hS => ?_)
    obtain ⟨M4, eM4, hS, hX⟩ := nm_mem hS hX
    obtain rfl := some_of hX
    exact x_V X hS dX0_clear_26
  rw [hH, hlo] at hgoal
  exact hgoal
theorem mv_X0_clear : Mv yX0_clear RX0 cX0_clear 1 ((none : Option Jvm.ClassFile.FieldType)) 0 := ⟨t2_220, t2_218, t2_219, t1_3, ⟨by decide, by decide⟩, by decide +kernel⟩
/-! SewnYear$Coat.take(LSewnYear$Coat;)V -/
def rm_X0_take : Room := { frames := 1, cells := 0, slots := 0, locals := 60 }
def f_X0_take (M : Mem) (o : Nat) (a1 : Nat) : Option (Mem) :=
  nm (sI M o 0 (gI M a1 0)) fun M1 => nm (sI M1 o 1 (gI M1 a1 1)) fun M2 => nm (cpA M2 a1 2 o 2 9) fun M3 => nm (cpA M3 a1 3 o 3 9) fun M4 => nm (cpA M4 a1 4 o 4 9) fun M5 => nm (cpA M5 a1 5 o 5 9) fun M6 => nm (cpA M6 a1 6 o 6 100) fun M7 => some M7
set_option maxRecDepth 100000 in
set_option maxHeartbeats 4000000 in
theorem m_X0_take {l : Launch} {D : va_G} {cy : Nat → ClassId} {ad : Nat → Nat → Nat} {ns : List (Nat × Nat)} {A : Nat → Prop} {M : Mem} (hN : NsC ns) {o : Nat} {a1 : Nat} (ho : Ob ns 0 o) (ha1 : Ob ns 0 a1) {r : Mem} (hX : f_X0_take M o a1 = some r) : Ct l yX0_take cX0_take 2 ((none : Option Jvm.ClassFile.FieldType)) rm_X0_take D cy ad ns A [.ref (ad o 0), .ref (ad a1 0)] M r none := by
  refine ct_of (lv := [(0, .ref (ad o 0)), (1, .ref (ad a1 0))]) (by decide) (Nat.le_of_ble_eq_true rfl) rfl ?_
  intro p e s m args below meth c ls X hl hS
  obtain ⟨hx, hb, hml, hown, hts, hK, hr, hlk, hA, hG⟩ := id X
  obtain ⟨H, hH⟩ : ∃ z, z = s.heap := ⟨_, rfl⟩
  obtain ⟨locs, hlo⟩ : ∃ z : List Loc, z = [] := ⟨_, rfl⟩
  have hS : St D cy ad ns A M s.heap H locs := by rw [hH, hlo]; exact hS
  have hgoal : W p l e rm_X0_take s m args below meth c H locs 0 0 (MQ below (QC D cy ad ns A r none) args s 0 0 A) (F0 m 0 ls []) := by
    unfold f_X0_take at hX
    refine lv_aload_n hx hb dX0_take_0 rfl (lv_at hl 0 rfl) ?_
    refine lv_aload_n hx hb dX0_take_1 rfl (lv_at hl 1 rfl) ?_
    refine fg_X0_31 X hS ha1 dX0_take_2 ?_
    refine fp_X0_31 X hS ho dX0_take_5 (fun H locs hS => ?_)
    obtain ⟨M1, eM1, hS, hX⟩ := nm_mem hS hX
    refine lv_aload_n hx hb dX0_take_8 rfl (lv_at hl 0 rfl) ?_
    refine lv_aload_n hx hb dX0_take_9 rfl (lv_at hl 1 rfl) ?_
    refine fg_X0_9 X hS ha1 dX0_take_10 ?_
    refine fp_X0_9 X hS ho dX0_take_13 (fun H locs hS => ?_)
    obtain ⟨M2, eM2, hS, hX⟩ := nm_mem hS hX
    refine lv_aload_n hx hb dX0_take_16 rfl (lv_at hl 1 rfl) ?_
    refine fg_X0_15 X hS ha1 dX0_take_17 ?_
    refine lv_iconst (v := nI 0) hx hb dX0_take_20 (by decide) ?_
    refine lv_aload_n hx hb dX0_take_21 rfl (lv_at hl 0 rfl) ?_
    refine fg_X0_15 X hS ho dX0_take_22 ?_
    refine lv_iconst (v := nI 0) hx hb dX0_take_25 (by decide) ?_
    refine lv_bipush (v := nI 9) hx hb dX0_take_26 (by decide) ?_
    refine r_copy (c0 := 0) (c1 := 0) (o := a1) (k := 2) (o' := o) (k' := 2) (n := 9) X hS ha1 ho rfl rfl (by decide) (by decide) (by decide) (by decide) hl.1 t3_150 t3_152 t3_151 t1_18 (Nat.le_of_ble_eq_true rfl) (Nat.le_of_ble_eq_true rfl) dX0_take_28 (fun H locs hS => ?_)
    obtain ⟨M3, eM3, hS, hX⟩ := nm_mem hS hX
    refine lv_aload_n hx hb dX0_take_31 rfl (lv_at hl 1 rfl) ?_
    refine fg_X0_19 X hS ha1 dX0_take_32 ?_
    refine lv_iconst (v := nI 0) hx hb dX0_take_35 (by decide) ?_
    refine lv_aload_n hx hb dX0_take_36 rfl (lv_at hl 0 rfl) ?_
    refine fg_X0_19 X hS ho dX0_take_37 ?_
    refine lv_iconst (v := nI 0) hx hb dX0_take_40 (by decide) ?_
    refine lv_bipush (v := nI 9) hx hb dX0_take_41 (by decide) ?_
    refine r_copy (c0 := 0) (c1 := 0) (o := a1) (k := 3) (o' := o) (k' := 3) (n := 9) X hS ha1 ho rfl rfl (by decide) (by decide) (by decide) (by decide) hl.1 t3_150 t3_152 t3_151 t1_18 (Nat.le_of_ble_eq_true rfl) (Nat.le_of_ble_eq_true rfl) dX0_take_43 (fun H locs hS => ?_)
    obtain ⟨M4, eM4, hS, hX⟩ := nm_mem hS hX
    refine lv_aload_n hx hb dX0_take_46 rfl (lv_at hl 1 rfl) ?_
    refine fg_X0_22 X hS ha1 dX0_take_47 ?_
    refine lv_iconst (v := nI 0) hx hb dX0_take_50 (by decide) ?_
    refine lv_aload_n hx hb dX0_take_51 rfl (lv_at hl 0 rfl) ?_
    refine fg_X0_22 X hS ho dX0_take_52 ?_
    refine lv_iconst (v := nI 0) hx hb dX0_take_55 (by decide) ?_
    refine lv_bipush (v := nI 9) hx hb dX0_take_56 (by decide) ?_
    refine r_copy (c0 := 0) (c1 := 0) (o := a1) (k := 4) (o' := o) (k' := 4) (n := 9) X hS ha1 ho rfl rfl (by decide) (by decide) (by decide) (by decide) hl.1 t3_150 t3_152 t3_151 t1_18 (Nat.le_of_ble_eq_true rfl) (Nat.le_of_ble_eq_true rfl) dX0_take_58 (fun H locs hS => ?_)
    obtain ⟨M5, eM5, hS, hX⟩ := nm_mem hS hX
    refine lv_aload_n hx hb dX0_take_61 rfl (lv_at hl 1 rfl) ?_
    refine fg_X0_25 X hS ha1 dX0_take_62 ?_
    refine lv_iconst (v := nI 0) hx hb dX0_take_65 (by decide) ?_
    refine lv_aload_n hx hb dX0_take_66 rfl (lv_at hl 0 rfl) ?_
    refine fg_X0_25 X hS ho dX0_take_67 ?_
    refine lv_iconst (v := nI 0) hx hb dX0_take_70 (by decide) ?_
    refine lv_bipush (v := nI 9) hx hb dX0_take_71 (by decide) ?_
    refine r_copy (c0 := 0) (c1 := 0) (o := a1) (k := 5) (o' := o) (k' := 5) (n := 9) X hS ha1 ho rfl rfl (by decide) (by decide) (by decide) (by decide) hl.1 t3_150 t3_152 t3_151 t1_18 (Nat.le_of_ble_eq_true rfl) (Nat.le_of_ble_eq_true rfl) dX0_take_73 (fun H locs hS => ?_)
    obtain ⟨M6, eM6, hS, hX⟩ := nm_mem hS hX
    refine lv_aload_n hx hb dX0_take_76 rfl (lv_at hl 1 rfl) ?_
    refine fg_X0_28 X hS ha1 dX0_take_77 ?_
    refine lv_iconst (v := nI 0) hx hb dX0_take_80 (by decide) ?_
    refine lv_aload_n hx hb dX0_take_81 rfl (lv_at hl 0 rfl) ?_
    refine fg_X0_28 X hS ho dX0_take_82 ?_
    refine lv_iconst (v := nI 0) hx hb dX0_take_85 (by decide) ?_
    refine lv_bipush (v := nI 100) hx hb dX0_take_86 (by decide) ?_
    refine r_copy (c0 := 0) (c1 := 0) (o := a1) (k := 6) (o' := o) (k' := 6) (n := 100) X hS ha1 ho rfl rfl (by decide) (by decide) (by decide) (by decide) hl.1 t3_150 t3_152 t3_151 t1_18 (Nat.le_of_ble_eq_true rfl) (Nat.le_of_ble_eq_true rfl) dX0_take_88 (fun H locs hS => ?_)
    obtain ⟨M7, eM7, hS, hX⟩ := nm_mem hS hX
    obtain rfl := some_of hX
    exact x_V X hS dX0_take_91
  rw [hH, hlo] at hgoal
  exact hgoal
theorem mv_X0_take : Mv yX0_take RX0 cX0_take 2 ((none : Option Jvm.ClassFile.FieldType)) 1 := ⟨t3_149, t3_147, t3_148, t1_3, ⟨by decide, by decide⟩, by decide +kernel⟩
/-! SewnYear$Coat.addSeam(III)V -/
def rm_X0_addSeam : Room := { frames := 0, cells := 0, slots := 0, locals := 0 }
def f_X0_addSeam (M : Mem) (o : Nat) (a1 : Int32) (a2 : Int32) (a3 : Int32) : Option (Mem) :=
  if (nI 9) ≤ (gI M o 0) then (some M) else (gin (gI M o 0) 9 <| nm (sA M o 2 (ix (gI M o 0)) a1) fun M3 => gin (gI M3 o 0) 9 <| nm (sA M3 o 3 (ix (gI M3 o 0)) a2) fun M5 => gin (gI M5 o 0) 9 <| nm (sA M5 o 4 (ix (gI M5 o 0)) a3) fun M7 => nm (sI M7 o 0 ((gI M7 o 0) + (nI 1))) fun M8 => some M8)
set_option maxRecDepth 100000 in
set_option maxHeartbeats 4000000 in
theorem m_X0_addSeam {l : Launch} {D : va_G} {cy : Nat → ClassId} {ad : Nat → Nat → Nat} {ns : List (Nat × Nat)} {A : Nat → Prop} {M : Mem} (hN : NsC ns) {o : Nat} {a1 : Int32} {a2 : Int32} {a3 : Int32} (ho : Ob ns 0 o) {r : Mem} (hX : f_X0_addSeam M o a1 a2 a3 = some r) : Ct l yX0_addSeam cX0_addSeam 4 ((none : Option Jvm.ClassFile.FieldType)) rm_X0_addSeam D cy ad ns A [.ref (ad o 0), .int a1, .int a2, .int a3] M r none := by
  refine ct_of (lv := [(0, .ref (ad o 0)), (1, .int a1), (2, .int a2), (3, .int a3)]) (by decide) (Nat.le_of_ble_eq_true rfl) rfl ?_
  intro p e s m args below meth c ls X hl hS
  obtain ⟨hx, hb, hml, hown, hts, hK, hr, hlk, hA, hG⟩ := id X
  obtain ⟨H, hH⟩ : ∃ z, z = s.heap := ⟨_, rfl⟩
  obtain ⟨locs, hlo⟩ : ∃ z : List Loc, z = [] := ⟨_, rfl⟩
  have hS : St D cy ad ns A M s.heap H locs := by rw [hH, hlo]; exact hS
  have hgoal : W p l e rm_X0_addSeam s m args below meth c H locs 0 0 (MQ below (QC D cy ad ns A r none) args s 0 0 A) (F0 m 0 ls []) := by
    unfold f_X0_addSeam at hX
    refine lv_aload_n hx hb dX0_addSeam_0 rfl (lv_at hl 0 rfl) ?_
    refine fg_X0_31 X hS ho dX0_addSeam_1 ?_
    refine lv_bipush (v := nI 9) hx hb dX0_addSeam_4 (by decide) ?_
    refine lv_icmp_ge (tgt := 49) hx hb dX0_addSeam_6 (by decide) (fun c1 => ?_) (fun c1 => ?_)
    · have hX := if_t c1 hX
      obtain rfl := some_of hX
      exact x_V X hS dX0_addSeam_49
    · have hX := if_f c1 hX
      refine lv_aload_n hx hb dX0_addSeam_9 rfl (lv_at hl 0 rfl) ?_
      refine fg_X0_15 X hS ho dX0_addSeam_10 ?_
      refine lv_aload_n hx hb dX0_addSeam_13 rfl (lv_at hl 0 rfl) ?_
      refine fg_X0_31 X hS ho dX0_addSeam_14 ?_
      refine lv_iload_n hx hb dX0_addSeam_17 rfl (lv_at hl 1 rfl) ?_
      obtain ⟨g2, hX⟩ := gin_of hX
      refine r_iast (ci := 0) (o := o) (k := 2) (n := 9) X hS ho rfl rfl g2 dX0_addSeam_18 (fun H locs hS => ?_)
      obtain ⟨M3, eM3, hS, hX⟩ := nm_mem hS hX
      refine lv_aload_n hx hb dX0_addSeam_19 rfl (lv_at hl 0 rfl) ?_
      refine fg_X0_19 X hS ho dX0_addSeam_20 ?_
      refine lv_aload_n hx hb dX0_addSeam_23 rfl (lv_at hl 0 rfl) ?_
      refine fg_X0_31 X hS ho dX0_addSeam_24 ?_
      refine lv_iload_n hx hb dX0_addSeam_27 rfl (lv_at hl 2 rfl) ?_
      obtain ⟨g4, hX⟩ := gin_of hX
      refine r_iast (ci := 0) (o := o) (k := 3) (n := 9) X hS ho rfl rfl g4 dX0_addSeam_28 (fun H locs hS => ?_)
      obtain ⟨M5, eM5, hS, hX⟩ := nm_mem hS hX
      refine lv_aload_n hx hb dX0_addSeam_29 rfl (lv_at hl 0 rfl) ?_
      refine fg_X0_22 X hS ho dX0_addSeam_30 ?_
      refine lv_aload_n hx hb dX0_addSeam_33 rfl (lv_at hl 0 rfl) ?_
      refine fg_X0_31 X hS ho dX0_addSeam_34 ?_
      refine lv_iload_n hx hb dX0_addSeam_37 rfl (lv_at hl 3 rfl) ?_
      obtain ⟨g6, hX⟩ := gin_of hX
      refine r_iast (ci := 0) (o := o) (k := 4) (n := 9) X hS ho rfl rfl g6 dX0_addSeam_38 (fun H locs hS => ?_)
      obtain ⟨M7, eM7, hS, hX⟩ := nm_mem hS hX
      refine lv_aload_n hx hb dX0_addSeam_39 rfl (lv_at hl 0 rfl) ?_
      refine lv_dup hx hb dX0_addSeam_40 rfl ?_
      refine fg_X0_31 X hS ho dX0_addSeam_41 ?_
      refine lv_iconst (v := nI 1) hx hb dX0_addSeam_44 (by decide) ?_
      refine lv_iadd hx hb dX0_addSeam_45 ?_
      refine fp_X0_31 X hS ho dX0_addSeam_46 (fun H locs hS => ?_)
      obtain ⟨M8, eM8, hS, hX⟩ := nm_mem hS hX
      obtain rfl := some_of hX
      exact x_V X hS dX0_addSeam_49
  rw [hH, hlo] at hgoal
  exact hgoal
theorem mv_X0_addSeam : Mv yX0_addSeam RX0 cX0_addSeam 4 ((none : Option Jvm.ClassFile.FieldType)) 3 := ⟨t3_110, t3_108, t3_109, t1_3, ⟨by decide, by decide⟩, by decide +kernel⟩
/-! SewnYear$Coat.hasSeam(I)Z -/
def rm_X0_hasSeam : Room := { frames := 0, cells := 0, slots := 0, locals := 0 }
def f_X0_hasSeam (M : Mem) (o : Nat) (a1 : Int32) : Option (Bool) :=
  if a1 < (nI 0) then (some false) else (if (gI M o 0) ≤ a1 then (some false) else (some true))
set_option maxRecDepth 100000 in
set_option maxHeartbeats 4000000 in
theorem m_X0_hasSeam {l : Launch} {D : va_G} {cy : Nat → ClassId} {ad : Nat → Nat → Nat} {ns : List (Nat × Nat)} {A : Nat → Prop} {M : Mem} (hN : NsC ns) {o : Nat} {a1 : Int32} (ho : Ob ns 0 o) {r : Bool} (hX : f_X0_hasSeam M o a1 = some r) : Ct l yX0_hasSeam cX0_hasSeam 2 ((some .boolean)) rm_X0_hasSeam D cy ad ns A [.ref (ad o 0), .int a1] M M (some (.int (b2i r))) := by
  refine ct_of (lv := [(0, .ref (ad o 0)), (1, .int a1)]) (by decide) (Nat.le_of_ble_eq_true rfl) rfl ?_
  intro p e s m args below meth c ls X hl hS
  obtain ⟨hx, hb, hml, hown, hts, hK, hr, hlk, hA, hG⟩ := id X
  obtain ⟨H, hH⟩ : ∃ z, z = s.heap := ⟨_, rfl⟩
  obtain ⟨locs, hlo⟩ : ∃ z : List Loc, z = [] := ⟨_, rfl⟩
  have hS : St D cy ad ns A M s.heap H locs := by rw [hH, hlo]; exact hS
  have hgoal : W p l e rm_X0_hasSeam s m args below meth c H locs 0 0 (MQ below (QC D cy ad ns A M (some (.int (b2i r)))) args s 0 0 A) (F0 m 0 ls []) := by
    unfold f_X0_hasSeam at hX
    refine lv_iload_n hx hb dX0_hasSeam_0 rfl (lv_at hl 1 rfl) ?_
    refine lv_if_lt (tgt := 16) hx hb dX0_hasSeam_1 (by decide) (fun c1 => ?_) (fun c1 => ?_)
    · have hX := if_t c1 hX
      refine lv_iconst (v := nI 0) hx hb dX0_hasSeam_16 (by decide) ?_
      obtain rfl := some_of hX
      exact x_Z (v := false) X hS dX0_hasSeam_17
    · have hX := if_f c1 hX
      refine lv_iload_n hx hb dX0_hasSeam_4 rfl (lv_at hl 1 rfl) ?_
      refine lv_aload_n hx hb dX0_hasSeam_5 rfl (lv_at hl 0 rfl) ?_
      refine fg_X0_31 X hS ho dX0_hasSeam_6 ?_
      refine lv_icmp_ge (tgt := 16) hx hb dX0_hasSeam_9 (by decide) (fun c2 => ?_) (fun c2 => ?_)
      · have hX := if_t c2 hX
        refine lv_iconst (v := nI 0) hx hb dX0_hasSeam_16 (by decide) ?_
        obtain rfl := some_of hX
        exact x_Z (v := false) X hS dX0_hasSeam_17
      · have hX := if_f c2 hX
        refine lv_iconst (v := nI 1) hx hb dX0_hasSeam_12 (by decide) ?_
        refine lv_goto (tgt := 17) hx hb dX0_hasSeam_13 (by decide) ?_
        obtain rfl := some_of hX
        exact x_Z (v := true) X hS dX0_hasSeam_17
  rw [hH, hlo] at hgoal
  exact hgoal
theorem mv_X0_hasSeam : Mv yX0_hasSeam RX0 cX0_hasSeam 2 ((some .boolean)) 1 := ⟨t3_194, t3_192, t3_193, t1_3, ⟨by decide, by decide⟩, by decide +kernel⟩
/-! SewnYear$Coat.tell(I)I -/
def rm_X0_tell : Room := { frames := 1, cells := 0, slots := 0, locals := 21 }
def f_X0_tell_42 (M : Mem) (o : Nat) (a1 : Int32) : Option (Int32) :=
  gnz (nI 10) <| nm (a1 - a1 / (nI 10) * (nI 10)) fun v2 => if a1 < (nI 10) then (some (-1)) else (bn (f_X0_hasSeam M o v2) fun r5 => if r5 = true then (gnz (nI 10) <| nm (a1 / (nI 10)) fun v8 => if v8 = nI 1 then (gin v2 9 <| some (gA M o 2 (ix v2))) else if v8 = nI 2 then (gin v2 9 <| some (gA M o 3 (ix v2))) else if v8 = nI 3 then (gin v2 9 <| some (gA M o 4 (ix v2))) else if v8 = nI 4 then (gin v2 9 <| some (gA M o 5 (ix v2))) else (some (-1))) else (some (-1)))
def f_X0_tell (M : Mem) (o : Nat) (a1 : Int32) : Option (Int32) :=
  if a1 = (nI 0) then (some (gI M o 0)) else (if a1 = (nI 1) then (some (gI M o 1)) else (if a1 < (nI 100) then (f_X0_tell_42 M o a1) else (if (nI 200) ≤ a1 then (f_X0_tell_42 M o a1) else (gin (a1 - (nI 100)) 100 <| some (gA M o 6 (ix (a1 - (nI 100))))))))
set_option maxRecDepth 100000 in
set_option maxHeartbeats 4000000 in
theorem n_X0_tell_42 {o : Nat} {a1 : Int32} (X : Cx p s m args meth c D cy ad A RX0 cX0_tell 3 ((some .int))) (hN : NsC ns) (ho : Ob ns 0 o) {M : Mem} {r : Int32} (hX : f_X0_tell_42 M o a1 = some r) : ∀ (ls : Array Slot) (H : Heap) (locs : List Loc), lv_has ls 3 [(0, .ref (ad o 0)), (1, .int a1)] → St D cy ad ns A M s.heap H locs → W p l e rm_X0_tell s m args below meth c H locs 0 0 (MQ below (QC D cy ad ns A M (some (.int r))) args s 0 0 A) (F0 m 42 ls []) := by
  obtain ⟨hx, hb, hml, hown, hts, hK, hr, hlk, hA, hG⟩ := id X
  intro ls H locs hl hS
  unfold f_X0_tell_42 at hX
  refine lv_iload_n hx hb dX0_tell_42 rfl (lv_at hl 1 rfl) ?_
  refine lv_bipush (v := nI 10) hx hb dX0_tell_43 (by decide) ?_
  obtain ⟨g1, hX⟩ := gnz_of hX
  refine lv_irem hx hb dX0_tell_45 g1 ?_
  refine lv_topi (fun v2 ev2 => ?_)
  have hX := nm_of ev2 hX
  refine lv_istore_n (lv' := [(2, .int v2), (0, .ref (ad o 0)), (1, .int a1)]) hx hb dX0_tell_46 rfl hl (by decide) rfl (fun ls hl => ?_)
  refine lv_iload_n hx hb dX0_tell_47 rfl (lv_at hl 2 rfl) ?_
  refine lv_bipush (v := nI 10) hx hb dX0_tell_48 (by decide) ?_
  refine lv_icmp_lt (tgt := 61) hx hb dX0_tell_50 (by decide) (fun c3 => ?_) (fun c3 => ?_)
  · have hX := if_t c3 hX
    refine lv_iconst (v := (-1)) hx hb dX0_tell_61 (by decide) ?_
    obtain rfl := some_of hX
    exact x_I (v := (-1)) X hS dX0_tell_62
  · have hX := if_f c3 hX
    refine lv_aload_n hx hb dX0_tell_53 rfl (lv_at hl 1 rfl) ?_
    refine lv_iload_n hx hb dX0_tell_54 rfl (lv_at hl 0 rfl) ?_
    obtain ⟨r5, h4, hX⟩ := bn_of hX
    refine r_callV1 (v := .int (b2i r5)) (As := [.int v2]) (rest := []) X hS (m_X0_hasSeam hN ho h4) mv_X0_hasSeam rfl ho t3_191 ⟨rfl, rfl, Nat.le_of_ble_eq_true rfl, Nat.le_of_ble_eq_true rfl⟩ rfl hl.1 rfl (Nat.le_of_ble_eq_true rfl) ⟨Nat.zero_le _, Nat.zero_le _⟩ dX0_tell_55 (fun H locs hS => ?_)
    refine lv_if_ne (tgt := 63) hx hb dX0_tell_58 (by decide) (fun c6 => ?_) (fun c6 => ?_)
    · have hX := if_bt c6 hX
      refine lv_iload_n hx hb dX0_tell_63 rfl (lv_at hl 2 rfl) ?_
      refine lv_bipush (v := nI 10) hx hb dX0_tell_64 (by decide) ?_
      obtain ⟨g7, hX⟩ := gnz_of hX
      refine lv_idiv hx hb dX0_tell_66 g7 ?_
      refine lv_topi (fun v8 ev8 => ?_)
      have hX := nm_of ev8 hX
      by_cases c9 : v8 = nI 1
      · have hX := if_t c9 hX
        refine r_tabIn c9 (off := 29) (tgt := 96) hx hb dX0_tell_67 (by decide) (by decide) (by decide) (by decide) ?_
        refine lv_aload_n hx hb dX0_tell_96 rfl (lv_at hl 1 rfl) ?_
        refine fg_X0_15 X hS ho dX0_tell_97 ?_
        refine lv_iload_n hx hb dX0_tell_100 rfl (lv_at hl 0 rfl) ?_
        obtain ⟨g10, hX⟩ := gin_of hX
        refine r_iald (ci := 0) (o := o) (k := 2) (n := 9) X hS ho rfl rfl g10 dX0_tell_101 ?_
        obtain rfl := some_of hX
        exact x_I (v := (gA M o 2 (ix v2))) X hS dX0_tell_102
      have hX := if_f c9 hX
      by_cases c11 : v8 = nI 2
      · have hX := if_t c11 hX
        refine r_tabIn c11 (off := 36) (tgt := 103) hx hb dX0_tell_67 (by decide) (by decide) (by decide) (by decide) ?_
        refine lv_aload_n hx hb dX0_tell_103 rfl (lv_at hl 1 rfl) ?_
        refine fg_X0_19 X hS ho dX0_tell_104 ?_
        refine lv_iload_n hx hb dX0_tell_107 rfl (lv_at hl 0 rfl) ?_
        obtain ⟨g12, hX⟩ := gin_of hX
        refine r_iald (ci := 0) (o := o) (k := 3) (n := 9) X hS ho rfl rfl g12 dX0_tell_108 ?_
        obtain rfl := some_of hX
        exact x_I (v := (gA M o 3 (ix v2))) X hS dX0_tell_109
      have hX := if_f c11 hX
      by_cases c13 : v8 = nI 3
      · have hX := if_t c13 hX
        refine r_tabIn c13 (off := 43) (tgt := 110) hx hb dX0_tell_67 (by decide) (by decide) (by decide) (by decide) ?_
        refine lv_aload_n hx hb dX0_tell_110 rfl (lv_at hl 1 rfl) ?_
        refine fg_X0_22 X hS ho dX0_tell_111 ?_
        refine lv_iload_n hx hb dX0_tell_114 rfl (lv_at hl 0 rfl) ?_
        obtain ⟨g14, hX⟩ := gin_of hX
        refine r_iald (ci := 0) (o := o) (k := 4) (n := 9) X hS ho rfl rfl g14 dX0_tell_115 ?_
        obtain rfl := some_of hX
        exact x_I (v := (gA M o 4 (ix v2))) X hS dX0_tell_116
      have hX := if_f c13 hX
      by_cases c15 : v8 = nI 4
      · have hX := if_t c15 hX
        refine r_tabIn c15 (off := 50) (tgt := 117) hx hb dX0_tell_67 (by decide) (by decide) (by decide) (by decide) ?_
        refine lv_aload_n hx hb dX0_tell_117 rfl (lv_at hl 1 rfl) ?_
        refine fg_X0_25 X hS ho dX0_tell_118 ?_
        refine lv_iload_n hx hb dX0_tell_121 rfl (lv_at hl 0 rfl) ?_
        obtain ⟨g16, hX⟩ := gin_of hX
        refine r_iald (ci := 0) (o := o) (k := 5) (n := 9) X hS ho rfl rfl g16 dX0_tell_122 ?_
        obtain rfl := some_of hX
        exact x_I (v := (gA M o 5 (ix v2))) X hS dX0_tell_123
      have hX := if_f c15 hX
      have ic9 : ¬ v8.toInt = 1 := lv_neT c9 rfl
      have ic11 : ¬ v8.toInt = 2 := lv_neT c11 rfl
      have ic13 : ¬ v8.toInt = 3 := lv_neT c13 rfl
      have ic15 : ¬ v8.toInt = 4 := lv_neT c15 rfl
      refine lv_tableOut (tgt := 124) hx hb dX0_tell_67 (by omega) (by decide) ?_
      refine lv_iconst (v := (-1)) hx hb dX0_tell_124 (by decide) ?_
      obtain rfl := some_of hX
      exact x_I (v := (-1)) X hS dX0_tell_125
    · have hX := if_bf c6 hX
      refine lv_iconst (v := (-1)) hx hb dX0_tell_61 (by decide) ?_
      obtain rfl := some_of hX
      exact x_I (v := (-1)) X hS dX0_tell_62
set_option maxRecDepth 100000 in
set_option maxHeartbeats 4000000 in
theorem m_X0_tell {l : Launch} {D : va_G} {cy : Nat → ClassId} {ad : Nat → Nat → Nat} {ns : List (Nat × Nat)} {A : Nat → Prop} {M : Mem} (hN : NsC ns) {o : Nat} {a1 : Int32} (ho : Ob ns 0 o) {r : Int32} (hX : f_X0_tell M o a1 = some r) : Ct l yX0_tell cX0_tell 3 ((some .int)) rm_X0_tell D cy ad ns A [.ref (ad o 0), .int a1] M M (some (.int r)) := by
  refine ct_of (lv := [(0, .ref (ad o 0)), (1, .int a1)]) (by decide) (Nat.le_of_ble_eq_true rfl) rfl ?_
  intro p e s m args below meth c ls X hl hS
  obtain ⟨hx, hb, hml, hown, hts, hK, hr, hlk, hA, hG⟩ := id X
  obtain ⟨H, hH⟩ : ∃ z, z = s.heap := ⟨_, rfl⟩
  obtain ⟨locs, hlo⟩ : ∃ z : List Loc, z = [] := ⟨_, rfl⟩
  have hS : St D cy ad ns A M s.heap H locs := by rw [hH, hlo]; exact hS
  have hgoal : W p l e rm_X0_tell s m args below meth c H locs 0 0 (MQ below (QC D cy ad ns A M (some (.int r))) args s 0 0 A) (F0 m 0 ls []) := by
    unfold f_X0_tell at hX
    refine lv_iload_n hx hb dX0_tell_0 rfl (lv_at hl 1 rfl) ?_
    refine lv_if_ne (tgt := 9) hx hb dX0_tell_1 (by decide) (fun c17 => ?_) (fun c17 => ?_)
    · have hX := if_f c17 hX
      refine lv_iload_n hx hb dX0_tell_9 rfl (lv_at hl 1 rfl) ?_
      refine lv_iconst (v := nI 1) hx hb dX0_tell_10 (by decide) ?_
      refine lv_icmp_ne (tgt := 19) hx hb dX0_tell_11 (by decide) (fun c18 => ?_) (fun c18 => ?_)
      · have hX := if_f c18 hX
        refine lv_iload_n hx hb dX0_tell_19 rfl (lv_at hl 1 rfl) ?_
        refine lv_bipush (v := nI 100) hx hb dX0_tell_20 (by decide) ?_
        refine lv_icmp_lt (tgt := 42) hx hb dX0_tell_22 (by decide) (fun c19 => ?_) (fun c19 => ?_)
        · have hX := if_t c19 hX
          exact n_X0_tell_42 X hN ho hX _ _ _ (lv_sub hl [0, 1] rfl) hS
        · have hX := if_f c19 hX
          refine lv_iload_n hx hb dX0_tell_25 rfl (lv_at hl 1 rfl) ?_
          refine lv_sipush (v := nI 200) hx hb dX0_tell_26 (by decide) ?_
          refine lv_icmp_ge (tgt := 42) hx hb dX0_tell_29 (by decide) (fun c20 => ?_) (fun c20 => ?_)
          · have hX := if_t c20 hX
            exact n_X0_tell_42 X hN ho hX _ _ _ (lv_sub hl [0, 1] rfl) hS
          · have hX := if_f c20 hX
            refine lv_aload_n hx hb dX0_tell_32 rfl (lv_at hl 0 rfl) ?_
            refine fg_X0_28 X hS ho dX0_tell_33 ?_
            refine lv_iload_n hx hb dX0_tell_36 rfl (lv_at hl 1 rfl) ?_
            refine lv_bipush (v := nI 100) hx hb dX0_tell_37 (by decide) ?_
            refine lv_isub hx hb dX0_tell_39 ?_
            obtain ⟨g21, hX⟩ := gin_of hX
            refine r_iald (ci := 0) (o := o) (k := 6) (n := 100) X hS ho rfl rfl g21 dX0_tell_40 ?_
            obtain rfl := some_of hX
            exact x_I (v := (gA M o 6 (ix (a1 - (nI 100))))) X hS dX0_tell_41
      · have hX := if_t c18 hX
        refine lv_aload_n hx hb dX0_tell_14 rfl (lv_at hl 0 rfl) ?_
        refine fg_X0_9 X hS ho dX0_tell_15 ?_
        obtain rfl := some_of hX
        exact x_I (v := (gI M o 1)) X hS dX0_tell_18
    · have hX := if_t c17 hX
      refine lv_aload_n hx hb dX0_tell_4 rfl (lv_at hl 0 rfl) ?_
      refine fg_X0_31 X hS ho dX0_tell_5 ?_
      obtain rfl := some_of hX
      exact x_I (v := (gI M o 0)) X hS dX0_tell_8
  rw [hH, hlo] at hgoal
  exact hgoal
theorem mv_X0_tell : Mv yX0_tell RX0 cX0_tell 3 ((some .int)) 1 := ⟨t3_190, t3_188, t3_189, t1_3, ⟨by decide, by decide⟩, by decide +kernel⟩
/-! SewnYear$Coat.stitchesOf(I)I -/
def rm_X0_stitchesOf : Room := { frames := 0, cells := 0, slots := 0, locals := 0 }
def f_X0_stitchesOf_30 (M : Mem) (o : Nat) (a1 : Int32) (k_4 : Int32 → Int32 → Option (Int32)) (v_2 : Int32) (v_3 : Int32) : Option (Int32) :=
  nm (v_3 + nI 1) fun v1 => k_4 v_2 v1
def b_X0_stitchesOf_4 (M : Mem) (o : Nat) (a1 : Int32) (rc : Int32 → Int32 → Option (Int32)) (v_2 : Int32) (v_3 : Int32) : Option (Int32) :=
  if (gI M o 0) ≤ v_3 then (some v_2) else (if ((a1 >>> (v_3 &&& 31)) &&& (nI 1)) = (nI 1) then (gin v_3 9 <| nm (v_2 + (gA M o 2 (ix v_3))) fun v5 => f_X0_stitchesOf_30 M o a1 rc v5 v_3) else (f_X0_stitchesOf_30 M o a1 rc v_2 v_3))
def f_X0_stitchesOf_4 (M : Mem) (o : Nat) (a1 : Int32) : Nat → (Int32 × Int32) → Option (Int32) := lp (fun rc q => b_X0_stitchesOf_4 M o a1 (fun x0 x1 => rc (x0, x1)) q.1 q.2)
def f_X0_stitchesOf (M : Mem) (o : Nat) (a1 : Int32) : Option (Int32) :=
  f_X0_stitchesOf_4 M o a1 FU ((nI 0), (nI 0))
set_option maxRecDepth 100000 in
set_option maxHeartbeats 4000000 in
theorem n_X0_stitchesOf_30 {o : Nat} {a1 : Int32} (X : Cx p s m args meth c D cy ad A RX0 cX0_stitchesOf 4 ((some .int))) (hN : NsC ns) (ho : Ob ns 0 o) {M : Mem} {k_4 : Int32 → Int32 → Option (Int32)} {v_2 : Int32} {v_3 : Int32} {r : Int32} (hX : f_X0_stitchesOf_30 M o a1 k_4 v_2 v_3 = some r) : (∀ (v_2 : Int32) (v_3 : Int32) (r : Int32), k_4 v_2 v_3 = some r → ∀ (ls : Array Slot) (H : Heap) (locs : List Loc), lv_has ls 4 [(0, .ref (ad o 0)), (1, .int a1), (2, .int v_2), (3, .int v_3)] → St D cy ad ns A M s.heap H locs → W p l e rm_X0_stitchesOf s m args below meth c H locs 0 0 (MQ below (QC D cy ad ns A M (some (.int r))) args s 0 0 A) (F0 m 4 ls [])) → ∀ (ls : Array Slot) (H : Heap) (locs : List Loc), lv_has ls 4 [(0, .ref (ad o 0)), (1, .int a1), (2, .int v_2), (3, .int v_3)] → St D cy ad ns A M s.heap H locs → W p l e rm_X0_stitchesOf s m args below meth c H locs 0 0 (MQ below (QC D cy ad ns A M (some (.int r))) args s 0 0 A) (F0 m 30 ls []) := by
  obtain ⟨hx, hb, hml, hown, hts, hK, hr, hlk, hA, hG⟩ := id X
  intro hk_4 ls H locs hl hS
  unfold f_X0_stitchesOf_30 at hX
  obtain ⟨v1, ev1⟩ : ∃ y : Int32, y = (v_3 + nI 1) := ⟨_, rfl⟩
  have hX := nm_of ev1 hX
  refine lv_iinc (v := v1) (lv' := [(3, .int v1), (0, .ref (ad o 0)), (1, .int a1), (2, .int v_2)]) hx hb dX0_stitchesOf_30 hl (k := 3) rfl (by rw [ev1]; rfl) (by decide) rfl (fun ls hl => ?_)
  refine lv_goto (tgt := 4) hx hb dX0_stitchesOf_33 (by decide) ?_
  exact hk_4 _ _ _ hX _ _ _ (lv_sub hl [1, 2, 3, 0] rfl) hS
set_option maxRecDepth 100000 in
set_option maxHeartbeats 4000000 in
theorem n_X0_stitchesOf_4 {o : Nat} {a1 : Int32} (X : Cx p s m args meth c D cy ad A RX0 cX0_stitchesOf 4 ((some .int))) (hN : NsC ns) (ho : Ob ns 0 o) {M : Mem} : ∀ (n : Nat) (v_2 : Int32) (v_3 : Int32) (r : Int32), f_X0_stitchesOf_4 M o a1 n (v_2, v_3) = some r → ∀ (ls : Array Slot) (H : Heap) (locs : List Loc), lv_has ls 4 [(0, .ref (ad o 0)), (1, .int a1), (2, .int v_2), (3, .int v_3)] → St D cy ad ns A M s.heap H locs → W p l e rm_X0_stitchesOf s m args below meth c H locs 0 0 (MQ below (QC D cy ad ns A M (some (.int r))) args s 0 0 A) (F0 m 4 ls []) := by
  obtain ⟨hx, hb, hml, hown, hts, hK, hr, hlk, hA, hG⟩ := id X
  intro n
  induction n with
  | zero => intro v_2 v_3 r hX; cases (show (none : Option (Int32)) = some r from hX)
  | succ n ih =>
    intro v_2 v_3 r hX ls H locs hl hS
    have hX : b_X0_stitchesOf_4 M o a1 (fun x0 x1 => f_X0_stitchesOf_4 M o a1 n (x0, x1)) v_2 v_3 = some r := hX
    unfold b_X0_stitchesOf_4 at hX
    refine lv_iload_n hx hb dX0_stitchesOf_4 rfl (lv_at hl 3 rfl) ?_
    refine lv_aload_n hx hb dX0_stitchesOf_5 rfl (lv_at hl 0 rfl) ?_
    refine fg_X0_31 X hS ho dX0_stitchesOf_6 ?_
    refine lv_icmp_ge (tgt := 36) hx hb dX0_stitchesOf_9 (by decide) (fun c2 => ?_) (fun c2 => ?_)
    · have hX := if_t c2 hX
      refine lv_iload_n hx hb dX0_stitchesOf_36 rfl (lv_at hl 2 rfl) ?_
      obtain rfl := some_of hX
      exact x_I (v := v_2) X hS dX0_stitchesOf_37
    · have hX := if_f c2 hX
      refine lv_iload_n hx hb dX0_stitchesOf_12 rfl (lv_at hl 1 rfl) ?_
      refine lv_iload_n hx hb dX0_stitchesOf_13 rfl (lv_at hl 3 rfl) ?_
      refine lv_ishr hx hb dX0_stitchesOf_14 ?_
      refine lv_iconst (v := nI 1) hx hb dX0_stitchesOf_15 (by decide) ?_
      refine lv_iand hx hb dX0_stitchesOf_16 ?_
      refine lv_iconst (v := nI 1) hx hb dX0_stitchesOf_17 (by decide) ?_
      refine lv_icmp_ne (tgt := 30) hx hb dX0_stitchesOf_18 (by decide) (fun c3 => ?_) (fun c3 => ?_)
      · have hX := if_f c3 hX
        exact n_X0_stitchesOf_30 X hN ho hX (fun z0 z1 r h ls H locs hl hS => ih z0 z1 r h ls H locs hl hS) _ _ _ (lv_sub hl [0, 1, 2, 3] rfl) hS
      · have hX := if_t c3 hX
        refine lv_iload_n hx hb dX0_stitchesOf_21 rfl (lv_at hl 2 rfl) ?_
        refine lv_aload_n hx hb dX0_stitchesOf_22 rfl (lv_at hl 0 rfl) ?_
        refine fg_X0_15 X hS ho dX0_stitchesOf_23 ?_
        refine lv_iload_n hx hb dX0_stitchesOf_26 rfl (lv_at hl 3 rfl) ?_
        obtain ⟨g4, hX⟩ := gin_of hX
        refine r_iald (ci := 0) (o := o) (k := 2) (n := 9) X hS ho rfl rfl g4 dX0_stitchesOf_27 ?_
        refine lv_iadd hx hb dX0_stitchesOf_28 ?_
        refine lv_topi (fun v5 ev5 => ?_)
        have hX := nm_of ev5 hX
        refine lv_istore_n (lv' := [(2, .int v5), (0, .ref (ad o 0)), (1, .int a1), (3, .int v_3)]) hx hb dX0_stitchesOf_29 rfl hl (by decide) rfl (fun ls hl => ?_)
        exact n_X0_stitchesOf_30 X hN ho hX (fun z0 z1 r h ls H locs hl hS => ih z0 z1 r h ls H locs hl hS) _ _ _ (lv_sub hl [1, 2, 0, 3] rfl) hS
set_option maxRecDepth 100000 in
set_option maxHeartbeats 4000000 in
theorem m_X0_stitchesOf {l : Launch} {D : va_G} {cy : Nat → ClassId} {ad : Nat → Nat → Nat} {ns : List (Nat × Nat)} {A : Nat → Prop} {M : Mem} (hN : NsC ns) {o : Nat} {a1 : Int32} (ho : Ob ns 0 o) {r : Int32} (hX : f_X0_stitchesOf M o a1 = some r) : Ct l yX0_stitchesOf cX0_stitchesOf 4 ((some .int)) rm_X0_stitchesOf D cy ad ns A [.ref (ad o 0), .int a1] M M (some (.int r)) := by
  refine ct_of (lv := [(0, .ref (ad o 0)), (1, .int a1)]) (by decide) (Nat.le_of_ble_eq_true rfl) rfl ?_
  intro p e s m args below meth c ls X hl hS
  obtain ⟨hx, hb, hml, hown, hts, hK, hr, hlk, hA, hG⟩ := id X
  obtain ⟨H, hH⟩ : ∃ z, z = s.heap := ⟨_, rfl⟩
  obtain ⟨locs, hlo⟩ : ∃ z : List Loc, z = [] := ⟨_, rfl⟩
  have hS : St D cy ad ns A M s.heap H locs := by rw [hH, hlo]; exact hS
  have hgoal : W p l e rm_X0_stitchesOf s m args below meth c H locs 0 0 (MQ below (QC D cy ad ns A M (some (.int r))) args s 0 0 A) (F0 m 0 ls []) := by
    unfold f_X0_stitchesOf at hX
    refine lv_iconst (v := nI 0) hx hb dX0_stitchesOf_0 (by decide) ?_
    refine lv_istore_n (lv' := [(2, .int (nI 0)), (0, .ref (ad o 0)), (1, .int a1)]) hx hb dX0_stitchesOf_1 rfl hl (by decide) rfl (fun ls hl => ?_)
    refine lv_iconst (v := nI 0) hx hb dX0_stitchesOf_2 (by decide) ?_
    refine lv_istore_n (lv' := [(3, .int (nI 0)), (2, .int (nI 0)), (0, .ref (ad o 0)), (1, .int a1)]) hx hb dX0_stitchesOf_3 rfl hl (by decide) rfl (fun ls hl => ?_)
    exact n_X0_stitchesOf_4 X hN ho _ _ _ _ hX _ _ _ (lv_sub hl [2, 3, 1, 0] rfl) hS
  rw [hH, hlo] at hgoal
  exact hgoal
theorem mv_X0_stitchesOf : Mv yX0_stitchesOf RX0 cX0_stitchesOf 4 ((some .int)) 1 := ⟨t4_89, t4_87, t4_88, t1_3, ⟨by decide, by decide⟩, by decide +kernel⟩
/-! SewnYear$Coat.seamsOf(I)I -/
def rm_X0_seamsOf : Room := { frames := 0, cells := 0, slots := 0, locals := 0 }
def f_X0_seamsOf_28 (M : Mem) (o : Nat) (a1 : Int32) (k_4 : Int32 → Int32 → Option (Int32)) (v_2 : Int32) (v_3 : Int32) : Option (Int32) :=
  nm (v_3 + nI 1) fun v1 => k_4 v_2 v1
def b_X0_seamsOf_4 (M : Mem) (o : Nat) (a1 : Int32) (rc : Int32 → Int32 → Option (Int32)) (v_2 : Int32) (v_3 : Int32) : Option (Int32) :=
  if (gI M o 0) ≤ v_3 then (some v_2) else (gin v_3 9 <| if (gA M o 3 (ix v_3)) = a1 then (nm (v_2 ||| ((nI 1) <<< (v_3 &&& 31))) fun v5 => f_X0_seamsOf_28 M o a1 rc v5 v_3) else (f_X0_seamsOf_28 M o a1 rc v_2 v_3))
def f_X0_seamsOf_4 (M : Mem) (o : Nat) (a1 : Int32) : Nat → (Int32 × Int32) → Option (Int32) := lp (fun rc q => b_X0_seamsOf_4 M o a1 (fun x0 x1 => rc (x0, x1)) q.1 q.2)
def f_X0_seamsOf (M : Mem) (o : Nat) (a1 : Int32) : Option (Int32) :=
  f_X0_seamsOf_4 M o a1 FU ((nI 0), (nI 0))
set_option maxRecDepth 100000 in
set_option maxHeartbeats 4000000 in
theorem n_X0_seamsOf_28 {o : Nat} {a1 : Int32} (X : Cx p s m args meth c D cy ad A RX0 cX0_seamsOf 4 ((some .int))) (hN : NsC ns) (ho : Ob ns 0 o) {M : Mem} {k_4 : Int32 → Int32 → Option (Int32)} {v_2 : Int32} {v_3 : Int32} {r : Int32} (hX : f_X0_seamsOf_28 M o a1 k_4 v_2 v_3 = some r) : (∀ (v_2 : Int32) (v_3 : Int32) (r : Int32), k_4 v_2 v_3 = some r → ∀ (ls : Array Slot) (H : Heap) (locs : List Loc), lv_has ls 4 [(0, .ref (ad o 0)), (1, .int a1), (2, .int v_2), (3, .int v_3)] → St D cy ad ns A M s.heap H locs → W p l e rm_X0_seamsOf s m args below meth c H locs 0 0 (MQ below (QC D cy ad ns A M (some (.int r))) args s 0 0 A) (F0 m 4 ls [])) → ∀ (ls : Array Slot) (H : Heap) (locs : List Loc), lv_has ls 4 [(0, .ref (ad o 0)), (1, .int a1), (2, .int v_2), (3, .int v_3)] → St D cy ad ns A M s.heap H locs → W p l e rm_X0_seamsOf s m args below meth c H locs 0 0 (MQ below (QC D cy ad ns A M (some (.int r))) args s 0 0 A) (F0 m 28 ls []) := by
  obtain ⟨hx, hb, hml, hown, hts, hK, hr, hlk, hA, hG⟩ := id X
  intro hk_4 ls H locs hl hS
  unfold f_X0_seamsOf_28 at hX
  obtain ⟨v1, ev1⟩ : ∃ y : Int32, y = (v_3 + nI 1) := ⟨_, rfl⟩
  have hX := nm_of ev1 hX
  refine lv_iinc (v := v1) (lv' := [(3, .int v1), (0, .ref (ad o 0)), (1, .int a1), (2, .int v_2)]) hx hb dX0_seamsOf_28 hl (k := 3) rfl (by rw [ev1]; rfl) (by decide) rfl (fun ls hl => ?_)
  refine lv_goto (tgt := 4) hx hb dX0_seamsOf_31 (by decide) ?_
  exact hk_4 _ _ _ hX _ _ _ (lv_sub hl [1, 2, 3, 0] rfl) hS
set_option maxRecDepth 100000 in
set_option maxHeartbeats 4000000 in
theorem n_X0_seamsOf_4 {o : Nat} {a1 : Int32} (X : Cx p s m args meth c D cy ad A RX0 cX0_seamsOf 4 ((some .int))) (hN : NsC ns) (ho : Ob ns 0 o) {M : Mem} : ∀ (n : Nat) (v_2 : Int32) (v_3 : Int32) (r : Int32), f_X0_seamsOf_4 M o a1 n (v_2, v_3) = some r → ∀ (ls : Array Slot) (H : Heap) (locs : List Loc), lv_has ls 4 [(0, .ref (ad o 0)), (1, .int a1), (2, .int v_2), (3, .int v_3)] → St D cy ad ns A M s.heap H locs → W p l e rm_X0_seamsOf s m args below meth c H locs 0 0 (MQ below (QC D cy ad ns A M (some (.int r))) args s 0 0 A) (F0 m 4 ls []) := by
  obtain ⟨hx, hb, hml, hown, hts, hK, hr, hlk, hA, hG⟩ := id X
  intro n
  induction n with
  | zero => intro v_2 v_3 r hX; cases (show (none : Option (Int32)) = some r from hX)
  | succ n ih =>
    intro v_2 v_3 r hX ls H locs hl hS
    have hX : b_X0_seamsOf_4 M o a1 (fun x0 x1 => f_X0_seamsOf_4 M o a1 n (x0, x1)) v_2 v_3 = some r := hX
    unfold b_X0_seamsOf_4 at hX
    refine lv_iload_n hx hb dX0_seamsOf_4 rfl (lv_at hl 3 rfl) ?_
    refine lv_aload_n hx hb dX0_seamsOf_5 rfl (lv_at hl 0 rfl) ?_
    refine fg_X0_31 X hS ho dX0_seamsOf_6 ?_
    refine lv_icmp_ge (tgt := 34) hx hb dX0_seamsOf_9 (by decide) (fun c2 => ?_) (fun c2 => ?_)
    · have hX := if_t c2 hX
      refine lv_iload_n hx hb dX0_seamsOf_34 rfl (lv_at hl 2 rfl) ?_
      obtain rfl := some_of hX
      exact x_I (v := v_2) X hS dX0_seamsOf_35
    · have hX := if_f c2 hX
      refine lv_aload_n hx hb dX0_seamsOf_12 rfl (lv_at hl 0 rfl) ?_
      refine fg_X0_19 X hS ho dX0_seamsOf_13 ?_
      refine lv_iload_n hx hb dX0_seamsOf_16 rfl (lv_at hl 3 rfl) ?_
      obtain ⟨g3, hX⟩ := gin_of hX
      refine r_iald (ci := 0) (o := o) (k := 3) (n := 9) X hS ho rfl rfl g3 dX0_seamsOf_17 ?_
      refine lv_iload_n hx hb dX0_seamsOf_18 rfl (lv_at hl 1 rfl) ?_
      refine lv_icmp_ne (tgt := 28) hx hb dX0_seamsOf_19 (by decide) (fun c4 => ?_) (fun c4 => ?_)
      · have hX := if_f c4 hX
        exact n_X0_seamsOf_28 X hN ho hX (fun z0 z1 r h ls H locs hl hS => ih z0 z1 r h ls H locs hl hS) _ _ _ (lv_sub hl [0, 1, 2, 3] rfl) hS
      · have hX := if_t c4 hX
        refine lv_iload_n hx hb dX0_seamsOf_22 rfl (lv_at hl 2 rfl) ?_
        refine lv_iconst (v := nI 1) hx hb dX0_seamsOf_23 (by decide) ?_
        refine lv_iload_n hx hb dX0_seamsOf_24 rfl (lv_at hl 3 rfl) ?_
        refine lv_ishl hx hb dX0_seamsOf_25 ?_
        refine lv_ior hx hb dX0_seamsOf_26 ?_
        refine lv_topi (fun v5 ev5 => ?_)
        have hX := nm_of ev5 hX
        refine lv_istore_n (lv' := [(2, .int v5), (0, .ref (ad o 0)), (1, .int a1), (3, .int v_3)]) hx hb dX0_seamsOf_27 rfl hl (by decide) rfl (fun ls hl => ?_)
        exact n_X0_seamsOf_28 X hN ho hX (fun z0 z1 r h ls H locs hl hS => ih z0 z1 r h ls H locs hl hS) _ _ _ (lv_sub hl [1, 2, 0, 3] rfl) hS
set_option maxRecDepth 100000 in
set_option maxHeartbeats 4000000 in
theorem m_X0_seamsOf {l : Launch} {D : va_G} {cy : Nat → ClassId} {ad : Nat → Nat → Nat} {ns : List (Nat × Nat)} {A : Nat → Prop} {M : Mem} (hN : NsC ns) {o : Nat} {a1 : Int32} (ho : Ob ns 0 o) {r : Int32} (hX : f_X0_seamsOf M o a1 = some r) : Ct l yX0_seamsOf cX0_seamsOf 4 ((some .int)) rm_X0_seamsOf D cy ad ns A [.ref (ad o 0), .int a1] M M (some (.int r)) := by
  refine ct_of (lv := [(0, .ref (ad o 0)), (1, .int a1)]) (by decide) (Nat.le_of_ble_eq_true rfl) rfl ?_
  intro p e s m args below meth c ls X hl hS
  obtain ⟨hx, hb, hml, hown, hts, hK, hr, hlk, hA, hG⟩ := id X
  obtain ⟨H, hH⟩ : ∃ z, z = s.heap := ⟨_, rfl⟩
  obtain ⟨locs, hlo⟩ : ∃ z : List Loc, z = [] := ⟨_, rfl⟩
  have hS : St D cy ad ns A M s.heap H locs := by rw [hH, hlo]; exact hS
  have hgoal : W p l e rm_X0_seamsOf s m args below meth c H locs 0 0 (MQ below (QC D cy ad ns A M (some (.int r))) args s 0 0 A) (F0 m 0 ls []) := by
    unfold f_X0_seamsOf at hX
    refine lv_iconst (v := nI 0) hx hb dX0_seamsOf_0 (by decide) ?_
    refine lv_istore_n (lv' := [(2, .int (nI 0)), (0, .ref (ad o 0)), (1, .int a1)]) hx hb dX0_seamsOf_1 rfl hl (by decide) rfl (fun ls hl => ?_)
    refine lv_iconst (v := nI 0) hx hb dX0_seamsOf_2 (by decide) ?_
    refine lv_istore_n (lv' := [(3, .int (nI 0)), (2, .int (nI 0)), (0, .ref (ad o 0)), (1, .int a1)]) hx hb dX0_seamsOf_3 rfl hl (by decide) rfl (fun ls hl => ?_)
    exact n_X0_seamsOf_4 X hN ho _ _ _ _ hX _ _ _ (lv_sub hl [2, 3, 1, 0] rfl) hS
  rw [hH, hlo] at hgoal
  exact hgoal
theorem mv_X0_seamsOf : Mv yX0_seamsOf RX0 cX0_seamsOf 4 ((some .int)) 1 := ⟨t5_86, t5_84, t5_85, t1_3, ⟨by decide, by decide⟩, by decide +kernel⟩
/-! SewnYear$Coat.longestSeam()I -/
def rm_X0_longestSeam : Room := { frames := 1, cells := 0, slots := 0, locals := 24 }
def b_X0_longestSeam_4 (M : Mem) (o : Nat) (rc : Int32 → Int32 → Option (Int32)) (v_1 : Int32) (v_2 : Int32) : Option (Int32) :=
  if (gI M o 0) ≤ v_2 then (some v_1) else (gin v_2 9 <| nm (mxI v_1 (gA M o 2 (ix v_2))) fun v3 => nm (v_2 + nI 1) fun v4 => rc v3 v4)
def f_X0_longestSeam_4 (M : Mem) (o : Nat) : Nat → (Int32 × Int32) → Option (Int32) := lp (fun rc q => b_X0_longestSeam_4 M o (fun x0 x1 => rc (x0, x1)) q.1 q.2)
def f_X0_longestSeam (M : Mem) (o : Nat) : Option (Int32) :=
  f_X0_longestSeam_4 M o FU ((nI 0), (nI 0))
set_option maxRecDepth 100000 in
set_option maxHeartbeats 4000000 in
theorem n_X0_longestSeam_4 {o : Nat} (X : Cx p s m args meth c D cy ad A RX0 cX0_longestSeam 3 ((some .int))) (hN : NsC ns) (ho : Ob ns 0 o) {M : Mem} : ∀ (n : Nat) (v_1 : Int32) (v_2 : Int32) (r : Int32), f_X0_longestSeam_4 M o n (v_1, v_2) = some r → ∀ (ls : Array Slot) (H : Heap) (locs : List Loc), lv_has ls 3 [(0, .ref (ad o 0)), (1, .int v_1), (2, .int v_2)] → St D cy ad ns A M s.heap H locs → W p l e rm_X0_longestSeam s m args below meth c H locs 0 0 (MQ below (QC D cy ad ns A M (some (.int r))) args s 0 0 A) (F0 m 4 ls []) := by
  obtain ⟨hx, hb, hml, hown, hts, hK, hr, hlk, hA, hG⟩ := id X
  intro n
  induction n with
  | zero => intro v_1 v_2 r hX; cases (show (none : Option (Int32)) = some r from hX)
  | succ n ih =>
    intro v_1 v_2 r hX ls H locs hl hS
    have hX : b_X0_longestSeam_4 M o (fun x0 x1 => f_X0_longestSeam_4 M o n (x0, x1)) v_1 v_2 = some r := hX
    unfold b_X0_longestSeam_4 at hX
    refine lv_iload_n hx hb dX0_longestSeam_4 rfl (lv_at hl 2 rfl) ?_
    refine lv_aload_n hx hb dX0_longestSeam_5 rfl (lv_at hl 0 rfl) ?_
    refine fg_X0_31 X hS ho dX0_longestSeam_6 ?_
    refine lv_icmp_ge (tgt := 29) hx hb dX0_longestSeam_9 (by decide) (fun c1 => ?_) (fun c1 => ?_)
    · have hX := if_t c1 hX
      refine lv_iload_n hx hb dX0_longestSeam_29 rfl (lv_at hl 1 rfl) ?_
      obtain rfl := some_of hX
      exact x_I (v := v_1) X hS dX0_longestSeam_30
    · have hX := if_f c1 hX
      refine lv_iload_n hx hb dX0_longestSeam_12 rfl (lv_at hl 1 rfl) ?_
      refine lv_aload_n hx hb dX0_longestSeam_13 rfl (lv_at hl 0 rfl) ?_
      refine fg_X0_15 X hS ho dX0_longestSeam_14 ?_
      refine lv_iload_n hx hb dX0_longestSeam_17 rfl (lv_at hl 2 rfl) ?_
      obtain ⟨g2, hX⟩ := gin_of hX
      refine r_iald (ci := 0) (o := o) (k := 2) (n := 9) X hS ho rfl rfl g2 dX0_longestSeam_18 ?_
      refine va_mmax hx hb (hml.trans hl.1.symm) (own := RX0) hown (hts _ t5_82) (hts _ jm_max.1) (hts _ jm_max.2.1) (hts _ jm_max.2.2) (Nat.le_of_ble_eq_true rfl) (Nat.le_of_ble_eq_true rfl) (Nat.zero_le _) (Nat.zero_le _) dX0_longestSeam_19 ?_
      refine lv_topi (fun v3 ev3 => ?_)
      have hX := nm_of ev3 hX
      refine lv_istore_n (lv' := [(1, .int v3), (0, .ref (ad o 0)), (2, .int v_2)]) hx hb dX0_longestSeam_22 rfl hl (by decide) rfl (fun ls hl => ?_)
      obtain ⟨v4, ev4⟩ : ∃ y : Int32, y = (v_2 + nI 1) := ⟨_, rfl⟩
      have hX := nm_of ev4 hX
      refine lv_iinc (v := v4) (lv' := [(2, .int v4), (1, .int v3), (0, .ref (ad o 0))]) hx hb dX0_longestSeam_23 hl (k := 2) rfl (by rw [ev4]; rfl) (by decide) rfl (fun ls hl => ?_)
      refine lv_goto (tgt := 4) hx hb dX0_longestSeam_26 (by decide) ?_
      exact ih _ _ _ hX _ _ _ (lv_sub hl [2, 1, 0] rfl) hS
set_option maxRecDepth 100000 in
set_option maxHeartbeats 4000000 in
theorem m_X0_longestSeam {l : Launch} {D : va_G} {cy : Nat → ClassId} {ad : Nat → Nat → Nat} {ns : List (Nat × Nat)} {A : Nat → Prop} {M : Mem} (hN : NsC ns) {o : Nat} (ho : Ob ns 0 o) {r : Int32} (hX : f_X0_longestSeam M o = some r) : Ct l yX0_longestSeam cX0_longestSeam 3 ((some .int)) rm_X0_longestSeam D cy ad ns A [.ref (ad o 0)] M M (some (.int r)) := by
  refine ct_of (lv := [(0, .ref (ad o 0))]) (by decide) (Nat.le_of_ble_eq_true rfl) rfl ?_
  intro p e s m args below meth c ls X hl hS
  obtain ⟨hx, hb, hml, hown, hts, hK, hr, hlk, hA, hG⟩ := id X
  obtain ⟨H, hH⟩ : ∃ z, z = s.heap := ⟨_, rfl⟩
  obtain ⟨locs, hlo⟩ : ∃ z : List Loc, z = [] := ⟨_, rfl⟩
  have hS : St D cy ad ns A M s.heap H locs := by rw [hH, hlo]; exact hS
  have hgoal : W p l e rm_X0_longestSeam s m args below meth c H locs 0 0 (MQ below (QC D cy ad ns A M (some (.int r))) args s 0 0 A) (F0 m 0 ls []) := by
    unfold f_X0_longestSeam at hX
    refine lv_iconst (v := nI 0) hx hb dX0_longestSeam_0 (by decide) ?_
    refine lv_istore_n (lv' := [(1, .int (nI 0)), (0, .ref (ad o 0))]) hx hb dX0_longestSeam_1 rfl hl (by decide) rfl (fun ls hl => ?_)
    refine lv_iconst (v := nI 0) hx hb dX0_longestSeam_2 (by decide) ?_
    refine lv_istore_n (lv' := [(2, .int (nI 0)), (1, .int (nI 0)), (0, .ref (ad o 0))]) hx hb dX0_longestSeam_3 rfl hl (by decide) rfl (fun ls hl => ?_)
    exact n_X0_longestSeam_4 X hN ho _ _ _ _ hX _ _ _ (lv_sub hl [2, 1, 0] rfl) hS
  rw [hH, hlo] at hgoal
  exact hgoal
theorem mv_X0_longestSeam : Mv yX0_longestSeam RX0 cX0_longestSeam 3 ((some .int)) 0 := ⟨t5_81, t5_79, t5_80, t1_3, ⟨by decide, by decide⟩, by decide +kernel⟩
/-! SewnYear$Coat.needs(I)I -/
def rm_X0_needs : Room := { frames := 1, cells := 0, slots := 0, locals := 21 }
def f_X0_needs_61 (M : Mem) (o : Nat) (a1 : Int32) (v_3 : Int32) (k_32 : Int32 → Int32 → Option (Int32)) (v_2 : Int32) (v_4 : Int32) : Option (Int32) :=
  nm (v_4 + nI 1) fun v1 => k_32 v_2 v1
def b_X0_needs_32 (M : Mem) (o : Nat) (a1 : Int32) (k_21 : Int32 → Int32 → Option (Int32)) (v_3 : Int32) (rc : Int32 → Int32 → Option (Int32)) (v_2 : Int32) (v_4 : Int32) : Option (Int32) :=
  if (gI M o 0) ≤ v_4 then (nm (v_3 + nI 1) fun v3 => k_21 v_2 v3) else (if ((v_2 >>> (v_4 &&& 31)) &&& (nI 1)) = (nI 1) then (gin v_4 9 <| nm (v_2 ||| (gA M o 5 (ix v_4))) fun v6 => f_X0_needs_61 M o a1 v_3 rc v6 v_4) else (f_X0_needs_61 M o a1 v_3 rc v_2 v_4))
def f_X0_needs_32 (M : Mem) (o : Nat) (a1 : Int32) (k_21 : Int32 → Int32 → Option (Int32)) (v_3 : Int32) : Nat → (Int32 × Int32) → Option (Int32) := lp (fun rc q => b_X0_needs_32 M o a1 k_21 v_3 (fun x0 x1 => rc (x0, x1)) q.1 q.2)
def b_X0_needs_21 (M : Mem) (o : Nat) (a1 : Int32) (rc : Int32 → Int32 → Option (Int32)) (v_2 : Int32) (v_3 : Int32) : Option (Int32) :=
  if (gI M o 0) ≤ v_3 then (some v_2) else (f_X0_needs_32 M o a1 rc v_3 FU (v_2, (nI 0)))
def f_X0_needs_21 (M : Mem) (o : Nat) (a1 : Int32) : Nat → (Int32 × Int32) → Option (Int32) := lp (fun rc q => b_X0_needs_21 M o a1 (fun x0 x1 => rc (x0, x1)) q.1 q.2)
def f_X0_needs_18 (M : Mem) (o : Nat) (a1 : Int32) (s_0 : Int32) : Option (Int32) :=
  f_X0_needs_21 M o a1 FU (s_0, (nI 0))
def f_X0_needs (M : Mem) (o : Nat) (a1 : Int32) : Option (Int32) :=
  bn (f_X0_hasSeam M o a1) fun r9 => if r9 = true then (gin a1 9 <| f_X0_needs_18 M o a1 (gA M o 5 (ix a1))) else (f_X0_needs_18 M o a1 (nI 0))
set_option maxRecDepth 100000 in
set_option maxHeartbeats 4000000 in
theorem n_X0_needs_61 {o : Nat} {a1 : Int32} {v_3 : Int32} (X : Cx p s m args meth c D cy ad A RX0 cX0_needs 5 ((some .int))) (hN : NsC ns) (ho : Ob ns 0 o) {M : Mem} {k_32 : Int32 → Int32 → Option (Int32)} {v_2 : Int32} {v_4 : Int32} {r : Int32} (hX : f_X0_needs_61 M o a1 v_3 k_32 v_2 v_4 = some r) : (∀ (v_2 : Int32) (v_4 : Int32) (r : Int32), k_32 v_2 v_4 = some r → ∀ (ls : Array Slot) (H : Heap) (locs : List Loc), lv_has ls 5 [(0, .ref (ad o 0)), (2, .int v_2), (3, .int v_3), (4, .int v_4)] → St D cy ad ns A M s.heap H locs → W p l e rm_X0_needs s m args below meth c H locs 0 0 (MQ below (QC D cy ad ns A M (some (.int r))) args s 0 0 A) (F0 m 32 ls [])) → ∀ (ls : Array Slot) (H : Heap) (locs : List Loc), lv_has ls 5 [(0, .ref (ad o 0)), (2, .int v_2), (3, .int v_3), (4, .int v_4)] → St D cy ad ns A M s.heap H locs → W p l e rm_X0_needs s m args below meth c H locs 0 0 (MQ below (QC D cy ad ns A M (some (.int r))) args s 0 0 A) (F0 m 61 ls []) := by
  obtain ⟨hx, hb, hml, hown, hts, hK, hr, hlk, hA, hG⟩ := id X
  intro hk_32 ls H locs hl hS
  unfold f_X0_needs_61 at hX
  obtain ⟨v1, ev1⟩ : ∃ y : Int32, y = (v_4 + nI 1) := ⟨_, rfl⟩
  have hX := nm_of ev1 hX
  refine lv_iinc (v := v1) (lv' := [(4, .int v1), (0, .ref (ad o 0)), (2, .int v_2), (3, .int v_3)]) hx hb dX0_needs_61 hl (k := 3) rfl (by rw [ev1]; rfl) (by decide) rfl (fun ls hl => ?_)
  refine lv_goto (tgt := 32) hx hb dX0_needs_64 (by decide) ?_
  exact hk_32 _ _ _ hX _ _ _ (lv_sub hl [1, 2, 3, 0] rfl) hS
set_option maxRecDepth 100000 in
set_option maxHeartbeats 4000000 in
theorem n_X0_needs_32 {o : Nat} {a1 : Int32} (X : Cx p s m args meth c D cy ad A RX0 cX0_needs 5 ((some .int))) (hN : NsC ns) (ho : Ob ns 0 o) {M : Mem} {k_21 : Int32 → Int32 → Option (Int32)} {v_3 : Int32} : ∀ (n : Nat) (v_2 : Int32) (v_4 : Int32) (r : Int32), f_X0_needs_32 M o a1 k_21 v_3 n (v_2, v_4) = some r → (∀ (v_2 : Int32) (v_3 : Int32) (r : Int32), k_21 v_2 v_3 = some r → ∀ (ls : Array Slot) (H : Heap) (locs : List Loc), lv_has ls 5 [(0, .ref (ad o 0)), (2, .int v_2), (3, .int v_3)] → St D cy ad ns A M s.heap H locs → W p l e rm_X0_needs s m args below meth c H locs 0 0 (MQ below (QC D cy ad ns A M (some (.int r))) args s 0 0 A) (F0 m 21 ls [])) → ∀ (ls : Array Slot) (H : Heap) (locs : List Loc), lv_has ls 5 [(0, .ref (ad o 0)), (2, .int v_2), (3, .int v_3), (4, .int v_4)] → St D cy ad ns A M s.heap H locs → W p l e rm_X0_needs s m args below meth c H locs 0 0 (MQ below (QC D cy ad ns A M (some (.int r))) args s 0 0 A) (F0 m 32 ls []) := by
  obtain ⟨hx, hb, hml, hown, hts, hK, hr, hlk, hA, hG⟩ := id X
  intro n
  induction n with
  | zero => intro v_2 v_4 r hX; cases (show (none : Option (Int32)) = some r from hX)
  | succ n ih =>
    intro v_2 v_4 r hX hk_21 ls H locs hl hS
    have hX : b_X0_needs_32 M o a1 k_21 v_3 (fun x0 x1 => f_X0_needs_32 M o a1 k_21 v_3 n (x0, x1)) v_2 v_4 = some r := hX
    unfold b_X0_needs_32 at hX
    refine lv_iload hx hb dX0_needs_32 (lv_at hl 3 rfl) ?_
    refine lv_aload_n hx hb dX0_needs_34 rfl (lv_at hl 0 rfl) ?_
    refine fg_X0_31 X hS ho dX0_needs_35 ?_
    refine lv_icmp_ge (tgt := 67) hx hb dX0_needs_38 (by decide) (fun c2 => ?_) (fun c2 => ?_)
    · have hX := if_t c2 hX
      obtain ⟨v3, ev3⟩ : ∃ y : Int32, y = (v_3 + nI 1) := ⟨_, rfl⟩
      have hX := nm_of ev3 hX
      refine lv_iinc (v := v3) (lv' := [(3, .int v3), (0, .ref (ad o 0)), (2, .int v_2), (4, .int v_4)]) hx hb dX0_needs_67 hl (k := 2) rfl (by rw [ev3]; rfl) (by decide) rfl (fun ls hl => ?_)
      refine lv_goto (tgt := 21) hx hb dX0_needs_70 (by decide) ?_
      exact hk_21 _ _ _ hX _ _ _ (lv_sub hl [1, 2, 0] rfl) hS
    · have hX := if_f c2 hX
      refine lv_iload_n hx hb dX0_needs_41 rfl (lv_at hl 1 rfl) ?_
      refine lv_iload hx hb dX0_needs_42 (lv_at hl 3 rfl) ?_
      refine lv_ishr hx hb dX0_needs_44 ?_
      refine lv_iconst (v := nI 1) hx hb dX0_needs_45 (by decide) ?_
      refine lv_iand hx hb dX0_needs_46 ?_
      refine lv_iconst (v := nI 1) hx hb dX0_needs_47 (by decide) ?_
      refine lv_icmp_ne (tgt := 61) hx hb dX0_needs_48 (by decide) (fun c4 => ?_) (fun c4 => ?_)
      · have hX := if_f c4 hX
        exact n_X0_needs_61 X hN ho hX (fun z0 z1 r h ls H locs hl hS => ih z0 z1 r h hk_21 ls H locs hl hS) _ _ _ (lv_sub hl [0, 1, 2, 3] rfl) hS
      · have hX := if_t c4 hX
        refine lv_iload_n hx hb dX0_needs_51 rfl (lv_at hl 1 rfl) ?_
        refine lv_aload_n hx hb dX0_needs_52 rfl (lv_at hl 0 rfl) ?_
        refine fg_X0_25 X hS ho dX0_needs_53 ?_
        refine lv_iload hx hb dX0_needs_56 (lv_at hl 3 rfl) ?_
        obtain ⟨g5, hX⟩ := gin_of hX
        refine r_iald (ci := 0) (o := o) (k := 5) (n := 9) X hS ho rfl rfl g5 dX0_needs_58 ?_
        refine lv_ior hx hb dX0_needs_59 ?_
        refine lv_topi (fun v6 ev6 => ?_)
        have hX := nm_of ev6 hX
        refine lv_istore_n (lv' := [(2, .int v6), (0, .ref (ad o 0)), (3, .int v_3), (4, .int v_4)]) hx hb dX0_needs_60 rfl hl (by decide) rfl (fun ls hl => ?_)
        exact n_X0_needs_61 X hN ho hX (fun z0 z1 r h ls H locs hl hS => ih z0 z1 r h hk_21 ls H locs hl hS) _ _ _ (lv_sub hl [1, 0, 2, 3] rfl) hS
set_option maxRecDepth 100000 in
set_option maxHeartbeats 4000000 in
theorem n_X0_needs_21 {o : Nat} {a1 : Int32} (X : Cx p s m args meth c D cy ad A RX0 cX0_needs 5 ((some .int))) (hN : NsC ns) (ho : Ob ns 0 o) {M : Mem} : ∀ (n : Nat) (v_2 : Int32) (v_3 : Int32) (r : Int32), f_X0_needs_21 M o a1 n (v_2, v_3) = some r → ∀ (ls : Array Slot) (H : Heap) (locs : List Loc), lv_has ls 5 [(0, .ref (ad o 0)), (2, .int v_2), (3, .int v_3)] → St D cy ad ns A M s.heap H locs → W p l e rm_X0_needs s m args below meth c H locs 0 0 (MQ below (QC D cy ad ns A M (some (.int r))) args s 0 0 A) (F0 m 21 ls []) := by
  obtain ⟨hx, hb, hml, hown, hts, hK, hr, hlk, hA, hG⟩ := id X
  intro n
  induction n with
  | zero => intro v_2 v_3 r hX; cases (show (none : Option (Int32)) = some r from hX)
  | succ n ih =>
    intro v_2 v_3 r hX ls H locs hl hS
    have hX : b_X0_needs_21 M o a1 (fun x0 x1 => f_X0_needs_21 M o a1 n (x0, x1)) v_2 v_3 = some r := hX
    unfold b_X0_needs_21 at hX
    refine lv_iload_n hx hb dX0_needs_21 rfl (lv_at hl 2 rfl) ?_
    refine lv_aload_n hx hb dX0_needs_22 rfl (lv_at hl 0 rfl) ?_
    refine fg_X0_31 X hS ho dX0_needs_23 ?_
    refine lv_icmp_ge (tgt := 73) hx hb dX0_needs_26 (by decide) (fun c7 => ?_) (fun c7 => ?_)
    · have hX := if_t c7 hX
      refine lv_iload_n hx hb dX0_needs_73 rfl (lv_at hl 1 rfl) ?_
      obtain rfl := some_of hX
      exact x_I (v := v_2) X hS dX0_needs_74
    · have hX := if_f c7 hX
      refine lv_iconst (v := nI 0) hx hb dX0_needs_29 (by decide) ?_
      refine lv_istore (lv' := [(4, .int (nI 0)), (0, .ref (ad o 0)), (2, .int v_2), (3, .int v_3)]) hx hb dX0_needs_30 hl (by decide) rfl (fun ls hl => ?_)
      exact n_X0_needs_32 X hN ho _ _ _ _ hX (fun z0 z1 r h ls H locs hl hS => ih z0 z1 r h ls H locs hl hS) _ _ _ (lv_sub hl [1, 2, 3, 0] rfl) hS
set_option maxRecDepth 100000 in
set_option maxHeartbeats 4000000 in
theorem n_X0_needs_18 {o : Nat} {a1 : Int32} (X : Cx p s m args meth c D cy ad A RX0 cX0_needs 5 ((some .int))) (hN : NsC ns) (ho : Ob ns 0 o) {M : Mem} {s_0 : Int32} {r : Int32} (hX : f_X0_needs_18 M o a1 s_0 = some r) : ∀ (ls : Array Slot) (H : Heap) (locs : List Loc), lv_has ls 5 [(0, .ref (ad o 0))] → St D cy ad ns A M s.heap H locs → W p l e rm_X0_needs s m args below meth c H locs 0 0 (MQ below (QC D cy ad ns A M (some (.int r))) args s 0 0 A) (F0 m 18 ls [.int s_0]) := by
  obtain ⟨hx, hb, hml, hown, hts, hK, hr, hlk, hA, hG⟩ := id X
  intro ls H locs hl hS
  unfold f_X0_needs_18 at hX
  refine lv_istore_n (lv' := [(2, .int s_0), (0, .ref (ad o 0))]) hx hb dX0_needs_18 rfl hl (by decide) rfl (fun ls hl => ?_)
  refine lv_iconst (v := nI 0) hx hb dX0_needs_19 (by decide) ?_
  refine lv_istore_n (lv' := [(3, .int (nI 0)), (2, .int s_0), (0, .ref (ad o 0))]) hx hb dX0_needs_20 rfl hl (by decide) rfl (fun ls hl => ?_)
  exact n_X0_needs_21 X hN ho _ _ _ _ hX _ _ _ (lv_sub hl [2, 1, 0] rfl) hS
set_option maxRecDepth 100000 in
set_option maxHeartbeats 4000000 in
theorem m_X0_needs {l : Launch} {D : va_G} {cy : Nat → ClassId} {ad : Nat → Nat → Nat} {ns : List (Nat × Nat)} {A : Nat → Prop} {M : Mem} (hN : NsC ns) {o : Nat} {a1 : Int32} (ho : Ob ns 0 o) {r : Int32} (hX : f_X0_needs M o a1 = some r) : Ct l yX0_needs cX0_needs 5 ((some .int)) rm_X0_needs D cy ad ns A [.ref (ad o 0), .int a1] M M (some (.int r)) := by
  refine ct_of (lv := [(0, .ref (ad o 0)), (1, .int a1)]) (by decide) (Nat.le_of_ble_eq_true rfl) rfl ?_
  intro p e s m args below meth c ls X hl hS
  obtain ⟨hx, hb, hml, hown, hts, hK, hr, hlk, hA, hG⟩ := id X
  obtain ⟨H, hH⟩ : ∃ z, z = s.heap := ⟨_, rfl⟩
  obtain ⟨locs, hlo⟩ : ∃ z : List Loc, z = [] := ⟨_, rfl⟩
  have hS : St D cy ad ns A M s.heap H locs := by rw [hH, hlo]; exact hS
  have hgoal : W p l e rm_X0_needs s m args below meth c H locs 0 0 (MQ below (QC D cy ad ns A M (some (.int r))) args s 0 0 A) (F0 m 0 ls []) := by
    unfold f_X0_needs at hX
    refine lv_aload_n hx hb dX0_needs_0 rfl (lv_at hl 0 rfl) ?_
    refine lv_iload_n hx hb dX0_needs_1 rfl (lv_at hl 1 rfl) ?_
    obtain ⟨r9, h8, hX⟩ := bn_of hX
    refine r_callV1 (v := .int (b2i r9)) (As := [.int a1]) (rest := []) X hS (m_X0_hasSeam hN ho h8) mv_X0_hasSeam rfl ho t3_191 ⟨rfl, rfl, Nat.le_of_ble_eq_true rfl, Nat.le_of_ble_eq_true rfl⟩ rfl hl.1 rfl (Nat.le_of_ble_eq_true rfl) ⟨Nat.zero_le _, Nat.zero_le _⟩ dX0_needs_2 (fun H locs hS => ?_)
    refine lv_if_eq (tgt := 17) hx hb dX0_needs_5 (by decide) (fun c10 => ?_) (fun c10 => ?_)
    · have hX := if_bf c10 hX
      refine lv_iconst (v := nI 0) hx hb dX0_needs_17 (by decide) ?_
      exact n_X0_needs_18 X hN ho hX _ _ _ (lv_sub hl [0] rfl) hS
    · have hX := if_bt c10 hX
      refine lv_aload_n hx hb dX0_needs_8 rfl (lv_at hl 0 rfl) ?_
      refine fg_X0_25 X hS ho dX0_needs_9 ?_
      refine lv_iload_n hx hb dX0_needs_12 rfl (lv_at hl 1 rfl) ?_
      obtain ⟨g11, hX⟩ := gin_of hX
      refine r_iald (ci := 0) (o := o) (k := 5) (n := 9) X hS ho rfl rfl g11 dX0_needs_13 ?_
      refine lv_goto (tgt := 18) hx hb dX0_needs_14 (by decide) ?_
      exact n_X0_needs_18 X hN ho hX _ _ _ (lv_sub hl [0] rfl) hS
  rw [hH, hlo] at hgoal
  exact hgoal
theorem mv_X0_needs : Mv yX0_needs RX0 cX0_needs 5 ((some .int)) 1 := ⟨t4_66, t4_64, t4_65, t1_3, ⟨by decide, by decide⟩, by decide +kernel⟩
/-! SewnYear$Coat.leans(I)I -/
def rm_X0_leans : Room := { frames := 2, cells := 0, slots := 0, locals := 45 }
def f_X0_leans_39 (M : Mem) (o : Nat) (a1 : Int32) (k_4 : Int32 → Int32 → Option (Int32)) (v_2 : Int32) (v_3 : Int32) : Option (Int32) :=
  nm (v_3 + nI 1) fun v1 => k_4 v_2 v1
def b_X0_leans_4 (M : Mem) (o : Nat) (a1 : Int32) (rc : Int32 → Int32 → Option (Int32)) (v_2 : Int32) (v_3 : Int32) : Option (Int32) :=
  if (gI M o 0) ≤ v_3 then (some v_2) else (bn (f_X0_hasSeam M o a1) fun r4 => if r4 = true then (bn (f_X0_needs M o v_3) fun r7 => if ((r7 >>> (a1 &&& 31)) &&& (nI 1)) = (nI 1) then (nm (v_2 ||| ((nI 1) <<< (v_3 &&& 31))) fun v9 => f_X0_leans_39 M o a1 rc v9 v_3) else (f_X0_leans_39 M o a1 rc v_2 v_3)) else (f_X0_leans_39 M o a1 rc v_2 v_3))
def f_X0_leans_4 (M : Mem) (o : Nat) (a1 : Int32) : Nat → (Int32 × Int32) → Option (Int32) := lp (fun rc q => b_X0_leans_4 M o a1 (fun x0 x1 => rc (x0, x1)) q.1 q.2)
def f_X0_leans (M : Mem) (o : Nat) (a1 : Int32) : Option (Int32) :=
  f_X0_leans_4 M o a1 FU ((nI 0), (nI 0))
set_option maxRecDepth 100000 in
set_option maxHeartbeats 4000000 in
theorem n_X0_leans_39 {o : Nat} {a1 : Int32} (X : Cx p s m args meth c D cy ad A RX0 cX0_leans 4 ((some .int))) (hN : NsC ns) (ho : Ob ns 0 o) {M : Mem} {k_4 : Int32 → Int32 → Option (Int32)} {v_2 : Int32} {v_3 : Int32} {r : Int32} (hX : f_X0_leans_39 M o a1 k_4 v_2 v_3 = some r) : (∀ (v_2 : Int32) (v_3 : Int32) (r : Int32), k_4 v_2 v_3 = some r → ∀ (ls : Array Slot) (H : Heap) (locs : List Loc), lv_has ls 4 [(0, .ref (ad o 0)), (1, .int a1), (2, .int v_2), (3, .int v_3)] → St D cy ad ns A M s.heap H locs → W p l e rm_X0_leans s m args below meth c H locs 0 0 (MQ below (QC D cy ad ns A M (some (.int r))) args s 0 0 A) (F0 m 4 ls [])) → ∀ (ls : Array Slot) (H : Heap) (locs : List Loc), lv_has ls 4 [(0, .ref (ad o 0)), (1, .int a1), (2, .int v_2), (3, .int v_3)] → St D cy ad ns A M s.heap H locs → W p l e rm_X0_leans s m args below meth c H locs 0 0 (MQ below (QC D cy ad ns A M (some (.int r))) args s 0 0 A) (F0 m 39 ls []) := by
  obtain ⟨hx, hb, hml, hown, hts, hK, hr, hlk, hA, hG⟩ := id X
  intro hk_4 ls H locs hl hS
  unfold f_X0_leans_39 at hX
  obtain ⟨v1, ev1⟩ : ∃ y : Int32, y = (v_3 + nI 1) := ⟨_, rfl⟩
  have hX := nm_of ev1 hX
  refine lv_iinc (v := v1) (lv' := [(3, .int v1), (0, .ref (ad o 0)), (1, .int a1), (2, .int v_2)]) hx hb dX0_leans_39 hl (k := 3) rfl (by rw [ev1]; rfl) (by decide) rfl (fun ls hl => ?_)
  refine lv_goto (tgt := 4) hx hb dX0_leans_42 (by decide) ?_
  exact hk_4 _ _ _ hX _ _ _ (lv_sub hl [1, 2, 3, 0] rfl) hS
set_option maxRecDepth 100000 in
set_option maxHeartbeats 4000000 in
theorem n_X0_leans_4 {o : Nat} {a1 : Int32} (X : Cx p s m args meth c D cy ad A RX0 cX0_leans 4 ((some .int))) (hN : NsC ns) (ho : Ob ns 0 o) {M : Mem} : ∀ (n : Nat) (v_2 : Int32) (v_3 : Int32) (r : Int32), f_X0_leans_4 M o a1 n (v_2, v_3) = some r → ∀ (ls : Array Slot) (H : Heap) (locs : List Loc), lv_has ls 4 [(0, .ref (ad o 0)), (1, .int a1), (2, .int v_2), (3, .int v_3)] → St D cy ad ns A M s.heap H locs → W p l e rm_X0_leans s m args below meth c H locs 0 0 (MQ below (QC D cy ad ns A M (some (.int r))) args s 0 0 A) (F0 m 4 ls []) := by
  obtain ⟨hx, hb, hml, hown, hts, hK, hr, hlk, hA, hG⟩ := id X
  intro n
  induction n with
  | zero => intro v_2 v_3 r hX; cases (show (none : Option (Int32)) = some r from hX)
  | succ n ih =>
    intro v_2 v_3 r hX ls H locs hl hS
    have hX : b_X0_leans_4 M o a1 (fun x0 x1 => f_X0_leans_4 M o a1 n (x0, x1)) v_2 v_3 = some r := hX
    unfold b_X0_leans_4 at hX
    refine lv_iload_n hx hb dX0_leans_4 rfl (lv_at hl 3 rfl) ?_
    refine lv_aload_n hx hb dX0_leans_5 rfl (lv_at hl 0 rfl) ?_
    refine fg_X0_31 X hS ho dX0_leans_6 ?_
    refine lv_icmp_ge (tgt := 45) hx hb dX0_leans_9 (by decide) (fun c2 => ?_) (fun c2 => ?_)
    · have hX := if_t c2 hX
      refine lv_iload_n hx hb dX0_leans_45 rfl (lv_at hl 2 rfl) ?_
      obtain rfl := some_of hX
      exact x_I (v := v_2) X hS dX0_leans_46
    · have hX := if_f c2 hX
      refine lv_aload_n hx hb dX0_leans_12 rfl (lv_at hl 0 rfl) ?_
      refine lv_iload_n hx hb dX0_leans_13 rfl (lv_at hl 1 rfl) ?_
      obtain ⟨r4, h3, hX⟩ := bn_of hX
      refine r_callV1 (v := .int (b2i r4)) (As := [.int a1]) (rest := []) X hS (m_X0_hasSeam hN ho h3) mv_X0_hasSeam rfl ho t3_191 ⟨rfl, rfl, Nat.le_of_ble_eq_true rfl, Nat.le_of_ble_eq_true rfl⟩ rfl hl.1 rfl (Nat.le_of_ble_eq_true rfl) ⟨Nat.zero_le _, Nat.zero_le _⟩ dX0_leans_14 (fun H locs hS => ?_)
      refine lv_if_eq (tgt := 39) hx hb dX0_leans_17 (by decide) (fun c5 => ?_) (fun c5 => ?_)
      · have hX := if_bf c5 hX
        exact n_X0_leans_39 X hN ho hX (fun z0 z1 r h ls H locs hl hS => ih z0 z1 r h ls H locs hl hS) _ _ _ (lv_sub hl [0, 1, 2, 3] rfl) hS
      · have hX := if_bt c5 hX
        refine lv_aload_n hx hb dX0_leans_20 rfl (lv_at hl 0 rfl) ?_
        refine lv_iload_n hx hb dX0_leans_21 rfl (lv_at hl 3 rfl) ?_
        obtain ⟨r7, h6, hX⟩ := bn_of hX
        refine r_callV1 (v := .int r7) (As := [.int v_3]) (rest := []) X hS (m_X0_needs hN ho h6) mv_X0_needs rfl ho t4_72 ⟨rfl, rfl, Nat.le_of_ble_eq_true rfl, Nat.le_of_ble_eq_true rfl⟩ rfl hl.1 rfl (Nat.le_of_ble_eq_true rfl) ⟨Nat.zero_le _, Nat.zero_le _⟩ dX0_leans_22 (fun H locs hS => ?_)
        refine lv_iload_n hx hb dX0_leans_25 rfl (lv_at hl 1 rfl) ?_
        refine lv_ishr hx hb dX0_leans_26 ?_
        refine lv_iconst (v := nI 1) hx hb dX0_leans_27 (by decide) ?_
        refine lv_iand hx hb dX0_leans_28 ?_
        refine lv_iconst (v := nI 1) hx hb dX0_leans_29 (by decide) ?_
        refine lv_icmp_ne (tgt := 39) hx hb dX0_leans_30 (by decide) (fun c8 => ?_) (fun c8 => ?_)
        · have hX := if_f c8 hX
          exact n_X0_leans_39 X hN ho hX (fun z0 z1 r h ls H locs hl hS => ih z0 z1 r h ls H locs hl hS) _ _ _ (lv_sub hl [0, 1, 2, 3] rfl) hS
        · have hX := if_t c8 hX
          refine lv_iload_n hx hb dX0_leans_33 rfl (lv_at hl 2 rfl) ?_
          refine lv_iconst (v := nI 1) hx hb dX0_leans_34 (by decide) ?_
          refine lv_iload_n hx hb dX0_leans_35 rfl (lv_at hl 3 rfl) ?_
          refine lv_ishl hx hb dX0_leans_36 ?_
          refine lv_ior hx hb dX0_leans_37 ?_
          refine lv_topi (fun v9 ev9 => ?_)
          have hX := nm_of ev9 hX
          refine lv_istore_n (lv' := [(2, .int v9), (0, .ref (ad o 0)), (1, .int a1), (3, .int v_3)]) hx hb dX0_leans_38 rfl hl (by decide) rfl (fun ls hl => ?_)
          exact n_X0_leans_39 X hN ho hX (fun z0 z1 r h ls H locs hl hS => ih z0 z1 r h ls H locs hl hS) _ _ _ (lv_sub hl [1, 2, 0, 3] rfl) hS
set_option maxRecDepth 100000 in
set_option maxHeartbeats 4000000 in
theorem m_X0_leans {l : Launch} {D : va_G} {cy : Nat → ClassId} {ad : Nat → Nat → Nat} {ns : List (Nat × Nat)} {A : Nat → Prop} {M : Mem} (hN : NsC ns) {o : Nat} {a1 : Int32} (ho : Ob ns 0 o) {r : Int32} (hX : f_X0_leans M o a1 = some r) : Ct l yX0_leans cX0_leans 4 ((some .int)) rm_X0_leans D cy ad ns A [.ref (ad o 0), .int a1] M M (some (.int r)) := by
  refine ct_of (lv := [(0, .ref (ad o 0)), (1, .int a1)]) (by decide) (Nat.le_of_ble_eq_true rfl) rfl ?_
  intro p e s m args below meth c ls X hl hS
  obtain ⟨hx, hb, hml, hown, hts, hK, hr, hlk, hA, hG⟩ := id X
  obtain ⟨H, hH⟩ : ∃ z, z = s.heap := ⟨_, rfl⟩
  obtain ⟨locs, hlo⟩ : ∃ z : List Loc, z = [] := ⟨_, rfl⟩
  have hS : St D cy ad ns A M s.heap H locs := by rw [hH, hlo]; exact hS
  have hgoal : W p l e rm_X0_leans s m args below meth c H locs 0 0 (MQ below (QC D cy ad ns A M (some (.int r))) args s 0 0 A) (F0 m 0 ls []) := by
    unfold f_X0_leans at hX
    refine lv_iconst (v := nI 0) hx hb dX0_leans_0 (by decide) ?_
    refine lv_istore_n (lv' := [(2, .int (nI 0)), (0, .ref (ad o 0)), (1, .int a1)]) hx hb dX0_leans_1 rfl hl (by decide) rfl (fun ls hl => ?_)
    refine lv_iconst (v := nI 0) hx hb dX0_leans_2 (by decide) ?_
    refine lv_istore_n (lv' := [(3, .int (nI 0)), (2, .int (nI 0)), (0, .ref (ad o 0)), (1, .int a1)]) hx hb dX0_leans_3 rfl hl (by decide) rfl (fun ls hl => ?_)
    exact n_X0_leans_4 X hN ho _ _ _ _ hX _ _ _ (lv_sub hl [2, 3, 1, 0] rfl) hS
  rw [hH, hlo] at hgoal
  exact hgoal
theorem mv_X0_leans : Mv yX0_leans RX0 cX0_leans 4 ((some .int)) 1 := ⟨t4_71, t4_69, t4_70, t1_3, ⟨by decide, by decide⟩, by decide +kernel⟩
/-! SewnYear$Coat.cut(I)I -/
def rm_X0_cut : Room := { frames := 0, cells := 0, slots := 0, locals := 0 }
def f_X0_cut_85 (M : Mem) (o : Nat) (a1 : Int32) (v_3 : Int32) (k_17 : Int32 → Int32 → Option (Int32)) (v_2 : Int32) (v_4 : Int32) : Option (Int32) :=
  nm (v_4 + nI 1) fun v1 => k_17 v_2 v1
def f_X0_cut_56 (M : Mem) (o : Nat) (a1 : Int32) (v_3 : Int32) (k_61 : Int32 → Int32 → Bool → Option (Int32)) (v_2 : Int32) (v_4 : Int32) : Option (Int32) :=
  k_61 v_2 v_4 true
def f_X0_cut_61 (M : Mem) (o : Nat) (a1 : Int32) (v_3 : Int32) (k_17 : Int32 → Int32 → Option (Int32)) (v_2 : Int32) (v_4 : Int32) (s_0 : Bool) : Option (Int32) :=
  if s_0 = true then (if ((a1 >>> (v_3 &&& 31)) &&& (nI 1)) = ((a1 >>> (v_4 &&& 31)) &&& (nI 1)) then (f_X0_cut_85 M o a1 v_3 k_17 v_2 v_4) else (nm (v_2 + nI 1) fun v4 => f_X0_cut_85 M o a1 v_3 k_17 v4 v_4)) else (f_X0_cut_85 M o a1 v_3 k_17 v_2 v_4)
def b_X0_cut_17 (M : Mem) (o : Nat) (a1 : Int32) (k_4 : Int32 → Int32 → Option (Int32)) (v_3 : Int32) (rc : Int32 → Int32 → Option (Int32)) (v_2 : Int32) (v_4 : Int32) : Option (Int32) :=
  if (gI M o 0) ≤ v_4 then (nm (v_3 + nI 1) fun v6 => k_4 v_2 v6) else (gin v_3 9 <| if (((gA M o 5 (ix v_3)) >>> (v_4 &&& 31)) &&& (nI 1)) = (nI 1) then (f_X0_cut_56 M o a1 v_3 (fun x0 x1 x2 => f_X0_cut_61 M o a1 v_3 rc x0 x1 x2) v_2 v_4) else (gin v_4 9 <| if (((gA M o 5 (ix v_4)) >>> (v_3 &&& 31)) &&& (nI 1)) = (nI 1) then (f_X0_cut_56 M o a1 v_3 (fun x0 x1 x2 => f_X0_cut_61 M o a1 v_3 rc x0 x1 x2) v_2 v_4) else (f_X0_cut_61 M o a1 v_3 rc v_2 v_4 false)))
def f_X0_cut_17 (M : Mem) (o : Nat) (a1 : Int32) (k_4 : Int32 → Int32 → Option (Int32)) (v_3 : Int32) : Nat → (Int32 × Int32) → Option (Int32) := lp (fun rc q => b_X0_cut_17 M o a1 k_4 v_3 (fun x0 x1 => rc (x0, x1)) q.1 q.2)
def b_X0_cut_4 (M : Mem) (o : Nat) (a1 : Int32) (rc : Int32 → Int32 → Option (Int32)) (v_2 : Int32) (v_3 : Int32) : Option (Int32) :=
  if (gI M o 0) ≤ v_3 then (some v_2) else (nm (v_3 + (nI 1)) fun v12 => f_X0_cut_17 M o a1 rc v_3 FU (v_2, v12))
def f_X0_cut_4 (M : Mem) (o : Nat) (a1 : Int32) : Nat → (Int32 × Int32) → Option (Int32) := lp (fun rc q => b_X0_cut_4 M o a1 (fun x0 x1 => rc (x0, x1)) q.1 q.2)
def f_X0_cut (M : Mem) (o : Nat) (a1 : Int32) : Option (Int32) :=
  f_X0_cut_4 M o a1 FU ((nI 0), (nI 0))
set_option maxRecDepth 100000 in
set_option maxHeartbeats 4000000 in
theorem n_X0_cut_85 {o : Nat} {a1 : Int32} {v_3 : Int32} (X : Cx p s m args meth c D cy ad A RX0 cX0_cut 6 ((some .int))) (hN : NsC ns) (ho : Ob ns 0 o) {M : Mem} {k_17 : Int32 → Int32 → Option (Int32)} {v_2 : Int32} {v_4 : Int32} {r : Int32} (hX : f_X0_cut_85 M o a1 v_3 k_17 v_2 v_4 = some r) : (∀ (v_2 : Int32) (v_4 : Int32) (r : Int32), k_17 v_2 v_4 = some r → ∀ (ls : Array Slot) (H : Heap) (locs : List Loc), lv_has ls 6 [(0, .ref (ad o 0)), (1, .int a1), (2, .int v_2), (3, .int v_3), (4, .int v_4)] → St D cy ad ns A M s.heap H locs → W p l e rm_X0_cut s m args below meth c H locs 0 0 (MQ below (QC D cy ad ns A M (some (.int r))) args s 0 0 A) (F0 m 17 ls [])) → ∀ (ls : Array Slot) (H : Heap) (locs : List Loc), lv_has ls 6 [(0, .ref (ad o 0)), (1, .int a1), (2, .int v_2), (3, .int v_3), (4, .int v_4)] → St D cy ad ns A M s.heap H locs → W p l e rm_X0_cut s m args below meth c H locs 0 0 (MQ below (QC D cy ad ns A M (some (.int r))) args s 0 0 A) (F0 m 85 ls []) := by
  obtain ⟨hx, hb, hml, hown, hts, hK, hr, hlk, hA, hG⟩ := id X
  intro hk_17 ls H locs hl hS
  unfold f_X0_cut_85 at hX
  obtain ⟨v1, ev1⟩ : ∃ y : Int32, y = (v_4 + nI 1) := ⟨_, rfl⟩
  have hX := nm_of ev1 hX
  refine lv_iinc (v := v1) (lv' := [(4, .int v1), (0, .ref (ad o 0)), (1, .int a1), (2, .int v_2), (3, .int v_3)]) hx hb dX0_cut_85 hl (k := 4) rfl (by rw [ev1]; rfl) (by decide) rfl (fun ls hl => ?_)
  refine lv_goto (tgt := 17) hx hb dX0_cut_88 (by decide) ?_
  exact hk_17 _ _ _ hX _ _ _ (lv_sub hl [1, 2, 3, 4, 0] rfl) hS
set_option maxRecDepth 100000 in
set_option maxHeartbeats 4000000 in
theorem n_X0_cut_56 {o : Nat} {a1 : Int32} {v_3 : Int32} (X : Cx p s m args meth c D cy ad A RX0 cX0_cut 6 ((some .int))) (hN : NsC ns) (ho : Ob ns 0 o) {M : Mem} {k_61 : Int32 → Int32 → Bool → Option (Int32)} {v_2 : Int32} {v_4 : Int32} {r : Int32} (hX : f_X0_cut_56 M o a1 v_3 k_61 v_2 v_4 = some r) : (∀ (v_2 : Int32) (v_4 : Int32) (s_0 : Bool) (r : Int32), k_61 v_2 v_4 s_0 = some r → ∀ (ls : Array Slot) (H : Heap) (locs : List Loc), lv_has ls 6 [(0, .ref (ad o 0)), (1, .int a1), (2, .int v_2), (3, .int v_3), (4, .int v_4)] → St D cy ad ns A M s.heap H locs → W p l e rm_X0_cut s m args below meth c H locs 0 0 (MQ below (QC D cy ad ns A M (some (.int r))) args s 0 0 A) (F0 m 61 ls [.int (b2i s_0)])) → ∀ (ls : Array Slot) (H : Heap) (locs : List Loc), lv_has ls 6 [(0, .ref (ad o 0)), (1, .int a1), (2, .int v_2), (3, .int v_3), (4, .int v_4)] → St D cy ad ns A M s.heap H locs → W p l e rm_X0_cut s m args below meth c H locs 0 0 (MQ below (QC D cy ad ns A M (some (.int r))) args s 0 0 A) (F0 m 56 ls []) := by
  obtain ⟨hx, hb, hml, hown, hts, hK, hr, hlk, hA, hG⟩ := id X
  intro hk_61 ls H locs hl hS
  unfold f_X0_cut_56 at hX
  refine lv_iconst (v := nI 1) hx hb dX0_cut_56 (by decide) ?_
  refine lv_goto (tgt := 61) hx hb dX0_cut_57 (by decide) ?_
  exact hk_61 _ _ _ _ hX _ _ _ (lv_sub hl [0, 1, 2, 3, 4] rfl) hS
set_option maxRecDepth 100000 in
set_option maxHeartbeats 4000000 in
theorem n_X0_cut_61 {o : Nat} {a1 : Int32} {v_3 : Int32} (X : Cx p s m args meth c D cy ad A RX0 cX0_cut 6 ((some .int))) (hN : NsC ns) (ho : Ob ns 0 o) {M : Mem} {k_17 : Int32 → Int32 → Option (Int32)} {v_2 : Int32} {v_4 : Int32} {s_0 : Bool} {r : Int32} (hX : f_X0_cut_61 M o a1 v_3 k_17 v_2 v_4 s_0 = some r) : (∀ (v_2 : Int32) (v_4 : Int32) (r : Int32), k_17 v_2 v_4 = some r → ∀ (ls : Array Slot) (H : Heap) (locs : List Loc), lv_has ls 6 [(0, .ref (ad o 0)), (1, .int a1), (2, .int v_2), (3, .int v_3), (4, .int v_4)] → St D cy ad ns A M s.heap H locs → W p l e rm_X0_cut s m args below meth c H locs 0 0 (MQ below (QC D cy ad ns A M (some (.int r))) args s 0 0 A) (F0 m 17 ls [])) → ∀ (ls : Array Slot) (H : Heap) (locs : List Loc), lv_has ls 6 [(0, .ref (ad o 0)), (1, .int a1), (2, .int v_2), (3, .int v_3), (4, .int v_4)] → St D cy ad ns A M s.heap H locs → W p l e rm_X0_cut s m args below meth c H locs 0 0 (MQ below (QC D cy ad ns A M (some (.int r))) args s 0 0 A) (F0 m 61 ls [.int (b2i s_0)]) := by
  obtain ⟨hx, hb, hml, hown, hts, hK, hr, hlk, hA, hG⟩ := id X
  intro hk_17 ls H locs hl hS
  unfold f_X0_cut_61 at hX
  refine lv_istore (lv' := [(5, .int (b2i s_0)), (0, .ref (ad o 0)), (1, .int a1), (2, .int v_2), (3, .int v_3), (4, .int v_4)]) hx hb dX0_cut_61 hl (by decide) rfl (fun ls hl => ?_)
  refine lv_iload hx hb dX0_cut_63 (lv_at hl 0 rfl) ?_
  refine lv_if_eq (tgt := 85) hx hb dX0_cut_65 (by decide) (fun c2 => ?_) (fun c2 => ?_)
  · have hX := if_bf c2 hX
    exact n_X0_cut_85 X hN ho hX hk_17 _ _ _ (lv_sub hl [1, 2, 3, 4, 5] rfl) hS
  · have hX := if_bt c2 hX
    refine lv_iload_n hx hb dX0_cut_68 rfl (lv_at hl 2 rfl) ?_
    refine lv_iload_n hx hb dX0_cut_69 rfl (lv_at hl 4 rfl) ?_
    refine lv_ishr hx hb dX0_cut_70 ?_
    refine lv_iconst (v := nI 1) hx hb dX0_cut_71 (by decide) ?_
    refine lv_iand hx hb dX0_cut_72 ?_
    refine lv_iload_n hx hb dX0_cut_73 rfl (lv_at hl 2 rfl) ?_
    refine lv_iload hx hb dX0_cut_74 (lv_at hl 5 rfl) ?_
    refine lv_ishr hx hb dX0_cut_76 ?_
    refine lv_iconst (v := nI 1) hx hb dX0_cut_77 (by decide) ?_
    refine lv_iand hx hb dX0_cut_78 ?_
    refine lv_icmp_eq (tgt := 85) hx hb dX0_cut_79 (by decide) (fun c3 => ?_) (fun c3 => ?_)
    · have hX := if_t c3 hX
      exact n_X0_cut_85 X hN ho hX hk_17 _ _ _ (lv_sub hl [1, 2, 3, 4, 5] rfl) hS
    · have hX := if_f c3 hX
      obtain ⟨v4, ev4⟩ : ∃ y : Int32, y = (v_2 + nI 1) := ⟨_, rfl⟩
      have hX := nm_of ev4 hX
      refine lv_iinc (v := v4) (lv' := [(2, .int v4), (5, .int (b2i s_0)), (0, .ref (ad o 0)), (1, .int a1), (3, .int v_3), (4, .int v_4)]) hx hb dX0_cut_82 hl (k := 3) rfl (by rw [ev4]; rfl) (by decide) rfl (fun ls hl => ?_)
      exact n_X0_cut_85 X hN ho hX hk_17 _ _ _ (lv_sub hl [2, 3, 0, 4, 5] rfl) hS
set_option maxRecDepth 100000 in
set_option maxHeartbeats 4000000 in
theorem n_X0_cut_17 {o : Nat} {a1 : Int32} (X : Cx p s m args meth c D cy ad A RX0 cX0_cut 6 ((some .int))) (hN : NsC ns) (ho : Ob ns 0 o) {M : Mem} {k_4 : Int32 → Int32 → Option (Int32)} {v_3 : Int32} : ∀ (n : Nat) (v_2 : Int32) (v_4 : Int32) (r : Int32), f_X0_cut_17 M o a1 k_4 v_3 n (v_2, v_4) = some r → (∀ (v_2 : Int32) (v_3 : Int32) (r : Int32), k_4 v_2 v_3 = some r → ∀ (ls : Array Slot) (H : Heap) (locs : List Loc), lv_has ls 6 [(0, .ref (ad o 0)), (1, .int a1), (2, .int v_2), (3, .int v_3)] → St D cy ad ns A M s.heap H locs → W p l e rm_X0_cut s m args below meth c H locs 0 0 (MQ below (QC D cy ad ns A M (some (.int r))) args s 0 0 A) (F0 m 4 ls [])) → ∀ (ls : Array Slot) (H : Heap) (locs : List Loc), lv_has ls 6 [(0, .ref (ad o 0)), (1, .int a1), (2, .int v_2), (3, .int v_3), (4, .int v_4)] → St D cy ad ns A M s.heap H locs → W p l e rm_X0_cut s m args below meth c H locs 0 0 (MQ below (QC D cy ad ns A M (some (.int r))) args s 0 0 A) (F0 m 17 ls []) := by
  obtain ⟨hx, hb, hml, hown, hts, hK, hr, hlk, hA, hG⟩ := id X
  intro n
  induction n with
  | zero => intro v_2 v_4 r hX; cases (show (none : Option (Int32)) = some r from hX)
  | succ n ih =>
    intro v_2 v_4 r hX hk_4 ls H locs hl hS
    have hX : b_X0_cut_17 M o a1 k_4 v_3 (fun x0 x1 => f_X0_cut_17 M o a1 k_4 v_3 n (x0, x1)) v_2 v_4 = some r := hX
    unfold b_X0_cut_17 at hX
    refine lv_iload hx hb dX0_cut_17 (lv_at hl 4 rfl) ?_
    refine lv_aload_n hx hb dX0_cut_19 rfl (lv_at hl 0 rfl) ?_
    refine fg_X0_31 X hS ho dX0_cut_20 ?_
    refine lv_icmp_ge (tgt := 91) hx hb dX0_cut_23 (by decide) (fun c5 => ?_) (fun c5 => ?_)
    · have hX := if_t c5 hX
      obtain ⟨v6, ev6⟩ : ∃ y : Int32, y = (v_3 + nI 1) := ⟨_, rfl⟩
      have hX := nm_of ev6 hX
      refine lv_iinc (v := v6) (lv' := [(3, .int v6), (0, .ref (ad o 0)), (1, .int a1), (2, .int v_2), (4, .int v_4)]) hx hb dX0_cut_91 hl (k := 3) rfl (by rw [ev6]; rfl) (by decide) rfl (fun ls hl => ?_)
      refine lv_goto (tgt := 4) hx hb dX0_cut_94 (by decide) ?_
      exact hk_4 _ _ _ hX _ _ _ (lv_sub hl [1, 2, 3, 0] rfl) hS
    · have hX := if_f c5 hX
      refine lv_aload_n hx hb dX0_cut_26 rfl (lv_at hl 0 rfl) ?_
      refine fg_X0_25 X hS ho dX0_cut_27 ?_
      refine lv_iload_n hx hb dX0_cut_30 rfl (lv_at hl 3 rfl) ?_
      obtain ⟨g7, hX⟩ := gin_of hX
      refine r_iald (ci := 0) (o := o) (k := 5) (n := 9) X hS ho rfl rfl g7 dX0_cut_31 ?_
      refine lv_iload hx hb dX0_cut_32 (lv_at hl 4 rfl) ?_
      refine lv_ishr hx hb dX0_cut_34 ?_
      refine lv_iconst (v := nI 1) hx hb dX0_cut_35 (by decide) ?_
      refine lv_iand hx hb dX0_cut_36 ?_
      refine lv_iconst (v := nI 1) hx hb dX0_cut_37 (by decide) ?_
      refine lv_icmp_eq (tgt := 56) hx hb dX0_cut_38 (by decide) (fun c8 => ?_) (fun c8 => ?_)
      · have hX := if_t c8 hX
        exact n_X0_cut_56 X hN ho hX (fun z0 z1 z2 r h ls H locs hl hS => n_X0_cut_61 X hN ho h (fun z0 z1 r h ls H locs hl hS => ih z0 z1 r h hk_4 ls H locs hl hS) _ _ _ hl hS) _ _ _ (lv_sub hl [0, 1, 2, 3, 4] rfl) hS
      · have hX := if_f c8 hX
        refine lv_aload_n hx hb dX0_cut_41 rfl (lv_at hl 0 rfl) ?_
        refine fg_X0_25 X hS ho dX0_cut_42 ?_
        refine lv_iload hx hb dX0_cut_45 (lv_at hl 4 rfl) ?_
        obtain ⟨g9, hX⟩ := gin_of hX
        refine r_iald (ci := 0) (o := o) (k := 5) (n := 9) X hS ho rfl rfl g9 dX0_cut_47 ?_
        refine lv_iload_n hx hb dX0_cut_48 rfl (lv_at hl 3 rfl) ?_
        refine lv_ishr hx hb dX0_cut_49 ?_
        refine lv_iconst (v := nI 1) hx hb dX0_cut_50 (by decide) ?_
        refine lv_iand hx hb dX0_cut_51 ?_
        refine lv_iconst (v := nI 1) hx hb dX0_cut_52 (by decide) ?_
        refine lv_icmp_ne (tgt := 60) hx hb dX0_cut_53 (by decide) (fun c10 => ?_) (fun c10 => ?_)
        · have hX := if_f c10 hX
          refine lv_iconst (v := nI 0) hx hb dX0_cut_60 (by decide) ?_
          exact n_X0_cut_61 X hN ho hX (fun z0 z1 r h ls H locs hl hS => ih z0 z1 r h hk_4 ls H locs hl hS) _ _ _ (lv_sub hl [0, 1, 2, 3, 4] rfl) hS
        · have hX := if_t c10 hX
          exact n_X0_cut_56 X hN ho hX (fun z0 z1 z2 r h ls H locs hl hS => n_X0_cut_61 X hN ho h (fun z0 z1 r h ls H locs hl hS => ih z0 z1 r h hk_4 ls H locs hl hS) _ _ _ hl hS) _ _ _ (lv_sub hl [0, 1, 2, 3, 4] rfl) hS
set_option maxRecDepth 100000 in
set_option maxHeartbeats 4000000 in
theorem n_X0_cut_4 {o : Nat} {a1 : Int32} (X : Cx p s m args meth c D cy ad A RX0 cX0_cut 6 ((some .int))) (hN : NsC ns) (ho : Ob ns 0 o) {M : Mem} : ∀ (n : Nat) (v_2 : Int32) (v_3 : Int32) (r : Int32), f_X0_cut_4 M o a1 n (v_2, v_3) = some r → ∀ (ls : Array Slot) (H : Heap) (locs : List Loc), lv_has ls 6 [(0, .ref (ad o 0)), (1, .int a1), (2, .int v_2), (3, .int v_3)] → St D cy ad ns A M s.heap H locs → W p l e rm_X0_cut s m args below meth c H locs 0 0 (MQ below (QC D cy ad ns A M (some (.int r))) args s 0 0 A) (F0 m 4 ls []) := by
  obtain ⟨hx, hb, hml, hown, hts, hK, hr, hlk, hA, hG⟩ := id X
  intro n
  induction n with
  | zero => intro v_2 v_3 r hX; cases (show (none : Option (Int32)) = some r from hX)
  | succ n ih =>
    intro v_2 v_3 r hX ls H locs hl hS
    have hX : b_X0_cut_4 M o a1 (fun x0 x1 => f_X0_cut_4 M o a1 n (x0, x1)) v_2 v_3 = some r := hX
    unfold b_X0_cut_4 at hX
    refine lv_iload_n hx hb dX0_cut_4 rfl (lv_at hl 3 rfl) ?_
    refine lv_aload_n hx hb dX0_cut_5 rfl (lv_at hl 0 rfl) ?_
    refine fg_X0_31 X hS ho dX0_cut_6 ?_
    refine lv_icmp_ge (tgt := 97) hx hb dX0_cut_9 (by decide) (fun c11 => ?_) (fun c11 => ?_)
    · have hX := if_t c11 hX
      refine lv_iload_n hx hb dX0_cut_97 rfl (lv_at hl 2 rfl) ?_
      obtain rfl := some_of hX
      exact x_I (v := v_2) X hS dX0_cut_98
    · have hX := if_f c11 hX
      refine lv_iload_n hx hb dX0_cut_12 rfl (lv_at hl 3 rfl) ?_
      refine lv_iconst (v := nI 1) hx hb dX0_cut_13 (by decide) ?_
      refine lv_iadd hx hb dX0_cut_14 ?_
      refine lv_topi (fun v12 ev12 => ?_)
      have hX := nm_of ev12 hX
      refine lv_istore (lv' := [(4, .int v12), (0, .ref (ad o 0)), (1, .int a1), (2, .int v_2), (3, .int v_3)]) hx hb dX0_cut_15 hl (by decide) rfl (fun ls hl => ?_)
      exact n_X0_cut_17 X hN ho _ _ _ _ hX (fun z0 z1 r h ls H locs hl hS => ih z0 z1 r h ls H locs hl hS) _ _ _ (lv_sub hl [1, 2, 3, 4, 0] rfl) hS
set_option maxRecDepth 100000 in
set_option maxHeartbeats 4000000 in
theorem m_X0_cut {l : Launch} {D : va_G} {cy : Nat → ClassId} {ad : Nat → Nat → Nat} {ns : List (Nat × Nat)} {A : Nat → Prop} {M : Mem} (hN : NsC ns) {o : Nat} {a1 : Int32} (ho : Ob ns 0 o) {r : Int32} (hX : f_X0_cut M o a1 = some r) : Ct l yX0_cut cX0_cut 6 ((some .int)) rm_X0_cut D cy ad ns A [.ref (ad o 0), .int a1] M M (some (.int r)) := by
  refine ct_of (lv := [(0, .ref (ad o 0)), (1, .int a1)]) (by decide) (Nat.le_of_ble_eq_true rfl) rfl ?_
  intro p e s m args below meth c ls X hl hS
  obtain ⟨hx, hb, hml, hown, hts, hK, hr, hlk, hA, hG⟩ := id X
  obtain ⟨H, hH⟩ : ∃ z, z = s.heap := ⟨_, rfl⟩
  obtain ⟨locs, hlo⟩ : ∃ z : List Loc, z = [] := ⟨_, rfl⟩
  have hS : St D cy ad ns A M s.heap H locs := by rw [hH, hlo]; exact hS
  have hgoal : W p l e rm_X0_cut s m args below meth c H locs 0 0 (MQ below (QC D cy ad ns A M (some (.int r))) args s 0 0 A) (F0 m 0 ls []) := by
    unfold f_X0_cut at hX
    refine lv_iconst (v := nI 0) hx hb dX0_cut_0 (by decide) ?_
    refine lv_istore_n (lv' := [(2, .int (nI 0)), (0, .ref (ad o 0)), (1, .int a1)]) hx hb dX0_cut_1 rfl hl (by decide) rfl (fun ls hl => ?_)
    refine lv_iconst (v := nI 0) hx hb dX0_cut_2 (by decide) ?_
    refine lv_istore_n (lv' := [(3, .int (nI 0)), (2, .int (nI 0)), (0, .ref (ad o 0)), (1, .int a1)]) hx hb dX0_cut_3 rfl hl (by decide) rfl (fun ls hl => ?_)
    exact n_X0_cut_4 X hN ho _ _ _ _ hX _ _ _ (lv_sub hl [2, 3, 1, 0] rfl) hS
  rw [hH, hlo] at hgoal
  exact hgoal
theorem mv_X0_cut : Mv yX0_cut RX0 cX0_cut 6 ((some .int)) 1 := ⟨t4_124, t4_122, t4_123, t1_3, ⟨by decide, by decide⟩, by decide +kernel⟩
end MT_10_X0
