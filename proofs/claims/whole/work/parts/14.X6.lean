section FR_14_X6
variable {p : Program} {l : Launch} {e : Env} {R : Room} {s : State} {m : MethodId} {args : Array Value} {below : List Frame} {meth : Method} {c : Code} {H : Heap} {locs : List Loc} {cells slots : Nat} {Q : State → Prop} {D : va_G} {cy : Nat → ClassId} {ad : Nat → Nat → Nat} {ns : List (Nat × Nat)} {A : Nat → Prop} {M M' : Mem} {cc : ByteArray} {nL : Nat} {ret : Option FieldType} {pc : Nat} {ls : Array Slot} {rest : List Value}
theorem fg_X6_9 (X : Cx p s m args meth c D cy ad A RX6 cc nL ret) (hS : St D cy ad ns A M s.heap H locs) {o : Nat} (ho : Ob ns 6 o) (hdg : decode cc pc = .ok (.getfield 9, 3)) (kk : W p l e R s m args below meth c H locs cells slots Q (F0 m (pc + 3) ls (.int (gI M o 2) :: rest))) : W p l e R s m args below meth c H locs cells slots Q (F0 m pc ls (.ref (ad o 0) :: rest)) := r_get X hS (C := RX6) (T := TX6) (N := 11) (k := 2) tf6 rfl rfl ho (by decide) t1_120 ⟨rfl, rfl, rfl⟩ (by unfold fv; rw [ho.1]; rfl) hdg kk
theorem fp_X6_9 (X : Cx p s m args meth c D cy ad A RX6 cc nL ret) (hS : St D cy ad ns A M s.heap H locs) {o : Nat} (ho : Ob ns 6 o) {v : Int32} (hdg : decode cc pc = .ok (.putfield 9, 3)) (kk : ∀ (H1 : Heap) (locs1 : List Loc), St D cy ad ns A (sI M o 2 v) s.heap H1 locs1 → W p l e R s m args below meth c H1 locs1 cells slots Q (F0 m (pc + 3) ls rest)) : W p l e R s m args below meth c H locs cells slots Q (F0 m pc ls (.int v :: .ref (ad o 0) :: rest)) := r_put X hS (C := RX6) (T := TX6) (N := 11) (k := 2) tf6 rfl rfl tyX6 tyX6_ok nmX6 ho (by decide) t1_120 ⟨rfl, rfl, rfl⟩ rfl (ty := .int) (by decide +kernel) rfl rfl (wr_sI hS.1.2.2) (cel_sI (by rw [ho.1]; decide) (by rw [ho.1]; rfl)) (fun q hq => cel_sI' hq) hdg kk
theorem fg_X6_15 (X : Cx p s m args meth c D cy ad A RX6 cc nL ret) (hS : St D cy ad ns A M s.heap H locs) {o : Nat} (ho : Ob ns 6 o) (hdg : decode cc pc = .ok (.getfield 15, 3)) (kk : W p l e R s m args below meth c H locs cells slots Q (F0 m (pc + 3) ls (.int (gI M o 3) :: rest))) : W p l e R s m args below meth c H locs cells slots Q (F0 m pc ls (.ref (ad o 0) :: rest)) := r_get X hS (C := RX6) (T := TX6) (N := 11) (k := 3) tf6 rfl rfl ho (by decide) t1_122 ⟨rfl, rfl, rfl⟩ (by unfold fv; rw [ho.1]; rfl) hdg kk
theorem fp_X6_15 (X : Cx p s m args meth c D cy ad A RX6 cc nL ret) (hS : St D cy ad ns A M s.heap H locs) {o : Nat} (ho : Ob ns 6 o) {v : Int32} (hdg : decode cc pc = .ok (.putfield 15, 3)) (kk : ∀ (H1 : Heap) (locs1 : List Loc), St D cy ad ns A (sI M o 3 v) s.heap H1 locs1 → W p l e R s m args below meth c H1 locs1 cells slots Q (F0 m (pc + 3) ls rest)) : W p l e R s m args below meth c H locs cells slots Q (F0 m pc ls (.int v :: .ref (ad o 0) :: rest)) := r_put X hS (C := RX6) (T := TX6) (N := 11) (k := 3) tf6 rfl rfl tyX6 tyX6_ok nmX6 ho (by decide) t1_122 ⟨rfl, rfl, rfl⟩ rfl (ty := .int) (by decide +kernel) rfl rfl (wr_sI hS.1.2.2) (cel_sI (by rw [ho.1]; decide) (by rw [ho.1]; rfl)) (fun q hq => cel_sI' hq) hdg kk
theorem fg_X6_18 (X : Cx p s m args meth c D cy ad A RX6 cc nL ret) (hS : St D cy ad ns A M s.heap H locs) {o : Nat} (ho : Ob ns 6 o) (hdg : decode cc pc = .ok (.getfield 18, 3)) (kk : W p l e R s m args below meth c H locs cells slots Q (F0 m (pc + 3) ls (.ref (ad o (5 + 1)) :: rest))) : W p l e R s m args below meth c H locs cells slots Q (F0 m pc ls (.ref (ad o 0) :: rest)) := r_get X hS (C := RX6) (T := TX6) (N := 11) (k := 5) tf6 rfl rfl ho (by decide) t1_128 ⟨rfl, rfl, rfl⟩ (by unfold fv; rw [ho.1]; rfl) hdg kk
theorem fg_X6_22 (X : Cx p s m args meth c D cy ad A RX6 cc nL ret) (hS : St D cy ad ns A M s.heap H locs) {o : Nat} (ho : Ob ns 6 o) (hdg : decode cc pc = .ok (.getfield 22, 3)) (kk : W p l e R s m args below meth c H locs cells slots Q (F0 m (pc + 3) ls (.ref (ad o (6 + 1)) :: rest))) : W p l e R s m args below meth c H locs cells slots Q (F0 m pc ls (.ref (ad o 0) :: rest)) := r_get X hS (C := RX6) (T := TX6) (N := 11) (k := 6) tf6 rfl rfl ho (by decide) t1_131 ⟨rfl, rfl, rfl⟩ (by unfold fv; rw [ho.1]; rfl) hdg kk
theorem fg_X6_25 (X : Cx p s m args meth c D cy ad A RX6 cc nL ret) (hS : St D cy ad ns A M s.heap H locs) {o : Nat} (ho : Ob ns 6 o) (hdg : decode cc pc = .ok (.getfield 25, 3)) (kk : W p l e R s m args below meth c H locs cells slots Q (F0 m (pc + 3) ls (.ref (ad o (7 + 1)) :: rest))) : W p l e R s m args below meth c H locs cells slots Q (F0 m pc ls (.ref (ad o 0) :: rest)) := r_get X hS (C := RX6) (T := TX6) (N := 11) (k := 7) tf6 rfl rfl ho (by decide) t1_134 ⟨rfl, rfl, rfl⟩ (by unfold fv; rw [ho.1]; rfl) hdg kk
theorem fg_X6_28 (X : Cx p s m args meth c D cy ad A RX6 cc nL ret) (hS : St D cy ad ns A M s.heap H locs) {o : Nat} (ho : Ob ns 6 o) (hdg : decode cc pc = .ok (.getfield 28, 3)) (kk : W p l e R s m args below meth c H locs cells slots Q (F0 m (pc + 3) ls (.ref (ad o (8 + 1)) :: rest))) : W p l e R s m args below meth c H locs cells slots Q (F0 m pc ls (.ref (ad o 0) :: rest)) := r_get X hS (C := RX6) (T := TX6) (N := 11) (k := 8) tf6 rfl rfl ho (by decide) t1_135 ⟨rfl, rfl, rfl⟩ (by unfold fv; rw [ho.1]; rfl) hdg kk
theorem fg_X6_31 (X : Cx p s m args meth c D cy ad A RX6 cc nL ret) (hS : St D cy ad ns A M s.heap H locs) {o : Nat} (ho : Ob ns 6 o) (hdg : decode cc pc = .ok (.getfield 31, 3)) (kk : W p l e R s m args below meth c H locs cells slots Q (F0 m (pc + 3) ls (.ref (ad o (9 + 1)) :: rest))) : W p l e R s m args below meth c H locs cells slots Q (F0 m pc ls (.ref (ad o 0) :: rest)) := r_get X hS (C := RX6) (T := TX6) (N := 11) (k := 9) tf6 rfl rfl ho (by decide) t1_137 ⟨rfl, rfl, rfl⟩ (by unfold fv; rw [ho.1]; rfl) hdg kk
theorem fg_X6_34 (X : Cx p s m args meth c D cy ad A RX6 cc nL ret) (hS : St D cy ad ns A M s.heap H locs) {o : Nat} (ho : Ob ns 6 o) (hdg : decode cc pc = .ok (.getfield 34, 3)) (kk : W p l e R s m args below meth c H locs cells slots Q (F0 m (pc + 3) ls (.ref (ad o (10 + 1)) :: rest))) : W p l e R s m args below meth c H locs cells slots Q (F0 m pc ls (.ref (ad o 0) :: rest)) := r_get X hS (C := RX6) (T := TX6) (N := 11) (k := 10) tf6 rfl rfl ho (by decide) t1_139 ⟨rfl, rfl, rfl⟩ (by unfold fv; rw [ho.1]; rfl) hdg kk
theorem fg_X6_37 (X : Cx p s m args meth c D cy ad A RX6 cc nL ret) (hS : St D cy ad ns A M s.heap H locs) {o : Nat} (ho : Ob ns 6 o) (hdg : decode cc pc = .ok (.getfield 37, 3)) (kk : W p l e R s m args below meth c H locs cells slots Q (F0 m (pc + 3) ls (.int (gI M o 0) :: rest))) : W p l e R s m args below meth c H locs cells slots Q (F0 m pc ls (.ref (ad o 0) :: rest)) := r_get X hS (C := RX6) (T := TX6) (N := 11) (k := 0) tf6 rfl rfl ho (by decide) t1_114 ⟨rfl, rfl, rfl⟩ (by unfold fv; rw [ho.1]; rfl) hdg kk
theorem fp_X6_37 (X : Cx p s m args meth c D cy ad A RX6 cc nL ret) (hS : St D cy ad ns A M s.heap H locs) {o : Nat} (ho : Ob ns 6 o) {v : Int32} (hdg : decode cc pc = .ok (.putfield 37, 3)) (kk : ∀ (H1 : Heap) (locs1 : List Loc), St D cy ad ns A (sI M o 0 v) s.heap H1 locs1 → W p l e R s m args below meth c H1 locs1 cells slots Q (F0 m (pc + 3) ls rest)) : W p l e R s m args below meth c H locs cells slots Q (F0 m pc ls (.int v :: .ref (ad o 0) :: rest)) := r_put X hS (C := RX6) (T := TX6) (N := 11) (k := 0) tf6 rfl rfl tyX6 tyX6_ok nmX6 ho (by decide) t1_114 ⟨rfl, rfl, rfl⟩ rfl (ty := .int) (by decide +kernel) rfl rfl (wr_sI hS.1.2.2) (cel_sI (by rw [ho.1]; decide) (by rw [ho.1]; rfl)) (fun q hq => cel_sI' hq) hdg kk
theorem fg_X6_40 (X : Cx p s m args meth c D cy ad A RX6 cc nL ret) (hS : St D cy ad ns A M s.heap H locs) {o : Nat} (ho : Ob ns 6 o) (hdg : decode cc pc = .ok (.getfield 40, 3)) (kk : W p l e R s m args below meth c H locs cells slots Q (F0 m (pc + 3) ls (.int (gI M o 1) :: rest))) : W p l e R s m args below meth c H locs cells slots Q (F0 m pc ls (.ref (ad o 0) :: rest)) := r_get X hS (C := RX6) (T := TX6) (N := 11) (k := 1) tf6 rfl rfl ho (by decide) t1_117 ⟨rfl, rfl, rfl⟩ (by unfold fv; rw [ho.1]; rfl) hdg kk
theorem fp_X6_40 (X : Cx p s m args meth c D cy ad A RX6 cc nL ret) (hS : St D cy ad ns A M s.heap H locs) {o : Nat} (ho : Ob ns 6 o) {v : Int32} (hdg : decode cc pc = .ok (.putfield 40, 3)) (kk : ∀ (H1 : Heap) (locs1 : List Loc), St D cy ad ns A (sI M o 1 v) s.heap H1 locs1 → W p l e R s m args below meth c H1 locs1 cells slots Q (F0 m (pc + 3) ls rest)) : W p l e R s m args below meth c H locs cells slots Q (F0 m pc ls (.int v :: .ref (ad o 0) :: rest)) := r_put X hS (C := RX6) (T := TX6) (N := 11) (k := 1) tf6 rfl rfl tyX6 tyX6_ok nmX6 ho (by decide) t1_117 ⟨rfl, rfl, rfl⟩ rfl (ty := .int) (by decide +kernel) rfl rfl (wr_sI hS.1.2.2) (cel_sI (by rw [ho.1]; decide) (by rw [ho.1]; rfl)) (fun q hq => cel_sI' hq) hdg kk
theorem fg_X6_43 (X : Cx p s m args meth c D cy ad A RX6 cc nL ret) (hS : St D cy ad ns A M s.heap H locs) {o : Nat} (ho : Ob ns 6 o) (hdg : decode cc pc = .ok (.getfield 43, 3)) (kk : W p l e R s m args below meth c H locs cells slots Q (F0 m (pc + 3) ls (.int (gI M o 4) :: rest))) : W p l e R s m args below meth c H locs cells slots Q (F0 m pc ls (.ref (ad o 0) :: rest)) := r_get X hS (C := RX6) (T := TX6) (N := 11) (k := 4) tf6 rfl rfl ho (by decide) t1_124 ⟨rfl, rfl, rfl⟩ (by unfold fv; rw [ho.1]; rfl) hdg kk
theorem fp_X6_43 (X : Cx p s m args meth c D cy ad A RX6 cc nL ret) (hS : St D cy ad ns A M s.heap H locs) {o : Nat} (ho : Ob ns 6 o) {v : Int32} (hdg : decode cc pc = .ok (.putfield 43, 3)) (kk : ∀ (H1 : Heap) (locs1 : List Loc), St D cy ad ns A (sI M o 4 v) s.heap H1 locs1 → W p l e R s m args below meth c H1 locs1 cells slots Q (F0 m (pc + 3) ls rest)) : W p l e R s m args below meth c H locs cells slots Q (F0 m pc ls (.int v :: .ref (ad o 0) :: rest)) := r_put X hS (C := RX6) (T := TX6) (N := 11) (k := 4) tf6 rfl rfl tyX6 tyX6_ok nmX6 ho (by decide) t1_124 ⟨rfl, rfl, rfl⟩ rfl (ty := .int) (by decide +kernel) rfl rfl (wr_sI hS.1.2.2) (cel_sI (by rw [ho.1]; decide) (by rw [ho.1]; rfl)) (fun q hq => cel_sI' hq) hdg kk
end FR_14_X6
section MT_14_X6
variable {p : Program} {l : Launch} {e : Env} {s : State} {m : MethodId} {args : Array Value} {below : List Frame} {meth : Method} {c : Code} {D : va_G} {cy : Nat → ClassId} {ad : Nat → Nat → Nat} {ns : List (Nat × Nat)} {A : Nat → Prop}
/-! SewnYear$Town.clear()V -/
def rm_X6_clear : Room := { frames := 1, cells := 0, slots := 0, locals := 23 }
def f_X6_clear (M : Mem) (o : Nat) : Option (Mem) :=
  nm (sI M o 0 (nI 0)) fun M1 => nm (sI M1 o 1 (nI 0)) fun M2 => nm (sI M2 o 2 (nI 3)) fun M3 => nm (sI M3 o 3 (nI 2)) fun M4 => nm (sI M4 o 4 (nI 0)) fun M5 => nm (flA M5 o 9 6 (-1)) fun M6 => nm (flA M6 o 10 6 (-1)) fun M7 => some M7
set_option maxRecDepth 100000 in
set_option maxHeartbeats 4000000 in
theorem m_X6_clear {l : Launch} {D : va_G} {cy : Nat → ClassId} {ad : Nat → Nat → Nat} {ns : List (Nat × Nat)} {A : Nat → Prop} {M : Mem} (hN : NsC ns) {o : Nat} (ho : Ob ns 6 o) {r : Mem} (hX : f_X6_clear M o = some r) : Ct l yX6_clear cX6_clear 1 ((none : Option Jvm.ClassFile.FieldType)) rm_X6_clear D cy ad ns A [.ref (ad o 0)] M r none := by
  refine ct_of (lv := [(0, .ref (ad o 0))]) (by decide) (Nat.le_of_ble_eq_true rfl) rfl ?_
  intro p e s m args below meth c ls X hl hS
  obtain ⟨hx, hb, hml, hown, hts, hK, hr, hlk, hA, hG⟩ := id X
  obtain ⟨H, hH⟩ : ∃ z, z = s.heap := ⟨_, rfl⟩
  obtain ⟨locs, hlo⟩ : ∃ z : List Loc, z = [] := ⟨_, rfl⟩
  have hS : St D cy ad ns A M s.heap H locs := by rw [hH, hlo]; exact hS
  have hgoal : W p l e rm_X6_clear s m args below meth c H locs 0 0 (MQ below (QC D cy ad ns A r none) args s 0 0 A) (F0 m 0 ls []) := by
    unfold f_X6_clear at hX
    refine lv_aload_n hx hb dX6_clear_0 rfl (lv_at hl 0 rfl) ?_
    refine lv_iconst (v := nI 0) hx hb dX6_clear_1 (by decide) ?_
    refine fp_X6_37 X hS ho dX6_clear_2 (fun H locs hS => ?_)
    obtain ⟨M1, eM1, hS, hX⟩ := nm_mem hS hX
    refine lv_aload_n hx hb dX6_clear_5 rfl (lv_at hl 0 rfl) ?_
    refine lv_iconst (v := nI 0) hx hb dX6_clear_6 (by decide) ?_
    refine fp_X6_40 X hS ho dX6_clear_7 (fun H locs hS => ?_)
    obtain ⟨M2, eM2, hS, hX⟩ := nm_mem hS hX
    refine lv_aload_n hx hb dX6_clear_10 rfl (lv_at hl 0 rfl) ?_
    refine lv_iconst (v := nI 3) hx hb dX6_clear_11 (by decide) ?_
    refine fp_X6_9 X hS ho dX6_clear_12 (fun H locs hS => ?_)
    obtain ⟨M3, eM3, hS, hX⟩ := nm_mem hS hX
    refine lv_aload_n hx hb dX6_clear_15 rfl (lv_at hl 0 rfl) ?_
    refine lv_iconst (v := nI 2) hx hb dX6_clear_16 (by decide) ?_
    refine fp_X6_15 X hS ho dX6_clear_17 (fun H locs hS => ?_)
    obtain ⟨M4, eM4, hS, hX⟩ := nm_mem hS hX
    refine lv_aload_n hx hb dX6_clear_20 rfl (lv_at hl 0 rfl) ?_
    refine lv_iconst (v := nI 0) hx hb dX6_clear_21 (by decide) ?_
    refine fp_X6_43 X hS ho dX6_clear_22 (fun H locs hS => ?_)
    obtain ⟨M5, eM5, hS, hX⟩ := nm_mem hS hX
    refine lv_aload_n hx hb dX6_clear_25 rfl (lv_at hl 0 rfl) ?_
    refine fg_X6_31 X hS ho dX6_clear_26 ?_
    refine lv_iconst (v := (-1)) hx hb dX6_clear_29 (by decide) ?_
    refine r_callS0 (As := [.ref (ad o (9 + 1)), .int (-1)]) (rest := []) X hS (m_fill ho (k := 9) rfl rfl (by decide)) ms_fill t2_228 ⟨rfl, rfl, Nat.le_of_ble_eq_true rfl, Nat.le_of_ble_eq_true rfl⟩ rfl hl.1 rfl (Nat.le_of_ble_eq_true rfl) ⟨Nat.zero_le _, Nat.zero_le _⟩ dX6_clear_30 (fun H locs hS => ?_)
    obtain ⟨M6, eM6, hS, hX⟩ := nm_mem hS hX
    refine lv_aload_n hx hb dX6_clear_33 rfl (lv_at hl 0 rfl) ?_
    refine fg_X6_34 X hS ho dX6_clear_34 ?_
    refine lv_iconst (v := (-1)) hx hb dX6_clear_37 (by decide) ?_
    refine r_callS0 (As := [.ref (ad o (10 + 1)), .int (-1)]) (rest := []) X hS (m_fill ho (k := 10) rfl rfl (by decide)) ms_fill t2_228 ⟨rfl, rfl, Nat.le_of_ble_eq_true rfl, Nat.le_of_ble_eq_true rfl⟩ rfl hl.1 rfl (Nat.le_of_ble_eq_true rfl) ⟨Nat.zero_le _, Nat.zero_le _⟩ dX6_clear_38 (fun H locs hS => ?_)
    obtain ⟨M7, eM7, hS, hX⟩ := nm_mem hS hX
    obtain rfl := some_of hX
    exact x_V X hS dX6_clear_41
  rw [hH, hlo] at hgoal
  exact hgoal
theorem mv_X6_clear : Mv yX6_clear RX6 cX6_clear 1 ((none : Option Jvm.ClassFile.FieldType)) 0 := ⟨t2_227, t2_225, t2_226, t1_5, ⟨by decide, by decide⟩, by decide +kernel⟩
/-! SewnYear$Town.take(LSewnYear$Town;)V -/
def rm_X6_take : Room := { frames := 1, cells := 0, slots := 0, locals := 60 }
def f_X6_take (M : Mem) (o : Nat) (a1 : Nat) : Option (Mem) :=
  nm (sI M o 0 (gI M a1 0)) fun M1 => nm (sI M1 o 1 (gI M1 a1 1)) fun M2 => nm (sI M2 o 2 (gI M2 a1 2)) fun M3 => nm (sI M3 o 3 (gI M3 a1 3)) fun M4 => nm (sI M4 o 4 (gI M4 a1 4)) fun M5 => nm (cpA M5 a1 5 o 5 6) fun M6 => nm (cpA M6 a1 6 o 6 6) fun M7 => nm (cpA M7 a1 7 o 7 6) fun M8 => nm (cpA M8 a1 8 o 8 6) fun M9 => nm (cpA M9 a1 9 o 9 6) fun M10 => nm (cpA M10 a1 10 o 10 6) fun M11 => some M11
set_option maxRecDepth 100000 in
set_option maxHeartbeats 4000000 in
theorem m_X6_take {l : Launch} {D : va_G} {cy : Nat → ClassId} {ad : Nat → Nat → Nat} {ns : List (Nat × Nat)} {A : Nat → Prop} {M : Mem} (hN : NsC ns) {o : Nat} {a1 : Nat} (ho : Ob ns 6 o) (ha1 : Ob ns 6 a1) {r : Mem} (hX : f_X6_take M o a1 = some r) : Ct l yX6_take cX6_take 2 ((none : Option Jvm.ClassFile.FieldType)) rm_X6_take D cy ad ns A [.ref (ad o 0), .ref (ad a1 0)] M r none := by
  refine ct_of (lv := [(0, .ref (ad o 0)), (1, .ref (ad a1 0))]) (by decide) (Nat.le_of_ble_eq_true rfl) rfl ?_
  intro p e s m args below meth c ls X hl hS
  obtain ⟨hx, hb, hml, hown, hts, hK, hr, hlk, hA, hG⟩ := id X
  obtain ⟨H, hH⟩ : ∃ z, z = s.heap := ⟨_, rfl⟩
  obtain ⟨locs, hlo⟩ : ∃ z : List Loc, z = [] := ⟨_, rfl⟩
  have hS : St D cy ad ns A M s.heap H locs := by rw [hH, hlo]; exact hS
  have hgoal : W p l e rm_X6_take s m args below meth c H locs 0 0 (MQ below (QC D cy ad ns A r none) args s 0 0 A) (F0 m 0 ls []) := by
    unfold f_X6_take at hX
    refine lv_aload_n hx hb dX6_take_0 rfl (lv_at hl 0 rfl) ?_
    refine lv_aload_n hx hb dX6_take_1 rfl (lv_at hl 1 rfl) ?_
    refine fg_X6_37 X hS ha1 dX6_take_2 ?_
    refine fp_X6_37 X hS ho dX6_take_5 (fun H locs hS => ?_)
    obtain ⟨M1, eM1, hS, hX⟩ := nm_mem hS hX
    refine lv_aload_n hx hb dX6_take_8 rfl (lv_at hl 0 rfl) ?_
    refine lv_aload_n hx hb dX6_take_9 rfl (lv_at hl 1 rfl) ?_
    refine fg_X6_40 X hS ha1 dX6_take_10 ?_
    refine fp_X6_40 X hS ho dX6_take_13 (fun H locs hS => ?_)
    obtain ⟨M2, eM2, hS, hX⟩ := nm_mem hS hX
    refine lv_aload_n hx hb dX6_take_16 rfl (lv_at hl 0 rfl) ?_
    refine lv_aload_n hx hb dX6_take_17 rfl (lv_at hl 1 rfl) ?_
    refine fg_X6_9 X hS ha1 dX6_take_18 ?_
    refine fp_X6_9 X hS ho dX6_take_21 (fun H locs hS => ?_)
    obtain ⟨M3, eM3, hS, hX⟩ := nm_mem hS hX
    refine lv_aload_n hx hb dX6_take_24 rfl (lv_at hl 0 rfl) ?_
    refine lv_aload_n hx hb dX6_take_25 rfl (lv_at hl 1 rfl) ?_
    refine fg_X6_15 X hS ha1 dX6_take_26 ?_
    refine fp_X6_15 X hS ho dX6_take_29 (fun H locs hS => ?_)
    obtain ⟨M4, eM4, hS, hX⟩ := nm_mem hS hX
    refine lv_aload_n hx hb dX6_take_32 rfl (lv_at hl 0 rfl) ?_
    refine lv_aload_n hx hb dX6_take_33 rfl (lv_at hl 1 rfl) ?_
    refine fg_X6_43 X hS ha1 dX6_take_34 ?_
    refine fp_X6_43 X hS ho dX6_take_37 (fun H locs hS => ?_)
    obtain ⟨M5, eM5, hS, hX⟩ := nm_mem hS hX
    refine lv_aload_n hx hb dX6_take_40 rfl (lv_at hl 1 rfl) ?_
    refine fg_X6_18 X hS ha1 dX6_take_41 ?_
    refine lv_iconst (v := nI 0) hx hb dX6_take_44 (by decide) ?_
    refine lv_aload_n hx hb dX6_take_45 rfl (lv_at hl 0 rfl) ?_
    refine fg_X6_18 X hS ho dX6_take_46 ?_
    refine lv_iconst (v := nI 0) hx hb dX6_take_49 (by decide) ?_
    refine lv_bipush (v := nI 6) hx hb dX6_take_50 (by decide) ?_
    refine r_copy (c0 := 6) (c1 := 6) (o := a1) (k := 5) (o' := o) (k' := 5) (n := 6) X hS ha1 ho rfl rfl (by decide) (by decide) (by decide) (by decide) hl.1 t3_162 t3_152 t3_151 t1_18 (Nat.le_of_ble_eq_true rfl) (Nat.le_of_ble_eq_true rfl) dX6_take_52 (fun H locs hS => ?_)
    obtain ⟨M6, eM6, hS, hX⟩ := nm_mem hS hX
    refine lv_aload_n hx hb dX6_take_55 rfl (lv_at hl 1 rfl) ?_
    refine fg_X6_22 X hS ha1 dX6_take_56 ?_
    refine lv_iconst (v := nI 0) hx hb dX6_take_59 (by decide) ?_
    refine lv_aload_n hx hb dX6_take_60 rfl (lv_at hl 0 rfl) ?_
    refine fg_X6_22 X hS ho dX6_take_61 ?_
    refine lv_iconst (v := nI 0) hx hb dX6_take_64 (by decide) ?_
    refine lv_bipush (v := nI 6) hx hb dX6_take_65 (by decide) ?_
    refine r_copy (c0 := 6) (c1 := 6) (o := a1) (k := 6) (o' := o) (k' := 6) (n := 6) X hS ha1 ho rfl rfl (by decide) (by decide) (by decide) (by decide) hl.1 t3_162 t3_152 t3_151 t1_18 (Nat.le_of_ble_eq_true rfl) (Nat.le_of_ble_eq_true rfl) dX6_take_67 (fun H locs hS => ?_)
    obtain ⟨M7, eM7, hS, hX⟩ := nm_mem hS hX
    refine lv_aload_n hx hb dX6_take_70 rfl (lv_at hl 1 rfl) ?_
    refine fg_X6_25 X hS ha1 dX6_take_71 ?_
    refine lv_iconst (v := nI 0) hx hb dX6_take_74 (by decide) ?_
    refine lv_aload_n hx hb dX6_take_75 rfl (lv_at hl 0 rfl) ?_
    refine fg_X6_25 X hS ho dX6_take_76 ?_
    refine lv_iconst (v := nI 0) hx hb dX6_take_79 (by decide) ?_
    refine lv_bipush (v := nI 6) hx hb dX6_take_80 (by decide) ?_
    refine r_copy (c0 := 6) (c1 := 6) (o := a1) (k := 7) (o' := o) (k' := 7) (n := 6) X hS ha1 ho rfl rfl (by decide) (by decide) (by decide) (by decide) hl.1 t3_162 t3_152 t3_151 t1_18 (Nat.le_of_ble_eq_true rfl) (Nat.le_of_ble_eq_true rfl) dX6_take_82 (fun H locs hS => ?_)
    obtain ⟨M8, eM8, hS, hX⟩ := nm_mem hS hX
    refine lv_aload_n hx hb dX6_take_85 rfl (lv_at hl 1 rfl) ?_
    refine fg_X6_28 X hS ha1 dX6_take_86 ?_
    refine lv_iconst (v := nI 0) hx hb dX6_take_89 (by decide) ?_
    refine lv_aload_n hx hb dX6_take_90 rfl (lv_at hl 0 rfl) ?_
    refine fg_X6_28 X hS ho dX6_take_91 ?_
    refine lv_iconst (v := nI 0) hx hb dX6_take_94 (by decide) ?_
    refine lv_bipush (v := nI 6) hx hb dX6_take_95 (by decide) ?_
    refine r_copy (c0 := 6) (c1 := 6) (o := a1) (k := 8) (o' := o) (k' := 8) (n := 6) X hS ha1 ho rfl rfl (by decide) (by decide) (by decide) (by decide) hl.1 t3_162 t3_152 t3_151 t1_18 (Nat.le_of_ble_eq_true rfl) (Nat.le_of_ble_eq_true rfl) dX6_take_97 (fun H locs hS => ?_)
    obtain ⟨M9, eM9, hS, hX⟩ := nm_mem hS hX
    refine lv_aload_n hx hb dX6_take_100 rfl (lv_at hl 1 rfl) ?_
    refine fg_X6_31 X hS ha1 dX6_take_101 ?_
    refine lv_iconst (v := nI 0) hx hb dX6_take_104 (by decide) ?_
    refine lv_aload_n hx hb dX6_take_105 rfl (lv_at hl 0 rfl) ?_
    refine fg_X6_31 X hS ho dX6_take_106 ?_
    refine lv_iconst (v := nI 0) hx hb dX6_take_109 (by decide) ?_
    refine lv_bipush (v := nI 6) hx hb dX6_take_110 (by decide) ?_
    refine r_copy (c0 := 6) (c1 := 6) (o := a1) (k := 9) (o' := o) (k' := 9) (n := 6) X hS ha1 ho rfl rfl (by decide) (by decide) (by decide) (by decide) hl.1 t3_162 t3_152 t3_151 t1_18 (Nat.le_of_ble_eq_true rfl) (Nat.le_of_ble_eq_true rfl) dX6_take_112 (fun H locs hS => ?_)
    obtain ⟨M10, eM10, hS, hX⟩ := nm_mem hS hX
    refine lv_aload_n hx hb dX6_take_115 rfl (lv_at hl 1 rfl) ?_
    refine fg_X6_34 X hS ha1 dX6_take_116 ?_
    refine lv_iconst (v := nI 0) hx hb dX6_take_119 (by decide) ?_
    refine lv_aload_n hx hb dX6_take_120 rfl (lv_at hl 0 rfl) ?_
    refine fg_X6_34 X hS ho dX6_take_121 ?_
    refine lv_iconst (v := nI 0) hx hb dX6_take_124 (by decide) ?_
    refine lv_bipush (v := nI 6) hx hb dX6_take_125 (by decide) ?_
    refine r_copy (c0 := 6) (c1 := 6) (o := a1) (k := 10) (o' := o) (k' := 10) (n := 6) X hS ha1 ho rfl rfl (by decide) (by decide) (by decide) (by decide) hl.1 t3_162 t3_152 t3_151 t1_18 (Nat.le_of_ble_eq_true rfl) (Nat.le_of_ble_eq_true rfl) dX6_take_127 (fun H locs hS => ?_)
    obtain ⟨M11, eM11, hS, hX⟩ := nm_mem hS hX
    obtain rfl := some_of hX
    exact x_V X hS dX6_take_130
  rw [hH, hlo] at hgoal
  exact hgoal
theorem mv_X6_take : Mv yX6_take RX6 cX6_take 2 ((none : Option Jvm.ClassFile.FieldType)) 1 := ⟨t3_161, t3_159, t3_160, t1_5, ⟨by decide, by decide⟩, by decide +kernel⟩
/-! SewnYear$Town.addWearer(IIII)V -/
def rm_X6_addWearer : Room := { frames := 0, cells := 0, slots := 0, locals := 0 }
def f_X6_addWearer (M : Mem) (o : Nat) (a1 : Int32) (a2 : Int32) (a3 : Int32) (a4 : Int32) : Option (Mem) :=
  if (nI 6) ≤ (gI M o 4) then (some M) else (gin (gI M o 4) 6 <| nm (sA M o 5 (ix (gI M o 4)) a1) fun M3 => gin (gI M3 o 4) 6 <| nm (sA M3 o 6 (ix (gI M3 o 4)) a2) fun M5 => gin (gI M5 o 4) 6 <| nm (sA M5 o 7 (ix (gI M5 o 4)) a3) fun M7 => gin (gI M7 o 4) 6 <| nm (sA M7 o 8 (ix (gI M7 o 4)) a4) fun M9 => nm (sI M9 o 4 ((gI M9 o 4) + (nI 1))) fun M10 => some M10)
set_option maxRecDepth 100000 in
set_option maxHeartbeats 4000000 in
theorem m_X6_addWearer {l : Launch} {D : va_G} {cy : Nat → ClassId} {ad : Nat → Nat → Nat} {ns : List (Nat × Nat)} {A : Nat → Prop} {M : Mem} (hN : NsC ns) {o : Nat} {a1 : Int32} {a2 : Int32} {a3 : Int32} {a4 : Int32} (ho : Ob ns 6 o) {r : Mem} (hX : f_X6_addWearer M o a1 a2 a3 a4 = some r) : Ct l yX6_addWearer cX6_addWearer 5 ((none : Option Jvm.ClassFile.FieldType)) rm_X6_addWearer D cy ad ns A [.ref (ad o 0), .int a1, .int a2, .int a3, .int a4] M r none := by
  refine ct_of (lv := [(0, .ref (ad o 0)), (1, .int a1), (2, .int a2), (3, .int a3), (4, .int a4)]) (by decide) (Nat.le_of_ble_eq_true rfl) rfl ?_
  intro p e s m args below meth c ls X hl hS
  obtain ⟨hx, hb, hml, hown, hts, hK, hr, hlk, hA, hG⟩ := id X
  obtain ⟨H, hH⟩ : ∃ z, z = s.heap := ⟨_, rfl⟩
  obtain ⟨locs, hlo⟩ : ∃ z : List Loc, z = [] := ⟨_, rfl⟩
  have hS : St D cy ad ns A M s.heap H locs := by rw [hH, hlo]; exact hS
  have hgoal : W p l e rm_X6_addWearer s m args below meth c H locs 0 0 (MQ below (QC D cy ad ns A r none) args s 0 0 A) (F0 m 0 ls []) := by
    unfold f_X6_addWearer at hX
    refine lv_aload_n hx hb dX6_addWearer_0 rfl (lv_at hl 0 rfl) ?_
    refine fg_X6_43 X hS ho dX6_addWearer_1 ?_
    refine lv_bipush (v := nI 6) hx hb dX6_addWearer_4 (by decide) ?_
    refine lv_icmp_ge (tgt := 60) hx hb dX6_addWearer_6 (by decide) (fun c1 => ?_) (fun c1 => ?_)
    · have hX := if_t c1 hX
      obtain rfl := some_of hX
      exact x_V X hS dX6_addWearer_60
    · have hX := if_f c1 hX
      refine lv_aload_n hx hb dX6_addWearer_9 rfl (lv_at hl 0 rfl) ?_
      refine fg_X6_18 X hS ho dX6_addWearer_10 ?_
      refine lv_aload_n hx hb dX6_addWearer_13 rfl (lv_at hl 0 rfl) ?_
      refine fg_X6_43 X hS ho dX6_addWearer_14 ?_
      refine lv_iload_n hx hb dX6_addWearer_17 rfl (lv_at hl 1 rfl) ?_
      obtain ⟨g2, hX⟩ := gin_of hX
      refine r_iast (ci := 6) (o := o) (k := 5) (n := 6) X hS ho rfl rfl g2 dX6_addWearer_18 (fun H locs hS => ?_)
      obtain ⟨M3, eM3, hS, hX⟩ := nm_mem hS hX
      refine lv_aload_n hx hb dX6_addWearer_19 rfl (lv_at hl 0 rfl) ?_
      refine fg_X6_22 X hS ho dX6_addWearer_20 ?_
      refine lv_aload_n hx hb dX6_addWearer_23 rfl (lv_at hl 0 rfl) ?_
      refine fg_X6_43 X hS ho dX6_addWearer_24 ?_
      refine lv_iload_n hx hb dX6_addWearer_27 rfl (lv_at hl 2 rfl) ?_
      obtain ⟨g4, hX⟩ := gin_of hX
      refine r_iast (ci := 6) (o := o) (k := 6) (n := 6) X hS ho rfl rfl g4 dX6_addWearer_28 (fun H locs hS => ?_)
      obtain ⟨M5, eM5, hS, hX⟩ := nm_mem hS hX
      refine lv_aload_n hx hb dX6_addWearer_29 rfl (lv_at hl 0 rfl) ?_
      refine fg_X6_25 X hS ho dX6_addWearer_30 ?_
      refine lv_aload_n hx hb dX6_addWearer_33 rfl (lv_at hl 0 rfl) ?_
      refine fg_X6_43 X hS ho dX6_addWearer_34 ?_
      refine lv_iload_n hx hb dX6_addWearer_37 rfl (lv_at hl 3 rfl) ?_
      obtain ⟨g6, hX⟩ := gin_of hX
      refine r_iast (ci := 6) (o := o) (k := 7) (n := 6) X hS ho rfl rfl g6 dX6_addWearer_38 (fun H locs hS => ?_)
      obtain ⟨M7, eM7, hS, hX⟩ := nm_mem hS hX
      refine lv_aload_n hx hb dX6_addWearer_39 rfl (lv_at hl 0 rfl) ?_
      refine fg_X6_28 X hS ho dX6_addWearer_40 ?_
      refine lv_aload_n hx hb dX6_addWearer_43 rfl (lv_at hl 0 rfl) ?_
      refine fg_X6_43 X hS ho dX6_addWearer_44 ?_
      refine lv_iload hx hb dX6_addWearer_47 (lv_at hl 4 rfl) ?_
      obtain ⟨g8, hX⟩ := gin_of hX
      refine r_iast (ci := 6) (o := o) (k := 8) (n := 6) X hS ho rfl rfl g8 dX6_addWearer_49 (fun H locs hS => ?_)
      obtain ⟨M9, eM9, hS, hX⟩ := nm_mem hS hX
      refine lv_aload_n hx hb dX6_addWearer_50 rfl (lv_at hl 0 rfl) ?_
      refine lv_dup hx hb dX6_addWearer_51 rfl ?_
      refine fg_X6_43 X hS ho dX6_addWearer_52 ?_
      refine lv_iconst (v := nI 1) hx hb dX6_addWearer_55 (by decide) ?_
      refine lv_iadd hx hb dX6_addWearer_56 ?_
      refine fp_X6_43 X hS ho dX6_addWearer_57 (fun H locs hS => ?_)
      obtain ⟨M10, eM10, hS, hX⟩ := nm_mem hS hX
      obtain rfl := some_of hX
      exact x_V X hS dX6_addWearer_60
  rw [hH, hlo] at hgoal
  exact hgoal
theorem mv_X6_addWearer : Mv yX6_addWearer RX6 cX6_addWearer 5 ((none : Option Jvm.ClassFile.FieldType)) 4 := ⟨t3_133, t3_131, t3_132, t1_5, ⟨by decide, by decide⟩, by decide +kernel⟩
/-! SewnYear$Town.hasWearer(I)Z -/
def rm_X6_hasWearer : Room := { frames := 0, cells := 0, slots := 0, locals := 0 }
def f_X6_hasWearer (M : Mem) (o : Nat) (a1 : Int32) : Option (Bool) :=
  if a1 < (nI 0) then (some false) else (if (gI M o 4) ≤ a1 then (some false) else (some true))
set_option maxRecDepth 100000 in
set_option maxHeartbeats 4000000 in
theorem m_X6_hasWearer {l : Launch} {D : va_G} {cy : Nat → ClassId} {ad : Nat → Nat → Nat} {ns : List (Nat × Nat)} {A : Nat → Prop} {M : Mem} (hN : NsC ns) {o : Nat} {a1 : Int32} (ho : Ob ns 6 o) {r : Bool} (hX : f_X6_hasWearer M o a1 = some r) : Ct l yX6_hasWearer cX6_hasWearer 2 ((some .boolean)) rm_X6_hasWearer D cy ad ns A [.ref (ad o 0), .int a1] M M (some (.int (b2i r))) := by
  refine ct_of (lv := [(0, .ref (ad o 0)), (1, .int a1)]) (by decide) (Nat.le_of_ble_eq_true rfl) rfl ?_
  intro p e s m args below meth c ls X hl hS
  obtain ⟨hx, hb, hml, hown, hts, hK, hr, hlk, hA, hG⟩ := id X
  obtain ⟨H, hH⟩ : ∃ z, z = s.heap := ⟨_, rfl⟩
  obtain ⟨locs, hlo⟩ : ∃ z : List Loc, z = [] := ⟨_, rfl⟩
  have hS : St D cy ad ns A M s.heap H locs := by rw [hH, hlo]; exact hS
  have hgoal : W p l e rm_X6_hasWearer s m args below meth c H locs 0 0 (MQ below (QC D cy ad ns A M (some (.int (b2i r)))) args s 0 0 A) (F0 m 0 ls []) := by
    unfold f_X6_hasWearer at hX
    refine lv_iload_n hx hb dX6_hasWearer_0 rfl (lv_at hl 1 rfl) ?_
    refine lv_if_lt (tgt := 16) hx hb dX6_hasWearer_1 (by decide) (fun c1 => ?_) (fun c1 => ?_)
    · have hX := if_t c1 hX
      refine lv_iconst (v := nI 0) hx hb dX6_hasWearer_16 (by decide) ?_
      obtain rfl := some_of hX
      exact x_Z (v := false) X hS dX6_hasWearer_17
    · have hX := if_f c1 hX
      refine lv_iload_n hx hb dX6_hasWearer_4 rfl (lv_at hl 1 rfl) ?_
      refine lv_aload_n hx hb dX6_hasWearer_5 rfl (lv_at hl 0 rfl) ?_
      refine fg_X6_43 X hS ho dX6_hasWearer_6 ?_
      refine lv_icmp_ge (tgt := 16) hx hb dX6_hasWearer_9 (by decide) (fun c2 => ?_) (fun c2 => ?_)
      · have hX := if_t c2 hX
        refine lv_iconst (v := nI 0) hx hb dX6_hasWearer_16 (by decide) ?_
        obtain rfl := some_of hX
        exact x_Z (v := false) X hS dX6_hasWearer_17
      · have hX := if_f c2 hX
        refine lv_iconst (v := nI 1) hx hb dX6_hasWearer_12 (by decide) ?_
        refine lv_goto (tgt := 17) hx hb dX6_hasWearer_13 (by decide) ?_
        obtain rfl := some_of hX
        exact x_Z (v := true) X hS dX6_hasWearer_17
  rw [hH, hlo] at hgoal
  exact hgoal
theorem mv_X6_hasWearer : Mv yX6_hasWearer RX6 cX6_hasWearer 2 ((some .boolean)) 1 := ⟨t4_140, t4_138, t4_139, t1_5, ⟨by decide, by decide⟩, by decide +kernel⟩
/-! SewnYear$Town.tell(I)I -/
def rm_X6_tell : Room := { frames := 1, cells := 0, slots := 0, locals := 21 }
def f_X6_tell (M : Mem) (o : Nat) (a1 : Int32) : Option (Int32) :=
  if a1 = nI 0 then (some (gI M o 4)) else if a1 = nI 1 then (some (gI M o 2)) else if a1 = nI 2 then (some (gI M o 3)) else if a1 = nI 3 then (some (gI M o 0)) else if a1 = nI 4 then (some (gI M o 1)) else (gnz (nI 10) <| nm (a1 - a1 / (nI 10) * (nI 10)) fun v7 => if a1 < (nI 10) then (some (-2)) else (bn (f_X6_hasWearer M o v7) fun r10 => if r10 = true then (gnz (nI 10) <| nm (a1 / (nI 10)) fun v13 => if v13 = nI 1 then (gin v7 6 <| some (gA M o 5 (ix v7))) else if v13 = nI 2 then (gin v7 6 <| some (gA M o 6 (ix v7))) else if v13 = nI 3 then (gin v7 6 <| some (gA M o 7 (ix v7))) else if v13 = nI 4 then (gin v7 6 <| some (gA M o 8 (ix v7))) else if v13 = nI 5 then (gin v7 6 <| some (gA M o 9 (ix v7))) else if v13 = nI 6 then (gin v7 6 <| some (gA M o 10 (ix v7))) else (some (-2))) else (some (-2))))
set_option maxRecDepth 100000 in
set_option maxHeartbeats 4000000 in
theorem m_X6_tell {l : Launch} {D : va_G} {cy : Nat → ClassId} {ad : Nat → Nat → Nat} {ns : List (Nat × Nat)} {A : Nat → Prop} {M : Mem} (hN : NsC ns) {o : Nat} {a1 : Int32} (ho : Ob ns 6 o) {r : Int32} (hX : f_X6_tell M o a1 = some r) : Ct l yX6_tell cX6_tell 3 ((some .int)) rm_X6_tell D cy ad ns A [.ref (ad o 0), .int a1] M M (some (.int r)) := by
  refine ct_of (lv := [(0, .ref (ad o 0)), (1, .int a1)]) (by decide) (Nat.le_of_ble_eq_true rfl) rfl ?_
  intro p e s m args below meth c ls X hl hS
  obtain ⟨hx, hb, hml, hown, hts, hK, hr, hlk, hA, hG⟩ := id X
  obtain ⟨H, hH⟩ : ∃ z, z = s.heap := ⟨_, rfl⟩
  obtain ⟨locs, hlo⟩ : ∃ z : List Loc, z = [] := ⟨_, rfl⟩
  have hS : St D cy ad ns A M s.heap H locs := by rw [hH, hlo]; exact hS
  have hgoal : W p l e rm_X6_tell s m args below meth c H locs 0 0 (MQ below (QC D cy ad ns A M (some (.int r))) args s 0 0 A) (F0 m 0 ls []) := by
    unfold f_X6_tell at hX
    refine lv_iload_n hx hb dX6_tell_0 rfl (lv_at hl 1 rfl) ?_
    by_cases c1 : a1 = nI 0
    · have hX := if_t c1 hX
      refine r_tabIn c1 (off := 35) (tgt := 36) hx hb dX6_tell_1 (by decide) (by decide) (by decide) (by decide) ?_
      refine lv_aload_n hx hb dX6_tell_36 rfl (lv_at hl 0 rfl) ?_
      refine fg_X6_43 X hS ho dX6_tell_37 ?_
      obtain rfl := some_of hX
      exact x_I (v := (gI M o 4)) X hS dX6_tell_40
    have hX := if_f c1 hX
    by_cases c2 : a1 = nI 1
    · have hX := if_t c2 hX
      refine r_tabIn c2 (off := 40) (tgt := 41) hx hb dX6_tell_1 (by decide) (by decide) (by decide) (by decide) ?_
      refine lv_aload_n hx hb dX6_tell_41 rfl (lv_at hl 0 rfl) ?_
      refine fg_X6_9 X hS ho dX6_tell_42 ?_
      obtain rfl := some_of hX
      exact x_I (v := (gI M o 2)) X hS dX6_tell_45
    have hX := if_f c2 hX
    by_cases c3 : a1 = nI 2
    · have hX := if_t c3 hX
      refine r_tabIn c3 (off := 45) (tgt := 46) hx hb dX6_tell_1 (by decide) (by decide) (by decide) (by decide) ?_
      refine lv_aload_n hx hb dX6_tell_46 rfl (lv_at hl 0 rfl) ?_
      refine fg_X6_15 X hS ho dX6_tell_47 ?_
      obtain rfl := some_of hX
      exact x_I (v := (gI M o 3)) X hS dX6_tell_50
    have hX := if_f c3 hX
    by_cases c4 : a1 = nI 3
    · have hX := if_t c4 hX
      refine r_tabIn c4 (off := 50) (tgt := 51) hx hb dX6_tell_1 (by decide) (by decide) (by decide) (by decide) ?_
      refine lv_aload_n hx hb dX6_tell_51 rfl (lv_at hl 0 rfl) ?_
      refine fg_X6_37 X hS ho dX6_tell_52 ?_
      obtain rfl := some_of hX
      exact x_I (v := (gI M o 0)) X hS dX6_tell_55
    have hX := if_f c4 hX
    by_cases c5 : a1 = nI 4
    · have hX := if_t c5 hX
      refine r_tabIn c5 (off := 55) (tgt := 56) hx hb dX6_tell_1 (by decide) (by decide) (by decide) (by decide) ?_
      refine lv_aload_n hx hb dX6_tell_56 rfl (lv_at hl 0 rfl) ?_
      refine fg_X6_40 X hS ho dX6_tell_57 ?_
      obtain rfl := some_of hX
      exact x_I (v := (gI M o 1)) X hS dX6_tell_60
    have hX := if_f c5 hX
    have ic1 : ¬ a1.toInt = 0 := lv_neT c1 rfl
    have ic2 : ¬ a1.toInt = 1 := lv_neT c2 rfl
    have ic3 : ¬ a1.toInt = 2 := lv_neT c3 rfl
    have ic4 : ¬ a1.toInt = 3 := lv_neT c4 rfl
    have ic5 : ¬ a1.toInt = 4 := lv_neT c5 rfl
    refine lv_tableOut (tgt := 61) hx hb dX6_tell_1 (by omega) (by decide) ?_
    refine lv_iload_n hx hb dX6_tell_61 rfl (lv_at hl 1 rfl) ?_
    refine lv_bipush (v := nI 10) hx hb dX6_tell_62 (by decide) ?_
    obtain ⟨g6, hX⟩ := gnz_of hX
    refine lv_irem hx hb dX6_tell_64 g6 ?_
    refine lv_topi (fun v7 ev7 => ?_)
    have hX := nm_of ev7 hX
    refine lv_istore_n (lv' := [(2, .int v7), (0, .ref (ad o 0)), (1, .int a1)]) hx hb dX6_tell_65 rfl hl (by decide) rfl (fun ls hl => ?_)
    refine lv_iload_n hx hb dX6_tell_66 rfl (lv_at hl 2 rfl) ?_
    refine lv_bipush (v := nI 10) hx hb dX6_tell_67 (by decide) ?_
    refine lv_icmp_lt (tgt := 80) hx hb dX6_tell_69 (by decide) (fun c8 => ?_) (fun c8 => ?_)
    · have hX := if_t c8 hX
      refine lv_bipush (v := (-2)) hx hb dX6_tell_80 (by decide) ?_
      obtain rfl := some_of hX
      exact x_I (v := (-2)) X hS dX6_tell_82
    · have hX := if_f c8 hX
      refine lv_aload_n hx hb dX6_tell_72 rfl (lv_at hl 1 rfl) ?_
      refine lv_iload_n hx hb dX6_tell_73 rfl (lv_at hl 0 rfl) ?_
      obtain ⟨r10, h9, hX⟩ := bn_of hX
      refine r_callV1 (v := .int (b2i r10)) (As := [.int v7]) (rest := []) X hS (m_X6_hasWearer hN ho h9) mv_X6_hasWearer rfl ho t4_137 ⟨rfl, rfl, Nat.le_of_ble_eq_true rfl, Nat.le_of_ble_eq_true rfl⟩ rfl hl.1 rfl (Nat.le_of_ble_eq_true rfl) ⟨Nat.zero_le _, Nat.zero_le _⟩ dX6_tell_74 (fun H locs hS => ?_)
      refine lv_if_ne (tgt := 83) hx hb dX6_tell_77 (by decide) (fun c11 => ?_) (fun c11 => ?_)
      · have hX := if_bt c11 hX
        refine lv_iload_n hx hb dX6_tell_83 rfl (lv_at hl 2 rfl) ?_
        refine lv_bipush (v := nI 10) hx hb dX6_tell_84 (by decide) ?_
        obtain ⟨g12, hX⟩ := gnz_of hX
        refine lv_idiv hx hb dX6_tell_86 g12 ?_
        refine lv_topi (fun v13 ev13 => ?_)
        have hX := nm_of ev13 hX
        by_cases c14 : v13 = nI 1
        · have hX := if_t c14 hX
          refine r_tabIn c14 (off := 37) (tgt := 124) hx hb dX6_tell_87 (by decide) (by decide) (by decide) (by decide) ?_
          refine lv_aload_n hx hb dX6_tell_124 rfl (lv_at hl 1 rfl) ?_
          refine fg_X6_18 X hS ho dX6_tell_125 ?_
          refine lv_iload_n hx hb dX6_tell_128 rfl (lv_at hl 0 rfl) ?_
          obtain ⟨g15, hX⟩ := gin_of hX
          refine r_iald (ci := 6) (o := o) (k := 5) (n := 6) X hS ho rfl rfl g15 dX6_tell_129 ?_
          obtain rfl := some_of hX
          exact x_I (v := (gA M o 5 (ix v7))) X hS dX6_tell_130
        have hX := if_f c14 hX
        by_cases c16 : v13 = nI 2
        · have hX := if_t c16 hX
          refine r_tabIn c16 (off := 44) (tgt := 131) hx hb dX6_tell_87 (by decide) (by decide) (by decide) (by decide) ?_
          refine lv_aload_n hx hb dX6_tell_131 rfl (lv_at hl 1 rfl) ?_
          refine fg_X6_22 X hS ho dX6_tell_132 ?_
          refine lv_iload_n hx hb dX6_tell_135 rfl (lv_at hl 0 rfl) ?_
          obtain ⟨g17, hX⟩ := gin_of hX
          refine r_iald (ci := 6) (o := o) (k := 6) (n := 6) X hS ho rfl rfl g17 dX6_tell_136 ?_
          obtain rfl := some_of hX
          exact x_I (v := (gA M o 6 (ix v7))) X hS dX6_tell_137
        have hX := if_f c16 hX
        by_cases c18 : v13 = nI 3
        · have hX := if_t c18 hX
          refine r_tabIn c18 (off := 51) (tgt := 138) hx hb dX6_tell_87 (by decide) (by decide) (by decide) (by decide) ?_
          refine lv_aload_n hx hb dX6_tell_138 rfl (lv_at hl 1 rfl) ?_
          refine fg_X6_25 X hS ho dX6_tell_139 ?_
          refine lv_iload_n hx hb dX6_tell_142 rfl (lv_at hl 0 rfl) ?_
          obtain ⟨g19, hX⟩ := gin_of hX
          refine r_iald (ci := 6) (o := o) (k := 7) (n := 6) X hS ho rfl rfl g19 dX6_tell_143 ?_
          obtain rfl := some_of hX
          exact x_I (v := (gA M o 7 (ix v7))) X hS dX6_tell_144
        have hX := if_f c18 hX
        by_cases c20 : v13 = nI 4
        · have hX := if_t c20 hX
          refine r_tabIn c20 (off := 58) (tgt := 145) hx hb dX6_tell_87 (by decide) (by decide) (by decide) (by decide) ?_
          refine lv_aload_n hx hb dX6_tell_145 rfl (lv_at hl 1 rfl) ?_
          refine fg_X6_28 X hS ho dX6_tell_146 ?_
          refine lv_iload_n hx hb dX6_tell_149 rfl (lv_at hl 0 rfl) ?_
          obtain ⟨g21, hX⟩ := gin_of hX
          refine r_iald (ci := 6) (o := o) (k := 8) (n := 6) X hS ho rfl rfl g21 dX6_tell_150 ?_
          obtain rfl := some_of hX
          exact x_I (v := (gA M o 8 (ix v7))) X hS dX6_tell_151
        have hX := if_f c20 hX
        by_cases c22 : v13 = nI 5
        · have hX := if_t c22 hX
          refine r_tabIn c22 (off := 65) (tgt := 152) hx hb dX6_tell_87 (by decide) (by decide) (by decide) (by decide) ?_
          refine lv_aload_n hx hb dX6_tell_152 rfl (lv_at hl 1 rfl) ?_
          refine fg_X6_31 X hS ho dX6_tell_153 ?_
          refine lv_iload_n hx hb dX6_tell_156 rfl (lv_at hl 0 rfl) ?_
          obtain ⟨g23, hX⟩ := gin_of hX
          refine r_iald (ci := 6) (o := o) (k := 9) (n := 6) X hS ho rfl rfl g23 dX6_tell_157 ?_
          obtain rfl := some_of hX
          exact x_I (v := (gA M o 9 (ix v7))) X hS dX6_tell_158
        have hX := if_f c22 hX
        by_cases c24 : v13 = nI 6
        · have hX := if_t c24 hX
          refine r_tabIn c24 (off := 72) (tgt := 159) hx hb dX6_tell_87 (by decide) (by decide) (by decide) (by decide) ?_
          refine lv_aload_n hx hb dX6_tell_159 rfl (lv_at hl 1 rfl) ?_
          refine fg_X6_34 X hS ho dX6_tell_160 ?_
          refine lv_iload_n hx hb dX6_tell_163 rfl (lv_at hl 0 rfl) ?_
          obtain ⟨g25, hX⟩ := gin_of hX
          refine r_iald (ci := 6) (o := o) (k := 10) (n := 6) X hS ho rfl rfl g25 dX6_tell_164 ?_
          obtain rfl := some_of hX
          exact x_I (v := (gA M o 10 (ix v7))) X hS dX6_tell_165
        have hX := if_f c24 hX
        have ic14 : ¬ v13.toInt = 1 := lv_neT c14 rfl
        have ic16 : ¬ v13.toInt = 2 := lv_neT c16 rfl
        have ic18 : ¬ v13.toInt = 3 := lv_neT c18 rfl
        have ic20 : ¬ v13.toInt = 4 := lv_neT c20 rfl
        have ic22 : ¬ v13.toInt = 5 := lv_neT c22 rfl
        have ic24 : ¬ v13.toInt = 6 := lv_neT c24 rfl
        refine lv_tableOut (tgt := 166) hx hb dX6_tell_87 (by omega) (by decide) ?_
        refine lv_bipush (v := (-2)) hx hb dX6_tell_166 (by decide) ?_
        obtain rfl := some_of hX
        exact x_I (v := (-2)) X hS dX6_tell_168
      · have hX := if_bf c11 hX
        refine lv_bipush (v := (-2)) hx hb dX6_tell_80 (by decide) ?_
        obtain rfl := some_of hX
        exact x_I (v := (-2)) X hS dX6_tell_82
  rw [hH, hlo] at hgoal
  exact hgoal
theorem mv_X6_tell : Mv yX6_tell RX6 cX6_tell 3 ((some .int)) 1 := ⟨t4_136, t4_134, t4_135, t1_5, ⟨by decide, by decide⟩, by decide +kernel⟩
/-! SewnYear$Town.daysTo(III)I -/
def rm_X6_daysTo : Room := { frames := 1, cells := 0, slots := 0, locals := 24 }
def f_X6_daysTo (M : Mem) (o : Nat) (a1 : Int32) (a2 : Int32) (a3 : Int32) : Option (Int32) :=
  bn (f_X6_hasWearer M o a3) fun r2 => if r2 = true then (gin a3 6 <| nm (abI ((gA M o 5 (ix a3)) - a1)) fun v5 => gin a3 6 <| nm (abI ((gA M o 6 (ix a3)) - a2)) fun v7 => bn (f_X9_begun (v5 + v7) (gI M o 3)) fun r9 => some r9) else (some (nI 0))
set_option maxRecDepth 100000 in
set_option maxHeartbeats 4000000 in
theorem m_X6_daysTo {l : Launch} {D : va_G} {cy : Nat → ClassId} {ad : Nat → Nat → Nat} {ns : List (Nat × Nat)} {A : Nat → Prop} {M : Mem} (hN : NsC ns) {o : Nat} {a1 : Int32} {a2 : Int32} {a3 : Int32} (ho : Ob ns 6 o) {r : Int32} (hX : f_X6_daysTo M o a1 a2 a3 = some r) : Ct l yX6_daysTo cX6_daysTo 4 ((some .int)) rm_X6_daysTo D cy ad ns A [.ref (ad o 0), .int a1, .int a2, .int a3] M M (some (.int r)) := by
  refine ct_of (lv := [(0, .ref (ad o 0)), (1, .int a1), (2, .int a2), (3, .int a3)]) (by decide) (Nat.le_of_ble_eq_true rfl) rfl ?_
  intro p e s m args below meth c ls X hl hS
  obtain ⟨hx, hb, hml, hown, hts, hK, hr, hlk, hA, hG⟩ := id X
  obtain ⟨H, hH⟩ : ∃ z, z = s.heap := ⟨_, rfl⟩
  obtain ⟨locs, hlo⟩ : ∃ z : List Loc, z = [] := ⟨_, rfl⟩
  have hS : St D cy ad ns A M s.heap H locs := by rw [hH, hlo]; exact hS
  have hgoal : W p l e rm_X6_daysTo s m args below meth c H locs 0 0 (MQ below (QC D cy ad ns A M (some (.int r))) args s 0 0 A) (F0 m 0 ls []) := by
    unfold f_X6_daysTo at hX
    refine lv_aload_n hx hb dX6_daysTo_0 rfl (lv_at hl 0 rfl) ?_
    refine lv_iload_n hx hb dX6_daysTo_1 rfl (lv_at hl 3 rfl) ?_
    obtain ⟨r2, h1, hX⟩ := bn_of hX
    refine r_callV1 (v := .int (b2i r2)) (As := [.int a3]) (rest := []) X hS (m_X6_hasWearer hN ho h1) mv_X6_hasWearer rfl ho t4_137 ⟨rfl, rfl, Nat.le_of_ble_eq_true rfl, Nat.le_of_ble_eq_true rfl⟩ rfl hl.1 rfl (Nat.le_of_ble_eq_true rfl) ⟨Nat.zero_le _, Nat.zero_le _⟩ dX6_daysTo_2 (fun H locs hS => ?_)
    refine lv_if_eq (tgt := 41) hx hb dX6_daysTo_5 (by decide) (fun c3 => ?_) (fun c3 => ?_)
    · have hX := if_bf c3 hX
      refine lv_iconst (v := nI 0) hx hb dX6_daysTo_41 (by decide) ?_
      obtain rfl := some_of hX
      exact x_I (v := (nI 0)) X hS dX6_daysTo_42
    · have hX := if_bt c3 hX
      refine lv_aload_n hx hb dX6_daysTo_8 rfl (lv_at hl 0 rfl) ?_
      refine fg_X6_18 X hS ho dX6_daysTo_9 ?_
      refine lv_iload_n hx hb dX6_daysTo_12 rfl (lv_at hl 3 rfl) ?_
      obtain ⟨g4, hX⟩ := gin_of hX
      refine r_iald (ci := 6) (o := o) (k := 5) (n := 6) X hS ho rfl rfl g4 dX6_daysTo_13 ?_
      refine lv_iload_n hx hb dX6_daysTo_14 rfl (lv_at hl 1 rfl) ?_
      refine lv_isub hx hb dX6_daysTo_15 ?_
      refine va_mabs hx hb (hml.trans hl.1.symm) (own := RX6) hown (hts _ t4_167) (hts _ jm_abs.1) (hts _ jm_abs.2.1) (hts _ jm_abs.2.2) (Nat.le_of_ble_eq_true rfl) (Nat.le_of_ble_eq_true rfl) (Nat.zero_le _) (Nat.zero_le _) dX6_daysTo_16 ?_
      refine lv_topi (fun v5 ev5 => ?_)
      have hX := nm_of ev5 hX
      refine lv_aload_n hx hb dX6_daysTo_19 rfl (lv_at hl 0 rfl) ?_
      refine fg_X6_22 X hS ho dX6_daysTo_20 ?_
      refine lv_iload_n hx hb dX6_daysTo_23 rfl (lv_at hl 3 rfl) ?_
      obtain ⟨g6, hX⟩ := gin_of hX
      refine r_iald (ci := 6) (o := o) (k := 6) (n := 6) X hS ho rfl rfl g6 dX6_daysTo_24 ?_
      refine lv_iload_n hx hb dX6_daysTo_25 rfl (lv_at hl 2 rfl) ?_
      refine lv_isub hx hb dX6_daysTo_26 ?_
      refine va_mabs hx hb (hml.trans hl.1.symm) (own := RX6) hown (hts _ t4_167) (hts _ jm_abs.1) (hts _ jm_abs.2.1) (hts _ jm_abs.2.2) (Nat.le_of_ble_eq_true rfl) (Nat.le_of_ble_eq_true rfl) (Nat.zero_le _) (Nat.zero_le _) dX6_daysTo_27 ?_
      refine lv_topi (fun v7 ev7 => ?_)
      have hX := nm_of ev7 hX
      refine lv_iadd hx hb dX6_daysTo_30 ?_
      refine lv_aload_n hx hb dX6_daysTo_31 rfl (lv_at hl 0 rfl) ?_
      refine fg_X6_15 X hS ho dX6_daysTo_32 ?_
      obtain ⟨r9, h8, hX⟩ := bn_of hX
      refine r_callN1 (v := .int r9) (As := [.int (v5 + v7), .int (gI M o 3)]) (rest := []) X hS (m_X9_begun (M := M) hN h8) ms_X9_begun (by decide +kernel) ⟨rfl, rfl, Nat.le_of_ble_eq_true rfl, Nat.le_of_ble_eq_true rfl⟩ rfl hl.1 rfl (Nat.le_of_ble_eq_true rfl) ⟨Nat.zero_le _, Nat.zero_le _⟩ dX6_daysTo_35 (fun H locs hS => ?_)
      refine lv_goto (tgt := 42) hx hb dX6_daysTo_38 (by decide) ?_
      obtain rfl := some_of hX
      exact x_I (v := r9) X hS dX6_daysTo_42
  rw [hH, hlo] at hgoal
  exact hgoal
theorem mv_X6_daysTo : Mv yX6_daysTo RX6 cX6_daysTo 4 ((some .int)) 3 := ⟨t4_166, t4_164, t4_165, t1_5, ⟨by decide, by decide⟩, by decide +kernel⟩
/-! SewnYear$Town.daysOfSewing(I)I -/
def rm_X6_daysOfSewing : Room := { frames := 1, cells := 0, slots := 0, locals := 21 }
def f_X6_daysOfSewing (M : Mem) (o : Nat) (a1 : Int32) : Option (Int32) :=
  bn (f_X6_hasWearer M o a1) fun r2 => if r2 = true then (gin a1 6 <| bn (f_X9_begun (gA M o 7 (ix a1)) (gI M o 2)) fun r6 => some r6) else (some (nI 0))
set_option maxRecDepth 100000 in
set_option maxHeartbeats 4000000 in
theorem m_X6_daysOfSewing {l : Launch} {D : va_G} {cy : Nat → ClassId} {ad : Nat → Nat → Nat} {ns : List (Nat × Nat)} {A : Nat → Prop} {M : Mem} (hN : NsC ns) {o : Nat} {a1 : Int32} (ho : Ob ns 6 o) {r : Int32} (hX : f_X6_daysOfSewing M o a1 = some r) : Ct l yX6_daysOfSewing cX6_daysOfSewing 2 ((some .int)) rm_X6_daysOfSewing D cy ad ns A [.ref (ad o 0), .int a1] M M (some (.int r)) := by
  refine ct_of (lv := [(0, .ref (ad o 0)), (1, .int a1)]) (by decide) (Nat.le_of_ble_eq_true rfl) rfl ?_
  intro p e s m args below meth c ls X hl hS
  obtain ⟨hx, hb, hml, hown, hts, hK, hr, hlk, hA, hG⟩ := id X
  obtain ⟨H, hH⟩ : ∃ z, z = s.heap := ⟨_, rfl⟩
  obtain ⟨locs, hlo⟩ : ∃ z : List Loc, z = [] := ⟨_, rfl⟩
  have hS : St D cy ad ns A M s.heap H locs := by rw [hH, hlo]; exact hS
  have hgoal : W p l e rm_X6_daysOfSewing s m args below meth c H locs 0 0 (MQ below (QC D cy ad ns A M (some (.int r))) args s 0 0 A) (F0 m 0 ls []) := by
    unfold f_X6_daysOfSewing at hX
    refine lv_aload_n hx hb dX6_daysOfSewing_0 rfl (lv_at hl 0 rfl) ?_
    refine lv_iload_n hx hb dX6_daysOfSewing_1 rfl (lv_at hl 1 rfl) ?_
    obtain ⟨r2, h1, hX⟩ := bn_of hX
    refine r_callV1 (v := .int (b2i r2)) (As := [.int a1]) (rest := []) X hS (m_X6_hasWearer hN ho h1) mv_X6_hasWearer rfl ho t4_137 ⟨rfl, rfl, Nat.le_of_ble_eq_true rfl, Nat.le_of_ble_eq_true rfl⟩ rfl hl.1 rfl (Nat.le_of_ble_eq_true rfl) ⟨Nat.zero_le _, Nat.zero_le _⟩ dX6_daysOfSewing_2 (fun H locs hS => ?_)
    refine lv_if_eq (tgt := 24) hx hb dX6_daysOfSewing_5 (by decide) (fun c3 => ?_) (fun c3 => ?_)
    · have hX := if_bf c3 hX
      refine lv_iconst (v := nI 0) hx hb dX6_daysOfSewing_24 (by decide) ?_
      obtain rfl := some_of hX
      exact x_I (v := (nI 0)) X hS dX6_daysOfSewing_25
    · have hX := if_bt c3 hX
      refine lv_aload_n hx hb dX6_daysOfSewing_8 rfl (lv_at hl 0 rfl) ?_
      refine fg_X6_25 X hS ho dX6_daysOfSewing_9 ?_
      refine lv_iload_n hx hb dX6_daysOfSewing_12 rfl (lv_at hl 1 rfl) ?_
      obtain ⟨g4, hX⟩ := gin_of hX
      refine r_iald (ci := 6) (o := o) (k := 7) (n := 6) X hS ho rfl rfl g4 dX6_daysOfSewing_13 ?_
      refine lv_aload_n hx hb dX6_daysOfSewing_14 rfl (lv_at hl 0 rfl) ?_
      refine fg_X6_9 X hS ho dX6_daysOfSewing_15 ?_
      obtain ⟨r6, h5, hX⟩ := bn_of hX
      refine r_callN1 (v := .int r6) (As := [.int (gA M o 7 (ix a1)), .int (gI M o 2)]) (rest := []) X hS (m_X9_begun (M := M) hN h5) ms_X9_begun (by decide +kernel) ⟨rfl, rfl, Nat.le_of_ble_eq_true rfl, Nat.le_of_ble_eq_true rfl⟩ rfl hl.1 rfl (Nat.le_of_ble_eq_true rfl) ⟨Nat.zero_le _, Nat.zero_le _⟩ dX6_daysOfSewing_18 (fun H locs hS => ?_)
      refine lv_goto (tgt := 25) hx hb dX6_daysOfSewing_21 (by decide) ?_
      obtain rfl := some_of hX
      exact x_I (v := r6) X hS dX6_daysOfSewing_25
  rw [hH, hlo] at hgoal
  exact hgoal
theorem mv_X6_daysOfSewing : Mv yX6_daysOfSewing RX6 cX6_daysOfSewing 2 ((some .int)) 1 := ⟨t4_152, t4_150, t4_151, t1_5, ⟨by decide, by decide⟩, by decide +kernel⟩
/-! SewnYear$Town.lastDay(II)I -/
def rm_X6_lastDay : Room := { frames := 2, cells := 0, slots := 0, locals := 42 }
def f_X6_lastDay (M : Mem) (o : Nat) (a1 : Int32) (a2 : Int32) : Option (Int32) :=
  bn (f_X6_daysOfSewing M o a1) fun r2 => nm ((a2 + r2) - (nI 1)) fun v3 => bn (f_X6_hasWearer M o a1) fun r5 => if r5 = true then (gin a1 6 <| if (gA M o 9 (ix a1)) = (-1) then (some v3) else (gin a1 6 <| if v3 < (gA M o 9 (ix a1)) then (some v3) else (gin a1 6 <| if a2 ≤ (gA M o 10 (ix a1)) then (gin a1 6 <| bn (f_X6_daysOfSewing M o a1) fun r15 => some ((gA M o 10 (ix a1)) + r15)) else (some v3)))) else (some v3)
set_option maxRecDepth 100000 in
set_option maxHeartbeats 4000000 in
theorem m_X6_lastDay {l : Launch} {D : va_G} {cy : Nat → ClassId} {ad : Nat → Nat → Nat} {ns : List (Nat × Nat)} {A : Nat → Prop} {M : Mem} (hN : NsC ns) {o : Nat} {a1 : Int32} {a2 : Int32} (ho : Ob ns 6 o) {r : Int32} (hX : f_X6_lastDay M o a1 a2 = some r) : Ct l yX6_lastDay cX6_lastDay 4 ((some .int)) rm_X6_lastDay D cy ad ns A [.ref (ad o 0), .int a1, .int a2] M M (some (.int r)) := by
  refine ct_of (lv := [(0, .ref (ad o 0)), (1, .int a1), (2, .int a2)]) (by decide) (Nat.le_of_ble_eq_true rfl) rfl ?_
  intro p e s m args below meth c ls X hl hS
  obtain ⟨hx, hb, hml, hown, hts, hK, hr, hlk, hA, hG⟩ := id X
  obtain ⟨H, hH⟩ : ∃ z, z = s.heap := ⟨_, rfl⟩
  obtain ⟨locs, hlo⟩ : ∃ z : List Loc, z = [] := ⟨_, rfl⟩
  have hS : St D cy ad ns A M s.heap H locs := by rw [hH, hlo]; exact hS
  have hgoal : W p l e rm_X6_lastDay s m args below meth c H locs 0 0 (MQ below (QC D cy ad ns A M (some (.int r))) args s 0 0 A) (F0 m 0 ls []) := by
    unfold f_X6_lastDay at hX
    refine lv_iload_n hx hb dX6_lastDay_0 rfl (lv_at hl 2 rfl) ?_
    refine lv_aload_n hx hb dX6_lastDay_1 rfl (lv_at hl 0 rfl) ?_
    refine lv_iload_n hx hb dX6_lastDay_2 rfl (lv_at hl 1 rfl) ?_
    obtain ⟨r2, h1, hX⟩ := bn_of hX
    refine r_callV1 (v := .int r2) (As := [.int a1]) (rest := [.int a2]) X hS (m_X6_daysOfSewing hN ho h1) mv_X6_daysOfSewing rfl ho t4_174 ⟨rfl, rfl, Nat.le_of_ble_eq_true rfl, Nat.le_of_ble_eq_true rfl⟩ rfl hl.1 rfl (Nat.le_of_ble_eq_true rfl) ⟨Nat.zero_le _, Nat.zero_le _⟩ dX6_lastDay_3 (fun H locs hS => ?_)
    refine lv_iadd hx hb dX6_lastDay_6 ?_
    refine lv_iconst (v := nI 1) hx hb dX6_lastDay_7 (by decide) ?_
    refine lv_isub hx hb dX6_lastDay_8 ?_
    refine lv_topi (fun v3 ev3 => ?_)
    have hX := nm_of ev3 hX
    refine lv_istore_n (lv' := [(3, .int v3), (0, .ref (ad o 0)), (1, .int a1), (2, .int a2)]) hx hb dX6_lastDay_9 rfl hl (by decide) rfl (fun ls hl => ?_)
    refine lv_aload_n hx hb dX6_lastDay_10 rfl (lv_at hl 1 rfl) ?_
    refine lv_iload_n hx hb dX6_lastDay_11 rfl (lv_at hl 2 rfl) ?_
    obtain ⟨r5, h4, hX⟩ := bn_of hX
    refine r_callV1 (v := .int (b2i r5)) (As := [.int a1]) (rest := []) X hS (m_X6_hasWearer hN ho h4) mv_X6_hasWearer rfl ho t4_137 ⟨rfl, rfl, Nat.le_of_ble_eq_true rfl, Nat.le_of_ble_eq_true rfl⟩ rfl hl.1 rfl (Nat.le_of_ble_eq_true rfl) ⟨Nat.zero_le _, Nat.zero_le _⟩ dX6_lastDay_12 (fun H locs hS => ?_)
    refine lv_if_eq (tgt := 48) hx hb dX6_lastDay_15 (by decide) (fun c6 => ?_) (fun c6 => ?_)
    · have hX := if_bf c6 hX
      refine lv_iload_n hx hb dX6_lastDay_48 rfl (lv_at hl 0 rfl) ?_
      obtain rfl := some_of hX
      exact x_I (v := v3) X hS dX6_lastDay_49
    · have hX := if_bt c6 hX
      refine lv_aload_n hx hb dX6_lastDay_18 rfl (lv_at hl 1 rfl) ?_
      refine fg_X6_31 X hS ho dX6_lastDay_19 ?_
      refine lv_iload_n hx hb dX6_lastDay_22 rfl (lv_at hl 2 rfl) ?_
      obtain ⟨g7, hX⟩ := gin_of hX
      refine r_iald (ci := 6) (o := o) (k := 9) (n := 6) X hS ho rfl rfl g7 dX6_lastDay_23 ?_
      refine lv_iconst (v := (-1)) hx hb dX6_lastDay_24 (by decide) ?_
      refine lv_icmp_eq (tgt := 48) hx hb dX6_lastDay_25 (by decide) (fun c8 => ?_) (fun c8 => ?_)
      · have hX := if_t c8 hX
        refine lv_iload_n hx hb dX6_lastDay_48 rfl (lv_at hl 0 rfl) ?_
        obtain rfl := some_of hX
        exact x_I (v := v3) X hS dX6_lastDay_49
      · have hX := if_f c8 hX
        refine lv_iload_n hx hb dX6_lastDay_28 rfl (lv_at hl 0 rfl) ?_
        refine lv_aload_n hx hb dX6_lastDay_29 rfl (lv_at hl 1 rfl) ?_
        refine fg_X6_31 X hS ho dX6_lastDay_30 ?_
        refine lv_iload_n hx hb dX6_lastDay_33 rfl (lv_at hl 2 rfl) ?_
        obtain ⟨g9, hX⟩ := gin_of hX
        refine r_iald (ci := 6) (o := o) (k := 9) (n := 6) X hS ho rfl rfl g9 dX6_lastDay_34 ?_
        refine lv_icmp_lt (tgt := 48) hx hb dX6_lastDay_35 (by decide) (fun c10 => ?_) (fun c10 => ?_)
        · have hX := if_t c10 hX
          refine lv_iload_n hx hb dX6_lastDay_48 rfl (lv_at hl 0 rfl) ?_
          obtain rfl := some_of hX
          exact x_I (v := v3) X hS dX6_lastDay_49
        · have hX := if_f c10 hX
          refine lv_iload_n hx hb dX6_lastDay_38 rfl (lv_at hl 3 rfl) ?_
          refine lv_aload_n hx hb dX6_lastDay_39 rfl (lv_at hl 1 rfl) ?_
          refine fg_X6_34 X hS ho dX6_lastDay_40 ?_
          refine lv_iload_n hx hb dX6_lastDay_43 rfl (lv_at hl 2 rfl) ?_
          obtain ⟨g11, hX⟩ := gin_of hX
          refine r_iald (ci := 6) (o := o) (k := 10) (n := 6) X hS ho rfl rfl g11 dX6_lastDay_44 ?_
          refine lv_icmp_le (tgt := 50) hx hb dX6_lastDay_45 (by decide) (fun c12 => ?_) (fun c12 => ?_)
          · have hX := if_t c12 hX
            refine lv_aload_n hx hb dX6_lastDay_50 rfl (lv_at hl 1 rfl) ?_
            refine fg_X6_34 X hS ho dX6_lastDay_51 ?_
            refine lv_iload_n hx hb dX6_lastDay_54 rfl (lv_at hl 2 rfl) ?_
            obtain ⟨g13, hX⟩ := gin_of hX
            refine r_iald (ci := 6) (o := o) (k := 10) (n := 6) X hS ho rfl rfl g13 dX6_lastDay_55 ?_
            refine lv_aload_n hx hb dX6_lastDay_56 rfl (lv_at hl 1 rfl) ?_
            refine lv_iload_n hx hb dX6_lastDay_57 rfl (lv_at hl 2 rfl) ?_
            obtain ⟨r15, h14, hX⟩ := bn_of hX
            refine r_callV1 (v := .int r15) (As := [.int a1]) (rest := [.int (gA M o 10 (ix a1))]) X hS (m_X6_daysOfSewing hN ho h14) mv_X6_daysOfSewing rfl ho t4_174 ⟨rfl, rfl, Nat.le_of_ble_eq_true rfl, Nat.le_of_ble_eq_true rfl⟩ rfl hl.1 rfl (Nat.le_of_ble_eq_true rfl) ⟨Nat.zero_le _, Nat.zero_le _⟩ dX6_lastDay_58 (fun H locs hS => ?_)
            refine lv_iadd hx hb dX6_lastDay_61 ?_
            obtain rfl := some_of hX
            exact x_I (v := ((gA M o 10 (ix a1)) + r15)) X hS dX6_lastDay_62
          · have hX := if_f c12 hX
            refine lv_iload_n hx hb dX6_lastDay_48 rfl (lv_at hl 0 rfl) ?_
            obtain rfl := some_of hX
            exact x_I (v := v3) X hS dX6_lastDay_49
  rw [hH, hlo] at hgoal
  exact hgoal
theorem mv_X6_lastDay : Mv yX6_lastDay RX6 cX6_lastDay 4 ((some .int)) 2 := ⟨t4_173, t4_171, t4_172, t1_5, ⟨by decide, by decide⟩, by decide +kernel⟩
end MT_14_X6
