section FR_20_X3
variable {p : Program} {l : Launch} {e : Env} {R : Room} {s : State} {m : MethodId} {args : Array Value} {below : List Frame} {meth : Method} {c : Code} {H : Heap} {locs : List Loc} {cells slots : Nat} {Q : State → Prop} {D : va_G} {cy : Nat → ClassId} {ad : Nat → Nat → Nat} {ns : List (Nat × Nat)} {A : Nat → Prop} {M M' : Mem} {cc : ByteArray} {nL : Nat} {ret : Option FieldType} {pc : Nat} {ls : Array Slot} {rest : List Value}
theorem fg_X3_12 (X : Cx p s m args meth c D cy ad A RX3 cc nL ret) (hS : St D cy ad ns A M s.heap H locs) (ho : Ob ns 3 17) (hdg : decode cc pc = .ok (.getfield 12, 3)) (kk : W p l e R s m args below meth c H locs cells slots Q (F0 m (pc + 3) ls (.ref (ad (gR M 17 0) 0) :: rest))) : W p l e R s m args below meth c H locs cells slots Q (F0 m pc ls (.ref (ad 17 0) :: rest)) := r_get X hS (C := RX3) (T := TX3) (N := 10) (k := 0) tf3 rfl rfl ho (by decide) t2_94 ⟨rfl, rfl, rfl⟩ rfl hdg kk
theorem fp_X3_12 (X : Cx p s m args meth c D cy ad A RX3 cc nL ret) (hS : St D cy ad ns A M s.heap H locs) (ho : Ob ns 3 17) (hN : NsC ns) {u : Nat} (hu : Ob ns 0 u) (hdg : decode cc pc = .ok (.putfield 12, 3)) (kk : ∀ (H1 : Heap) (locs1 : List Loc), St D cy ad ns A (sR M 17 0 u) s.heap H1 locs1 → W p l e R s m args below meth c H1 locs1 cells slots Q (F0 m (pc + 3) ls rest)) : W p l e R s m args below meth c H locs cells slots Q (F0 m pc ls (.ref (ad u 0) :: .ref (ad 17 0) :: rest)) := r_put X hS (C := RX3) (T := TX3) (N := 10) (k := 0) tf3 rfl rfl tyX3 tyX3_ok nmX3 ho (by decide) t2_94 ⟨rfl, rfl, rfl⟩ rfl (ty := (.object "SewnYear$Coat")) (by decide +kernel) rfl rfl (wr_sR17 hN hS.1.2.2 hu) (cel_sR (by decide) rfl) (fun q hq => cel_sR' hq) hdg kk
theorem fg_X3_18 (X : Cx p s m args meth c D cy ad A RX3 cc nL ret) (hS : St D cy ad ns A M s.heap H locs) (ho : Ob ns 3 17) (hdg : decode cc pc = .ok (.getfield 18, 3)) (kk : W p l e R s m args below meth c H locs cells slots Q (F0 m (pc + 3) ls (.ref (ad 17 (2 + 1)) :: rest))) : W p l e R s m args below meth c H locs cells slots Q (F0 m pc ls (.ref (ad 17 0) :: rest)) := r_get X hS (C := RX3) (T := TX3) (N := 10) (k := 2) tf3 rfl rfl ho (by decide) t2_96 ⟨rfl, rfl, rfl⟩ rfl hdg kk
theorem fg_X3_22 (X : Cx p s m args meth c D cy ad A RX3 cc nL ret) (hS : St D cy ad ns A M s.heap H locs) (ho : Ob ns 3 17) (hdg : decode cc pc = .ok (.getfield 22, 3)) (kk : W p l e R s m args below meth c H locs cells slots Q (F0 m (pc + 3) ls (.ref (ad 17 (3 + 1)) :: rest))) : W p l e R s m args below meth c H locs cells slots Q (F0 m pc ls (.ref (ad 17 0) :: rest)) := r_get X hS (C := RX3) (T := TX3) (N := 10) (k := 3) tf3 rfl rfl ho (by decide) t2_97 ⟨rfl, rfl, rfl⟩ rfl hdg kk
theorem fg_X3_25 (X : Cx p s m args meth c D cy ad A RX3 cc nL ret) (hS : St D cy ad ns A M s.heap H locs) (ho : Ob ns 3 17) (hdg : decode cc pc = .ok (.getfield 25, 3)) (kk : W p l e R s m args below meth c H locs cells slots Q (F0 m (pc + 3) ls (.ref (ad 17 (4 + 1)) :: rest))) : W p l e R s m args below meth c H locs cells slots Q (F0 m pc ls (.ref (ad 17 0) :: rest)) := r_get X hS (C := RX3) (T := TX3) (N := 10) (k := 4) tf3 rfl rfl ho (by decide) t2_98 ⟨rfl, rfl, rfl⟩ rfl hdg kk
theorem fg_X3_28 (X : Cx p s m args meth c D cy ad A RX3 cc nL ret) (hS : St D cy ad ns A M s.heap H locs) (ho : Ob ns 3 17) (hdg : decode cc pc = .ok (.getfield 28, 3)) (kk : W p l e R s m args below meth c H locs cells slots Q (F0 m (pc + 3) ls (.ref (ad 17 (5 + 1)) :: rest))) : W p l e R s m args below meth c H locs cells slots Q (F0 m pc ls (.ref (ad 17 0) :: rest)) := r_get X hS (C := RX3) (T := TX3) (N := 10) (k := 5) tf3 rfl rfl ho (by decide) t2_100 ⟨rfl, rfl, rfl⟩ rfl hdg kk
theorem fg_X3_31 (X : Cx p s m args meth c D cy ad A RX3 cc nL ret) (hS : St D cy ad ns A M s.heap H locs) (ho : Ob ns 3 17) (hdg : decode cc pc = .ok (.getfield 31, 3)) (kk : W p l e R s m args below meth c H locs cells slots Q (F0 m (pc + 3) ls (.ref (ad 17 (6 + 1)) :: rest))) : W p l e R s m args below meth c H locs cells slots Q (F0 m pc ls (.ref (ad 17 0) :: rest)) := r_get X hS (C := RX3) (T := TX3) (N := 10) (k := 6) tf3 rfl rfl ho (by decide) t2_101 ⟨rfl, rfl, rfl⟩ rfl hdg kk
theorem fg_X3_34 (X : Cx p s m args meth c D cy ad A RX3 cc nL ret) (hS : St D cy ad ns A M s.heap H locs) (ho : Ob ns 3 17) (hdg : decode cc pc = .ok (.getfield 34, 3)) (kk : W p l e R s m args below meth c H locs cells slots Q (F0 m (pc + 3) ls (.ref (ad 17 (7 + 1)) :: rest))) : W p l e R s m args below meth c H locs cells slots Q (F0 m pc ls (.ref (ad 17 0) :: rest)) := r_get X hS (C := RX3) (T := TX3) (N := 10) (k := 7) tf3 rfl rfl ho (by decide) t2_102 ⟨rfl, rfl, rfl⟩ rfl hdg kk
theorem fg_X3_37 (X : Cx p s m args meth c D cy ad A RX3 cc nL ret) (hS : St D cy ad ns A M s.heap H locs) (ho : Ob ns 3 17) (hdg : decode cc pc = .ok (.getfield 37, 3)) (kk : W p l e R s m args below meth c H locs cells slots Q (F0 m (pc + 3) ls (.ref (ad 17 (8 + 1)) :: rest))) : W p l e R s m args below meth c H locs cells slots Q (F0 m pc ls (.ref (ad 17 0) :: rest)) := r_get X hS (C := RX3) (T := TX3) (N := 10) (k := 8) tf3 rfl rfl ho (by decide) t2_103 ⟨rfl, rfl, rfl⟩ rfl hdg kk
theorem fg_X3_40 (X : Cx p s m args meth c D cy ad A RX3 cc nL ret) (hS : St D cy ad ns A M s.heap H locs) (ho : Ob ns 3 17) (hdg : decode cc pc = .ok (.getfield 40, 3)) (kk : W p l e R s m args below meth c H locs cells slots Q (F0 m (pc + 3) ls (.ref (ad 17 (9 + 1)) :: rest))) : W p l e R s m args below meth c H locs cells slots Q (F0 m pc ls (.ref (ad 17 0) :: rest)) := r_get X hS (C := RX3) (T := TX3) (N := 10) (k := 9) tf3 rfl rfl ho (by decide) t2_104 ⟨rfl, rfl, rfl⟩ rfl hdg kk
theorem fg_X3_43 (X : Cx p s m args meth c D cy ad A RX3 cc nL ret) (hS : St D cy ad ns A M s.heap H locs) {o : Nat} (ho : Ob ns 0 o) (hdg : decode cc pc = .ok (.getfield 43, 3)) (kk : W p l e R s m args below meth c H locs cells slots Q (F0 m (pc + 3) ls (.int (gI M o 0) :: rest))) : W p l e R s m args below meth c H locs cells slots Q (F0 m pc ls (.ref (ad o 0) :: rest)) := r_get X hS (C := RX0) (T := TX0) (N := 7) (k := 0) tf0 rfl rfl ho (by decide) t1_42 ⟨rfl, rfl, rfl⟩ (by unfold fv; rw [ho.1]; rfl) hdg kk
theorem fg_X3_47 (X : Cx p s m args meth c D cy ad A RX3 cc nL ret) (hS : St D cy ad ns A M s.heap H locs) (ho : Ob ns 3 17) (hdg : decode cc pc = .ok (.getfield 47, 3)) (kk : W p l e R s m args below meth c H locs cells slots Q (F0 m (pc + 3) ls (.int (gI M 17 1) :: rest))) : W p l e R s m args below meth c H locs cells slots Q (F0 m pc ls (.ref (ad 17 0) :: rest)) := r_get X hS (C := RX3) (T := TX3) (N := 10) (k := 1) tf3 rfl rfl ho (by decide) t2_95 ⟨rfl, rfl, rfl⟩ rfl hdg kk
theorem fp_X3_47 (X : Cx p s m args meth c D cy ad A RX3 cc nL ret) (hS : St D cy ad ns A M s.heap H locs) (ho : Ob ns 3 17) {v : Int32} (hdg : decode cc pc = .ok (.putfield 47, 3)) (kk : ∀ (H1 : Heap) (locs1 : List Loc), St D cy ad ns A (sI M 17 1 v) s.heap H1 locs1 → W p l e R s m args below meth c H1 locs1 cells slots Q (F0 m (pc + 3) ls rest)) : W p l e R s m args below meth c H locs cells slots Q (F0 m pc ls (.int v :: .ref (ad 17 0) :: rest)) := r_put X hS (C := RX3) (T := TX3) (N := 10) (k := 1) tf3 rfl rfl tyX3 tyX3_ok nmX3 ho (by decide) t2_95 ⟨rfl, rfl, rfl⟩ rfl (ty := .int) (by decide +kernel) rfl rfl (wr_sI hS.1.2.2) (cel_sI (by decide) rfl) (fun q hq => cel_sI' hq) hdg kk
theorem fg_X3_48 (X : Cx p s m args meth c D cy ad A RX3 cc nL ret) (hS : St D cy ad ns A M s.heap H locs) {o : Nat} (ho : Ob ns 0 o) (hdg : decode cc pc = .ok (.getfield 48, 3)) (kk : W p l e R s m args below meth c H locs cells slots Q (F0 m (pc + 3) ls (.ref (ad o (5 + 1)) :: rest))) : W p l e R s m args below meth c H locs cells slots Q (F0 m pc ls (.ref (ad o 0) :: rest)) := r_get X hS (C := RX0) (T := TX0) (N := 7) (k := 5) tf0 rfl rfl ho (by decide) t1_60 ⟨rfl, rfl, rfl⟩ (by unfold fv; rw [ho.1]; rfl) hdg kk
theorem fg_X3_63 (X : Cx p s m args meth c D cy ad A RX3 cc nL ret) (hS : St D cy ad ns A M s.heap H locs) {o : Nat} (ho : Ob ns 4 o) (hdg : decode cc pc = .ok (.getfield 63, 3)) (kk : W p l e R s m args below meth c H locs cells slots Q (F0 m (pc + 3) ls (.int (gI M o 0) :: rest))) : W p l e R s m args below meth c H locs cells slots Q (F0 m pc ls (.ref (ad o 0) :: rest)) := r_get X hS (C := RX4) (T := TX4) (N := 4) (k := 0) tf4 rfl rfl ho (by decide) t1_173 ⟨rfl, rfl, rfl⟩ (by unfold fv; rw [ho.1]; rfl) hdg kk
theorem fg_X3_68 (X : Cx p s m args meth c D cy ad A RX3 cc nL ret) (hS : St D cy ad ns A M s.heap H locs) {o : Nat} (ho : Ob ns 4 o) (hdg : decode cc pc = .ok (.getfield 68, 3)) (kk : W p l e R s m args below meth c H locs cells slots Q (F0 m (pc + 3) ls (.ref (ad o (2 + 1)) :: rest))) : W p l e R s m args below meth c H locs cells slots Q (F0 m pc ls (.ref (ad o 0) :: rest)) := r_get X hS (C := RX4) (T := TX4) (N := 4) (k := 2) tf4 rfl rfl ho (by decide) t1_177 ⟨rfl, rfl, rfl⟩ (by unfold fv; rw [ho.1]; rfl) hdg kk
theorem fg_X3_71 (X : Cx p s m args meth c D cy ad A RX3 cc nL ret) (hS : St D cy ad ns A M s.heap H locs) {o : Nat} (ho : Ob ns 4 o) (hdg : decode cc pc = .ok (.getfield 71, 3)) (kk : W p l e R s m args below meth c H locs cells slots Q (F0 m (pc + 3) ls (.ref (ad o (3 + 1)) :: rest))) : W p l e R s m args below meth c H locs cells slots Q (F0 m pc ls (.ref (ad o 0) :: rest)) := r_get X hS (C := RX4) (T := TX4) (N := 4) (k := 3) tf4 rfl rfl ho (by decide) t1_179 ⟨rfl, rfl, rfl⟩ (by unfold fv; rw [ho.1]; rfl) hdg kk
theorem fg_X3_74 (X : Cx p s m args meth c D cy ad A RX3 cc nL ret) (hS : St D cy ad ns A M s.heap H locs) {o : Nat} (ho : Ob ns 4 o) (hdg : decode cc pc = .ok (.getfield 74, 3)) (kk : W p l e R s m args below meth c H locs cells slots Q (F0 m (pc + 3) ls (.ref (ad o (1 + 1)) :: rest))) : W p l e R s m args below meth c H locs cells slots Q (F0 m pc ls (.ref (ad o 0) :: rest)) := r_get X hS (C := RX4) (T := TX4) (N := 4) (k := 1) tf4 rfl rfl ho (by decide) t1_175 ⟨rfl, rfl, rfl⟩ (by unfold fv; rw [ho.1]; rfl) hdg kk
theorem fg_X3_114 (X : Cx p s m args meth c D cy ad A RX3 cc nL ret) (hS : St D cy ad ns A M s.heap H locs) {o : Nat} (ho : Ob ns 0 o) (hdg : decode cc pc = .ok (.getfield 114, 3)) (kk : W p l e R s m args below meth c H locs cells slots Q (F0 m (pc + 3) ls (.ref (ad o (6 + 1)) :: rest))) : W p l e R s m args below meth c H locs cells slots Q (F0 m pc ls (.ref (ad o 0) :: rest)) := r_get X hS (C := RX0) (T := TX0) (N := 7) (k := 6) tf0 rfl rfl ho (by decide) t1_66 ⟨rfl, rfl, rfl⟩ (by unfold fv; rw [ho.1]; rfl) hdg kk
theorem fg_X3_120 (X : Cx p s m args meth c D cy ad A RX3 cc nL ret) (hS : St D cy ad ns A M s.heap H locs) {o : Nat} (ho : Ob ns 0 o) (hdg : decode cc pc = .ok (.getfield 120, 3)) (kk : W p l e R s m args below meth c H locs cells slots Q (F0 m (pc + 3) ls (.int (gI M o 1) :: rest))) : W p l e R s m args below meth c H locs cells slots Q (F0 m pc ls (.ref (ad o 0) :: rest)) := r_get X hS (C := RX0) (T := TX0) (N := 7) (k := 1) tf0 rfl rfl ho (by decide) t1_49 ⟨rfl, rfl, rfl⟩ (by unfold fv; rw [ho.1]; rfl) hdg kk
theorem fg_X3_126 (X : Cx p s m args meth c D cy ad A RX3 cc nL ret) (hS : St D cy ad ns A M s.heap H locs) {o : Nat} (ho : Ob ns 0 o) (hdg : decode cc pc = .ok (.getfield 126, 3)) (kk : W p l e R s m args below meth c H locs cells slots Q (F0 m (pc + 3) ls (.ref (ad o (4 + 1)) :: rest))) : W p l e R s m args below meth c H locs cells slots Q (F0 m pc ls (.ref (ad o 0) :: rest)) := r_get X hS (C := RX0) (T := TX0) (N := 7) (k := 4) tf0 rfl rfl ho (by decide) t1_58 ⟨rfl, rfl, rfl⟩ (by unfold fv; rw [ho.1]; rfl) hdg kk
theorem fg_X3_137 (X : Cx p s m args meth c D cy ad A RX3 cc nL ret) (hS : St D cy ad ns A M s.heap H locs) {o : Nat} (ho : Ob ns 0 o) (hdg : decode cc pc = .ok (.getfield 137, 3)) (kk : W p l e R s m args below meth c H locs cells slots Q (F0 m (pc + 3) ls (.ref (ad o (3 + 1)) :: rest))) : W p l e R s m args below meth c H locs cells slots Q (F0 m pc ls (.ref (ad o 0) :: rest)) := r_get X hS (C := RX0) (T := TX0) (N := 7) (k := 3) tf0 rfl rfl ho (by decide) t1_55 ⟨rfl, rfl, rfl⟩ (by unfold fv; rw [ho.1]; rfl) hdg kk
theorem fg_X3_140 (X : Cx p s m args meth c D cy ad A RX3 cc nL ret) (hS : St D cy ad ns A M s.heap H locs) {o : Nat} (ho : Ob ns 0 o) (hdg : decode cc pc = .ok (.getfield 140, 3)) (kk : W p l e R s m args below meth c H locs cells slots Q (F0 m (pc + 3) ls (.ref (ad o (2 + 1)) :: rest))) : W p l e R s m args below meth c H locs cells slots Q (F0 m pc ls (.ref (ad o 0) :: rest)) := r_get X hS (C := RX0) (T := TX0) (N := 7) (k := 2) tf0 rfl rfl ho (by decide) t1_53 ⟨rfl, rfl, rfl⟩ (by unfold fv; rw [ho.1]; rfl) hdg kk
end FR_20_X3
section MT_20_X3
variable {p : Program} {l : Launch} {e : Env} {s : State} {m : MethodId} {args : Array Value} {below : List Frame} {meth : Method} {c : Code} {D : va_G} {cy : Nat → ClassId} {ad : Nat → Nat → Nat} {ns : List (Nat × Nat)} {A : Nat → Prop}
/-! SewnYear$Sewing.take(LSewnYear$Coat;)V -/
def rm_X3_take : Room := { frames := 1, cells := 0, slots := 0, locals := 60 }
def f_X3_take (M : Mem) (a1 : Nat) : Option (Mem) :=
  nm (sR M 17 0 a1) fun M1 => nm (sI M1 17 1 (gI M1 a1 0)) fun M2 => nm (cpA M2 a1 5 17 2 9) fun M3 => nm (flA M3 17 3 9 (nI 511)) fun M4 => some M4
set_option maxRecDepth 100000 in
set_option maxHeartbeats 4000000 in
theorem m_X3_take {l : Launch} {D : va_G} {cy : Nat → ClassId} {ad : Nat → Nat → Nat} {ns : List (Nat × Nat)} {A : Nat → Prop} {M : Mem} (hN : NsC ns) {a1 : Nat} (ha1 : Ob ns 0 a1) {r : Mem} (hX : f_X3_take M a1 = some r) : Ct l yX3_take cX3_take 2 ((none : Option Jvm.ClassFile.FieldType)) rm_X3_take D cy ad ns A [.ref (ad 17 0), .ref (ad a1 0)] M r none := by
  refine ct_of (lv := [(0, .ref (ad 17 0)), (1, .ref (ad a1 0))]) (by decide) (Nat.le_of_ble_eq_true rfl) rfl ?_
  intro p e s m args below meth c ls X hl hS
  obtain ⟨hx, hb, hml, hown, hts, hK, hr, hlk, hA, hG⟩ := id X
  obtain ⟨H, hH⟩ : ∃ z, z = s.heap := ⟨_, rfl⟩
  obtain ⟨locs, hlo⟩ : ∃ z : List Loc, z = [] := ⟨_, rfl⟩
  have hS : St D cy ad ns A M s.heap H locs := by rw [hH, hlo]; exact hS
  have hgoal : W p l e rm_X3_take s m args below meth c H locs 0 0 (MQ below (QC D cy ad ns A r none) args s 0 0 A) (F0 m 0 ls []) := by
    unfold f_X3_take at hX
    refine lv_aload_n hx hb dX3_take_0 rfl (lv_at hl 0 rfl) ?_
    refine lv_aload_n hx hb dX3_take_1 rfl (lv_at hl 1 rfl) ?_
    refine fp_X3_12 X hS (o_of hN (o := 17) (c := 3) (by decide) rfl) hN ha1 dX3_take_2 (fun H locs hS => ?_)
    obtain ⟨M1, eM1, hS, hX⟩ := nm_mem hS hX
    refine lv_aload_n hx hb dX3_take_5 rfl (lv_at hl 0 rfl) ?_
    refine lv_aload_n hx hb dX3_take_6 rfl (lv_at hl 1 rfl) ?_
    refine fg_X3_43 X hS ha1 dX3_take_7 ?_
    refine fp_X3_47 X hS (o_of hN (o := 17) (c := 3) (by decide) rfl) dX3_take_10 (fun H locs hS => ?_)
    obtain ⟨M2, eM2, hS, hX⟩ := nm_mem hS hX
    refine lv_aload_n hx hb dX3_take_13 rfl (lv_at hl 1 rfl) ?_
    refine fg_X3_48 X hS ha1 dX3_take_14 ?_
    refine lv_iconst (v := nI 0) hx hb dX3_take_17 (by decide) ?_
    refine lv_aload_n hx hb dX3_take_18 rfl (lv_at hl 0 rfl) ?_
    refine fg_X3_18 X hS (o_of hN (o := 17) (c := 3) (by decide) rfl) dX3_take_19 ?_
    refine lv_iconst (v := nI 0) hx hb dX3_take_22 (by decide) ?_
    refine lv_bipush (v := nI 9) hx hb dX3_take_23 (by decide) ?_
    refine r_copy (c0 := 0) (c1 := 3) (o := a1) (k := 5) (o' := 17) (k' := 2) (n := 9) X hS ha1 (o_of hN (o := 17) (c := 3) (by decide) rfl) rfl rfl (by decide) (by decide) (by decide) (by decide) hl.1 t4_35 t3_152 t3_151 t1_18 (Nat.le_of_ble_eq_true rfl) (Nat.le_of_ble_eq_true rfl) dX3_take_25 (fun H locs hS => ?_)
    obtain ⟨M3, eM3, hS, hX⟩ := nm_mem hS hX
    refine lv_aload_n hx hb dX3_take_28 rfl (lv_at hl 0 rfl) ?_
    refine fg_X3_22 X hS (o_of hN (o := 17) (c := 3) (by decide) rfl) dX3_take_29 ?_
    refine lv_sipush (v := nI 511) hx hb dX3_take_32 (by decide) ?_
    refine r_callS0 (As := [.ref (ad 17 (3 + 1)), .int (nI 511)]) (rest := []) X hS (m_fill (o_of hN (o := 17) (c := 3) (by decide) rfl) (k := 3) rfl rfl (by decide)) ms_fill t4_36 ⟨rfl, rfl, Nat.le_of_ble_eq_true rfl, Nat.le_of_ble_eq_true rfl⟩ rfl hl.1 rfl (Nat.le_of_ble_eq_true rfl) ⟨Nat.zero_le _, Nat.zero_le _⟩ dX3_take_35 (fun H locs hS => ?_)
    obtain ⟨M4, eM4, hS, hX⟩ := nm_mem hS hX
    obtain rfl := some_of hX
    exact x_V X hS dX3_take_38
  rw [hH, hlo] at hgoal
  exact hgoal
theorem mv_X3_take : Mv yX3_take RX3 cX3_take 2 ((none : Option Jvm.ClassFile.FieldType)) 1 := ⟨t4_34, t4_32, t4_33, t1_9, ⟨by decide, by decide⟩, by decide +kernel⟩
/-! SewnYear$Sewing.see(LSewnYear$Sight;)V -/
def rm_X3_see : Room := { frames := 0, cells := 0, slots := 0, locals := 0 }
def f_X3_see_131 (a1 : Nat) (k_2 : Int32 → Mem → Option (Mem)) (v_2 : Int32) (M : Mem) : Option (Mem) :=
  nm (v_2 + nI 1) fun v1 => k_2 v1 M
def b_X3_see_2 (a1 : Nat) (rc : Int32 → Mem → Option (Mem)) (v_2 : Int32) (M : Mem) : Option (Mem) :=
  if (gI M a1 0) ≤ v_2 then (some M) else (gin v_2 10 <| nm (gA M a1 2 (ix v_2)) fun v4 => gin v_2 10 <| nm (gA M a1 3 (ix v_2)) fun v6 => if v4 < (nI 0) then (f_X3_see_131 a1 rc v_2 M) else (if (nI 9) ≤ v4 then (f_X3_see_131 a1 rc v_2 M) else (if v6 < (nI 0) then (f_X3_see_131 a1 rc v_2 M) else (if v6 < (nI 9) then (gin v_2 10 <| nm (gA M a1 1 (ix v_2)) fun v12 => if v12 = nI 0 then (gin v6 9 <| gin v6 9 <| nm (sA M 17 2 (ix v6) ((gA M 17 2 (ix v6)) ||| ((nI 1) <<< (v4 &&& 31)))) fun M16 => f_X3_see_131 a1 rc v_2 M16) else if v12 = nI 1 then (gin v4 9 <| gin v4 9 <| nm (sA M 17 3 (ix v4) ((gA M 17 3 (ix v4)) &&& ((nI 1) <<< (v6 &&& 31)))) fun M20 => f_X3_see_131 a1 rc v_2 M20) else (gin v4 9 <| gin v4 9 <| nm (sA M 17 3 (ix v4) ((gA M 17 3 (ix v4)) &&& (((nI 1) <<< (v6 &&& 31)) ^^^ (-1)))) fun M23 => f_X3_see_131 a1 rc v_2 M23)) else (f_X3_see_131 a1 rc v_2 M)))))
def f_X3_see_2 (a1 : Nat) : Nat → (Int32 × Mem) → Option (Mem) := lp (fun rc q => b_X3_see_2 a1 (fun x0 x1 => rc (x0, x1)) q.1 q.2)
def f_X3_see (M : Mem) (a1 : Nat) : Option (Mem) :=
  f_X3_see_2 a1 FU ((nI 0), M)
set_option maxRecDepth 100000 in
set_option maxHeartbeats 4000000 in
theorem n_X3_see_131 {a1 : Nat} (X : Cx p s m args meth c D cy ad A RX3 cX3_see 5 ((none : Option Jvm.ClassFile.FieldType))) (hN : NsC ns) (ha1 : Ob ns 4 a1) {k_2 : Int32 → Mem → Option (Mem)} {v_2 : Int32} {M : Mem} {r : Mem} (hX : f_X3_see_131 a1 k_2 v_2 M = some r) : (∀ (v_2 : Int32) (M : Mem) (r : Mem), k_2 v_2 M = some r → ∀ (ls : Array Slot) (H : Heap) (locs : List Loc), lv_has ls 5 [(0, .ref (ad 17 0)), (1, .ref (ad a1 0)), (2, .int v_2)] → St D cy ad ns A M s.heap H locs → W p l e rm_X3_see s m args below meth c H locs 0 0 (MQ below (QC D cy ad ns A r none) args s 0 0 A) (F0 m 2 ls [])) → ∀ (ls : Array Slot) (H : Heap) (locs : List Loc), lv_has ls 5 [(0, .ref (ad 17 0)), (1, .ref (ad a1 0)), (2, .int v_2)] → St D cy ad ns A M s.heap H locs → W p l e rm_X3_see s m args below meth c H locs 0 0 (MQ below (QC D cy ad ns A r none) args s 0 0 A) (F0 m 131 ls []) := by
  obtain ⟨hx, hb, hml, hown, hts, hK, hr, hlk, hA, hG⟩ := id X
  intro hk_2 ls H locs hl hS
  unfold f_X3_see_131 at hX
  obtain ⟨v1, ev1⟩ : ∃ y : Int32, y = (v_2 + nI 1) := ⟨_, rfl⟩
  have hX := nm_of ev1 hX
  refine lv_iinc (v := v1) (lv' := [(2, .int v1), (0, .ref (ad 17 0)), (1, .ref (ad a1 0))]) hx hb dX3_see_131 hl (k := 2) rfl (by rw [ev1]; rfl) (by decide) rfl (fun ls hl => ?_)
  refine lv_goto (tgt := 2) hx hb dX3_see_134 (by decide) ?_
  exact hk_2 _ _ _ hX _ _ _ (lv_sub hl [1, 2, 0] rfl) hS
set_option maxRecDepth 100000 in
set_option maxHeartbeats 4000000 in
theorem n_X3_see_2 {a1 : Nat} (X : Cx p s m args meth c D cy ad A RX3 cX3_see 5 ((none : Option Jvm.ClassFile.FieldType))) (hN : NsC ns) (ha1 : Ob ns 4 a1) : ∀ (n : Nat) (v_2 : Int32) (M : Mem) (r : Mem), f_X3_see_2 a1 n (v_2, M) = some r → ∀ (ls : Array Slot) (H : Heap) (locs : List Loc), lv_has ls 5 [(0, .ref (ad 17 0)), (1, .ref (ad a1 0)), (2, .int v_2)] → St D cy ad ns A M s.heap H locs → W p l e rm_X3_see s m args below meth c H locs 0 0 (MQ below (QC D cy ad ns A r none) args s 0 0 A) (F0 m 2 ls []) := by
  obtain ⟨hx, hb, hml, hown, hts, hK, hr, hlk, hA, hG⟩ := id X
  intro n
  induction n with
  | zero => intro v_2 M r hX; cases (show (none : Option (Mem)) = some r from hX)
  | succ n ih =>
    intro v_2 M r hX ls H locs hl hS
    have hX : b_X3_see_2 a1 (fun x0 x1 => f_X3_see_2 a1 n (x0, x1)) v_2 M = some r := hX
    unfold b_X3_see_2 at hX
    refine lv_iload_n hx hb dX3_see_2 rfl (lv_at hl 2 rfl) ?_
    refine lv_aload_n hx hb dX3_see_3 rfl (lv_at hl 1 rfl) ?_
    refine fg_X3_63 X hS ha1 dX3_see_4 ?_
    refine lv_icmp_ge (tgt := 137) hx hb dX3_see_7 (by decide) (fun c2 => ?_) (fun c2 => ?_)
    · have hX := if_t c2 hX
      obtain rfl := some_of hX
      exact x_V X hS dX3_see_137
    · have hX := if_f c2 hX
      refine lv_aload_n hx hb dX3_see_10 rfl (lv_at hl 1 rfl) ?_
      refine fg_X3_68 X hS ha1 dX3_see_11 ?_
      refine lv_iload_n hx hb dX3_see_14 rfl (lv_at hl 2 rfl) ?_
      obtain ⟨g3, hX⟩ := gin_of hX
      refine r_iald (ci := 4) (o := a1) (k := 2) (n := 10) X hS ha1 rfl rfl g3 dX3_see_15 ?_
      refine lv_topi (fun v4 ev4 => ?_)
      have hX := nm_of ev4 hX
      refine lv_istore_n (lv' := [(3, .int v4), (0, .ref (ad 17 0)), (1, .ref (ad a1 0)), (2, .int v_2)]) hx hb dX3_see_16 rfl hl (by decide) rfl (fun ls hl => ?_)
      refine lv_aload_n hx hb dX3_see_17 rfl (lv_at hl 2 rfl) ?_
      refine fg_X3_71 X hS ha1 dX3_see_18 ?_
      refine lv_iload_n hx hb dX3_see_21 rfl (lv_at hl 3 rfl) ?_
      obtain ⟨g5, hX⟩ := gin_of hX
      refine r_iald (ci := 4) (o := a1) (k := 3) (n := 10) X hS ha1 rfl rfl g5 dX3_see_22 ?_
      refine lv_topi (fun v6 ev6 => ?_)
      have hX := nm_of ev6 hX
      refine lv_istore (lv' := [(4, .int v6), (3, .int v4), (0, .ref (ad 17 0)), (1, .ref (ad a1 0)), (2, .int v_2)]) hx hb dX3_see_23 hl (by decide) rfl (fun ls hl => ?_)
      refine lv_iload_n hx hb dX3_see_25 rfl (lv_at hl 1 rfl) ?_
      refine lv_if_lt (tgt := 131) hx hb dX3_see_26 (by decide) (fun c7 => ?_) (fun c7 => ?_)
      · have hX := if_t c7 hX
        exact n_X3_see_131 X hN ha1 hX (fun z0 z1 r h ls H locs hl hS => ih z0 z1 r h ls H locs hl hS) _ _ _ (lv_sub hl [2, 3, 4] rfl) hS
      · have hX := if_f c7 hX
        refine lv_iload_n hx hb dX3_see_29 rfl (lv_at hl 1 rfl) ?_
        refine lv_bipush (v := nI 9) hx hb dX3_see_30 (by decide) ?_
        refine lv_icmp_ge (tgt := 131) hx hb dX3_see_32 (by decide) (fun c8 => ?_) (fun c8 => ?_)
        · have hX := if_t c8 hX
          exact n_X3_see_131 X hN ha1 hX (fun z0 z1 r h ls H locs hl hS => ih z0 z1 r h ls H locs hl hS) _ _ _ (lv_sub hl [2, 3, 4] rfl) hS
        · have hX := if_f c8 hX
          refine lv_iload hx hb dX3_see_35 (lv_at hl 0 rfl) ?_
          refine lv_if_lt (tgt := 131) hx hb dX3_see_37 (by decide) (fun c9 => ?_) (fun c9 => ?_)
          · have hX := if_t c9 hX
            exact n_X3_see_131 X hN ha1 hX (fun z0 z1 r h ls H locs hl hS => ih z0 z1 r h ls H locs hl hS) _ _ _ (lv_sub hl [2, 3, 4] rfl) hS
          · have hX := if_f c9 hX
            refine lv_iload hx hb dX3_see_40 (lv_at hl 0 rfl) ?_
            refine lv_bipush (v := nI 9) hx hb dX3_see_42 (by decide) ?_
            refine lv_icmp_lt (tgt := 50) hx hb dX3_see_44 (by decide) (fun c10 => ?_) (fun c10 => ?_)
            · have hX := if_t c10 hX
              refine lv_aload_n hx hb dX3_see_50 rfl (lv_at hl 3 rfl) ?_
              refine fg_X3_74 X hS ha1 dX3_see_51 ?_
              refine lv_iload_n hx hb dX3_see_54 rfl (lv_at hl 4 rfl) ?_
              obtain ⟨g11, hX⟩ := gin_of hX
              refine r_iald (ci := 4) (o := a1) (k := 1) (n := 10) X hS ha1 rfl rfl g11 dX3_see_55 ?_
              refine lv_topi (fun v12 ev12 => ?_)
              have hX := nm_of ev12 hX
              by_cases c13 : v12 = nI 0
              · have hX := if_t c13 hX
                refine lv_lookup (off := 28) (tgt := 84) hx hb dX3_see_56 (by decide) (by rw [c13]; rfl) (by decide) ?_
                refine lv_aload_n hx hb dX3_see_84 rfl (lv_at hl 2 rfl) ?_
                refine fg_X3_18 X hS (o_of hN (o := 17) (c := 3) (by decide) rfl) dX3_see_85 ?_
                refine lv_iload hx hb dX3_see_88 (lv_at hl 0 rfl) ?_
                refine lv_dup2_11 hx hb dX3_see_90 rfl rfl ?_
                obtain ⟨g14, hX⟩ := gin_of hX
                refine r_iald (ci := 3) (o := 17) (k := 2) (n := 9) X hS (o_of hN (o := 17) (c := 3) (by decide) rfl) rfl rfl g14 dX3_see_91 ?_
                refine lv_iconst (v := nI 1) hx hb dX3_see_92 (by decide) ?_
                refine lv_iload_n hx hb dX3_see_93 rfl (lv_at hl 1 rfl) ?_
                refine lv_ishl hx hb dX3_see_94 ?_
                refine lv_ior hx hb dX3_see_95 ?_
                obtain ⟨g15, hX⟩ := gin_of hX
                refine r_iast (ci := 3) (o := 17) (k := 2) (n := 9) X hS (o_of hN (o := 17) (c := 3) (by decide) rfl) rfl rfl g15 dX3_see_96 (fun H locs hS => ?_)
                obtain ⟨M16, eM16, hS, hX⟩ := nm_mem hS hX
                refine lv_goto (tgt := 131) hx hb dX3_see_97 (by decide) ?_
                exact n_X3_see_131 X hN ha1 hX (fun z0 z1 r h ls H locs hl hS => ih z0 z1 r h ls H locs hl hS) _ _ _ (lv_sub hl [2, 3, 4] rfl) hS
              have hX := if_f c13 hX
              by_cases c17 : v12 = nI 1
              · have hX := if_t c17 hX
                refine lv_lookup (off := 44) (tgt := 100) hx hb dX3_see_56 (by decide) (by rw [c17]; rfl) (by decide) ?_
                refine lv_aload_n hx hb dX3_see_100 rfl (lv_at hl 2 rfl) ?_
                refine fg_X3_22 X hS (o_of hN (o := 17) (c := 3) (by decide) rfl) dX3_see_101 ?_
                refine lv_iload_n hx hb dX3_see_104 rfl (lv_at hl 1 rfl) ?_
                refine lv_dup2_11 hx hb dX3_see_105 rfl rfl ?_
                obtain ⟨g18, hX⟩ := gin_of hX
                refine r_iald (ci := 3) (o := 17) (k := 3) (n := 9) X hS (o_of hN (o := 17) (c := 3) (by decide) rfl) rfl rfl g18 dX3_see_106 ?_
                refine lv_iconst (v := nI 1) hx hb dX3_see_107 (by decide) ?_
                refine lv_iload hx hb dX3_see_108 (lv_at hl 0 rfl) ?_
                refine lv_ishl hx hb dX3_see_110 ?_
                refine lv_iand hx hb dX3_see_111 ?_
                obtain ⟨g19, hX⟩ := gin_of hX
                refine r_iast (ci := 3) (o := 17) (k := 3) (n := 9) X hS (o_of hN (o := 17) (c := 3) (by decide) rfl) rfl rfl g19 dX3_see_112 (fun H locs hS => ?_)
                obtain ⟨M20, eM20, hS, hX⟩ := nm_mem hS hX
                refine lv_goto (tgt := 131) hx hb dX3_see_113 (by decide) ?_
                exact n_X3_see_131 X hN ha1 hX (fun z0 z1 r h ls H locs hl hS => ih z0 z1 r h ls H locs hl hS) _ _ _ (lv_sub hl [2, 3, 4] rfl) hS
              have hX := if_f c17 hX
              refine lv_lookup (off := 60) (tgt := 116) hx hb dX3_see_56 (by decide) (by show Op.lookupswitch.offset (_ :: _) _ _ = _; rw [lv_osw (a := 0) c13 (by decide), lv_osw (a := 1) c17 (by decide)]; rfl) (by decide) ?_
              refine lv_aload_n hx hb dX3_see_116 rfl (lv_at hl 2 rfl) ?_
              refine fg_X3_22 X hS (o_of hN (o := 17) (c := 3) (by decide) rfl) dX3_see_117 ?_
              refine lv_iload_n hx hb dX3_see_120 rfl (lv_at hl 1 rfl) ?_
              refine lv_dup2_11 hx hb dX3_see_121 rfl rfl ?_
              obtain ⟨g21, hX⟩ := gin_of hX
              refine r_iald (ci := 3) (o := 17) (k := 3) (n := 9) X hS (o_of hN (o := 17) (c := 3) (by decide) rfl) rfl rfl g21 dX3_see_122 ?_
              refine lv_iconst (v := nI 1) hx hb dX3_see_123 (by decide) ?_
              refine lv_iload hx hb dX3_see_124 (lv_at hl 0 rfl) ?_
              refine lv_ishl hx hb dX3_see_126 ?_
              refine lv_iconst (v := (-1)) hx hb dX3_see_127 (by decide) ?_
              refine lv_ixor hx hb dX3_see_128 ?_
              refine lv_iand hx hb dX3_see_129 ?_
              obtain ⟨g22, hX⟩ := gin_of hX
              refine r_iast (ci := 3) (o := 17) (k := 3) (n := 9) X hS (o_of hN (o := 17) (c := 3) (by decide) rfl) rfl rfl g22 dX3_see_130 (fun H locs hS => ?_)
              obtain ⟨M23, eM23, hS, hX⟩ := nm_mem hS hX
              exact n_X3_see_131 X hN ha1 hX (fun z0 z1 r h ls H locs hl hS => ih z0 z1 r h ls H locs hl hS) _ _ _ (lv_sub hl [2, 3, 4] rfl) hS
            · have hX := if_f c10 hX
              refine lv_goto (tgt := 131) hx hb dX3_see_47 (by decide) ?_
              exact n_X3_see_131 X hN ha1 hX (fun z0 z1 r h ls H locs hl hS => ih z0 z1 r h ls H locs hl hS) _ _ _ (lv_sub hl [2, 3, 4] rfl) hS
set_option maxRecDepth 100000 in
set_option maxHeartbeats 4000000 in
theorem m_X3_see {l : Launch} {D : va_G} {cy : Nat → ClassId} {ad : Nat → Nat → Nat} {ns : List (Nat × Nat)} {A : Nat → Prop} {M : Mem} (hN : NsC ns) {a1 : Nat} (ha1 : Ob ns 4 a1) {r : Mem} (hX : f_X3_see M a1 = some r) : Ct l yX3_see cX3_see 5 ((none : Option Jvm.ClassFile.FieldType)) rm_X3_see D cy ad ns A [.ref (ad 17 0), .ref (ad a1 0)] M r none := by
  refine ct_of (lv := [(0, .ref (ad 17 0)), (1, .ref (ad a1 0))]) (by decide) (Nat.le_of_ble_eq_true rfl) rfl ?_
  intro p e s m args below meth c ls X hl hS
  obtain ⟨hx, hb, hml, hown, hts, hK, hr, hlk, hA, hG⟩ := id X
  obtain ⟨H, hH⟩ : ∃ z, z = s.heap := ⟨_, rfl⟩
  obtain ⟨locs, hlo⟩ : ∃ z : List Loc, z = [] := ⟨_, rfl⟩
  have hS : St D cy ad ns A M s.heap H locs := by rw [hH, hlo]; exact hS
  have hgoal : W p l e rm_X3_see s m args below meth c H locs 0 0 (MQ below (QC D cy ad ns A r none) args s 0 0 A) (F0 m 0 ls []) := by
    unfold f_X3_see at hX
    refine lv_iconst (v := nI 0) hx hb dX3_see_0 (by decide) ?_
    refine lv_istore_n (lv' := [(2, .int (nI 0)), (0, .ref (ad 17 0)), (1, .ref (ad a1 0))]) hx hb dX3_see_1 rfl hl (by decide) rfl (fun ls hl => ?_)
    exact n_X3_see_2 X hN ha1 _ _ _ _ hX _ _ _ (lv_sub hl [1, 2, 0] rfl) hS
  rw [hH, hlo] at hgoal
  exact hgoal
theorem mv_X3_see : Mv yX3_see RX3 cX3_see 5 ((none : Option Jvm.ClassFile.FieldType)) 1 := ⟨t5_23, t5_21, t5_22, t1_9, ⟨by decide, by decide⟩, by decide +kernel⟩
/-! SewnYear$Sewing.mayCome(II)Z -/
def rm_X3_mayCome : Room := { frames := 1, cells := 0, slots := 0, locals := 20 }
def f_X3_mayCome (M : Mem) (a1 : Int32) (a2 : Int32) : Option (Bool) :=
  if ((a2 >>> (a1 &&& 31)) &&& (nI 1)) = (nI 0) then (gin a1 9 <| if ((gA M 17 2 (ix a1)) &&& (a2 ^^^ (-1))) = (nI 0) then (gin a1 9 <| if (((gA M 17 3 (ix a1)) >>> ((bcI a2) &&& 31)) &&& (nI 1)) = (nI 1) then (some true) else (some false)) else (some false)) else (some false)
set_option maxRecDepth 100000 in
set_option maxHeartbeats 4000000 in
theorem m_X3_mayCome {l : Launch} {D : va_G} {cy : Nat → ClassId} {ad : Nat → Nat → Nat} {ns : List (Nat × Nat)} {A : Nat → Prop} {M : Mem} (hN : NsC ns) {a1 : Int32} {a2 : Int32} {r : Bool} (hX : f_X3_mayCome M a1 a2 = some r) : Ct l yX3_mayCome cX3_mayCome 3 ((some .boolean)) rm_X3_mayCome D cy ad ns A [.ref (ad 17 0), .int a1, .int a2] M M (some (.int (b2i r))) := by
  refine ct_of (lv := [(0, .ref (ad 17 0)), (1, .int a1), (2, .int a2)]) (by decide) (Nat.le_of_ble_eq_true rfl) rfl ?_
  intro p e s m args below meth c ls X hl hS
  obtain ⟨hx, hb, hml, hown, hts, hK, hr, hlk, hA, hG⟩ := id X
  obtain ⟨H, hH⟩ : ∃ z, z = s.heap := ⟨_, rfl⟩
  obtain ⟨locs, hlo⟩ : ∃ z : List Loc, z = [] := ⟨_, rfl⟩
  have hS : St D cy ad ns A M s.heap H locs := by rw [hH, hlo]; exact hS
  have hgoal : W p l e rm_X3_mayCome s m args below meth c H locs 0 0 (MQ below (QC D cy ad ns A M (some (.int (b2i r)))) args s 0 0 A) (F0 m 0 ls []) := by
    unfold f_X3_mayCome at hX
    refine lv_iload_n hx hb dX3_mayCome_0 rfl (lv_at hl 2 rfl) ?_
    refine lv_iload_n hx hb dX3_mayCome_1 rfl (lv_at hl 1 rfl) ?_
    refine lv_ishr hx hb dX3_mayCome_2 ?_
    refine lv_iconst (v := nI 1) hx hb dX3_mayCome_3 (by decide) ?_
    refine lv_iand hx hb dX3_mayCome_4 ?_
    refine lv_if_ne (tgt := 42) hx hb dX3_mayCome_5 (by decide) (fun c1 => ?_) (fun c1 => ?_)
    · have hX := if_f c1 hX
      refine lv_iconst (v := nI 0) hx hb dX3_mayCome_42 (by decide) ?_
      obtain rfl := some_of hX
      exact x_Z (v := false) X hS dX3_mayCome_43
    · have hX := if_t c1 hX
      refine lv_aload_n hx hb dX3_mayCome_8 rfl (lv_at hl 0 rfl) ?_
      refine fg_X3_18 X hS (o_of hN (o := 17) (c := 3) (by decide) rfl) dX3_mayCome_9 ?_
      refine lv_iload_n hx hb dX3_mayCome_12 rfl (lv_at hl 1 rfl) ?_
      obtain ⟨g2, hX⟩ := gin_of hX
      refine r_iald (ci := 3) (o := 17) (k := 2) (n := 9) X hS (o_of hN (o := 17) (c := 3) (by decide) rfl) rfl rfl g2 dX3_mayCome_13 ?_
      refine lv_iload_n hx hb dX3_mayCome_14 rfl (lv_at hl 2 rfl) ?_
      refine lv_iconst (v := (-1)) hx hb dX3_mayCome_15 (by decide) ?_
      refine lv_ixor hx hb dX3_mayCome_16 ?_
      refine lv_iand hx hb dX3_mayCome_17 ?_
      refine lv_if_ne (tgt := 42) hx hb dX3_mayCome_18 (by decide) (fun c3 => ?_) (fun c3 => ?_)
      · have hX := if_f c3 hX
        refine lv_iconst (v := nI 0) hx hb dX3_mayCome_42 (by decide) ?_
        obtain rfl := some_of hX
        exact x_Z (v := false) X hS dX3_mayCome_43
      · have hX := if_t c3 hX
        refine lv_aload_n hx hb dX3_mayCome_21 rfl (lv_at hl 0 rfl) ?_
        refine fg_X3_22 X hS (o_of hN (o := 17) (c := 3) (by decide) rfl) dX3_mayCome_22 ?_
        refine lv_iload_n hx hb dX3_mayCome_25 rfl (lv_at hl 1 rfl) ?_
        obtain ⟨g4, hX⟩ := gin_of hX
        refine r_iald (ci := 3) (o := 17) (k := 3) (n := 9) X hS (o_of hN (o := 17) (c := 3) (by decide) rfl) rfl rfl g4 dX3_mayCome_26 ?_
        refine lv_iload_n hx hb dX3_mayCome_27 rfl (lv_at hl 2 rfl) ?_
        refine r_callS1 (v := .int (bcI a2)) (As := [.int a2]) (rest := [.int (gA M 17 3 (ix a1))]) X hS (m_bitCount (x := a2)) ms_bitCount t4_45 ⟨rfl, rfl, Nat.le_of_ble_eq_true rfl, Nat.le_of_ble_eq_true rfl⟩ rfl hl.1 rfl (Nat.le_of_ble_eq_true rfl) ⟨Nat.zero_le _, Nat.zero_le _⟩ dX3_mayCome_28 (fun H locs hS => ?_)
        refine lv_ishr hx hb dX3_mayCome_31 ?_
        refine lv_iconst (v := nI 1) hx hb dX3_mayCome_32 (by decide) ?_
        refine lv_iand hx hb dX3_mayCome_33 ?_
        refine lv_iconst (v := nI 1) hx hb dX3_mayCome_34 (by decide) ?_
        refine lv_icmp_ne (tgt := 42) hx hb dX3_mayCome_35 (by decide) (fun c5 => ?_) (fun c5 => ?_)
        · have hX := if_f c5 hX
          refine lv_iconst (v := nI 0) hx hb dX3_mayCome_42 (by decide) ?_
          obtain rfl := some_of hX
          exact x_Z (v := false) X hS dX3_mayCome_43
        · have hX := if_t c5 hX
          refine lv_iconst (v := nI 1) hx hb dX3_mayCome_38 (by decide) ?_
          refine lv_goto (tgt := 43) hx hb dX3_mayCome_39 (by decide) ?_
          obtain rfl := some_of hX
          exact x_Z (v := true) X hS dX3_mayCome_43
  rw [hH, hlo] at hgoal
  exact hgoal
theorem mv_X3_mayCome : Mv yX3_mayCome RX3 cX3_mayCome 3 ((some .boolean)) 2 := ⟨t4_44, t4_42, t4_43, t1_9, ⟨by decide, by decide⟩, by decide +kernel⟩
/-! SewnYear$Sewing.ways()I -/
def rm_X3_ways : Room := { frames := 2, cells := 0, slots := 0, locals := 42 }
def f_X3_ways_81 (v_1 : Int32) (v_2 : Int32) (k_45 : Int32 → Mem → Option (Int32 × Mem)) (v_3 : Int32) (M : Mem) : Option (Int32 × Mem) :=
  nm (v_3 + nI 1) fun v1 => k_45 v1 M
def b_X3_ways_45 (v_1 : Int32) (k_87 : Int32 → Mem → Option (Int32 × Mem)) (v_2 : Int32) (rc : Int32 → Mem → Option (Int32 × Mem)) (v_3 : Int32) (M : Mem) : Option (Int32 × Mem) :=
  if (gI M 17 1) ≤ v_3 then (k_87 v_2 M) else (bn (f_X3_mayCome M v_3 v_2) fun r4 => if r4 = true then (gin (v_2 ||| ((nI 1) <<< (v_3 &&& 31))) 512 <| gin v_2 512 <| gin (v_2 ||| ((nI 1) <<< (v_3 &&& 31))) 512 <| nm (sA M 17 8 (ix (v_2 ||| ((nI 1) <<< (v_3 &&& 31)))) ((gA M 17 8 (ix (v_2 ||| ((nI 1) <<< (v_3 &&& 31))))) + (gA M 17 8 (ix v_2)))) fun M9 => f_X3_ways_81 v_1 v_2 rc v_3 M9) else (f_X3_ways_81 v_1 v_2 rc v_3 M))
def f_X3_ways_45 (v_1 : Int32) (k_87 : Int32 → Mem → Option (Int32 × Mem)) (v_2 : Int32) : Nat → (Int32 × Mem) → Option (Int32 × Mem) := lp (fun rc q => b_X3_ways_45 v_1 k_87 v_2 (fun x0 x1 => rc (x0, x1)) q.1 q.2)
def f_X3_ways_87 (v_1 : Int32) (k_26 : Int32 → Mem → Option (Int32 × Mem)) (v_2 : Int32) (M : Mem) : Option (Int32 × Mem) :=
  nm (v_2 + nI 1) fun v10 => k_26 v10 M
def b_X3_ways_26 (v_1 : Int32) (rc : Int32 → Mem → Option (Int32 × Mem)) (v_2 : Int32) (M : Mem) : Option (Int32 × Mem) :=
  if v_1 ≤ v_2 then (gin v_1 512 <| some ((gA M 17 8 (ix v_1)), M)) else (gin v_2 512 <| if (gA M 17 8 (ix v_2)) = (nI 0) then (f_X3_ways_87 v_1 rc v_2 M) else (f_X3_ways_45 v_1 (fun x0 y => f_X3_ways_87 v_1 rc x0 y) v_2 FU ((nI 0), M)))
def f_X3_ways_26 (v_1 : Int32) : Nat → (Int32 × Mem) → Option (Int32 × Mem) := lp (fun rc q => b_X3_ways_26 v_1 (fun x0 x1 => rc (x0, x1)) q.1 q.2)
def f_X3_ways (M : Mem) : Option (Int32 × Mem) :=
  nm (((nI 1) <<< ((gI M 17 1) &&& 31)) - (nI 1)) fun v15 => nm (flA M 17 8 512 (nI 0)) fun M16 => gin (nI 0) 512 <| nm (sA M16 17 8 (ix (nI 0)) (nI 1)) fun M18 => f_X3_ways_26 v15 FU ((nI 0), M18)
set_option maxRecDepth 100000 in
set_option maxHeartbeats 4000000 in
theorem n_X3_ways_81 {v_1 : Int32} {v_2 : Int32} (X : Cx p s m args meth c D cy ad A RX3 cX3_ways 4 ((some .int))) (hN : NsC ns) {k_45 : Int32 → Mem → Option (Int32 × Mem)} {v_3 : Int32} {M : Mem} {r : Int32 × Mem} (hX : f_X3_ways_81 v_1 v_2 k_45 v_3 M = some r) : (∀ (v_3 : Int32) (M : Mem) (r : Int32 × Mem), k_45 v_3 M = some r → ∀ (ls : Array Slot) (H : Heap) (locs : List Loc), lv_has ls 4 [(0, .ref (ad 17 0)), (1, .int v_1), (2, .int v_2), (3, .int v_3)] → St D cy ad ns A M s.heap H locs → W p l e rm_X3_ways s m args below meth c H locs 0 0 (MQ below (QC D cy ad ns A r.2 (some (.int r.1))) args s 0 0 A) (F0 m 45 ls [])) → ∀ (ls : Array Slot) (H : Heap) (locs : List Loc), lv_has ls 4 [(0, .ref (ad 17 0)), (1, .int v_1), (2, .int v_2), (3, .int v_3)] → St D cy ad ns A M s.heap H locs → W p l e rm_X3_ways s m args below meth c H locs 0 0 (MQ below (QC D cy ad ns A r.2 (some (.int r.1))) args s 0 0 A) (F0 m 81 ls []) := by
  obtain ⟨hx, hb, hml, hown, hts, hK, hr, hlk, hA, hG⟩ := id X
  intro hk_45 ls H locs hl hS
  unfold f_X3_ways_81 at hX
  obtain ⟨v1, ev1⟩ : ∃ y : Int32, y = (v_3 + nI 1) := ⟨_, rfl⟩
  have hX := nm_of ev1 hX
  refine lv_iinc (v := v1) (lv' := [(3, .int v1), (0, .ref (ad 17 0)), (1, .int v_1), (2, .int v_2)]) hx hb dX3_ways_81 hl (k := 3) rfl (by rw [ev1]; rfl) (by decide) rfl (fun ls hl => ?_)
  refine lv_goto (tgt := 45) hx hb dX3_ways_84 (by decide) ?_
  exact hk_45 _ _ _ hX _ _ _ (lv_sub hl [1, 2, 3, 0] rfl) hS
set_option maxRecDepth 100000 in
set_option maxHeartbeats 4000000 in
theorem n_X3_ways_45 {v_1 : Int32} (X : Cx p s m args meth c D cy ad A RX3 cX3_ways 4 ((some .int))) (hN : NsC ns) {k_87 : Int32 → Mem → Option (Int32 × Mem)} {v_2 : Int32} : ∀ (n : Nat) (v_3 : Int32) (M : Mem) (r : Int32 × Mem), f_X3_ways_45 v_1 k_87 v_2 n (v_3, M) = some r → (∀ (v_2 : Int32) (M : Mem) (r : Int32 × Mem), k_87 v_2 M = some r → ∀ (ls : Array Slot) (H : Heap) (locs : List Loc), lv_has ls 4 [(0, .ref (ad 17 0)), (1, .int v_1), (2, .int v_2)] → St D cy ad ns A M s.heap H locs → W p l e rm_X3_ways s m args below meth c H locs 0 0 (MQ below (QC D cy ad ns A r.2 (some (.int r.1))) args s 0 0 A) (F0 m 87 ls [])) → ∀ (ls : Array Slot) (H : Heap) (locs : List Loc), lv_has ls 4 [(0, .ref (ad 17 0)), (1, .int v_1), (2, .int v_2), (3, .int v_3)] → St D cy ad ns A M s.heap H locs → W p l e rm_X3_ways s m args below meth c H locs 0 0 (MQ below (QC D cy ad ns A r.2 (some (.int r.1))) args s 0 0 A) (F0 m 45 ls []) := by
  obtain ⟨hx, hb, hml, hown, hts, hK, hr, hlk, hA, hG⟩ := id X
  intro n
  induction n with
  | zero => intro v_3 M r hX; cases (show (none : Option (Int32 × Mem)) = some r from hX)
  | succ n ih =>
    intro v_3 M r hX hk_87 ls H locs hl hS
    have hX : b_X3_ways_45 v_1 k_87 v_2 (fun x0 x1 => f_X3_ways_45 v_1 k_87 v_2 n (x0, x1)) v_3 M = some r := hX
    unfold b_X3_ways_45 at hX
    refine lv_iload_n hx hb dX3_ways_45 rfl (lv_at hl 3 rfl) ?_
    refine lv_aload_n hx hb dX3_ways_46 rfl (lv_at hl 0 rfl) ?_
    refine fg_X3_47 X hS (o_of hN (o := 17) (c := 3) (by decide) rfl) dX3_ways_47 ?_
    refine lv_icmp_ge (tgt := 87) hx hb dX3_ways_50 (by decide) (fun c2 => ?_) (fun c2 => ?_)
    · have hX := if_t c2 hX
      exact hk_87 _ _ _ hX _ _ _ (lv_sub hl [0, 1, 2] rfl) hS
    · have hX := if_f c2 hX
      refine lv_aload_n hx hb dX3_ways_53 rfl (lv_at hl 0 rfl) ?_
      refine lv_iload_n hx hb dX3_ways_54 rfl (lv_at hl 3 rfl) ?_
      refine lv_iload_n hx hb dX3_ways_55 rfl (lv_at hl 2 rfl) ?_
      obtain ⟨r4, h3, hX⟩ := bn_of hX
      refine r_callV1 (v := .int (b2i r4)) (As := [.int v_3, .int v_2]) (rest := []) X hS (m_X3_mayCome hN h3) mv_X3_mayCome rfl (o_of hN (o := 17) (c := 3) (by decide) rfl) t4_41 ⟨rfl, rfl, Nat.le_of_ble_eq_true rfl, Nat.le_of_ble_eq_true rfl⟩ rfl hl.1 rfl (Nat.le_of_ble_eq_true rfl) ⟨Nat.zero_le _, Nat.zero_le _⟩ dX3_ways_56 (fun H locs hS => ?_)
      refine lv_if_eq (tgt := 81) hx hb dX3_ways_59 (by decide) (fun c5 => ?_) (fun c5 => ?_)
      · have hX := if_bf c5 hX
        exact n_X3_ways_81 X hN hX (fun z0 z1 r h ls H locs hl hS => ih z0 z1 r h hk_87 ls H locs hl hS) _ _ _ (lv_sub hl [0, 1, 2, 3] rfl) hS
      · have hX := if_bt c5 hX
        refine lv_aload_n hx hb dX3_ways_62 rfl (lv_at hl 0 rfl) ?_
        refine fg_X3_37 X hS (o_of hN (o := 17) (c := 3) (by decide) rfl) dX3_ways_63 ?_
        refine lv_iload_n hx hb dX3_ways_66 rfl (lv_at hl 2 rfl) ?_
        refine lv_iconst (v := nI 1) hx hb dX3_ways_67 (by decide) ?_
        refine lv_iload_n hx hb dX3_ways_68 rfl (lv_at hl 3 rfl) ?_
        refine lv_ishl hx hb dX3_ways_69 ?_
        refine lv_ior hx hb dX3_ways_70 ?_
        refine lv_dup2_11 hx hb dX3_ways_71 rfl rfl ?_
        obtain ⟨g6, hX⟩ := gin_of hX
        refine r_iald (ci := 3) (o := 17) (k := 8) (n := 512) X hS (o_of hN (o := 17) (c := 3) (by decide) rfl) rfl rfl g6 dX3_ways_72 ?_
        refine lv_aload_n hx hb dX3_ways_73 rfl (lv_at hl 0 rfl) ?_
        refine fg_X3_37 X hS (o_of hN (o := 17) (c := 3) (by decide) rfl) dX3_ways_74 ?_
        refine lv_iload_n hx hb dX3_ways_77 rfl (lv_at hl 2 rfl) ?_
        obtain ⟨g7, hX⟩ := gin_of hX
        refine r_iald (ci := 3) (o := 17) (k := 8) (n := 512) X hS (o_of hN (o := 17) (c := 3) (by decide) rfl) rfl rfl g7 dX3_ways_78 ?_
        refine lv_iadd hx hb dX3_ways_79 ?_
        obtain ⟨g8, hX⟩ := gin_of hX
        refine r_iast (ci := 3) (o := 17) (k := 8) (n := 512) X hS (o_of hN (o := 17) (c := 3) (by decide) rfl) rfl rfl g8 dX3_ways_80 (fun H locs hS => ?_)
        obtain ⟨M9, eM9, hS, hX⟩ := nm_mem hS hX
        exact n_X3_ways_81 X hN hX (fun z0 z1 r h ls H locs hl hS => ih z0 z1 r h hk_87 ls H locs hl hS) _ _ _ (lv_sub hl [0, 1, 2, 3] rfl) hS
set_option maxRecDepth 100000 in
set_option maxHeartbeats 4000000 in
theorem n_X3_ways_87 {v_1 : Int32} (X : Cx p s m args meth c D cy ad A RX3 cX3_ways 4 ((some .int))) (hN : NsC ns) {k_26 : Int32 → Mem → Option (Int32 × Mem)} {v_2 : Int32} {M : Mem} {r : Int32 × Mem} (hX : f_X3_ways_87 v_1 k_26 v_2 M = some r) : (∀ (v_2 : Int32) (M : Mem) (r : Int32 × Mem), k_26 v_2 M = some r → ∀ (ls : Array Slot) (H : Heap) (locs : List Loc), lv_has ls 4 [(0, .ref (ad 17 0)), (1, .int v_1), (2, .int v_2)] → St D cy ad ns A M s.heap H locs → W p l e rm_X3_ways s m args below meth c H locs 0 0 (MQ below (QC D cy ad ns A r.2 (some (.int r.1))) args s 0 0 A) (F0 m 26 ls [])) → ∀ (ls : Array Slot) (H : Heap) (locs : List Loc), lv_has ls 4 [(0, .ref (ad 17 0)), (1, .int v_1), (2, .int v_2)] → St D cy ad ns A M s.heap H locs → W p l e rm_X3_ways s m args below meth c H locs 0 0 (MQ below (QC D cy ad ns A r.2 (some (.int r.1))) args s 0 0 A) (F0 m 87 ls []) := by
  obtain ⟨hx, hb, hml, hown, hts, hK, hr, hlk, hA, hG⟩ := id X
  intro hk_26 ls H locs hl hS
  unfold f_X3_ways_87 at hX
  obtain ⟨v10, ev10⟩ : ∃ y : Int32, y = (v_2 + nI 1) := ⟨_, rfl⟩
  have hX := nm_of ev10 hX
  refine lv_iinc (v := v10) (lv' := [(2, .int v10), (0, .ref (ad 17 0)), (1, .int v_1)]) hx hb dX3_ways_87 hl (k := 2) rfl (by rw [ev10]; rfl) (by decide) rfl (fun ls hl => ?_)
  refine lv_goto (tgt := 26) hx hb dX3_ways_90 (by decide) ?_
  exact hk_26 _ _ _ hX _ _ _ (lv_sub hl [1, 2, 0] rfl) hS
set_option maxRecDepth 100000 in
set_option maxHeartbeats 4000000 in
theorem n_X3_ways_26 (X : Cx p s m args meth c D cy ad A RX3 cX3_ways 4 ((some .int))) (hN : NsC ns) {v_1 : Int32} : ∀ (n : Nat) (v_2 : Int32) (M : Mem) (r : Int32 × Mem), f_X3_ways_26 v_1 n (v_2, M) = some r → ∀ (ls : Array Slot) (H : Heap) (locs : List Loc), lv_has ls 4 [(0, .ref (ad 17 0)), (1, .int v_1), (2, .int v_2)] → St D cy ad ns A M s.heap H locs → W p l e rm_X3_ways s m args below meth c H locs 0 0 (MQ below (QC D cy ad ns A r.2 (some (.int r.1))) args s 0 0 A) (F0 m 26 ls []) := by
  obtain ⟨hx, hb, hml, hown, hts, hK, hr, hlk, hA, hG⟩ := id X
  intro n
  induction n with
  | zero => intro v_2 M r hX; cases (show (none : Option (Int32 × Mem)) = some r from hX)
  | succ n ih =>
    intro v_2 M r hX ls H locs hl hS
    have hX : b_X3_ways_26 v_1 (fun x0 x1 => f_X3_ways_26 v_1 n (x0, x1)) v_2 M = some r := hX
    unfold b_X3_ways_26 at hX
    refine lv_iload_n hx hb dX3_ways_26 rfl (lv_at hl 2 rfl) ?_
    refine lv_iload_n hx hb dX3_ways_27 rfl (lv_at hl 1 rfl) ?_
    refine lv_icmp_ge (tgt := 93) hx hb dX3_ways_28 (by decide) (fun c11 => ?_) (fun c11 => ?_)
    · have hX := if_t c11 hX
      refine lv_aload_n hx hb dX3_ways_93 rfl (lv_at hl 0 rfl) ?_
      refine fg_X3_37 X hS (o_of hN (o := 17) (c := 3) (by decide) rfl) dX3_ways_94 ?_
      refine lv_iload_n hx hb dX3_ways_97 rfl (lv_at hl 1 rfl) ?_
      obtain ⟨g12, hX⟩ := gin_of hX
      refine r_iald (ci := 3) (o := 17) (k := 8) (n := 512) X hS (o_of hN (o := 17) (c := 3) (by decide) rfl) rfl rfl g12 dX3_ways_98 ?_
      obtain rfl := some_of hX
      exact x_I (v := (gA M 17 8 (ix v_1))) X hS dX3_ways_99
    · have hX := if_f c11 hX
      refine lv_aload_n hx hb dX3_ways_31 rfl (lv_at hl 0 rfl) ?_
      refine fg_X3_37 X hS (o_of hN (o := 17) (c := 3) (by decide) rfl) dX3_ways_32 ?_
      refine lv_iload_n hx hb dX3_ways_35 rfl (lv_at hl 2 rfl) ?_
      obtain ⟨g13, hX⟩ := gin_of hX
      refine r_iald (ci := 3) (o := 17) (k := 8) (n := 512) X hS (o_of hN (o := 17) (c := 3) (by decide) rfl) rfl rfl g13 dX3_ways_36 ?_
      refine lv_if_ne (tgt := 43) hx hb dX3_ways_37 (by decide) (fun c14 => ?_) (fun c14 => ?_)
      · have hX := if_f c14 hX
        refine lv_iconst (v := nI 0) hx hb dX3_ways_43 (by decide) ?_
        refine lv_istore_n (lv' := [(3, .int (nI 0)), (0, .ref (ad 17 0)), (1, .int v_1), (2, .int v_2)]) hx hb dX3_ways_44 rfl hl (by decide) rfl (fun ls hl => ?_)
        exact n_X3_ways_45 X hN _ _ _ _ hX (fun z0 z1 r h ls H locs hl hS => n_X3_ways_87 X hN h (fun z0 z1 r h ls H locs hl hS => ih z0 z1 r h ls H locs hl hS) _ _ _ hl hS) _ _ _ (lv_sub hl [1, 2, 3, 0] rfl) hS
      · have hX := if_t c14 hX
        refine lv_goto (tgt := 87) hx hb dX3_ways_40 (by decide) ?_
        exact n_X3_ways_87 X hN hX (fun z0 z1 r h ls H locs hl hS => ih z0 z1 r h ls H locs hl hS) _ _ _ (lv_sub hl [0, 1, 2] rfl) hS
set_option maxRecDepth 100000 in
set_option maxHeartbeats 4000000 in
theorem m_X3_ways {l : Launch} {D : va_G} {cy : Nat → ClassId} {ad : Nat → Nat → Nat} {ns : List (Nat × Nat)} {A : Nat → Prop} {M : Mem} (hN : NsC ns) {r : Int32 × Mem} (hX : f_X3_ways M = some r) : Ct l yX3_ways cX3_ways 4 ((some .int)) rm_X3_ways D cy ad ns A [.ref (ad 17 0)] M r.2 (some (.int r.1)) := by
  refine ct_of (lv := [(0, .ref (ad 17 0))]) (by decide) (Nat.le_of_ble_eq_true rfl) rfl ?_
  intro p e s m args below meth c ls X hl hS
  obtain ⟨hx, hb, hml, hown, hts, hK, hr, hlk, hA, hG⟩ := id X
  obtain ⟨H, hH⟩ : ∃ z, z = s.heap := ⟨_, rfl⟩
  obtain ⟨locs, hlo⟩ : ∃ z : List Loc, z = [] := ⟨_, rfl⟩
  have hS : St D cy ad ns A M s.heap H locs := by rw [hH, hlo]; exact hS
  have hgoal : W p l e rm_X3_ways s m args below meth c H locs 0 0 (MQ below (QC D cy ad ns A r.2 (some (.int r.1))) args s 0 0 A) (F0 m 0 ls []) := by
    unfold f_X3_ways at hX
    refine lv_iconst (v := nI 1) hx hb dX3_ways_0 (by decide) ?_
    refine lv_aload_n hx hb dX3_ways_1 rfl (lv_at hl 0 rfl) ?_
    refine fg_X3_47 X hS (o_of hN (o := 17) (c := 3) (by decide) rfl) dX3_ways_2 ?_
    refine lv_ishl hx hb dX3_ways_5 ?_
    refine lv_iconst (v := nI 1) hx hb dX3_ways_6 (by decide) ?_
    refine lv_isub hx hb dX3_ways_7 ?_
    refine lv_topi (fun v15 ev15 => ?_)
    have hX := nm_of ev15 hX
    refine lv_istore_n (lv' := [(1, .int v15), (0, .ref (ad 17 0))]) hx hb dX3_ways_8 rfl hl (by decide) rfl (fun ls hl => ?_)
    refine lv_aload_n hx hb dX3_ways_9 rfl (lv_at hl 1 rfl) ?_
    refine fg_X3_37 X hS (o_of hN (o := 17) (c := 3) (by decide) rfl) dX3_ways_10 ?_
    refine lv_iconst (v := nI 0) hx hb dX3_ways_13 (by decide) ?_
    refine r_callS0 (As := [.ref (ad 17 (8 + 1)), .int (nI 0)]) (rest := []) X hS (m_fill (o_of hN (o := 17) (c := 3) (by decide) rfl) (k := 8) rfl rfl (by decide)) ms_fill t4_36 ⟨rfl, rfl, Nat.le_of_ble_eq_true rfl, Nat.le_of_ble_eq_true rfl⟩ rfl hl.1 rfl (Nat.le_of_ble_eq_true rfl) ⟨Nat.zero_le _, Nat.zero_le _⟩ dX3_ways_14 (fun H locs hS => ?_)
    obtain ⟨M16, eM16, hS, hX⟩ := nm_mem hS hX
    refine lv_aload_n hx hb dX3_ways_17 rfl (lv_at hl 1 rfl) ?_
    refine fg_X3_37 X hS (o_of hN (o := 17) (c := 3) (by decide) rfl) dX3_ways_18 ?_
    refine lv_iconst (v := nI 0) hx hb dX3_ways_21 (by decide) ?_
    refine lv_iconst (v := nI 1) hx hb dX3_ways_22 (by decide) ?_
    obtain ⟨g17, hX⟩ := gin_of hX
    refine r_iast (ci := 3) (o := 17) (k := 8) (n := 512) X hS (o_of hN (o := 17) (c := 3) (by decide) rfl) rfl rfl g17 dX3_ways_23 (fun H locs hS => ?_)
    obtain ⟨M18, eM18, hS, hX⟩ := nm_mem hS hX
    refine lv_iconst (v := nI 0) hx hb dX3_ways_24 (by decide) ?_
    refine lv_istore_n (lv' := [(2, .int (nI 0)), (1, .int v15), (0, .ref (ad 17 0))]) hx hb dX3_ways_25 rfl hl (by decide) rfl (fun ls hl => ?_)
    exact n_X3_ways_26 X hN _ _ _ _ hX _ _ _ (lv_sub hl [2, 1, 0] rfl) hS
  rw [hH, hlo] at hgoal
  exact hgoal
theorem mv_X3_ways : Mv yX3_ways RX3 cX3_ways 4 ((some .int)) 0 := ⟨t4_40, t4_38, t4_39, t1_9, ⟨by decide, by decide⟩, by decide +kernel⟩
/-! SewnYear$Sewing.holds(II)I -/
def rm_X3_holds : Room := { frames := 3, cells := 0, slots := 0, locals := 65 }
def f_X3_holds (M : Mem) (a1 : Int32) (a2 : Int32) : Option (Int32 × Mem) :=
  bn (f_X0_hasSeam M (gR M 17 0) a1) fun r3 => if r3 = true then (bn (f_X0_hasSeam M (gR M 17 0) a2) fun r7 => if r7 = true then (gin a1 9 <| nm (gA M 17 3 (ix a1)) fun v10 => gin a1 9 <| nm (sA M 17 3 (ix a1) (v10 &&& ((nI 1) <<< (a2 &&& 31)))) fun M12 => bp (f_X3_ways M12) fun r15 M14 => gin a1 9 <| nm (sA M14 17 3 (ix a1) v10) fun M17 => some (r15, M17)) else (some ((nI 0), M))) else (some ((nI 0), M))
set_option maxRecDepth 100000 in
set_option maxHeartbeats 4000000 in
theorem m_X3_holds {l : Launch} {D : va_G} {cy : Nat → ClassId} {ad : Nat → Nat → Nat} {ns : List (Nat × Nat)} {A : Nat → Prop} {M : Mem} (hN : NsC ns) {a1 : Int32} {a2 : Int32} {r : Int32 × Mem} (hX : f_X3_holds M a1 a2 = some r) : Ct l yX3_holds cX3_holds 5 ((some .int)) rm_X3_holds D cy ad ns A [.ref (ad 17 0), .int a1, .int a2] M r.2 (some (.int r.1)) := by
  refine ct_of (lv := [(0, .ref (ad 17 0)), (1, .int a1), (2, .int a2)]) (by decide) (Nat.le_of_ble_eq_true rfl) rfl ?_
  intro p e s m args below meth c ls X hl hS
  obtain ⟨hx, hb, hml, hown, hts, hK, hr, hlk, hA, hG⟩ := id X
  obtain ⟨H, hH⟩ : ∃ z, z = s.heap := ⟨_, rfl⟩
  obtain ⟨locs, hlo⟩ : ∃ z : List Loc, z = [] := ⟨_, rfl⟩
  have hS : St D cy ad ns A M s.heap H locs := by rw [hH, hlo]; exact hS
  have hgoal : W p l e rm_X3_holds s m args below meth c H locs 0 0 (MQ below (QC D cy ad ns A r.2 (some (.int r.1))) args s 0 0 A) (F0 m 0 ls []) := by
    unfold f_X3_holds at hX
    refine lv_aload_n hx hb dX3_holds_0 rfl (lv_at hl 0 rfl) ?_
    refine fg_X3_12 X hS (o_of hN (o := 17) (c := 3) (by decide) rfl) dX3_holds_1 ?_
    have q1 := wr_17 hN hS
    refine lv_iload_n hx hb dX3_holds_4 rfl (lv_at hl 1 rfl) ?_
    obtain ⟨r3, h2, hX⟩ := bn_of hX
    refine r_callV1 (v := .int (b2i r3)) (As := [.int a1]) (rest := []) X hS (m_X0_hasSeam hN q1 h2) mv_X0_hasSeam rfl q1 t5_28 ⟨rfl, rfl, Nat.le_of_ble_eq_true rfl, Nat.le_of_ble_eq_true rfl⟩ rfl hl.1 rfl (Nat.le_of_ble_eq_true rfl) ⟨Nat.zero_le _, Nat.zero_le _⟩ dX3_holds_5 (fun H locs hS => ?_)
    refine lv_if_eq (tgt := 22) hx hb dX3_holds_8 (by decide) (fun c4 => ?_) (fun c4 => ?_)
    · have hX := if_bf c4 hX
      refine lv_iconst (v := nI 0) hx hb dX3_holds_22 (by decide) ?_
      obtain rfl := some_of hX
      exact x_I (v := (nI 0)) X hS dX3_holds_23
    · have hX := if_bt c4 hX
      refine lv_aload_n hx hb dX3_holds_11 rfl (lv_at hl 0 rfl) ?_
      refine fg_X3_12 X hS (o_of hN (o := 17) (c := 3) (by decide) rfl) dX3_holds_12 ?_
      have q5 := wr_17 hN hS
      refine lv_iload_n hx hb dX3_holds_15 rfl (lv_at hl 2 rfl) ?_
      obtain ⟨r7, h6, hX⟩ := bn_of hX
      refine r_callV1 (v := .int (b2i r7)) (As := [.int a2]) (rest := []) X hS (m_X0_hasSeam hN q5 h6) mv_X0_hasSeam rfl q5 t5_28 ⟨rfl, rfl, Nat.le_of_ble_eq_true rfl, Nat.le_of_ble_eq_true rfl⟩ rfl hl.1 rfl (Nat.le_of_ble_eq_true rfl) ⟨Nat.zero_le _, Nat.zero_le _⟩ dX3_holds_16 (fun H locs hS => ?_)
      refine lv_if_ne (tgt := 24) hx hb dX3_holds_19 (by decide) (fun c8 => ?_) (fun c8 => ?_)
      · have hX := if_bt c8 hX
        refine lv_aload_n hx hb dX3_holds_24 rfl (lv_at hl 0 rfl) ?_
        refine fg_X3_22 X hS (o_of hN (o := 17) (c := 3) (by decide) rfl) dX3_holds_25 ?_
        refine lv_iload_n hx hb dX3_holds_28 rfl (lv_at hl 1 rfl) ?_
        obtain ⟨g9, hX⟩ := gin_of hX
        refine r_iald (ci := 3) (o := 17) (k := 3) (n := 9) X hS (o_of hN (o := 17) (c := 3) (by decide) rfl) rfl rfl g9 dX3_holds_29 ?_
        refine lv_topi (fun v10 ev10 => ?_)
        have hX := nm_of ev10 hX
        refine lv_istore_n (lv' := [(3, .int v10), (0, .ref (ad 17 0)), (1, .int a1), (2, .int a2)]) hx hb dX3_holds_30 rfl hl (by decide) rfl (fun ls hl => ?_)
        refine lv_aload_n hx hb dX3_holds_31 rfl (lv_at hl 1 rfl) ?_
        refine fg_X3_22 X hS (o_of hN (o := 17) (c := 3) (by decide) rfl) dX3_holds_32 ?_
        refine lv_iload_n hx hb dX3_holds_35 rfl (lv_at hl 2 rfl) ?_
        refine lv_iload_n hx hb dX3_holds_36 rfl (lv_at hl 0 rfl) ?_
        refine lv_iconst (v := nI 1) hx hb dX3_holds_37 (by decide) ?_
        refine lv_iload_n hx hb dX3_holds_38 rfl (lv_at hl 3 rfl) ?_
        refine lv_ishl hx hb dX3_holds_39 ?_
        refine lv_iand hx hb dX3_holds_40 ?_
        obtain ⟨g11, hX⟩ := gin_of hX
        refine r_iast (ci := 3) (o := 17) (k := 3) (n := 9) X hS (o_of hN (o := 17) (c := 3) (by decide) rfl) rfl rfl g11 dX3_holds_41 (fun H locs hS => ?_)
        obtain ⟨M12, eM12, hS, hX⟩ := nm_mem hS hX
        refine lv_aload_n hx hb dX3_holds_42 rfl (lv_at hl 1 rfl) ?_
        obtain ⟨r15, M14, h13, hX⟩ := bp_of hX
        refine r_callV1 (v := .int r15) (As := []) (rest := []) X hS (m_X3_ways hN h13) mv_X3_ways rfl (o_of hN (o := 17) (c := 3) (by decide) rfl) t5_29 ⟨rfl, rfl, Nat.le_of_ble_eq_true rfl, Nat.le_of_ble_eq_true rfl⟩ rfl hl.1 rfl (Nat.le_of_ble_eq_true rfl) ⟨Nat.zero_le _, Nat.zero_le _⟩ dX3_holds_43 (fun H locs hS => ?_)
        refine lv_istore (lv' := [(4, .int r15), (3, .int v10), (0, .ref (ad 17 0)), (1, .int a1), (2, .int a2)]) hx hb dX3_holds_46 hl (by decide) rfl (fun ls hl => ?_)
        refine lv_aload_n hx hb dX3_holds_48 rfl (lv_at hl 2 rfl) ?_
        refine fg_X3_22 X hS (o_of hN (o := 17) (c := 3) (by decide) rfl) dX3_holds_49 ?_
        refine lv_iload_n hx hb dX3_holds_52 rfl (lv_at hl 3 rfl) ?_
        refine lv_iload_n hx hb dX3_holds_53 rfl (lv_at hl 1 rfl) ?_
        obtain ⟨g16, hX⟩ := gin_of hX
        refine r_iast (ci := 3) (o := 17) (k := 3) (n := 9) X hS (o_of hN (o := 17) (c := 3) (by decide) rfl) rfl rfl g16 dX3_holds_54 (fun H locs hS => ?_)
        obtain ⟨M17, eM17, hS, hX⟩ := nm_mem hS hX
        refine lv_iload hx hb dX3_holds_55 (lv_at hl 0 rfl) ?_
        obtain rfl := some_of hX
        exact x_I (v := r15) X hS dX3_holds_57
      · have hX := if_bf c8 hX
        refine lv_iconst (v := nI 0) hx hb dX3_holds_22 (by decide) ?_
        obtain rfl := some_of hX
        exact x_I (v := (nI 0)) X hS dX3_holds_23
  rw [hH, hlo] at hgoal
  exact hgoal
theorem mv_X3_holds : Mv yX3_holds RX3 cX3_holds 5 ((some .int)) 2 := ⟨t5_27, t5_25, t5_26, t1_9, ⟨by decide, by decide⟩, by decide +kernel⟩
/-! SewnYear$Sewing.surelyAt(II)I -/
def rm_X3_surelyAt : Room := { frames := 4, cells := 0, slots := 0, locals := 89 }
def b_X3_surelyAt_2 (a1 : Int32) (a2 : Int32) (rc : Int32 → Mem → Option (Int32 × Mem)) (v_3 : Int32) (M : Mem) : Option (Int32 × Mem) :=
  if (gI M 17 1) ≤ v_3 then (some ((-1), M)) else (bp (f_X3_holds M v_3 a1) fun r4 M3 => if r4 = a2 then (some (v_3, M3)) else (nm (v_3 + nI 1) fun v6 => rc v6 M3))
def f_X3_surelyAt_2 (a1 : Int32) (a2 : Int32) : Nat → (Int32 × Mem) → Option (Int32 × Mem) := lp (fun rc q => b_X3_surelyAt_2 a1 a2 (fun x0 x1 => rc (x0, x1)) q.1 q.2)
def f_X3_surelyAt (M : Mem) (a1 : Int32) (a2 : Int32) : Option (Int32 × Mem) :=
  f_X3_surelyAt_2 a1 a2 FU ((nI 0), M)
set_option maxRecDepth 100000 in
set_option maxHeartbeats 4000000 in
theorem n_X3_surelyAt_2 {a1 : Int32} {a2 : Int32} (X : Cx p s m args meth c D cy ad A RX3 cX3_surelyAt 4 ((some .int))) (hN : NsC ns) : ∀ (n : Nat) (v_3 : Int32) (M : Mem) (r : Int32 × Mem), f_X3_surelyAt_2 a1 a2 n (v_3, M) = some r → ∀ (ls : Array Slot) (H : Heap) (locs : List Loc), lv_has ls 4 [(0, .ref (ad 17 0)), (1, .int a1), (2, .int a2), (3, .int v_3)] → St D cy ad ns A M s.heap H locs → W p l e rm_X3_surelyAt s m args below meth c H locs 0 0 (MQ below (QC D cy ad ns A r.2 (some (.int r.1))) args s 0 0 A) (F0 m 2 ls []) := by
  obtain ⟨hx, hb, hml, hown, hts, hK, hr, hlk, hA, hG⟩ := id X
  intro n
  induction n with
  | zero => intro v_3 M r hX; cases (show (none : Option (Int32 × Mem)) = some r from hX)
  | succ n ih =>
    intro v_3 M r hX ls H locs hl hS
    have hX : b_X3_surelyAt_2 a1 a2 (fun x0 x1 => f_X3_surelyAt_2 a1 a2 n (x0, x1)) v_3 M = some r := hX
    unfold b_X3_surelyAt_2 at hX
    refine lv_iload_n hx hb dX3_surelyAt_2 rfl (lv_at hl 3 rfl) ?_
    refine lv_aload_n hx hb dX3_surelyAt_3 rfl (lv_at hl 0 rfl) ?_
    refine fg_X3_47 X hS (o_of hN (o := 17) (c := 3) (by decide) rfl) dX3_surelyAt_4 ?_
    refine lv_icmp_ge (tgt := 28) hx hb dX3_surelyAt_7 (by decide) (fun c1 => ?_) (fun c1 => ?_)
    · have hX := if_t c1 hX
      refine lv_iconst (v := (-1)) hx hb dX3_surelyAt_28 (by decide) ?_
      obtain rfl := some_of hX
      exact x_I (v := (-1)) X hS dX3_surelyAt_29
    · have hX := if_f c1 hX
      refine lv_aload_n hx hb dX3_surelyAt_10 rfl (lv_at hl 0 rfl) ?_
      refine lv_iload_n hx hb dX3_surelyAt_11 rfl (lv_at hl 3 rfl) ?_
      refine lv_iload_n hx hb dX3_surelyAt_12 rfl (lv_at hl 1 rfl) ?_
      obtain ⟨r4, M3, h2, hX⟩ := bp_of hX
      refine r_callV1 (v := .int r4) (As := [.int v_3, .int a1]) (rest := []) X hS (m_X3_holds hN h2) mv_X3_holds rfl (o_of hN (o := 17) (c := 3) (by decide) rfl) t5_42 ⟨rfl, rfl, Nat.le_of_ble_eq_true rfl, Nat.le_of_ble_eq_true rfl⟩ rfl hl.1 rfl (Nat.le_of_ble_eq_true rfl) ⟨Nat.zero_le _, Nat.zero_le _⟩ dX3_surelyAt_13 (fun H locs hS => ?_)
      refine lv_iload_n hx hb dX3_surelyAt_16 rfl (lv_at hl 2 rfl) ?_
      refine lv_icmp_ne (tgt := 22) hx hb dX3_surelyAt_17 (by decide) (fun c5 => ?_) (fun c5 => ?_)
      · have hX := if_f c5 hX
        obtain ⟨v6, ev6⟩ : ∃ y : Int32, y = (v_3 + nI 1) := ⟨_, rfl⟩
        have hX := nm_of ev6 hX
        refine lv_iinc (v := v6) (lv' := [(3, .int v6), (0, .ref (ad 17 0)), (1, .int a1), (2, .int a2)]) hx hb dX3_surelyAt_22 hl (k := 3) rfl (by rw [ev6]; rfl) (by decide) rfl (fun ls hl => ?_)
        refine lv_goto (tgt := 2) hx hb dX3_surelyAt_25 (by decide) ?_
        exact ih _ _ _ hX _ _ _ (lv_sub hl [1, 2, 3, 0] rfl) hS
      · have hX := if_t c5 hX
        refine lv_iload_n hx hb dX3_surelyAt_20 rfl (lv_at hl 3 rfl) ?_
        obtain rfl := some_of hX
        exact x_I (v := v_3) X hS dX3_surelyAt_21
set_option maxRecDepth 100000 in
set_option maxHeartbeats 4000000 in
theorem m_X3_surelyAt {l : Launch} {D : va_G} {cy : Nat → ClassId} {ad : Nat → Nat → Nat} {ns : List (Nat × Nat)} {A : Nat → Prop} {M : Mem} (hN : NsC ns) {a1 : Int32} {a2 : Int32} {r : Int32 × Mem} (hX : f_X3_surelyAt M a1 a2 = some r) : Ct l yX3_surelyAt cX3_surelyAt 4 ((some .int)) rm_X3_surelyAt D cy ad ns A [.ref (ad 17 0), .int a1, .int a2] M r.2 (some (.int r.1)) := by
  refine ct_of (lv := [(0, .ref (ad 17 0)), (1, .int a1), (2, .int a2)]) (by decide) (Nat.le_of_ble_eq_true rfl) rfl ?_
  intro p e s m args below meth c ls X hl hS
  obtain ⟨hx, hb, hml, hown, hts, hK, hr, hlk, hA, hG⟩ := id X
  obtain ⟨H, hH⟩ : ∃ z, z = s.heap := ⟨_, rfl⟩
  obtain ⟨locs, hlo⟩ : ∃ z : List Loc, z = [] := ⟨_, rfl⟩
  have hS : St D cy ad ns A M s.heap H locs := by rw [hH, hlo]; exact hS
  have hgoal : W p l e rm_X3_surelyAt s m args below meth c H locs 0 0 (MQ below (QC D cy ad ns A r.2 (some (.int r.1))) args s 0 0 A) (F0 m 0 ls []) := by
    unfold f_X3_surelyAt at hX
    refine lv_iconst (v := nI 0) hx hb dX3_surelyAt_0 (by decide) ?_
    refine lv_istore_n (lv' := [(3, .int (nI 0)), (0, .ref (ad 17 0)), (1, .int a1), (2, .int a2)]) hx hb dX3_surelyAt_1 rfl hl (by decide) rfl (fun ls hl => ?_)
    exact n_X3_surelyAt_2 X hN _ _ _ _ hX _ _ _ (lv_sub hl [1, 2, 3, 0] rfl) hS
  rw [hH, hlo] at hgoal
  exact hgoal
theorem mv_X3_surelyAt : Mv yX3_surelyAt RX3 cX3_surelyAt 4 ((some .int)) 2 := ⟨t5_41, t5_39, t5_40, t1_9, ⟨by decide, by decide⟩, by decide +kernel⟩
/-! SewnYear$Sewing.bestAsked(I)I -/
def rm_X3_bestAsked : Room := { frames := 3, cells := 0, slots := 0, locals := 65 }
def f_X3_bestAsked_99 (a1 : Int32) (v_4 : Int32) (k_23 : Int32 → Int32 → Int32 → Mem → Option (Int32 × Mem)) (v_2 : Int32) (v_3 : Int32) (v_5 : Int32) (M : Mem) : Option (Int32 × Mem) :=
  nm (v_5 + nI 1) fun v1 => k_23 v_2 v_3 v1 M
def b_X3_bestAsked_23 (a1 : Int32) (k_8 : Int32 → Int32 → Int32 → Mem → Option (Int32 × Mem)) (v_4 : Int32) (rc : Int32 → Int32 → Int32 → Mem → Option (Int32 × Mem)) (v_2 : Int32) (v_3 : Int32) (v_5 : Int32) (M : Mem) : Option (Int32 × Mem) :=
  if (gI M 17 1) ≤ v_5 then (nm (v_4 + nI 1) fun v3 => k_8 v_2 v_3 v3 M) else (gin v_5 9 <| nm (gA M 17 2 (ix v_5)) fun v5 => gin v_5 9 <| nm (sA M 17 2 (ix v_5) (v5 ||| ((nI 1) <<< (v_4 &&& 31)))) fun M7 => bp (f_X3_ways M7) fun r10 M9 => gin v_5 9 <| nm (sA M9 17 2 (ix v_5) v5) fun M12 => nm (mxI r10 (a1 - r10)) fun v13 => if v_2 ≤ v13 then (f_X3_bestAsked_99 a1 v_4 rc v_2 v_3 v_5 M12) else (nm (((nI 9) * v_4) + v_5) fun v15 => f_X3_bestAsked_99 a1 v_4 rc v13 v15 v_5 M12))
def f_X3_bestAsked_23 (a1 : Int32) (k_8 : Int32 → Int32 → Int32 → Mem → Option (Int32 × Mem)) (v_4 : Int32) : Nat → (Int32 × Int32 × Int32 × Mem) → Option (Int32 × Mem) := lp (fun rc q => b_X3_bestAsked_23 a1 k_8 v_4 (fun x0 x1 x2 x3 => rc (x0, x1, x2, x3)) q.1 q.2.1 q.2.2.1 q.2.2.2)
def b_X3_bestAsked_8 (a1 : Int32) (rc : Int32 → Int32 → Int32 → Mem → Option (Int32 × Mem)) (v_2 : Int32) (v_3 : Int32) (v_4 : Int32) (M : Mem) : Option (Int32 × Mem) :=
  if (gI M 17 1) ≤ v_4 then (some (v_3, M)) else (nm (v_4 + (nI 1)) fun v17 => f_X3_bestAsked_23 a1 rc v_4 FU (v_2, v_3, v17, M))
def f_X3_bestAsked_8 (a1 : Int32) : Nat → (Int32 × Int32 × Int32 × Mem) → Option (Int32 × Mem) := lp (fun rc q => b_X3_bestAsked_8 a1 (fun x0 x1 x2 x3 => rc (x0, x1, x2, x3)) q.1 q.2.1 q.2.2.1 q.2.2.2)
def f_X3_bestAsked (M : Mem) (a1 : Int32) : Option (Int32 × Mem) :=
  f_X3_bestAsked_8 a1 FU ((nI 1000000), (-1), (nI 0), M)
set_option maxRecDepth 100000 in
set_option maxHeartbeats 4000000 in
theorem n_X3_bestAsked_99 {a1 : Int32} {v_4 : Int32} (X : Cx p s m args meth c D cy ad A RX3 cX3_bestAsked 9 ((some .int))) (hN : NsC ns) {k_23 : Int32 → Int32 → Int32 → Mem → Option (Int32 × Mem)} {v_2 : Int32} {v_3 : Int32} {v_5 : Int32} {M : Mem} {r : Int32 × Mem} (hX : f_X3_bestAsked_99 a1 v_4 k_23 v_2 v_3 v_5 M = some r) : (∀ (v_2 : Int32) (v_3 : Int32) (v_5 : Int32) (M : Mem) (r : Int32 × Mem), k_23 v_2 v_3 v_5 M = some r → ∀ (ls : Array Slot) (H : Heap) (locs : List Loc), lv_has ls 9 [(0, .ref (ad 17 0)), (1, .int a1), (2, .int v_2), (3, .int v_3), (4, .int v_4), (5, .int v_5)] → St D cy ad ns A M s.heap H locs → W p l e rm_X3_bestAsked s m args below meth c H locs 0 0 (MQ below (QC D cy ad ns A r.2 (some (.int r.1))) args s 0 0 A) (F0 m 23 ls [])) → ∀ (ls : Array Slot) (H : Heap) (locs : List Loc), lv_has ls 9 [(0, .ref (ad 17 0)), (1, .int a1), (2, .int v_2), (3, .int v_3), (4, .int v_4), (5, .int v_5)] → St D cy ad ns A M s.heap H locs → W p l e rm_X3_bestAsked s m args below meth c H locs 0 0 (MQ below (QC D cy ad ns A r.2 (some (.int r.1))) args s 0 0 A) (F0 m 99 ls []) := by
  obtain ⟨hx, hb, hml, hown, hts, hK, hr, hlk, hA, hG⟩ := id X
  intro hk_23 ls H locs hl hS
  unfold f_X3_bestAsked_99 at hX
  obtain ⟨v1, ev1⟩ : ∃ y : Int32, y = (v_5 + nI 1) := ⟨_, rfl⟩
  have hX := nm_of ev1 hX
  refine lv_iinc (v := v1) (lv' := [(5, .int v1), (0, .ref (ad 17 0)), (1, .int a1), (2, .int v_2), (3, .int v_3), (4, .int v_4)]) hx hb dX3_bestAsked_99 hl (k := 5) rfl (by rw [ev1]; rfl) (by decide) rfl (fun ls hl => ?_)
  refine lv_goto (tgt := 23) hx hb dX3_bestAsked_102 (by decide) ?_
  exact hk_23 _ _ _ _ _ hX _ _ _ (lv_sub hl [1, 2, 3, 4, 5, 0] rfl) hS
set_option maxRecDepth 100000 in
set_option maxHeartbeats 4000000 in
theorem n_X3_bestAsked_23 {a1 : Int32} (X : Cx p s m args meth c D cy ad A RX3 cX3_bestAsked 9 ((some .int))) (hN : NsC ns) {k_8 : Int32 → Int32 → Int32 → Mem → Option (Int32 × Mem)} {v_4 : Int32} : ∀ (n : Nat) (v_2 : Int32) (v_3 : Int32) (v_5 : Int32) (M : Mem) (r : Int32 × Mem), f_X3_bestAsked_23 a1 k_8 v_4 n (v_2, v_3, v_5, M) = some r → (∀ (v_2 : Int32) (v_3 : Int32) (v_4 : Int32) (M : Mem) (r : Int32 × Mem), k_8 v_2 v_3 v_4 M = some r → ∀ (ls : Array Slot) (H : Heap) (locs : List Loc), lv_has ls 9 [(0, .ref (ad 17 0)), (1, .int a1), (2, .int v_2), (3, .int v_3), (4, .int v_4)] → St D cy ad ns A M s.heap H locs → W p l e rm_X3_bestAsked s m args below meth c H locs 0 0 (MQ below (QC D cy ad ns A r.2 (some (.int r.1))) args s 0 0 A) (F0 m 8 ls [])) → ∀ (ls : Array Slot) (H : Heap) (locs : List Loc), lv_has ls 9 [(0, .ref (ad 17 0)), (1, .int a1), (2, .int v_2), (3, .int v_3), (4, .int v_4), (5, .int v_5)] → St D cy ad ns A M s.heap H locs → W p l e rm_X3_bestAsked s m args below meth c H locs 0 0 (MQ below (QC D cy ad ns A r.2 (some (.int r.1))) args s 0 0 A) (F0 m 23 ls []) := by
  obtain ⟨hx, hb, hml, hown, hts, hK, hr, hlk, hA, hG⟩ := id X
  intro n
  induction n with
  | zero => intro v_2 v_3 v_5 M r hX; cases (show (none : Option (Int32 × Mem)) = some r from hX)
  | succ n ih =>
    intro v_2 v_3 v_5 M r hX hk_8 ls H locs hl hS
    have hX : b_X3_bestAsked_23 a1 k_8 v_4 (fun x0 x1 x2 x3 => f_X3_bestAsked_23 a1 k_8 v_4 n (x0, x1, x2, x3)) v_2 v_3 v_5 M = some r := hX
    unfold b_X3_bestAsked_23 at hX
    refine lv_iload hx hb dX3_bestAsked_23 (lv_at hl 5 rfl) ?_
    refine lv_aload_n hx hb dX3_bestAsked_25 rfl (lv_at hl 0 rfl) ?_
    refine fg_X3_47 X hS (o_of hN (o := 17) (c := 3) (by decide) rfl) dX3_bestAsked_26 ?_
    refine lv_icmp_ge (tgt := 105) hx hb dX3_bestAsked_29 (by decide) (fun c2 => ?_) (fun c2 => ?_)
    · have hX := if_t c2 hX
      obtain ⟨v3, ev3⟩ : ∃ y : Int32, y = (v_4 + nI 1) := ⟨_, rfl⟩
      have hX := nm_of ev3 hX
      refine lv_iinc (v := v3) (lv' := [(4, .int v3), (0, .ref (ad 17 0)), (1, .int a1), (2, .int v_2), (3, .int v_3), (5, .int v_5)]) hx hb dX3_bestAsked_105 hl (k := 4) rfl (by rw [ev3]; rfl) (by decide) rfl (fun ls hl => ?_)
      refine lv_goto (tgt := 8) hx hb dX3_bestAsked_108 (by decide) ?_
      exact hk_8 _ _ _ _ _ hX _ _ _ (lv_sub hl [1, 2, 3, 4, 0] rfl) hS
    · have hX := if_f c2 hX
      refine lv_aload_n hx hb dX3_bestAsked_32 rfl (lv_at hl 0 rfl) ?_
      refine fg_X3_18 X hS (o_of hN (o := 17) (c := 3) (by decide) rfl) dX3_bestAsked_33 ?_
      refine lv_iload hx hb dX3_bestAsked_36 (lv_at hl 5 rfl) ?_
      obtain ⟨g4, hX⟩ := gin_of hX
      refine r_iald (ci := 3) (o := 17) (k := 2) (n := 9) X hS (o_of hN (o := 17) (c := 3) (by decide) rfl) rfl rfl g4 dX3_bestAsked_38 ?_
      refine lv_topi (fun v5 ev5 => ?_)
      have hX := nm_of ev5 hX
      refine lv_istore (lv' := [(6, .int v5), (0, .ref (ad 17 0)), (1, .int a1), (2, .int v_2), (3, .int v_3), (4, .int v_4), (5, .int v_5)]) hx hb dX3_bestAsked_39 hl (by decide) rfl (fun ls hl => ?_)
      refine lv_aload_n hx hb dX3_bestAsked_41 rfl (lv_at hl 1 rfl) ?_
      refine fg_X3_18 X hS (o_of hN (o := 17) (c := 3) (by decide) rfl) dX3_bestAsked_42 ?_
      refine lv_iload hx hb dX3_bestAsked_45 (lv_at hl 6 rfl) ?_
      refine lv_iload hx hb dX3_bestAsked_47 (lv_at hl 0 rfl) ?_
      refine lv_iconst (v := nI 1) hx hb dX3_bestAsked_49 (by decide) ?_
      refine lv_iload hx hb dX3_bestAsked_50 (lv_at hl 5 rfl) ?_
      refine lv_ishl hx hb dX3_bestAsked_52 ?_
      refine lv_ior hx hb dX3_bestAsked_53 ?_
      obtain ⟨g6, hX⟩ := gin_of hX
      refine r_iast (ci := 3) (o := 17) (k := 2) (n := 9) X hS (o_of hN (o := 17) (c := 3) (by decide) rfl) rfl rfl g6 dX3_bestAsked_54 (fun H locs hS => ?_)
      obtain ⟨M7, eM7, hS, hX⟩ := nm_mem hS hX
      refine lv_aload_n hx hb dX3_bestAsked_55 rfl (lv_at hl 1 rfl) ?_
      obtain ⟨r10, M9, h8, hX⟩ := bp_of hX
      refine r_callV1 (v := .int r10) (As := []) (rest := []) X hS (m_X3_ways hN h8) mv_X3_ways rfl (o_of hN (o := 17) (c := 3) (by decide) rfl) t5_29 ⟨rfl, rfl, Nat.le_of_ble_eq_true rfl, Nat.le_of_ble_eq_true rfl⟩ rfl hl.1 rfl (Nat.le_of_ble_eq_true rfl) ⟨Nat.zero_le _, Nat.zero_le _⟩ dX3_bestAsked_56 (fun H locs hS => ?_)
      refine lv_istore (lv' := [(7, .int r10), (6, .int v5), (0, .ref (ad 17 0)), (1, .int a1), (2, .int v_2), (3, .int v_3), (4, .int v_4), (5, .int v_5)]) hx hb dX3_bestAsked_59 hl (by decide) rfl (fun ls hl => ?_)
      refine lv_aload_n hx hb dX3_bestAsked_61 rfl (lv_at hl 2 rfl) ?_
      refine fg_X3_18 X hS (o_of hN (o := 17) (c := 3) (by decide) rfl) dX3_bestAsked_62 ?_
      refine lv_iload hx hb dX3_bestAsked_65 (lv_at hl 7 rfl) ?_
      refine lv_iload hx hb dX3_bestAsked_67 (lv_at hl 1 rfl) ?_
      obtain ⟨g11, hX⟩ := gin_of hX
      refine r_iast (ci := 3) (o := 17) (k := 2) (n := 9) X hS (o_of hN (o := 17) (c := 3) (by decide) rfl) rfl rfl g11 dX3_bestAsked_69 (fun H locs hS => ?_)
      obtain ⟨M12, eM12, hS, hX⟩ := nm_mem hS hX
      refine lv_iload hx hb dX3_bestAsked_70 (lv_at hl 0 rfl) ?_
      refine lv_iload_n hx hb dX3_bestAsked_72 rfl (lv_at hl 3 rfl) ?_
      refine lv_iload hx hb dX3_bestAsked_73 (lv_at hl 0 rfl) ?_
      refine lv_isub hx hb dX3_bestAsked_75 ?_
      refine va_mmax hx hb (hml.trans hl.1.symm) (own := RX3) hown (hts _ t4_114) (hts _ jm_max.1) (hts _ jm_max.2.1) (hts _ jm_max.2.2) (Nat.le_of_ble_eq_true rfl) (Nat.le_of_ble_eq_true rfl) (Nat.zero_le _) (Nat.zero_le _) dX3_bestAsked_76 ?_
      refine lv_topi (fun v13 ev13 => ?_)
      have hX := nm_of ev13 hX
      refine lv_istore (lv' := [(8, .int v13), (7, .int r10), (6, .int v5), (0, .ref (ad 17 0)), (1, .int a1), (2, .int v_2), (3, .int v_3), (4, .int v_4), (5, .int v_5)]) hx hb dX3_bestAsked_79 hl (by decide) rfl (fun ls hl => ?_)
      refine lv_iload hx hb dX3_bestAsked_81 (lv_at hl 0 rfl) ?_
      refine lv_iload_n hx hb dX3_bestAsked_83 rfl (lv_at hl 5 rfl) ?_
      refine lv_icmp_ge (tgt := 99) hx hb dX3_bestAsked_84 (by decide) (fun c14 => ?_) (fun c14 => ?_)
      · have hX := if_t c14 hX
        exact n_X3_bestAsked_99 X hN hX (fun z0 z1 z2 z3 r h ls H locs hl hS => ih z0 z1 z2 z3 r h hk_8 ls H locs hl hS) _ _ _ (lv_sub hl [3, 4, 5, 6, 7, 8] rfl) hS
      · have hX := if_f c14 hX
        refine lv_iload hx hb dX3_bestAsked_87 (lv_at hl 0 rfl) ?_
        refine lv_istore_n (lv' := [(2, .int v13), (8, .int v13), (7, .int r10), (6, .int v5), (0, .ref (ad 17 0)), (1, .int a1), (3, .int v_3), (4, .int v_4), (5, .int v_5)]) hx hb dX3_bestAsked_89 rfl hl (by decide) rfl (fun ls hl => ?_)
        refine lv_bipush (v := nI 9) hx hb dX3_bestAsked_90 (by decide) ?_
        refine lv_iload hx hb dX3_bestAsked_92 (lv_at hl 7 rfl) ?_
        refine lv_imul hx hb dX3_bestAsked_94 ?_
        refine lv_iload hx hb dX3_bestAsked_95 (lv_at hl 8 rfl) ?_
        refine lv_iadd hx hb dX3_bestAsked_97 ?_
        refine lv_topi (fun v15 ev15 => ?_)
        have hX := nm_of ev15 hX
        refine lv_istore_n (lv' := [(3, .int v15), (2, .int v13), (8, .int v13), (7, .int r10), (6, .int v5), (0, .ref (ad 17 0)), (1, .int a1), (4, .int v_4), (5, .int v_5)]) hx hb dX3_bestAsked_98 rfl hl (by decide) rfl (fun ls hl => ?_)
        exact n_X3_bestAsked_99 X hN hX (fun z0 z1 z2 z3 r h ls H locs hl hS => ih z0 z1 z2 z3 r h hk_8 ls H locs hl hS) _ _ _ (lv_sub hl [5, 6, 1, 0, 7, 8] rfl) hS
set_option maxRecDepth 100000 in
set_option maxHeartbeats 4000000 in
theorem n_X3_bestAsked_8 {a1 : Int32} (X : Cx p s m args meth c D cy ad A RX3 cX3_bestAsked 9 ((some .int))) (hN : NsC ns) : ∀ (n : Nat) (v_2 : Int32) (v_3 : Int32) (v_4 : Int32) (M : Mem) (r : Int32 × Mem), f_X3_bestAsked_8 a1 n (v_2, v_3, v_4, M) = some r → ∀ (ls : Array Slot) (H : Heap) (locs : List Loc), lv_has ls 9 [(0, .ref (ad 17 0)), (1, .int a1), (2, .int v_2), (3, .int v_3), (4, .int v_4)] → St D cy ad ns A M s.heap H locs → W p l e rm_X3_bestAsked s m args below meth c H locs 0 0 (MQ below (QC D cy ad ns A r.2 (some (.int r.1))) args s 0 0 A) (F0 m 8 ls []) := by
  obtain ⟨hx, hb, hml, hown, hts, hK, hr, hlk, hA, hG⟩ := id X
  intro n
  induction n with
  | zero => intro v_2 v_3 v_4 M r hX; cases (show (none : Option (Int32 × Mem)) = some r from hX)
  | succ n ih =>
    intro v_2 v_3 v_4 M r hX ls H locs hl hS
    have hX : b_X3_bestAsked_8 a1 (fun x0 x1 x2 x3 => f_X3_bestAsked_8 a1 n (x0, x1, x2, x3)) v_2 v_3 v_4 M = some r := hX
    unfold b_X3_bestAsked_8 at hX
    refine lv_iload hx hb dX3_bestAsked_8 (lv_at hl 4 rfl) ?_
    refine lv_aload_n hx hb dX3_bestAsked_10 rfl (lv_at hl 0 rfl) ?_
    refine fg_X3_47 X hS (o_of hN (o := 17) (c := 3) (by decide) rfl) dX3_bestAsked_11 ?_
    refine lv_icmp_ge (tgt := 111) hx hb dX3_bestAsked_14 (by decide) (fun c16 => ?_) (fun c16 => ?_)
    · have hX := if_t c16 hX
      refine lv_iload_n hx hb dX3_bestAsked_111 rfl (lv_at hl 3 rfl) ?_
      obtain rfl := some_of hX
      exact x_I (v := v_3) X hS dX3_bestAsked_112
    · have hX := if_f c16 hX
      refine lv_iload hx hb dX3_bestAsked_17 (lv_at hl 4 rfl) ?_
      refine lv_iconst (v := nI 1) hx hb dX3_bestAsked_19 (by decide) ?_
      refine lv_iadd hx hb dX3_bestAsked_20 ?_
      refine lv_topi (fun v17 ev17 => ?_)
      have hX := nm_of ev17 hX
      refine lv_istore (lv' := [(5, .int v17), (0, .ref (ad 17 0)), (1, .int a1), (2, .int v_2), (3, .int v_3), (4, .int v_4)]) hx hb dX3_bestAsked_21 hl (by decide) rfl (fun ls hl => ?_)
      exact n_X3_bestAsked_23 X hN _ _ _ _ _ _ hX (fun z0 z1 z2 z3 r h ls H locs hl hS => ih z0 z1 z2 z3 r h ls H locs hl hS) _ _ _ (lv_sub hl [1, 2, 3, 4, 5, 0] rfl) hS
set_option maxRecDepth 100000 in
set_option maxHeartbeats 4000000 in
theorem m_X3_bestAsked {l : Launch} {D : va_G} {cy : Nat → ClassId} {ad : Nat → Nat → Nat} {ns : List (Nat × Nat)} {A : Nat → Prop} {M : Mem} (hN : NsC ns) {a1 : Int32} {r : Int32 × Mem} (hX : f_X3_bestAsked M a1 = some r) : Ct l yX3_bestAsked cX3_bestAsked 9 ((some .int)) rm_X3_bestAsked D cy ad ns A [.ref (ad 17 0), .int a1] M r.2 (some (.int r.1)) := by
  refine ct_of (lv := [(0, .ref (ad 17 0)), (1, .int a1)]) (by decide) (Nat.le_of_ble_eq_true rfl) rfl ?_
  intro p e s m args below meth c ls X hl hS
  obtain ⟨hx, hb, hml, hown, hts, hK, hr, hlk, hA, hG⟩ := id X
  obtain ⟨H, hH⟩ : ∃ z, z = s.heap := ⟨_, rfl⟩
  obtain ⟨locs, hlo⟩ : ∃ z : List Loc, z = [] := ⟨_, rfl⟩
  have hS : St D cy ad ns A M s.heap H locs := by rw [hH, hlo]; exact hS
  have hgoal : W p l e rm_X3_bestAsked s m args below meth c H locs 0 0 (MQ below (QC D cy ad ns A r.2 (some (.int r.1))) args s 0 0 A) (F0 m 0 ls []) := by
    unfold f_X3_bestAsked at hX
    refine lv_ldc hx hb (own := RX3) hown (hts _ t4_81) dX3_bestAsked_0 ?_
    refine lv_istore_n (lv' := [(2, .int (nI 1000000)), (0, .ref (ad 17 0)), (1, .int a1)]) hx hb dX3_bestAsked_2 rfl hl (by decide) rfl (fun ls hl => ?_)
    refine lv_iconst (v := (-1)) hx hb dX3_bestAsked_3 (by decide) ?_
    refine lv_istore_n (lv' := [(3, .int (-1)), (2, .int (nI 1000000)), (0, .ref (ad 17 0)), (1, .int a1)]) hx hb dX3_bestAsked_4 rfl hl (by decide) rfl (fun ls hl => ?_)
    refine lv_iconst (v := nI 0) hx hb dX3_bestAsked_5 (by decide) ?_
    refine lv_istore (lv' := [(4, .int (nI 0)), (3, .int (-1)), (2, .int (nI 1000000)), (0, .ref (ad 17 0)), (1, .int a1)]) hx hb dX3_bestAsked_6 hl (by decide) rfl (fun ls hl => ?_)
    exact n_X3_bestAsked_8 X hN _ _ _ _ _ _ hX _ _ _ (lv_sub hl [3, 4, 2, 1, 0] rfl) hS
  rw [hH, hlo] at hgoal
  exact hgoal
theorem mv_X3_bestAsked : Mv yX3_bestAsked RX3 cX3_bestAsked 9 ((some .int)) 1 := ⟨t5_37, t5_35, t5_36, t1_9, ⟨by decide, by decide⟩, by decide +kernel⟩
/-! SewnYear$Sewing.layFirst()Z -/
def rm_X3_layFirst : Room := { frames := 2, cells := 0, slots := 0, locals := 42 }
def f_X3_layFirst_37 (k_4 : Int32 → Int32 → Mem → Option (Bool × Mem)) (v_1 : Int32) (v_2 : Int32) (v_3 : Int32) (M : Mem) : Option (Bool × Mem) :=
  if v_3 = (gI M 17 1) then (some (false, M)) else (gin v_2 9 <| nm (sA M 17 4 (ix v_2) v_3) fun M3 => nm (v_1 ||| ((nI 1) <<< (v_3 &&& 31))) fun v4 => nm (v_2 + nI 1) fun v5 => k_4 v4 v5 M3)
def b_X3_layFirst_14 (k_4 : Int32 → Int32 → Mem → Option (Bool × Mem)) (v_1 : Int32) (v_2 : Int32) (rc : Int32 → Mem → Option (Bool × Mem)) (v_3 : Int32) (M : Mem) : Option (Bool × Mem) :=
  if (gI M 17 1) ≤ v_3 then (f_X3_layFirst_37 k_4 v_1 v_2 v_3 M) else (bn (f_X3_mayCome M v_3 v_1) fun r8 => if r8 = true then (f_X3_layFirst_37 k_4 v_1 v_2 v_3 M) else (nm (v_3 + nI 1) fun v10 => rc v10 M))
def f_X3_layFirst_14 (k_4 : Int32 → Int32 → Mem → Option (Bool × Mem)) (v_1 : Int32) (v_2 : Int32) : Nat → (Int32 × Mem) → Option (Bool × Mem) := lp (fun rc q => b_X3_layFirst_14 k_4 v_1 v_2 (fun x0 x1 => rc (x0, x1)) q.1 q.2)
def b_X3_layFirst_4 (rc : Int32 → Int32 → Mem → Option (Bool × Mem)) (v_1 : Int32) (v_2 : Int32) (M : Mem) : Option (Bool × Mem) :=
  if (gI M 17 1) ≤ v_2 then (some (true, M)) else (f_X3_layFirst_14 rc v_1 v_2 FU ((nI 0), M))
def f_X3_layFirst_4 : Nat → (Int32 × Int32 × Mem) → Option (Bool × Mem) := lp (fun rc q => b_X3_layFirst_4 (fun x0 x1 x2 => rc (x0, x1, x2)) q.1 q.2.1 q.2.2)
def f_X3_layFirst (M : Mem) : Option (Bool × Mem) :=
  f_X3_layFirst_4 FU ((nI 0), (nI 0), M)
set_option maxRecDepth 100000 in
set_option maxHeartbeats 4000000 in
theorem n_X3_layFirst_37 (X : Cx p s m args meth c D cy ad A RX3 cX3_layFirst 4 ((some .boolean))) (hN : NsC ns) {k_4 : Int32 → Int32 → Mem → Option (Bool × Mem)} {v_1 : Int32} {v_2 : Int32} {v_3 : Int32} {M : Mem} {r : Bool × Mem} (hX : f_X3_layFirst_37 k_4 v_1 v_2 v_3 M = some r) : (∀ (v_1 : Int32) (v_2 : Int32) (M : Mem) (r : Bool × Mem), k_4 v_1 v_2 M = some r → ∀ (ls : Array Slot) (H : Heap) (locs : List Loc), lv_has ls 4 [(0, .ref (ad 17 0)), (1, .int v_1), (2, .int v_2)] → St D cy ad ns A M s.heap H locs → W p l e rm_X3_layFirst s m args below meth c H locs 0 0 (MQ below (QC D cy ad ns A r.2 (some (.int (b2i r.1)))) args s 0 0 A) (F0 m 4 ls [])) → ∀ (ls : Array Slot) (H : Heap) (locs : List Loc), lv_has ls 4 [(0, .ref (ad 17 0)), (1, .int v_1), (2, .int v_2), (3, .int v_3)] → St D cy ad ns A M s.heap H locs → W p l e rm_X3_layFirst s m args below meth c H locs 0 0 (MQ below (QC D cy ad ns A r.2 (some (.int (b2i r.1)))) args s 0 0 A) (F0 m 37 ls []) := by
  obtain ⟨hx, hb, hml, hown, hts, hK, hr, hlk, hA, hG⟩ := id X
  intro hk_4 ls H locs hl hS
  unfold f_X3_layFirst_37 at hX
  refine lv_iload_n hx hb dX3_layFirst_37 rfl (lv_at hl 3 rfl) ?_
  refine lv_aload_n hx hb dX3_layFirst_38 rfl (lv_at hl 0 rfl) ?_
  refine fg_X3_47 X hS (o_of hN (o := 17) (c := 3) (by decide) rfl) dX3_layFirst_39 ?_
  refine lv_icmp_ne (tgt := 47) hx hb dX3_layFirst_42 (by decide) (fun c1 => ?_) (fun c1 => ?_)
  · have hX := if_f c1 hX
    refine lv_aload_n hx hb dX3_layFirst_47 rfl (lv_at hl 0 rfl) ?_
    refine fg_X3_25 X hS (o_of hN (o := 17) (c := 3) (by decide) rfl) dX3_layFirst_48 ?_
    refine lv_iload_n hx hb dX3_layFirst_51 rfl (lv_at hl 2 rfl) ?_
    refine lv_iload_n hx hb dX3_layFirst_52 rfl (lv_at hl 3 rfl) ?_
    obtain ⟨g2, hX⟩ := gin_of hX
    refine r_iast (ci := 3) (o := 17) (k := 4) (n := 9) X hS (o_of hN (o := 17) (c := 3) (by decide) rfl) rfl rfl g2 dX3_layFirst_53 (fun H locs hS => ?_)
    obtain ⟨M3, eM3, hS, hX⟩ := nm_mem hS hX
    refine lv_iload_n hx hb dX3_layFirst_54 rfl (lv_at hl 1 rfl) ?_
    refine lv_iconst (v := nI 1) hx hb dX3_layFirst_55 (by decide) ?_
    refine lv_iload_n hx hb dX3_layFirst_56 rfl (lv_at hl 3 rfl) ?_
    refine lv_ishl hx hb dX3_layFirst_57 ?_
    refine lv_ior hx hb dX3_layFirst_58 ?_
    refine lv_topi (fun v4 ev4 => ?_)
    have hX := nm_of ev4 hX
    refine lv_istore_n (lv' := [(1, .int v4), (0, .ref (ad 17 0)), (2, .int v_2), (3, .int v_3)]) hx hb dX3_layFirst_59 rfl hl (by decide) rfl (fun ls hl => ?_)
    obtain ⟨v5, ev5⟩ : ∃ y : Int32, y = (v_2 + nI 1) := ⟨_, rfl⟩
    have hX := nm_of ev5 hX
    refine lv_iinc (v := v5) (lv' := [(2, .int v5), (1, .int v4), (0, .ref (ad 17 0)), (3, .int v_3)]) hx hb dX3_layFirst_60 hl (k := 2) rfl (by rw [ev5]; rfl) (by decide) rfl (fun ls hl => ?_)
    refine lv_goto (tgt := 4) hx hb dX3_layFirst_63 (by decide) ?_
    exact hk_4 _ _ _ _ hX _ _ _ (lv_sub hl [2, 1, 0] rfl) hS
  · have hX := if_t c1 hX
    refine lv_iconst (v := nI 0) hx hb dX3_layFirst_45 (by decide) ?_
    obtain rfl := some_of hX
    exact x_Z (v := false) X hS dX3_layFirst_46
set_option maxRecDepth 100000 in
set_option maxHeartbeats 4000000 in
theorem n_X3_layFirst_14 (X : Cx p s m args meth c D cy ad A RX3 cX3_layFirst 4 ((some .boolean))) (hN : NsC ns) {k_4 : Int32 → Int32 → Mem → Option (Bool × Mem)} {v_1 : Int32} {v_2 : Int32} : ∀ (n : Nat) (v_3 : Int32) (M : Mem) (r : Bool × Mem), f_X3_layFirst_14 k_4 v_1 v_2 n (v_3, M) = some r → (∀ (v_1 : Int32) (v_2 : Int32) (M : Mem) (r : Bool × Mem), k_4 v_1 v_2 M = some r → ∀ (ls : Array Slot) (H : Heap) (locs : List Loc), lv_has ls 4 [(0, .ref (ad 17 0)), (1, .int v_1), (2, .int v_2)] → St D cy ad ns A M s.heap H locs → W p l e rm_X3_layFirst s m args below meth c H locs 0 0 (MQ below (QC D cy ad ns A r.2 (some (.int (b2i r.1)))) args s 0 0 A) (F0 m 4 ls [])) → ∀ (ls : Array Slot) (H : Heap) (locs : List Loc), lv_has ls 4 [(0, .ref (ad 17 0)), (1, .int v_1), (2, .int v_2), (3, .int v_3)] → St D cy ad ns A M s.heap H locs → W p l e rm_X3_layFirst s m args below meth c H locs 0 0 (MQ below (QC D cy ad ns A r.2 (some (.int (b2i r.1)))) args s 0 0 A) (F0 m 14 ls []) := by
  obtain ⟨hx, hb, hml, hown, hts, hK, hr, hlk, hA, hG⟩ := id X
  intro n
  induction n with
  | zero => intro v_3 M r hX; cases (show (none : Option (Bool × Mem)) = some r from hX)
  | succ n ih =>
    intro v_3 M r hX hk_4 ls H locs hl hS
    have hX : b_X3_layFirst_14 k_4 v_1 v_2 (fun x0 x1 => f_X3_layFirst_14 k_4 v_1 v_2 n (x0, x1)) v_3 M = some r := hX
    unfold b_X3_layFirst_14 at hX
    refine lv_iload_n hx hb dX3_layFirst_14 rfl (lv_at hl 3 rfl) ?_
    refine lv_aload_n hx hb dX3_layFirst_15 rfl (lv_at hl 0 rfl) ?_
    refine fg_X3_47 X hS (o_of hN (o := 17) (c := 3) (by decide) rfl) dX3_layFirst_16 ?_
    refine lv_icmp_ge (tgt := 37) hx hb dX3_layFirst_19 (by decide) (fun c6 => ?_) (fun c6 => ?_)
    · have hX := if_t c6 hX
      exact n_X3_layFirst_37 X hN hX hk_4 _ _ _ (lv_sub hl [0, 1, 2, 3] rfl) hS
    · have hX := if_f c6 hX
      refine lv_aload_n hx hb dX3_layFirst_22 rfl (lv_at hl 0 rfl) ?_
      refine lv_iload_n hx hb dX3_layFirst_23 rfl (lv_at hl 3 rfl) ?_
      refine lv_iload_n hx hb dX3_layFirst_24 rfl (lv_at hl 1 rfl) ?_
      obtain ⟨r8, h7, hX⟩ := bn_of hX
      refine r_callV1 (v := .int (b2i r8)) (As := [.int v_3, .int v_1]) (rest := []) X hS (m_X3_mayCome hN h7) mv_X3_mayCome rfl (o_of hN (o := 17) (c := 3) (by decide) rfl) t4_41 ⟨rfl, rfl, Nat.le_of_ble_eq_true rfl, Nat.le_of_ble_eq_true rfl⟩ rfl hl.1 rfl (Nat.le_of_ble_eq_true rfl) ⟨Nat.zero_le _, Nat.zero_le _⟩ dX3_layFirst_25 (fun H locs hS => ?_)
      refine lv_if_ne (tgt := 37) hx hb dX3_layFirst_28 (by decide) (fun c9 => ?_) (fun c9 => ?_)
      · have hX := if_bt c9 hX
        exact n_X3_layFirst_37 X hN hX hk_4 _ _ _ (lv_sub hl [0, 1, 2, 3] rfl) hS
      · have hX := if_bf c9 hX
        obtain ⟨v10, ev10⟩ : ∃ y : Int32, y = (v_3 + nI 1) := ⟨_, rfl⟩
        have hX := nm_of ev10 hX
        refine lv_iinc (v := v10) (lv' := [(3, .int v10), (0, .ref (ad 17 0)), (1, .int v_1), (2, .int v_2)]) hx hb dX3_layFirst_31 hl (k := 3) rfl (by rw [ev10]; rfl) (by decide) rfl (fun ls hl => ?_)
        refine lv_goto (tgt := 14) hx hb dX3_layFirst_34 (by decide) ?_
        exact ih _ _ _ hX hk_4 _ _ _ (lv_sub hl [1, 2, 3, 0] rfl) hS
set_option maxRecDepth 100000 in
set_option maxHeartbeats 4000000 in
theorem n_X3_layFirst_4 (X : Cx p s m args meth c D cy ad A RX3 cX3_layFirst 4 ((some .boolean))) (hN : NsC ns) : ∀ (n : Nat) (v_1 : Int32) (v_2 : Int32) (M : Mem) (r : Bool × Mem), f_X3_layFirst_4 n (v_1, v_2, M) = some r → ∀ (ls : Array Slot) (H : Heap) (locs : List Loc), lv_has ls 4 [(0, .ref (ad 17 0)), (1, .int v_1), (2, .int v_2)] → St D cy ad ns A M s.heap H locs → W p l e rm_X3_layFirst s m args below meth c H locs 0 0 (MQ below (QC D cy ad ns A r.2 (some (.int (b2i r.1)))) args s 0 0 A) (F0 m 4 ls []) := by
  obtain ⟨hx, hb, hml, hown, hts, hK, hr, hlk, hA, hG⟩ := id X
  intro n
  induction n with
  | zero => intro v_1 v_2 M r hX; cases (show (none : Option (Bool × Mem)) = some r from hX)
  | succ n ih =>
    intro v_1 v_2 M r hX ls H locs hl hS
    have hX : b_X3_layFirst_4 (fun x0 x1 x2 => f_X3_layFirst_4 n (x0, x1, x2)) v_1 v_2 M = some r := hX
    unfold b_X3_layFirst_4 at hX
    refine lv_iload_n hx hb dX3_layFirst_4 rfl (lv_at hl 2 rfl) ?_
    refine lv_aload_n hx hb dX3_layFirst_5 rfl (lv_at hl 0 rfl) ?_
    refine fg_X3_47 X hS (o_of hN (o := 17) (c := 3) (by decide) rfl) dX3_layFirst_6 ?_
    refine lv_icmp_ge (tgt := 66) hx hb dX3_layFirst_9 (by decide) (fun c11 => ?_) (fun c11 => ?_)
    · have hX := if_t c11 hX
      refine lv_iconst (v := nI 1) hx hb dX3_layFirst_66 (by decide) ?_
      obtain rfl := some_of hX
      exact x_Z (v := true) X hS dX3_layFirst_67
    · have hX := if_f c11 hX
      refine lv_iconst (v := nI 0) hx hb dX3_layFirst_12 (by decide) ?_
      refine lv_istore_n (lv' := [(3, .int (nI 0)), (0, .ref (ad 17 0)), (1, .int v_1), (2, .int v_2)]) hx hb dX3_layFirst_13 rfl hl (by decide) rfl (fun ls hl => ?_)
      exact n_X3_layFirst_14 X hN _ _ _ _ hX (fun z0 z1 z2 r h ls H locs hl hS => ih z0 z1 z2 r h ls H locs hl hS) _ _ _ (lv_sub hl [1, 2, 3, 0] rfl) hS
set_option maxRecDepth 100000 in
set_option maxHeartbeats 4000000 in
theorem m_X3_layFirst {l : Launch} {D : va_G} {cy : Nat → ClassId} {ad : Nat → Nat → Nat} {ns : List (Nat × Nat)} {A : Nat → Prop} {M : Mem} (hN : NsC ns) {r : Bool × Mem} (hX : f_X3_layFirst M = some r) : Ct l yX3_layFirst cX3_layFirst 4 ((some .boolean)) rm_X3_layFirst D cy ad ns A [.ref (ad 17 0)] M r.2 (some (.int (b2i r.1))) := by
  refine ct_of (lv := [(0, .ref (ad 17 0))]) (by decide) (Nat.le_of_ble_eq_true rfl) rfl ?_
  intro p e s m args below meth c ls X hl hS
  obtain ⟨hx, hb, hml, hown, hts, hK, hr, hlk, hA, hG⟩ := id X
  obtain ⟨H, hH⟩ : ∃ z, z = s.heap := ⟨_, rfl⟩
  obtain ⟨locs, hlo⟩ : ∃ z : List Loc, z = [] := ⟨_, rfl⟩
  have hS : St D cy ad ns A M s.heap H locs := by rw [hH, hlo]; exact hS
  have hgoal : W p l e rm_X3_layFirst s m args below meth c H locs 0 0 (MQ below (QC D cy ad ns A r.2 (some (.int (b2i r.1)))) args s 0 0 A) (F0 m 0 ls []) := by
    unfold f_X3_layFirst at hX
    refine lv_iconst (v := nI 0) hx hb dX3_layFirst_0 (by decide) ?_
    refine lv_istore_n (lv' := [(1, .int (nI 0)), (0, .ref (ad 17 0))]) hx hb dX3_layFirst_1 rfl hl (by decide) rfl (fun ls hl => ?_)
    refine lv_iconst (v := nI 0) hx hb dX3_layFirst_2 (by decide) ?_
    refine lv_istore_n (lv' := [(2, .int (nI 0)), (1, .int (nI 0)), (0, .ref (ad 17 0))]) hx hb dX3_layFirst_3 rfl hl (by decide) rfl (fun ls hl => ?_)
    exact n_X3_layFirst_4 X hN _ _ _ _ _ hX _ _ _ (lv_sub hl [2, 1, 0] rfl) hS
  rw [hH, hlo] at hgoal
  exact hgoal
theorem mv_X3_layFirst : Mv yX3_layFirst RX3 cX3_layFirst 4 ((some .boolean)) 0 := ⟨t4_62, t4_60, t4_61, t1_9, ⟨by decide, by decide⟩, by decide +kernel⟩
/-! SewnYear$Sewing.sumGrowthBehind()V -/
def rm_X3_sumGrowthBehind : Room := { frames := 0, cells := 0, slots := 0, locals := 0 }
def b_X3_sumGrowthBehind_5 (rc : Int32 → Int32 → Mem → Option (Mem)) (v_1 : Int32) (v_2 : Int32) (M : Mem) : Option (Mem) :=
  if v_2 < (nI 0) then (some M) else (gin v_2 100 <| nm (sA M 17 7 (ix v_2) v_1) fun M3 => gin v_2 100 <| nm (v_1 + (gA M3 (gR M3 17 0) 6 (ix v_2))) fun v6 => nm (v_2 + (-1)) fun v7 => rc v6 v7 M3)
def f_X3_sumGrowthBehind_5 : Nat → (Int32 × Int32 × Mem) → Option (Mem) := lp (fun rc q => b_X3_sumGrowthBehind_5 (fun x0 x1 x2 => rc (x0, x1, x2)) q.1 q.2.1 q.2.2)
def f_X3_sumGrowthBehind (M : Mem) : Option (Mem) :=
  f_X3_sumGrowthBehind_5 FU ((nI 0), (nI 99), M)
set_option maxRecDepth 100000 in
set_option maxHeartbeats 4000000 in
theorem n_X3_sumGrowthBehind_5 (X : Cx p s m args meth c D cy ad A RX3 cX3_sumGrowthBehind 3 ((none : Option Jvm.ClassFile.FieldType))) (hN : NsC ns) : ∀ (n : Nat) (v_1 : Int32) (v_2 : Int32) (M : Mem) (r : Mem), f_X3_sumGrowthBehind_5 n (v_1, v_2, M) = some r → ∀ (ls : Array Slot) (H : Heap) (locs : List Loc), lv_has ls 3 [(0, .ref (ad 17 0)), (1, .int v_1), (2, .int v_2)] → St D cy ad ns A M s.heap H locs → W p l e rm_X3_sumGrowthBehind s m args below meth c H locs 0 0 (MQ below (QC D cy ad ns A r none) args s 0 0 A) (F0 m 5 ls []) := by
  obtain ⟨hx, hb, hml, hown, hts, hK, hr, hlk, hA, hG⟩ := id X
  intro n
  induction n with
  | zero => intro v_1 v_2 M r hX; cases (show (none : Option (Mem)) = some r from hX)
  | succ n ih =>
    intro v_1 v_2 M r hX ls H locs hl hS
    have hX : b_X3_sumGrowthBehind_5 (fun x0 x1 x2 => f_X3_sumGrowthBehind_5 n (x0, x1, x2)) v_1 v_2 M = some r := hX
    unfold b_X3_sumGrowthBehind_5 at hX
    refine lv_iload_n hx hb dX3_sumGrowthBehind_5 rfl (lv_at hl 2 rfl) ?_
    refine lv_if_lt (tgt := 34) hx hb dX3_sumGrowthBehind_6 (by decide) (fun c1 => ?_) (fun c1 => ?_)
    · have hX := if_t c1 hX
      obtain rfl := some_of hX
      exact x_V X hS dX3_sumGrowthBehind_34
    · have hX := if_f c1 hX
      refine lv_aload_n hx hb dX3_sumGrowthBehind_9 rfl (lv_at hl 0 rfl) ?_
      refine fg_X3_34 X hS (o_of hN (o := 17) (c := 3) (by decide) rfl) dX3_sumGrowthBehind_10 ?_
      refine lv_iload_n hx hb dX3_sumGrowthBehind_13 rfl (lv_at hl 2 rfl) ?_
      refine lv_iload_n hx hb dX3_sumGrowthBehind_14 rfl (lv_at hl 1 rfl) ?_
      obtain ⟨g2, hX⟩ := gin_of hX
      refine r_iast (ci := 3) (o := 17) (k := 7) (n := 100) X hS (o_of hN (o := 17) (c := 3) (by decide) rfl) rfl rfl g2 dX3_sumGrowthBehind_15 (fun H locs hS => ?_)
      obtain ⟨M3, eM3, hS, hX⟩ := nm_mem hS hX
      refine lv_iload_n hx hb dX3_sumGrowthBehind_16 rfl (lv_at hl 1 rfl) ?_
      refine lv_aload_n hx hb dX3_sumGrowthBehind_17 rfl (lv_at hl 0 rfl) ?_
      refine fg_X3_12 X hS (o_of hN (o := 17) (c := 3) (by decide) rfl) dX3_sumGrowthBehind_18 ?_
      have q4 := wr_17 hN hS
      refine fg_X3_114 X hS q4 dX3_sumGrowthBehind_21 ?_
      refine lv_iload_n hx hb dX3_sumGrowthBehind_24 rfl (lv_at hl 2 rfl) ?_
      obtain ⟨g5, hX⟩ := gin_of hX
      refine r_iald (ci := 0) (o := (gR M3 17 0)) (k := 6) (n := 100) X hS q4 rfl rfl g5 dX3_sumGrowthBehind_25 ?_
      refine lv_iadd hx hb dX3_sumGrowthBehind_26 ?_
      refine lv_topi (fun v6 ev6 => ?_)
      have hX := nm_of ev6 hX
      refine lv_istore_n (lv' := [(1, .int v6), (0, .ref (ad 17 0)), (2, .int v_2)]) hx hb dX3_sumGrowthBehind_27 rfl hl (by decide) rfl (fun ls hl => ?_)
      obtain ⟨v7, ev7⟩ : ∃ y : Int32, y = (v_2 + (-1)) := ⟨_, rfl⟩
      have hX := nm_of ev7 hX
      refine lv_iinc (v := v7) (lv' := [(2, .int v7), (1, .int v6), (0, .ref (ad 17 0))]) hx hb dX3_sumGrowthBehind_28 hl (k := 2) rfl (by rw [ev7]; rfl) (by decide) rfl (fun ls hl => ?_)
      refine lv_goto (tgt := 5) hx hb dX3_sumGrowthBehind_31 (by decide) ?_
      exact ih _ _ _ _ hX _ _ _ (lv_sub hl [2, 1, 0] rfl) hS
set_option maxRecDepth 100000 in
set_option maxHeartbeats 4000000 in
theorem m_X3_sumGrowthBehind {l : Launch} {D : va_G} {cy : Nat → ClassId} {ad : Nat → Nat → Nat} {ns : List (Nat × Nat)} {A : Nat → Prop} {M : Mem} (hN : NsC ns) {r : Mem} (hX : f_X3_sumGrowthBehind M = some r) : Ct l yX3_sumGrowthBehind cX3_sumGrowthBehind 3 ((none : Option Jvm.ClassFile.FieldType)) rm_X3_sumGrowthBehind D cy ad ns A [.ref (ad 17 0)] M r none := by
  refine ct_of (lv := [(0, .ref (ad 17 0))]) (by decide) (Nat.le_of_ble_eq_true rfl) rfl ?_
  intro p e s m args below meth c ls X hl hS
  obtain ⟨hx, hb, hml, hown, hts, hK, hr, hlk, hA, hG⟩ := id X
  obtain ⟨H, hH⟩ : ∃ z, z = s.heap := ⟨_, rfl⟩
  obtain ⟨locs, hlo⟩ : ∃ z : List Loc, z = [] := ⟨_, rfl⟩
  have hS : St D cy ad ns A M s.heap H locs := by rw [hH, hlo]; exact hS
  have hgoal : W p l e rm_X3_sumGrowthBehind s m args below meth c H locs 0 0 (MQ below (QC D cy ad ns A r none) args s 0 0 A) (F0 m 0 ls []) := by
    unfold f_X3_sumGrowthBehind at hX
    refine lv_iconst (v := nI 0) hx hb dX3_sumGrowthBehind_0 (by decide) ?_
    refine lv_istore_n (lv' := [(1, .int (nI 0)), (0, .ref (ad 17 0))]) hx hb dX3_sumGrowthBehind_1 rfl hl (by decide) rfl (fun ls hl => ?_)
    refine lv_bipush (v := nI 99) hx hb dX3_sumGrowthBehind_2 (by decide) ?_
    refine lv_istore_n (lv' := [(2, .int (nI 99)), (1, .int (nI 0)), (0, .ref (ad 17 0))]) hx hb dX3_sumGrowthBehind_4 rfl hl (by decide) rfl (fun ls hl => ?_)
    exact n_X3_sumGrowthBehind_5 X hN _ _ _ _ _ hX _ _ _ (lv_sub hl [2, 1, 0] rfl) hS
  rw [hH, hlo] at hgoal
  exact hgoal
theorem mv_X3_sumGrowthBehind : Mv yX3_sumGrowthBehind RX3 cX3_sumGrowthBehind 3 ((none : Option Jvm.ClassFile.FieldType)) 0 := ⟨t4_80, t4_78, t4_79, t1_9, ⟨by decide, by decide⟩, by decide +kernel⟩
/-! SewnYear$Sewing.burstsFrom(II)I -/
def rm_X3_burstsFrom : Room := { frames := 1, cells := 0, slots := 0, locals := 23 }
def f_X3_burstsFrom_59 (M : Mem) (a1 : Int32) (a2 : Int32) (k_64 : Int32 → Bool → Option (Int32)) (v_3 : Int32) : Option (Int32) :=
  k_64 v_3 true
def f_X3_burstsFrom_64 (M : Mem) (a1 : Int32) (a2 : Int32) (v_3 : Int32) (s_0 : Bool) : Option (Int32) :=
  gin v_3 512 <| if s_0 = true then (some ((gA M 17 8 (ix v_3)) + (nI 0))) else (some ((gA M 17 8 (ix v_3)) + (nI 1)))
def f_X3_burstsFrom (M : Mem) (a1 : Int32) (a2 : Int32) : Option (Int32) :=
  nm (a2 ||| ((nI 1) <<< (a1 &&& 31))) fun v3 => bn (f_X0_stitchesOf M (gR M 17 0) v3) fun r6 => bn (f_X9_begun r6 (gI M (gR M 17 0) 1)) fun r9 => nm (r9 - (nI 1)) fun v10 => if v10 < (nI 0) then (f_X3_burstsFrom_59 M a1 a2 (fun x0 x1 => f_X3_burstsFrom_64 M a1 a2 x0 x1) v3) else (if (nI 100) ≤ v10 then (f_X3_burstsFrom_59 M a1 a2 (fun x0 x1 => f_X3_burstsFrom_64 M a1 a2 x0 x1) v3) else (gin v10 100 <| gin a1 9 <| if (gA M (gR M 17 0) 4 (ix a1)) < (gA M 17 7 (ix v10)) then (f_X3_burstsFrom_64 M a1 a2 v3 false) else (f_X3_burstsFrom_59 M a1 a2 (fun x0 x1 => f_X3_burstsFrom_64 M a1 a2 x0 x1) v3)))
set_option maxRecDepth 100000 in
set_option maxHeartbeats 4000000 in
theorem n_X3_burstsFrom_59 {a1 : Int32} {a2 : Int32} (X : Cx p s m args meth c D cy ad A RX3 cX3_burstsFrom 6 ((some .int))) (hN : NsC ns) {M : Mem} {k_64 : Int32 → Bool → Option (Int32)} {v_3 : Int32} {r : Int32} (hX : f_X3_burstsFrom_59 M a1 a2 k_64 v_3 = some r) : (∀ (v_3 : Int32) (s_0 : Bool) (r : Int32), k_64 v_3 s_0 = some r → ∀ (ls : Array Slot) (H : Heap) (locs : List Loc), lv_has ls 6 [(0, .ref (ad 17 0)), (3, .int v_3)] → St D cy ad ns A M s.heap H locs → W p l e rm_X3_burstsFrom s m args below meth c H locs 0 0 (MQ below (QC D cy ad ns A M (some (.int r))) args s 0 0 A) (F0 m 64 ls [.int (b2i s_0)])) → ∀ (ls : Array Slot) (H : Heap) (locs : List Loc), lv_has ls 6 [(0, .ref (ad 17 0)), (3, .int v_3)] → St D cy ad ns A M s.heap H locs → W p l e rm_X3_burstsFrom s m args below meth c H locs 0 0 (MQ below (QC D cy ad ns A M (some (.int r))) args s 0 0 A) (F0 m 59 ls []) := by
  obtain ⟨hx, hb, hml, hown, hts, hK, hr, hlk, hA, hG⟩ := id X
  intro hk_64 ls H locs hl hS
  unfold f_X3_burstsFrom_59 at hX
  refine lv_iconst (v := nI 1) hx hb dX3_burstsFrom_59 (by decide) ?_
  refine lv_goto (tgt := 64) hx hb dX3_burstsFrom_60 (by decide) ?_
  exact hk_64 _ _ _ hX _ _ _ (lv_sub hl [0, 1] rfl) hS
set_option maxRecDepth 100000 in
set_option maxHeartbeats 4000000 in
theorem n_X3_burstsFrom_64 {a1 : Int32} {a2 : Int32} (X : Cx p s m args meth c D cy ad A RX3 cX3_burstsFrom 6 ((some .int))) (hN : NsC ns) {M : Mem} {v_3 : Int32} {s_0 : Bool} {r : Int32} (hX : f_X3_burstsFrom_64 M a1 a2 v_3 s_0 = some r) : ∀ (ls : Array Slot) (H : Heap) (locs : List Loc), lv_has ls 6 [(0, .ref (ad 17 0)), (3, .int v_3)] → St D cy ad ns A M s.heap H locs → W p l e rm_X3_burstsFrom s m args below meth c H locs 0 0 (MQ below (QC D cy ad ns A M (some (.int r))) args s 0 0 A) (F0 m 64 ls [.int (b2i s_0)]) := by
  obtain ⟨hx, hb, hml, hown, hts, hK, hr, hlk, hA, hG⟩ := id X
  intro ls H locs hl hS
  unfold f_X3_burstsFrom_64 at hX
  refine lv_istore (lv' := [(5, .int (b2i s_0)), (0, .ref (ad 17 0)), (3, .int v_3)]) hx hb dX3_burstsFrom_64 hl (by decide) rfl (fun ls hl => ?_)
  refine lv_aload_n hx hb dX3_burstsFrom_66 rfl (lv_at hl 1 rfl) ?_
  refine fg_X3_37 X hS (o_of hN (o := 17) (c := 3) (by decide) rfl) dX3_burstsFrom_67 ?_
  refine lv_iload_n hx hb dX3_burstsFrom_70 rfl (lv_at hl 2 rfl) ?_
  obtain ⟨g1, hX⟩ := gin_of hX
  refine r_iald (ci := 3) (o := 17) (k := 8) (n := 512) X hS (o_of hN (o := 17) (c := 3) (by decide) rfl) rfl rfl g1 dX3_burstsFrom_71 ?_
  refine lv_iload hx hb dX3_burstsFrom_72 (lv_at hl 0 rfl) ?_
  refine lv_if_eq (tgt := 81) hx hb dX3_burstsFrom_74 (by decide) (fun c2 => ?_) (fun c2 => ?_)
  · have hX := if_bf c2 hX
    refine lv_iconst (v := nI 1) hx hb dX3_burstsFrom_81 (by decide) ?_
    refine lv_iadd hx hb dX3_burstsFrom_82 ?_
    obtain rfl := some_of hX
    exact x_I (v := ((gA M 17 8 (ix v_3)) + (nI 1))) X hS dX3_burstsFrom_83
  · have hX := if_bt c2 hX
    refine lv_iconst (v := nI 0) hx hb dX3_burstsFrom_77 (by decide) ?_
    refine lv_goto (tgt := 82) hx hb dX3_burstsFrom_78 (by decide) ?_
    refine lv_iadd hx hb dX3_burstsFrom_82 ?_
    obtain rfl := some_of hX
    exact x_I (v := ((gA M 17 8 (ix v_3)) + (nI 0))) X hS dX3_burstsFrom_83
set_option maxRecDepth 100000 in
set_option maxHeartbeats 4000000 in
theorem m_X3_burstsFrom {l : Launch} {D : va_G} {cy : Nat → ClassId} {ad : Nat → Nat → Nat} {ns : List (Nat × Nat)} {A : Nat → Prop} {M : Mem} (hN : NsC ns) {a1 : Int32} {a2 : Int32} {r : Int32} (hX : f_X3_burstsFrom M a1 a2 = some r) : Ct l yX3_burstsFrom cX3_burstsFrom 6 ((some .int)) rm_X3_burstsFrom D cy ad ns A [.ref (ad 17 0), .int a1, .int a2] M M (some (.int r)) := by
  refine ct_of (lv := [(0, .ref (ad 17 0)), (1, .int a1), (2, .int a2)]) (by decide) (Nat.le_of_ble_eq_true rfl) rfl ?_
  intro p e s m args below meth c ls X hl hS
  obtain ⟨hx, hb, hml, hown, hts, hK, hr, hlk, hA, hG⟩ := id X
  obtain ⟨H, hH⟩ : ∃ z, z = s.heap := ⟨_, rfl⟩
  obtain ⟨locs, hlo⟩ : ∃ z : List Loc, z = [] := ⟨_, rfl⟩
  have hS : St D cy ad ns A M s.heap H locs := by rw [hH, hlo]; exact hS
  have hgoal : W p l e rm_X3_burstsFrom s m args below meth c H locs 0 0 (MQ below (QC D cy ad ns A M (some (.int r))) args s 0 0 A) (F0 m 0 ls []) := by
    unfold f_X3_burstsFrom at hX
    refine lv_iload_n hx hb dX3_burstsFrom_0 rfl (lv_at hl 2 rfl) ?_
    refine lv_iconst (v := nI 1) hx hb dX3_burstsFrom_1 (by decide) ?_
    refine lv_iload_n hx hb dX3_burstsFrom_2 rfl (lv_at hl 1 rfl) ?_
    refine lv_ishl hx hb dX3_burstsFrom_3 ?_
    refine lv_ior hx hb dX3_burstsFrom_4 ?_
    refine lv_topi (fun v3 ev3 => ?_)
    have hX := nm_of ev3 hX
    refine lv_istore_n (lv' := [(3, .int v3), (0, .ref (ad 17 0)), (1, .int a1), (2, .int a2)]) hx hb dX3_burstsFrom_5 rfl hl (by decide) rfl (fun ls hl => ?_)
    refine lv_aload_n hx hb dX3_burstsFrom_6 rfl (lv_at hl 1 rfl) ?_
    refine fg_X3_12 X hS (o_of hN (o := 17) (c := 3) (by decide) rfl) dX3_burstsFrom_7 ?_
    have q4 := wr_17 hN hS
    refine lv_iload_n hx hb dX3_burstsFrom_10 rfl (lv_at hl 0 rfl) ?_
    obtain ⟨r6, h5, hX⟩ := bn_of hX
    refine r_callV1 (v := .int r6) (As := [.int v3]) (rest := []) X hS (m_X0_stitchesOf hN q4 h5) mv_X0_stitchesOf rfl q4 t4_86 ⟨rfl, rfl, Nat.le_of_ble_eq_true rfl, Nat.le_of_ble_eq_true rfl⟩ rfl hl.1 rfl (Nat.le_of_ble_eq_true rfl) ⟨Nat.zero_le _, Nat.zero_le _⟩ dX3_burstsFrom_11 (fun H locs hS => ?_)
    refine lv_aload_n hx hb dX3_burstsFrom_14 rfl (lv_at hl 1 rfl) ?_
    refine fg_X3_12 X hS (o_of hN (o := 17) (c := 3) (by decide) rfl) dX3_burstsFrom_15 ?_
    have q7 := wr_17 hN hS
    refine fg_X3_120 X hS q7 dX3_burstsFrom_18 ?_
    obtain ⟨r9, h8, hX⟩ := bn_of hX
    refine r_callN1 (v := .int r9) (As := [.int r6, .int (gI M (gR M 17 0) 1)]) (rest := []) X hS (m_X9_begun (M := M) hN h8) ms_X9_begun (by decide +kernel) ⟨rfl, rfl, Nat.le_of_ble_eq_true rfl, Nat.le_of_ble_eq_true rfl⟩ rfl hl.1 rfl (Nat.le_of_ble_eq_true rfl) ⟨Nat.zero_le _, Nat.zero_le _⟩ dX3_burstsFrom_21 (fun H locs hS => ?_)
    refine lv_iconst (v := nI 1) hx hb dX3_burstsFrom_24 (by decide) ?_
    refine lv_isub hx hb dX3_burstsFrom_25 ?_
    refine lv_topi (fun v10 ev10 => ?_)
    have hX := nm_of ev10 hX
    refine lv_istore (lv' := [(4, .int v10), (3, .int v3), (0, .ref (ad 17 0)), (1, .int a1), (2, .int a2)]) hx hb dX3_burstsFrom_26 hl (by decide) rfl (fun ls hl => ?_)
    refine lv_iload hx hb dX3_burstsFrom_28 (lv_at hl 0 rfl) ?_
    refine lv_if_lt (tgt := 59) hx hb dX3_burstsFrom_30 (by decide) (fun c11 => ?_) (fun c11 => ?_)
    · have hX := if_t c11 hX
      exact n_X3_burstsFrom_59 X hN hX (fun z0 z1 r h ls H locs hl hS => n_X3_burstsFrom_64 X hN h _ _ _ hl hS) _ _ _ (lv_sub hl [2, 1] rfl) hS
    · have hX := if_f c11 hX
      refine lv_iload hx hb dX3_burstsFrom_33 (lv_at hl 0 rfl) ?_
      refine lv_bipush (v := nI 100) hx hb dX3_burstsFrom_35 (by decide) ?_
      refine lv_icmp_ge (tgt := 59) hx hb dX3_burstsFrom_37 (by decide) (fun c12 => ?_) (fun c12 => ?_)
      · have hX := if_t c12 hX
        exact n_X3_burstsFrom_59 X hN hX (fun z0 z1 r h ls H locs hl hS => n_X3_burstsFrom_64 X hN h _ _ _ hl hS) _ _ _ (lv_sub hl [2, 1] rfl) hS
      · have hX := if_f c12 hX
        refine lv_aload_n hx hb dX3_burstsFrom_40 rfl (lv_at hl 2 rfl) ?_
        refine fg_X3_34 X hS (o_of hN (o := 17) (c := 3) (by decide) rfl) dX3_burstsFrom_41 ?_
        refine lv_iload hx hb dX3_burstsFrom_44 (lv_at hl 0 rfl) ?_
        obtain ⟨g13, hX⟩ := gin_of hX
        refine r_iald (ci := 3) (o := 17) (k := 7) (n := 100) X hS (o_of hN (o := 17) (c := 3) (by decide) rfl) rfl rfl g13 dX3_burstsFrom_46 ?_
        refine lv_aload_n hx hb dX3_burstsFrom_47 rfl (lv_at hl 2 rfl) ?_
        refine fg_X3_12 X hS (o_of hN (o := 17) (c := 3) (by decide) rfl) dX3_burstsFrom_48 ?_
        have q14 := wr_17 hN hS
        refine fg_X3_126 X hS q14 dX3_burstsFrom_51 ?_
        refine lv_iload_n hx hb dX3_burstsFrom_54 rfl (lv_at hl 3 rfl) ?_
        obtain ⟨g15, hX⟩ := gin_of hX
        refine r_iald (ci := 0) (o := (gR M 17 0)) (k := 4) (n := 9) X hS q14 rfl rfl g15 dX3_burstsFrom_55 ?_
        refine lv_icmp_gt (tgt := 63) hx hb dX3_burstsFrom_56 (by decide) (fun c16 => ?_) (fun c16 => ?_)
        · have hX := if_t c16 hX
          refine lv_iconst (v := nI 0) hx hb dX3_burstsFrom_63 (by decide) ?_
          exact n_X3_burstsFrom_64 X hN hX _ _ _ (lv_sub hl [2, 1] rfl) hS
        · have hX := if_f c16 hX
          exact n_X3_burstsFrom_59 X hN hX (fun z0 z1 r h ls H locs hl hS => n_X3_burstsFrom_64 X hN h _ _ _ hl hS) _ _ _ (lv_sub hl [2, 1] rfl) hS
  rw [hH, hlo] at hgoal
  exact hgoal
theorem mv_X3_burstsFrom : Mv yX3_burstsFrom RX3 cX3_burstsFrom 6 ((some .int)) 2 := ⟨t4_85, t4_83, t4_84, t1_9, ⟨by decide, by decide⟩, by decide +kernel⟩
/-! SewnYear$Sewing.fewestBursts()I -/
def rm_X3_fewestBursts : Room := { frames := 2, cells := 0, slots := 0, locals := 48 }
def f_X3_fewestBursts_65 (v_1 : Int32) (v_2 : Int32) (k_34 : Int32 → Int32 → Mem → Option (Int32 × Mem)) (v_3 : Int32) (v_4 : Int32) (M : Mem) : Option (Int32 × Mem) :=
  nm (v_4 + nI 1) fun v1 => k_34 v_3 v1 M
def f_X3_fewestBursts_152 (v_2 : Int32) (v_3 : Int32) (k_99 : Int32 → Mem → Option (Int32 × Mem)) (v_4 : Int32) (M : Mem) : Option (Int32 × Mem) :=
  nm (v_4 + nI 1) fun v2 => k_99 v2 M
def f_X3_fewestBursts_158 (k_88 : Int32 → Int32 → Mem → Option (Int32 × Mem)) (v_2 : Int32) (v_3 : Int32) (M : Mem) : Option (Int32 × Mem) :=
  nm (v_3 + nI 1) fun v3 => k_88 v_2 v3 M
def b_X3_fewestBursts_34 (v_1 : Int32) (k_15 : Int32 → Mem → Option (Int32 × Mem)) (v_2 : Int32) (rc : Int32 → Int32 → Mem → Option (Int32 × Mem)) (v_3 : Int32) (v_4 : Int32) (M : Mem) : Option (Int32 × Mem) :=
  if (gI M 17 1) ≤ v_4 then (gin v_2 512 <| nm (sA M 17 8 (ix v_2) v_3) fun M6 => nm (v_2 + (-1)) fun v7 => k_15 v7 M6) else (bn (f_X3_mayCome M v_4 v_2) fun r9 => if r9 = true then (bn (f_X3_burstsFrom M v_4 v_2) fun r12 => nm (mnI v_3 r12) fun v13 => f_X3_fewestBursts_65 v_1 v_2 rc v13 v_4 M) else (f_X3_fewestBursts_65 v_1 v_2 rc v_3 v_4 M))
def f_X3_fewestBursts_34 (v_1 : Int32) (k_15 : Int32 → Mem → Option (Int32 × Mem)) (v_2 : Int32) : Nat → (Int32 × Int32 × Mem) → Option (Int32 × Mem) := lp (fun rc q => b_X3_fewestBursts_34 v_1 k_15 v_2 (fun x0 x1 x2 => rc (x0, x1, x2)) q.1 q.2.1 q.2.2)
def b_X3_fewestBursts_99 (k_88 : Int32 → Int32 → Mem → Option (Int32 × Mem)) (v_2 : Int32) (v_3 : Int32) (rc : Int32 → Mem → Option (Int32 × Mem)) (v_4 : Int32) (M : Mem) : Option (Int32 × Mem) :=
  if (gI M 17 1) ≤ v_4 then (f_X3_fewestBursts_158 k_88 v_2 v_3 M) else (bn (f_X3_mayCome M v_4 v_2) fun r16 => if r16 = true then (bn (f_X3_burstsFrom M v_4 v_2) fun r19 => gin v_2 512 <| if r19 = (gA M 17 8 (ix v_2)) then (gin v_3 9 <| nm (sA M 17 4 (ix v_3) v_4) fun M23 => nm (v_2 ||| ((nI 1) <<< (v_4 &&& 31))) fun v24 => f_X3_fewestBursts_158 k_88 v24 v_3 M23) else (f_X3_fewestBursts_152 v_2 v_3 rc v_4 M)) else (f_X3_fewestBursts_152 v_2 v_3 rc v_4 M))
def f_X3_fewestBursts_99 (k_88 : Int32 → Int32 → Mem → Option (Int32 × Mem)) (v_2 : Int32) (v_3 : Int32) : Nat → (Int32 × Mem) → Option (Int32 × Mem) := lp (fun rc q => b_X3_fewestBursts_99 k_88 v_2 v_3 (fun x0 x1 => rc (x0, x1)) q.1 q.2)
def f_X3_fewestBursts_30 (v_1 : Int32) (k_15 : Int32 → Mem → Option (Int32 × Mem)) (v_2 : Int32) (s_0 : Int32) (M : Mem) : Option (Int32 × Mem) :=
  f_X3_fewestBursts_34 v_1 k_15 v_2 FU (s_0, (nI 0), M)
def b_X3_fewestBursts_88 (rc : Int32 → Int32 → Mem → Option (Int32 × Mem)) (v_2 : Int32) (v_3 : Int32) (M : Mem) : Option (Int32 × Mem) :=
  if (gI M 17 1) ≤ v_3 then (gin (nI 0) 512 <| some ((gA M 17 8 (ix (nI 0))), M)) else (f_X3_fewestBursts_99 rc v_2 v_3 FU ((nI 0), M))
def f_X3_fewestBursts_88 : Nat → (Int32 × Int32 × Mem) → Option (Int32 × Mem) := lp (fun rc q => b_X3_fewestBursts_88 (fun x0 x1 x2 => rc (x0, x1, x2)) q.1 q.2.1 q.2.2)
def b_X3_fewestBursts_15 (v_1 : Int32) (rc : Int32 → Mem → Option (Int32 × Mem)) (v_2 : Int32) (M : Mem) : Option (Int32 × Mem) :=
  if v_2 < (nI 0) then (f_X3_fewestBursts_88 FU ((nI 0), (nI 0), M)) else (if v_2 = v_1 then (f_X3_fewestBursts_30 v_1 rc v_2 (nI 0) M) else (f_X3_fewestBursts_30 v_1 rc v_2 (nI 1000000) M))
def f_X3_fewestBursts_15 (v_1 : Int32) : Nat → (Int32 × Mem) → Option (Int32 × Mem) := lp (fun rc q => b_X3_fewestBursts_15 v_1 (fun x0 x1 => rc (x0, x1)) q.1 q.2)
def f_X3_fewestBursts (M : Mem) : Option (Int32 × Mem) :=
  bn (f_X3_sumGrowthBehind M) fun M30 => nm (((nI 1) <<< ((gI M30 17 1) &&& 31)) - (nI 1)) fun v31 => f_X3_fewestBursts_15 v31 FU (v31, M30)
set_option maxRecDepth 100000 in
set_option maxHeartbeats 4000000 in
theorem n_X3_fewestBursts_65 {v_1 : Int32} {v_2 : Int32} (X : Cx p s m args meth c D cy ad A RX3 cX3_fewestBursts 5 ((some .int))) (hN : NsC ns) {k_34 : Int32 → Int32 → Mem → Option (Int32 × Mem)} {v_3 : Int32} {v_4 : Int32} {M : Mem} {r : Int32 × Mem} (hX : f_X3_fewestBursts_65 v_1 v_2 k_34 v_3 v_4 M = some r) : (∀ (v_3 : Int32) (v_4 : Int32) (M : Mem) (r : Int32 × Mem), k_34 v_3 v_4 M = some r → ∀ (ls : Array Slot) (H : Heap) (locs : List Loc), lv_has ls 5 [(0, .ref (ad 17 0)), (1, .int v_1), (2, .int v_2), (3, .int v_3), (4, .int v_4)] → St D cy ad ns A M s.heap H locs → W p l e rm_X3_fewestBursts s m args below meth c H locs 0 0 (MQ below (QC D cy ad ns A r.2 (some (.int r.1))) args s 0 0 A) (F0 m 34 ls [])) → ∀ (ls : Array Slot) (H : Heap) (locs : List Loc), lv_has ls 5 [(0, .ref (ad 17 0)), (1, .int v_1), (2, .int v_2), (3, .int v_3), (4, .int v_4)] → St D cy ad ns A M s.heap H locs → W p l e rm_X3_fewestBursts s m args below meth c H locs 0 0 (MQ below (QC D cy ad ns A r.2 (some (.int r.1))) args s 0 0 A) (F0 m 65 ls []) := by
  obtain ⟨hx, hb, hml, hown, hts, hK, hr, hlk, hA, hG⟩ := id X
  intro hk_34 ls H locs hl hS
  unfold f_X3_fewestBursts_65 at hX
  obtain ⟨v1, ev1⟩ : ∃ y : Int32, y = (v_4 + nI 1) := ⟨_, rfl⟩
  have hX := nm_of ev1 hX
  refine lv_iinc (v := v1) (lv' := [(4, .int v1), (0, .ref (ad 17 0)), (1, .int v_1), (2, .int v_2), (3, .int v_3)]) hx hb dX3_fewestBursts_65 hl (k := 4) rfl (by rw [ev1]; rfl) (by decide) rfl (fun ls hl => ?_)
  refine lv_goto (tgt := 34) hx hb dX3_fewestBursts_68 (by decide) ?_
  exact hk_34 _ _ _ _ hX _ _ _ (lv_sub hl [1, 2, 3, 4, 0] rfl) hS
set_option maxRecDepth 100000 in
set_option maxHeartbeats 4000000 in
theorem n_X3_fewestBursts_152 {v_2 : Int32} {v_3 : Int32} (X : Cx p s m args meth c D cy ad A RX3 cX3_fewestBursts 5 ((some .int))) (hN : NsC ns) {k_99 : Int32 → Mem → Option (Int32 × Mem)} {v_4 : Int32} {M : Mem} {r : Int32 × Mem} (hX : f_X3_fewestBursts_152 v_2 v_3 k_99 v_4 M = some r) : (∀ (v_4 : Int32) (M : Mem) (r : Int32 × Mem), k_99 v_4 M = some r → ∀ (ls : Array Slot) (H : Heap) (locs : List Loc), lv_has ls 5 [(0, .ref (ad 17 0)), (2, .int v_2), (3, .int v_3), (4, .int v_4)] → St D cy ad ns A M s.heap H locs → W p l e rm_X3_fewestBursts s m args below meth c H locs 0 0 (MQ below (QC D cy ad ns A r.2 (some (.int r.1))) args s 0 0 A) (F0 m 99 ls [])) → ∀ (ls : Array Slot) (H : Heap) (locs : List Loc), lv_has ls 5 [(0, .ref (ad 17 0)), (2, .int v_2), (3, .int v_3), (4, .int v_4)] → St D cy ad ns A M s.heap H locs → W p l e rm_X3_fewestBursts s m args below meth c H locs 0 0 (MQ below (QC D cy ad ns A r.2 (some (.int r.1))) args s 0 0 A) (F0 m 152 ls []) := by
  obtain ⟨hx, hb, hml, hown, hts, hK, hr, hlk, hA, hG⟩ := id X
  intro hk_99 ls H locs hl hS
  unfold f_X3_fewestBursts_152 at hX
  obtain ⟨v2, ev2⟩ : ∃ y : Int32, y = (v_4 + nI 1) := ⟨_, rfl⟩
  have hX := nm_of ev2 hX
  refine lv_iinc (v := v2) (lv' := [(4, .int v2), (0, .ref (ad 17 0)), (2, .int v_2), (3, .int v_3)]) hx hb dX3_fewestBursts_152 hl (k := 3) rfl (by rw [ev2]; rfl) (by decide) rfl (fun ls hl => ?_)
  refine lv_goto (tgt := 99) hx hb dX3_fewestBursts_155 (by decide) ?_
  exact hk_99 _ _ _ hX _ _ _ (lv_sub hl [1, 2, 3, 0] rfl) hS
set_option maxRecDepth 100000 in
set_option maxHeartbeats 4000000 in
theorem n_X3_fewestBursts_158 (X : Cx p s m args meth c D cy ad A RX3 cX3_fewestBursts 5 ((some .int))) (hN : NsC ns) {k_88 : Int32 → Int32 → Mem → Option (Int32 × Mem)} {v_2 : Int32} {v_3 : Int32} {M : Mem} {r : Int32 × Mem} (hX : f_X3_fewestBursts_158 k_88 v_2 v_3 M = some r) : (∀ (v_2 : Int32) (v_3 : Int32) (M : Mem) (r : Int32 × Mem), k_88 v_2 v_3 M = some r → ∀ (ls : Array Slot) (H : Heap) (locs : List Loc), lv_has ls 5 [(0, .ref (ad 17 0)), (2, .int v_2), (3, .int v_3)] → St D cy ad ns A M s.heap H locs → W p l e rm_X3_fewestBursts s m args below meth c H locs 0 0 (MQ below (QC D cy ad ns A r.2 (some (.int r.1))) args s 0 0 A) (F0 m 88 ls [])) → ∀ (ls : Array Slot) (H : Heap) (locs : List Loc), lv_has ls 5 [(0, .ref (ad 17 0)), (2, .int v_2), (3, .int v_3)] → St D cy ad ns A M s.heap H locs → W p l e rm_X3_fewestBursts s m args below meth c H locs 0 0 (MQ below (QC D cy ad ns A r.2 (some (.int r.1))) args s 0 0 A) (F0 m 158 ls []) := by
  obtain ⟨hx, hb, hml, hown, hts, hK, hr, hlk, hA, hG⟩ := id X
  intro hk_88 ls H locs hl hS
  unfold f_X3_fewestBursts_158 at hX
  obtain ⟨v3, ev3⟩ : ∃ y : Int32, y = (v_3 + nI 1) := ⟨_, rfl⟩
  have hX := nm_of ev3 hX
  refine lv_iinc (v := v3) (lv' := [(3, .int v3), (0, .ref (ad 17 0)), (2, .int v_2)]) hx hb dX3_fewestBursts_158 hl (k := 2) rfl (by rw [ev3]; rfl) (by decide) rfl (fun ls hl => ?_)
  refine lv_goto (tgt := 88) hx hb dX3_fewestBursts_161 (by decide) ?_
  exact hk_88 _ _ _ _ hX _ _ _ (lv_sub hl [1, 2, 0] rfl) hS
set_option maxRecDepth 100000 in
set_option maxHeartbeats 4000000 in
theorem n_X3_fewestBursts_34 {v_1 : Int32} (X : Cx p s m args meth c D cy ad A RX3 cX3_fewestBursts 5 ((some .int))) (hN : NsC ns) {k_15 : Int32 → Mem → Option (Int32 × Mem)} {v_2 : Int32} : ∀ (n : Nat) (v_3 : Int32) (v_4 : Int32) (M : Mem) (r : Int32 × Mem), f_X3_fewestBursts_34 v_1 k_15 v_2 n (v_3, v_4, M) = some r → (∀ (v_2 : Int32) (M : Mem) (r : Int32 × Mem), k_15 v_2 M = some r → ∀ (ls : Array Slot) (H : Heap) (locs : List Loc), lv_has ls 5 [(0, .ref (ad 17 0)), (1, .int v_1), (2, .int v_2)] → St D cy ad ns A M s.heap H locs → W p l e rm_X3_fewestBursts s m args below meth c H locs 0 0 (MQ below (QC D cy ad ns A r.2 (some (.int r.1))) args s 0 0 A) (F0 m 15 ls [])) → ∀ (ls : Array Slot) (H : Heap) (locs : List Loc), lv_has ls 5 [(0, .ref (ad 17 0)), (1, .int v_1), (2, .int v_2), (3, .int v_3), (4, .int v_4)] → St D cy ad ns A M s.heap H locs → W p l e rm_X3_fewestBursts s m args below meth c H locs 0 0 (MQ below (QC D cy ad ns A r.2 (some (.int r.1))) args s 0 0 A) (F0 m 34 ls []) := by
  obtain ⟨hx, hb, hml, hown, hts, hK, hr, hlk, hA, hG⟩ := id X
  intro n
  induction n with
  | zero => intro v_3 v_4 M r hX; cases (show (none : Option (Int32 × Mem)) = some r from hX)
  | succ n ih =>
    intro v_3 v_4 M r hX hk_15 ls H locs hl hS
    have hX : b_X3_fewestBursts_34 v_1 k_15 v_2 (fun x0 x1 x2 => f_X3_fewestBursts_34 v_1 k_15 v_2 n (x0, x1, x2)) v_3 v_4 M = some r := hX
    unfold b_X3_fewestBursts_34 at hX
    refine lv_iload hx hb dX3_fewestBursts_34 (lv_at hl 4 rfl) ?_
    refine lv_aload_n hx hb dX3_fewestBursts_36 rfl (lv_at hl 0 rfl) ?_
    refine fg_X3_47 X hS (o_of hN (o := 17) (c := 3) (by decide) rfl) dX3_fewestBursts_37 ?_
    refine lv_icmp_ge (tgt := 71) hx hb dX3_fewestBursts_40 (by decide) (fun c4 => ?_) (fun c4 => ?_)
    · have hX := if_t c4 hX
      refine lv_aload_n hx hb dX3_fewestBursts_71 rfl (lv_at hl 0 rfl) ?_
      refine fg_X3_37 X hS (o_of hN (o := 17) (c := 3) (by decide) rfl) dX3_fewestBursts_72 ?_
      refine lv_iload_n hx hb dX3_fewestBursts_75 rfl (lv_at hl 2 rfl) ?_
      refine lv_iload_n hx hb dX3_fewestBursts_76 rfl (lv_at hl 3 rfl) ?_
      obtain ⟨g5, hX⟩ := gin_of hX
      refine r_iast (ci := 3) (o := 17) (k := 8) (n := 512) X hS (o_of hN (o := 17) (c := 3) (by decide) rfl) rfl rfl g5 dX3_fewestBursts_77 (fun H locs hS => ?_)
      obtain ⟨M6, eM6, hS, hX⟩ := nm_mem hS hX
      obtain ⟨v7, ev7⟩ : ∃ y : Int32, y = (v_2 + (-1)) := ⟨_, rfl⟩
      have hX := nm_of ev7 hX
      refine lv_iinc (v := v7) (lv' := [(2, .int v7), (0, .ref (ad 17 0)), (1, .int v_1), (3, .int v_3), (4, .int v_4)]) hx hb dX3_fewestBursts_78 hl (k := 2) rfl (by rw [ev7]; rfl) (by decide) rfl (fun ls hl => ?_)
      refine lv_goto (tgt := 15) hx hb dX3_fewestBursts_81 (by decide) ?_
      exact hk_15 _ _ _ hX _ _ _ (lv_sub hl [1, 2, 0] rfl) hS
    · have hX := if_f c4 hX
      refine lv_aload_n hx hb dX3_fewestBursts_43 rfl (lv_at hl 0 rfl) ?_
      refine lv_iload hx hb dX3_fewestBursts_44 (lv_at hl 4 rfl) ?_
      refine lv_iload_n hx hb dX3_fewestBursts_46 rfl (lv_at hl 2 rfl) ?_
      obtain ⟨r9, h8, hX⟩ := bn_of hX
      refine r_callV1 (v := .int (b2i r9)) (As := [.int v_4, .int v_2]) (rest := []) X hS (m_X3_mayCome hN h8) mv_X3_mayCome rfl (o_of hN (o := 17) (c := 3) (by decide) rfl) t4_41 ⟨rfl, rfl, Nat.le_of_ble_eq_true rfl, Nat.le_of_ble_eq_true rfl⟩ rfl hl.1 rfl (Nat.le_of_ble_eq_true rfl) ⟨Nat.zero_le _, Nat.zero_le _⟩ dX3_fewestBursts_47 (fun H locs hS => ?_)
      refine lv_if_eq (tgt := 65) hx hb dX3_fewestBursts_50 (by decide) (fun c10 => ?_) (fun c10 => ?_)
      · have hX := if_bf c10 hX
        exact n_X3_fewestBursts_65 X hN hX (fun z0 z1 z2 r h ls H locs hl hS => ih z0 z1 z2 r h hk_15 ls H locs hl hS) _ _ _ (lv_sub hl [0, 1, 2, 3, 4] rfl) hS
      · have hX := if_bt c10 hX
        refine lv_iload_n hx hb dX3_fewestBursts_53 rfl (lv_at hl 3 rfl) ?_
        refine lv_aload_n hx hb dX3_fewestBursts_54 rfl (lv_at hl 0 rfl) ?_
        refine lv_iload hx hb dX3_fewestBursts_55 (lv_at hl 4 rfl) ?_
        refine lv_iload_n hx hb dX3_fewestBursts_57 rfl (lv_at hl 2 rfl) ?_
        obtain ⟨r12, h11, hX⟩ := bn_of hX
        refine r_callV1 (v := .int r12) (As := [.int v_4, .int v_2]) (rest := [.int v_3]) X hS (m_X3_burstsFrom hN h11) mv_X3_burstsFrom rfl (o_of hN (o := 17) (c := 3) (by decide) rfl) t4_82 ⟨rfl, rfl, Nat.le_of_ble_eq_true rfl, Nat.le_of_ble_eq_true rfl⟩ rfl hl.1 rfl (Nat.le_of_ble_eq_true rfl) ⟨Nat.zero_le _, Nat.zero_le _⟩ dX3_fewestBursts_58 (fun H locs hS => ?_)
        refine va_mmin hx hb (hml.trans hl.1.symm) (own := RX3) hown (hts _ t4_93) (hts _ jm_min.1) (hts _ jm_min.2.1) (hts _ jm_min.2.2) (Nat.le_of_ble_eq_true rfl) (Nat.le_of_ble_eq_true rfl) (Nat.zero_le _) (Nat.zero_le _) dX3_fewestBursts_61 ?_
        refine lv_topi (fun v13 ev13 => ?_)
        have hX := nm_of ev13 hX
        refine lv_istore_n (lv' := [(3, .int v13), (0, .ref (ad 17 0)), (1, .int v_1), (2, .int v_2), (4, .int v_4)]) hx hb dX3_fewestBursts_64 rfl hl (by decide) rfl (fun ls hl => ?_)
        exact n_X3_fewestBursts_65 X hN hX (fun z0 z1 z2 r h ls H locs hl hS => ih z0 z1 z2 r h hk_15 ls H locs hl hS) _ _ _ (lv_sub hl [1, 2, 3, 0, 4] rfl) hS
set_option maxRecDepth 100000 in
set_option maxHeartbeats 4000000 in
theorem n_X3_fewestBursts_99 (X : Cx p s m args meth c D cy ad A RX3 cX3_fewestBursts 5 ((some .int))) (hN : NsC ns) {k_88 : Int32 → Int32 → Mem → Option (Int32 × Mem)} {v_2 : Int32} {v_3 : Int32} : ∀ (n : Nat) (v_4 : Int32) (M : Mem) (r : Int32 × Mem), f_X3_fewestBursts_99 k_88 v_2 v_3 n (v_4, M) = some r → (∀ (v_2 : Int32) (v_3 : Int32) (M : Mem) (r : Int32 × Mem), k_88 v_2 v_3 M = some r → ∀ (ls : Array Slot) (H : Heap) (locs : List Loc), lv_has ls 5 [(0, .ref (ad 17 0)), (2, .int v_2), (3, .int v_3)] → St D cy ad ns A M s.heap H locs → W p l e rm_X3_fewestBursts s m args below meth c H locs 0 0 (MQ below (QC D cy ad ns A r.2 (some (.int r.1))) args s 0 0 A) (F0 m 88 ls [])) → ∀ (ls : Array Slot) (H : Heap) (locs : List Loc), lv_has ls 5 [(0, .ref (ad 17 0)), (2, .int v_2), (3, .int v_3), (4, .int v_4)] → St D cy ad ns A M s.heap H locs → W p l e rm_X3_fewestBursts s m args below meth c H locs 0 0 (MQ below (QC D cy ad ns A r.2 (some (.int r.1))) args s 0 0 A) (F0 m 99 ls []) := by
  obtain ⟨hx, hb, hml, hown, hts, hK, hr, hlk, hA, hG⟩ := id X
  intro n
  induction n with
  | zero => intro v_4 M r hX; cases (show (none : Option (Int32 × Mem)) = some r from hX)
  | succ n ih =>
    intro v_4 M r hX hk_88 ls H locs hl hS
    have hX : b_X3_fewestBursts_99 k_88 v_2 v_3 (fun x0 x1 => f_X3_fewestBursts_99 k_88 v_2 v_3 n (x0, x1)) v_4 M = some r := hX
    unfold b_X3_fewestBursts_99 at hX
    refine lv_iload hx hb dX3_fewestBursts_99 (lv_at hl 3 rfl) ?_
    refine lv_aload_n hx hb dX3_fewestBursts_101 rfl (lv_at hl 0 rfl) ?_
    refine fg_X3_47 X hS (o_of hN (o := 17) (c := 3) (by decide) rfl) dX3_fewestBursts_102 ?_
    refine lv_icmp_ge (tgt := 158) hx hb dX3_fewestBursts_105 (by decide) (fun c14 => ?_) (fun c14 => ?_)
    · have hX := if_t c14 hX
      exact n_X3_fewestBursts_158 X hN hX hk_88 _ _ _ (lv_sub hl [0, 1, 2] rfl) hS
    · have hX := if_f c14 hX
      refine lv_aload_n hx hb dX3_fewestBursts_108 rfl (lv_at hl 0 rfl) ?_
      refine lv_iload hx hb dX3_fewestBursts_109 (lv_at hl 3 rfl) ?_
      refine lv_iload_n hx hb dX3_fewestBursts_111 rfl (lv_at hl 1 rfl) ?_
      obtain ⟨r16, h15, hX⟩ := bn_of hX
      refine r_callV1 (v := .int (b2i r16)) (As := [.int v_4, .int v_2]) (rest := []) X hS (m_X3_mayCome hN h15) mv_X3_mayCome rfl (o_of hN (o := 17) (c := 3) (by decide) rfl) t4_41 ⟨rfl, rfl, Nat.le_of_ble_eq_true rfl, Nat.le_of_ble_eq_true rfl⟩ rfl hl.1 rfl (Nat.le_of_ble_eq_true rfl) ⟨Nat.zero_le _, Nat.zero_le _⟩ dX3_fewestBursts_112 (fun H locs hS => ?_)
      refine lv_if_eq (tgt := 152) hx hb dX3_fewestBursts_115 (by decide) (fun c17 => ?_) (fun c17 => ?_)
      · have hX := if_bf c17 hX
        exact n_X3_fewestBursts_152 X hN hX (fun z0 z1 r h ls H locs hl hS => ih z0 z1 r h hk_88 ls H locs hl hS) _ _ _ (lv_sub hl [0, 1, 2, 3] rfl) hS
      · have hX := if_bt c17 hX
        refine lv_aload_n hx hb dX3_fewestBursts_118 rfl (lv_at hl 0 rfl) ?_
        refine lv_iload hx hb dX3_fewestBursts_119 (lv_at hl 3 rfl) ?_
        refine lv_iload_n hx hb dX3_fewestBursts_121 rfl (lv_at hl 1 rfl) ?_
        obtain ⟨r19, h18, hX⟩ := bn_of hX
        refine r_callV1 (v := .int r19) (As := [.int v_4, .int v_2]) (rest := []) X hS (m_X3_burstsFrom hN h18) mv_X3_burstsFrom rfl (o_of hN (o := 17) (c := 3) (by decide) rfl) t4_82 ⟨rfl, rfl, Nat.le_of_ble_eq_true rfl, Nat.le_of_ble_eq_true rfl⟩ rfl hl.1 rfl (Nat.le_of_ble_eq_true rfl) ⟨Nat.zero_le _, Nat.zero_le _⟩ dX3_fewestBursts_122 (fun H locs hS => ?_)
        refine lv_aload_n hx hb dX3_fewestBursts_125 rfl (lv_at hl 0 rfl) ?_
        refine fg_X3_37 X hS (o_of hN (o := 17) (c := 3) (by decide) rfl) dX3_fewestBursts_126 ?_
        refine lv_iload_n hx hb dX3_fewestBursts_129 rfl (lv_at hl 1 rfl) ?_
        obtain ⟨g20, hX⟩ := gin_of hX
        refine r_iald (ci := 3) (o := 17) (k := 8) (n := 512) X hS (o_of hN (o := 17) (c := 3) (by decide) rfl) rfl rfl g20 dX3_fewestBursts_130 ?_
        refine lv_icmp_ne (tgt := 152) hx hb dX3_fewestBursts_131 (by decide) (fun c21 => ?_) (fun c21 => ?_)
        · have hX := if_f c21 hX
          exact n_X3_fewestBursts_152 X hN hX (fun z0 z1 r h ls H locs hl hS => ih z0 z1 r h hk_88 ls H locs hl hS) _ _ _ (lv_sub hl [0, 1, 2, 3] rfl) hS
        · have hX := if_t c21 hX
          refine lv_aload_n hx hb dX3_fewestBursts_134 rfl (lv_at hl 0 rfl) ?_
          refine fg_X3_25 X hS (o_of hN (o := 17) (c := 3) (by decide) rfl) dX3_fewestBursts_135 ?_
          refine lv_iload_n hx hb dX3_fewestBursts_138 rfl (lv_at hl 2 rfl) ?_
          refine lv_iload hx hb dX3_fewestBursts_139 (lv_at hl 3 rfl) ?_
          obtain ⟨g22, hX⟩ := gin_of hX
          refine r_iast (ci := 3) (o := 17) (k := 4) (n := 9) X hS (o_of hN (o := 17) (c := 3) (by decide) rfl) rfl rfl g22 dX3_fewestBursts_141 (fun H locs hS => ?_)
          obtain ⟨M23, eM23, hS, hX⟩ := nm_mem hS hX
          refine lv_iload_n hx hb dX3_fewestBursts_142 rfl (lv_at hl 1 rfl) ?_
          refine lv_iconst (v := nI 1) hx hb dX3_fewestBursts_143 (by decide) ?_
          refine lv_iload hx hb dX3_fewestBursts_144 (lv_at hl 3 rfl) ?_
          refine lv_ishl hx hb dX3_fewestBursts_146 ?_
          refine lv_ior hx hb dX3_fewestBursts_147 ?_
          refine lv_topi (fun v24 ev24 => ?_)
          have hX := nm_of ev24 hX
          refine lv_istore_n (lv' := [(2, .int v24), (0, .ref (ad 17 0)), (3, .int v_3), (4, .int v_4)]) hx hb dX3_fewestBursts_148 rfl hl (by decide) rfl (fun ls hl => ?_)
          refine lv_goto (tgt := 158) hx hb dX3_fewestBursts_149 (by decide) ?_
          exact n_X3_fewestBursts_158 X hN hX hk_88 _ _ _ (lv_sub hl [1, 0, 2] rfl) hS
set_option maxRecDepth 100000 in
set_option maxHeartbeats 4000000 in
theorem n_X3_fewestBursts_30 {v_1 : Int32} (X : Cx p s m args meth c D cy ad A RX3 cX3_fewestBursts 5 ((some .int))) (hN : NsC ns) {k_15 : Int32 → Mem → Option (Int32 × Mem)} {v_2 : Int32} {s_0 : Int32} {M : Mem} {r : Int32 × Mem} (hX : f_X3_fewestBursts_30 v_1 k_15 v_2 s_0 M = some r) : (∀ (v_2 : Int32) (M : Mem) (r : Int32 × Mem), k_15 v_2 M = some r → ∀ (ls : Array Slot) (H : Heap) (locs : List Loc), lv_has ls 5 [(0, .ref (ad 17 0)), (1, .int v_1), (2, .int v_2)] → St D cy ad ns A M s.heap H locs → W p l e rm_X3_fewestBursts s m args below meth c H locs 0 0 (MQ below (QC D cy ad ns A r.2 (some (.int r.1))) args s 0 0 A) (F0 m 15 ls [])) → ∀ (ls : Array Slot) (H : Heap) (locs : List Loc), lv_has ls 5 [(0, .ref (ad 17 0)), (1, .int v_1), (2, .int v_2)] → St D cy ad ns A M s.heap H locs → W p l e rm_X3_fewestBursts s m args below meth c H locs 0 0 (MQ below (QC D cy ad ns A r.2 (some (.int r.1))) args s 0 0 A) (F0 m 30 ls [.int s_0]) := by
  obtain ⟨hx, hb, hml, hown, hts, hK, hr, hlk, hA, hG⟩ := id X
  intro hk_15 ls H locs hl hS
  unfold f_X3_fewestBursts_30 at hX
  refine lv_istore_n (lv' := [(3, .int s_0), (0, .ref (ad 17 0)), (1, .int v_1), (2, .int v_2)]) hx hb dX3_fewestBursts_30 rfl hl (by decide) rfl (fun ls hl => ?_)
  refine lv_iconst (v := nI 0) hx hb dX3_fewestBursts_31 (by decide) ?_
  refine lv_istore (lv' := [(4, .int (nI 0)), (3, .int s_0), (0, .ref (ad 17 0)), (1, .int v_1), (2, .int v_2)]) hx hb dX3_fewestBursts_32 hl (by decide) rfl (fun ls hl => ?_)
  exact n_X3_fewestBursts_34 X hN _ _ _ _ _ hX hk_15 _ _ _ (lv_sub hl [2, 3, 4, 1, 0] rfl) hS
set_option maxRecDepth 100000 in
set_option maxHeartbeats 4000000 in
theorem n_X3_fewestBursts_88 (X : Cx p s m args meth c D cy ad A RX3 cX3_fewestBursts 5 ((some .int))) (hN : NsC ns) : ∀ (n : Nat) (v_2 : Int32) (v_3 : Int32) (M : Mem) (r : Int32 × Mem), f_X3_fewestBursts_88 n (v_2, v_3, M) = some r → ∀ (ls : Array Slot) (H : Heap) (locs : List Loc), lv_has ls 5 [(0, .ref (ad 17 0)), (2, .int v_2), (3, .int v_3)] → St D cy ad ns A M s.heap H locs → W p l e rm_X3_fewestBursts s m args below meth c H locs 0 0 (MQ below (QC D cy ad ns A r.2 (some (.int r.1))) args s 0 0 A) (F0 m 88 ls []) := by
  obtain ⟨hx, hb, hml, hown, hts, hK, hr, hlk, hA, hG⟩ := id X
  intro n
  induction n with
  | zero => intro v_2 v_3 M r hX; cases (show (none : Option (Int32 × Mem)) = some r from hX)
  | succ n ih =>
    intro v_2 v_3 M r hX ls H locs hl hS
    have hX : b_X3_fewestBursts_88 (fun x0 x1 x2 => f_X3_fewestBursts_88 n (x0, x1, x2)) v_2 v_3 M = some r := hX
    unfold b_X3_fewestBursts_88 at hX
    refine lv_iload_n hx hb dX3_fewestBursts_88 rfl (lv_at hl 2 rfl) ?_
    refine lv_aload_n hx hb dX3_fewestBursts_89 rfl (lv_at hl 0 rfl) ?_
    refine fg_X3_47 X hS (o_of hN (o := 17) (c := 3) (by decide) rfl) dX3_fewestBursts_90 ?_
    refine lv_icmp_ge (tgt := 164) hx hb dX3_fewestBursts_93 (by decide) (fun c25 => ?_) (fun c25 => ?_)
    · have hX := if_t c25 hX
      refine lv_aload_n hx hb dX3_fewestBursts_164 rfl (lv_at hl 0 rfl) ?_
      refine fg_X3_37 X hS (o_of hN (o := 17) (c := 3) (by decide) rfl) dX3_fewestBursts_165 ?_
      refine lv_iconst (v := nI 0) hx hb dX3_fewestBursts_168 (by decide) ?_
      obtain ⟨g26, hX⟩ := gin_of hX
      refine r_iald (ci := 3) (o := 17) (k := 8) (n := 512) X hS (o_of hN (o := 17) (c := 3) (by decide) rfl) rfl rfl g26 dX3_fewestBursts_169 ?_
      obtain rfl := some_of hX
      exact x_I (v := (gA M 17 8 (ix (nI 0)))) X hS dX3_fewestBursts_170
    · have hX := if_f c25 hX
      refine lv_iconst (v := nI 0) hx hb dX3_fewestBursts_96 (by decide) ?_
      refine lv_istore (lv' := [(4, .int (nI 0)), (0, .ref (ad 17 0)), (2, .int v_2), (3, .int v_3)]) hx hb dX3_fewestBursts_97 hl (by decide) rfl (fun ls hl => ?_)
      exact n_X3_fewestBursts_99 X hN _ _ _ _ hX (fun z0 z1 z2 r h ls H locs hl hS => ih z0 z1 z2 r h ls H locs hl hS) _ _ _ (lv_sub hl [1, 2, 3, 0] rfl) hS
set_option maxRecDepth 100000 in
set_option maxHeartbeats 4000000 in
theorem n_X3_fewestBursts_15 (X : Cx p s m args meth c D cy ad A RX3 cX3_fewestBursts 5 ((some .int))) (hN : NsC ns) {v_1 : Int32} : ∀ (n : Nat) (v_2 : Int32) (M : Mem) (r : Int32 × Mem), f_X3_fewestBursts_15 v_1 n (v_2, M) = some r → ∀ (ls : Array Slot) (H : Heap) (locs : List Loc), lv_has ls 5 [(0, .ref (ad 17 0)), (1, .int v_1), (2, .int v_2)] → St D cy ad ns A M s.heap H locs → W p l e rm_X3_fewestBursts s m args below meth c H locs 0 0 (MQ below (QC D cy ad ns A r.2 (some (.int r.1))) args s 0 0 A) (F0 m 15 ls []) := by
  obtain ⟨hx, hb, hml, hown, hts, hK, hr, hlk, hA, hG⟩ := id X
  intro n
  induction n with
  | zero => intro v_2 M r hX; cases (show (none : Option (Int32 × Mem)) = some r from hX)
  | succ n ih =>
    intro v_2 M r hX ls H locs hl hS
    have hX : b_X3_fewestBursts_15 v_1 (fun x0 x1 => f_X3_fewestBursts_15 v_1 n (x0, x1)) v_2 M = some r := hX
    unfold b_X3_fewestBursts_15 at hX
    refine lv_iload_n hx hb dX3_fewestBursts_15 rfl (lv_at hl 2 rfl) ?_
    refine lv_if_lt (tgt := 84) hx hb dX3_fewestBursts_16 (by decide) (fun c27 => ?_) (fun c27 => ?_)
    · have hX := if_t c27 hX
      refine lv_iconst (v := nI 0) hx hb dX3_fewestBursts_84 (by decide) ?_
      refine lv_istore_n (lv' := [(2, .int (nI 0)), (0, .ref (ad 17 0)), (1, .int v_1)]) hx hb dX3_fewestBursts_85 rfl hl (by decide) rfl (fun ls hl => ?_)
      refine lv_iconst (v := nI 0) hx hb dX3_fewestBursts_86 (by decide) ?_
      refine lv_istore_n (lv' := [(3, .int (nI 0)), (2, .int (nI 0)), (0, .ref (ad 17 0)), (1, .int v_1)]) hx hb dX3_fewestBursts_87 rfl hl (by decide) rfl (fun ls hl => ?_)
      exact n_X3_fewestBursts_88 X hN _ _ _ _ _ hX _ _ _ (lv_sub hl [2, 1, 0] rfl) hS
    · have hX := if_f c27 hX
      refine lv_iload_n hx hb dX3_fewestBursts_19 rfl (lv_at hl 2 rfl) ?_
      refine lv_iload_n hx hb dX3_fewestBursts_20 rfl (lv_at hl 1 rfl) ?_
      refine lv_icmp_ne (tgt := 28) hx hb dX3_fewestBursts_21 (by decide) (fun c28 => ?_) (fun c28 => ?_)
      · have hX := if_f c28 hX
        refine lv_ldc hx hb (own := RX3) hown (hts _ t4_81) dX3_fewestBursts_28 ?_
        exact n_X3_fewestBursts_30 X hN hX (fun z0 z1 r h ls H locs hl hS => ih z0 z1 r h ls H locs hl hS) _ _ _ (lv_sub hl [0, 1, 2] rfl) hS
      · have hX := if_t c28 hX
        refine lv_iconst (v := nI 0) hx hb dX3_fewestBursts_24 (by decide) ?_
        refine lv_goto (tgt := 30) hx hb dX3_fewestBursts_25 (by decide) ?_
        exact n_X3_fewestBursts_30 X hN hX (fun z0 z1 r h ls H locs hl hS => ih z0 z1 r h ls H locs hl hS) _ _ _ (lv_sub hl [0, 1, 2] rfl) hS
set_option maxRecDepth 100000 in
set_option maxHeartbeats 4000000 in
theorem m_X3_fewestBursts {l : Launch} {D : va_G} {cy : Nat → ClassId} {ad : Nat → Nat → Nat} {ns : List (Nat × Nat)} {A : Nat → Prop} {M : Mem} (hN : NsC ns) {r : Int32 × Mem} (hX : f_X3_fewestBursts M = some r) : Ct l yX3_fewestBursts cX3_fewestBursts 5 ((some .int)) rm_X3_fewestBursts D cy ad ns A [.ref (ad 17 0)] M r.2 (some (.int r.1)) := by
  refine ct_of (lv := [(0, .ref (ad 17 0))]) (by decide) (Nat.le_of_ble_eq_true rfl) rfl ?_
  intro p e s m args below meth c ls X hl hS
  obtain ⟨hx, hb, hml, hown, hts, hK, hr, hlk, hA, hG⟩ := id X
  obtain ⟨H, hH⟩ : ∃ z, z = s.heap := ⟨_, rfl⟩
  obtain ⟨locs, hlo⟩ : ∃ z : List Loc, z = [] := ⟨_, rfl⟩
  have hS : St D cy ad ns A M s.heap H locs := by rw [hH, hlo]; exact hS
  have hgoal : W p l e rm_X3_fewestBursts s m args below meth c H locs 0 0 (MQ below (QC D cy ad ns A r.2 (some (.int r.1))) args s 0 0 A) (F0 m 0 ls []) := by
    unfold f_X3_fewestBursts at hX
    refine lv_aload_n hx hb dX3_fewestBursts_0 rfl (lv_at hl 0 rfl) ?_
    obtain ⟨M30, h29, hX⟩ := bn_of hX
    refine r_callV0 (As := []) (rest := []) X hS (m_X3_sumGrowthBehind hN h29) mv_X3_sumGrowthBehind rfl (o_of hN (o := 17) (c := 3) (by decide) rfl) t4_77 ⟨rfl, rfl, Nat.le_of_ble_eq_true rfl, Nat.le_of_ble_eq_true rfl⟩ rfl hl.1 rfl (Nat.le_of_ble_eq_true rfl) ⟨Nat.zero_le _, Nat.zero_le _⟩ dX3_fewestBursts_1 (fun H locs hS => ?_)
    refine lv_iconst (v := nI 1) hx hb dX3_fewestBursts_4 (by decide) ?_
    refine lv_aload_n hx hb dX3_fewestBursts_5 rfl (lv_at hl 0 rfl) ?_
    refine fg_X3_47 X hS (o_of hN (o := 17) (c := 3) (by decide) rfl) dX3_fewestBursts_6 ?_
    refine lv_ishl hx hb dX3_fewestBursts_9 ?_
    refine lv_iconst (v := nI 1) hx hb dX3_fewestBursts_10 (by decide) ?_
    refine lv_isub hx hb dX3_fewestBursts_11 ?_
    refine lv_topi (fun v31 ev31 => ?_)
    have hX := nm_of ev31 hX
    refine lv_istore_n (lv' := [(1, .int v31), (0, .ref (ad 17 0))]) hx hb dX3_fewestBursts_12 rfl hl (by decide) rfl (fun ls hl => ?_)
    refine lv_iload_n hx hb dX3_fewestBursts_13 rfl (lv_at hl 0 rfl) ?_
    refine lv_istore_n (lv' := [(2, .int v31), (1, .int v31), (0, .ref (ad 17 0))]) hx hb dX3_fewestBursts_14 rfl hl (by decide) rfl (fun ls hl => ?_)
    exact n_X3_fewestBursts_15 X hN _ _ _ _ hX _ _ _ (lv_sub hl [2, 1, 0] rfl) hS
  rw [hH, hlo] at hgoal
  exact hgoal
theorem mv_X3_fewestBursts : Mv yX3_fewestBursts RX3 cX3_fewestBursts 5 ((some .int)) 0 := ⟨t4_76, t4_74, t4_75, t1_9, ⟨by decide, by decide⟩, by decide +kernel⟩
/-! SewnYear$Sewing.changesFrom(III)I -/
def rm_X3_changesFrom : Room := { frames := 0, cells := 0, slots := 0, locals := 0 }
def f_X3_changesFrom_22 (M : Mem) (a1 : Int32) (a2 : Int32) (a3 : Int32) (k_27 : Int32 → Bool → Option (Int32)) (v_4 : Int32) : Option (Int32) :=
  k_27 v_4 false
def f_X3_changesFrom_27 (M : Mem) (a1 : Int32) (a2 : Int32) (a3 : Int32) (v_4 : Int32) (s_0 : Bool) : Option (Int32) :=
  gin (((a2 ||| ((nI 1) <<< (a1 &&& 31))) * (nI 4)) + v_4) 2048 <| some ((b2i s_0) + (gA M 17 9 (ix (((a2 ||| ((nI 1) <<< (a1 &&& 31))) * (nI 4)) + v_4))))
def f_X3_changesFrom (M : Mem) (a1 : Int32) (a2 : Int32) (a3 : Int32) : Option (Int32) :=
  gin a1 9 <| nm (gA M (gR M 17 0) 3 (ix a1)) fun v4 => if a3 = (-1) then (f_X3_changesFrom_22 M a1 a2 a3 (fun x0 x1 => f_X3_changesFrom_27 M a1 a2 a3 x0 x1) v4) else (if a3 = v4 then (f_X3_changesFrom_22 M a1 a2 a3 (fun x0 x1 => f_X3_changesFrom_27 M a1 a2 a3 x0 x1) v4) else (f_X3_changesFrom_27 M a1 a2 a3 v4 true))
set_option maxRecDepth 100000 in
set_option maxHeartbeats 4000000 in
theorem n_X3_changesFrom_22 {a1 : Int32} {a2 : Int32} {a3 : Int32} (X : Cx p s m args meth c D cy ad A RX3 cX3_changesFrom 6 ((some .int))) (hN : NsC ns) {M : Mem} {k_27 : Int32 → Bool → Option (Int32)} {v_4 : Int32} {r : Int32} (hX : f_X3_changesFrom_22 M a1 a2 a3 k_27 v_4 = some r) : (∀ (v_4 : Int32) (s_0 : Bool) (r : Int32), k_27 v_4 s_0 = some r → ∀ (ls : Array Slot) (H : Heap) (locs : List Loc), lv_has ls 6 [(0, .ref (ad 17 0)), (1, .int a1), (2, .int a2), (4, .int v_4)] → St D cy ad ns A M s.heap H locs → W p l e rm_X3_changesFrom s m args below meth c H locs 0 0 (MQ below (QC D cy ad ns A M (some (.int r))) args s 0 0 A) (F0 m 27 ls [.int (b2i s_0)])) → ∀ (ls : Array Slot) (H : Heap) (locs : List Loc), lv_has ls 6 [(0, .ref (ad 17 0)), (1, .int a1), (2, .int a2), (4, .int v_4)] → St D cy ad ns A M s.heap H locs → W p l e rm_X3_changesFrom s m args below meth c H locs 0 0 (MQ below (QC D cy ad ns A M (some (.int r))) args s 0 0 A) (F0 m 22 ls []) := by
  obtain ⟨hx, hb, hml, hown, hts, hK, hr, hlk, hA, hG⟩ := id X
  intro hk_27 ls H locs hl hS
  unfold f_X3_changesFrom_22 at hX
  refine lv_iconst (v := nI 0) hx hb dX3_changesFrom_22 (by decide) ?_
  refine lv_goto (tgt := 27) hx hb dX3_changesFrom_23 (by decide) ?_
  exact hk_27 _ _ _ hX _ _ _ (lv_sub hl [0, 1, 2, 3] rfl) hS
set_option maxRecDepth 100000 in
set_option maxHeartbeats 4000000 in
theorem n_X3_changesFrom_27 {a1 : Int32} {a2 : Int32} {a3 : Int32} (X : Cx p s m args meth c D cy ad A RX3 cX3_changesFrom 6 ((some .int))) (hN : NsC ns) {M : Mem} {v_4 : Int32} {s_0 : Bool} {r : Int32} (hX : f_X3_changesFrom_27 M a1 a2 a3 v_4 s_0 = some r) : ∀ (ls : Array Slot) (H : Heap) (locs : List Loc), lv_has ls 6 [(0, .ref (ad 17 0)), (1, .int a1), (2, .int a2), (4, .int v_4)] → St D cy ad ns A M s.heap H locs → W p l e rm_X3_changesFrom s m args below meth c H locs 0 0 (MQ below (QC D cy ad ns A M (some (.int r))) args s 0 0 A) (F0 m 27 ls [.int (b2i s_0)]) := by
  obtain ⟨hx, hb, hml, hown, hts, hK, hr, hlk, hA, hG⟩ := id X
  intro ls H locs hl hS
  unfold f_X3_changesFrom_27 at hX
  refine lv_istore (lv' := [(5, .int (b2i s_0)), (0, .ref (ad 17 0)), (1, .int a1), (2, .int a2), (4, .int v_4)]) hx hb dX3_changesFrom_27 hl (by decide) rfl (fun ls hl => ?_)
  refine lv_iload hx hb dX3_changesFrom_29 (lv_at hl 0 rfl) ?_
  refine lv_aload_n hx hb dX3_changesFrom_31 rfl (lv_at hl 1 rfl) ?_
  refine fg_X3_40 X hS (o_of hN (o := 17) (c := 3) (by decide) rfl) dX3_changesFrom_32 ?_
  refine lv_iload_n hx hb dX3_changesFrom_35 rfl (lv_at hl 3 rfl) ?_
  refine lv_iconst (v := nI 1) hx hb dX3_changesFrom_36 (by decide) ?_
  refine lv_iload_n hx hb dX3_changesFrom_37 rfl (lv_at hl 2 rfl) ?_
  refine lv_ishl hx hb dX3_changesFrom_38 ?_
  refine lv_ior hx hb dX3_changesFrom_39 ?_
  refine lv_iconst (v := nI 4) hx hb dX3_changesFrom_40 (by decide) ?_
  refine lv_imul hx hb dX3_changesFrom_41 ?_
  refine lv_iload hx hb dX3_changesFrom_42 (lv_at hl 4 rfl) ?_
  refine lv_iadd hx hb dX3_changesFrom_44 ?_
  obtain ⟨g1, hX⟩ := gin_of hX
  refine r_iald (ci := 3) (o := 17) (k := 9) (n := 2048) X hS (o_of hN (o := 17) (c := 3) (by decide) rfl) rfl rfl g1 dX3_changesFrom_45 ?_
  refine lv_iadd hx hb dX3_changesFrom_46 ?_
  obtain rfl := some_of hX
  exact x_I (v := ((b2i s_0) + (gA M 17 9 (ix (((a2 ||| ((nI 1) <<< (a1 &&& 31))) * (nI 4)) + v_4))))) X hS dX3_changesFrom_47
set_option maxRecDepth 100000 in
set_option maxHeartbeats 4000000 in
theorem m_X3_changesFrom {l : Launch} {D : va_G} {cy : Nat → ClassId} {ad : Nat → Nat → Nat} {ns : List (Nat × Nat)} {A : Nat → Prop} {M : Mem} (hN : NsC ns) {a1 : Int32} {a2 : Int32} {a3 : Int32} {r : Int32} (hX : f_X3_changesFrom M a1 a2 a3 = some r) : Ct l yX3_changesFrom cX3_changesFrom 6 ((some .int)) rm_X3_changesFrom D cy ad ns A [.ref (ad 17 0), .int a1, .int a2, .int a3] M M (some (.int r)) := by
  refine ct_of (lv := [(0, .ref (ad 17 0)), (1, .int a1), (2, .int a2), (3, .int a3)]) (by decide) (Nat.le_of_ble_eq_true rfl) rfl ?_
  intro p e s m args below meth c ls X hl hS
  obtain ⟨hx, hb, hml, hown, hts, hK, hr, hlk, hA, hG⟩ := id X
  obtain ⟨H, hH⟩ : ∃ z, z = s.heap := ⟨_, rfl⟩
  obtain ⟨locs, hlo⟩ : ∃ z : List Loc, z = [] := ⟨_, rfl⟩
  have hS : St D cy ad ns A M s.heap H locs := by rw [hH, hlo]; exact hS
  have hgoal : W p l e rm_X3_changesFrom s m args below meth c H locs 0 0 (MQ below (QC D cy ad ns A M (some (.int r))) args s 0 0 A) (F0 m 0 ls []) := by
    unfold f_X3_changesFrom at hX
    refine lv_aload_n hx hb dX3_changesFrom_0 rfl (lv_at hl 0 rfl) ?_
    refine fg_X3_12 X hS (o_of hN (o := 17) (c := 3) (by decide) rfl) dX3_changesFrom_1 ?_
    have q2 := wr_17 hN hS
    refine fg_X3_137 X hS q2 dX3_changesFrom_4 ?_
    refine lv_iload_n hx hb dX3_changesFrom_7 rfl (lv_at hl 1 rfl) ?_
    obtain ⟨g3, hX⟩ := gin_of hX
    refine r_iald (ci := 0) (o := (gR M 17 0)) (k := 3) (n := 9) X hS q2 rfl rfl g3 dX3_changesFrom_8 ?_
    refine lv_topi (fun v4 ev4 => ?_)
    have hX := nm_of ev4 hX
    refine lv_istore (lv' := [(4, .int v4), (0, .ref (ad 17 0)), (1, .int a1), (2, .int a2), (3, .int a3)]) hx hb dX3_changesFrom_9 hl (by decide) rfl (fun ls hl => ?_)
    refine lv_iload_n hx hb dX3_changesFrom_11 rfl (lv_at hl 4 rfl) ?_
    refine lv_iconst (v := (-1)) hx hb dX3_changesFrom_12 (by decide) ?_
    refine lv_icmp_eq (tgt := 22) hx hb dX3_changesFrom_13 (by decide) (fun c5 => ?_) (fun c5 => ?_)
    · have hX := if_t c5 hX
      exact n_X3_changesFrom_22 X hN hX (fun z0 z1 r h ls H locs hl hS => n_X3_changesFrom_27 X hN h _ _ _ hl hS) _ _ _ (lv_sub hl [1, 2, 3, 0] rfl) hS
    · have hX := if_f c5 hX
      refine lv_iload_n hx hb dX3_changesFrom_16 rfl (lv_at hl 4 rfl) ?_
      refine lv_iload hx hb dX3_changesFrom_17 (lv_at hl 0 rfl) ?_
      refine lv_icmp_ne (tgt := 26) hx hb dX3_changesFrom_19 (by decide) (fun c6 => ?_) (fun c6 => ?_)
      · have hX := if_f c6 hX
        refine lv_iconst (v := nI 1) hx hb dX3_changesFrom_26 (by decide) ?_
        exact n_X3_changesFrom_27 X hN hX _ _ _ (lv_sub hl [1, 2, 3, 0] rfl) hS
      · have hX := if_t c6 hX
        exact n_X3_changesFrom_22 X hN hX (fun z0 z1 r h ls H locs hl hS => n_X3_changesFrom_27 X hN h _ _ _ hl hS) _ _ _ (lv_sub hl [1, 2, 3, 0] rfl) hS
  rw [hH, hlo] at hgoal
  exact hgoal
theorem mv_X3_changesFrom : Mv yX3_changesFrom RX3 cX3_changesFrom 6 ((some .int)) 3 := ⟨t4_101, t4_99, t4_100, t1_9, ⟨by decide, by decide⟩, by decide +kernel⟩
/-! SewnYear$Sewing.layThreaded(I)V -/
def rm_X3_layThreaded : Room := { frames := 2, cells := 0, slots := 0, locals := 42 }
def f_X3_layThreaded_96 (a1 : Int32) (v_2 : Int32) (v_3 : Int32) (v_4 : Int32) (v_5 : Int32) (k_22 : Int32 → Mem → Option (Mem)) (v_6 : Int32) (M : Mem) : Option (Mem) :=
  nm (v_6 + nI 1) fun v1 => k_22 v1 M
def f_X3_layThreaded_102 (a1 : Int32) (k_10 : Int32 → Int32 → Int32 → Int32 → Mem → Option (Mem)) (v_2 : Int32) (v_3 : Int32) (v_4 : Int32) (v_5 : Int32) (M : Mem) : Option (Mem) :=
  nm (v_5 + nI 1) fun v2 => k_10 v_2 v_3 v_4 v2 M
def b_X3_layThreaded_22 (a1 : Int32) (k_10 : Int32 → Int32 → Int32 → Int32 → Mem → Option (Mem)) (v_2 : Int32) (v_3 : Int32) (v_4 : Int32) (v_5 : Int32) (rc : Int32 → Mem → Option (Mem)) (v_6 : Int32) (M : Mem) : Option (Mem) :=
  if (gI M 17 1) ≤ v_6 then (f_X3_layThreaded_102 a1 k_10 v_2 v_3 v_4 v_5 M) else (bn (f_X3_mayCome M v_6 v_2) fun r5 => if r5 = true then (bn (f_X3_changesFrom M v_6 v_2 v_3) fun r8 => if r8 = v_4 then (gin v_5 9 <| nm (sA M 17 4 (ix v_5) v_6) fun M11 => nm (v_2 ||| ((nI 1) <<< (v_6 &&& 31))) fun v12 => gin v_6 9 <| nm (gA M11 (gR M11 17 0) 3 (ix v_6)) fun v15 => gin ((v12 * (nI 4)) + v15) 2048 <| nm (gA M11 17 9 (ix ((v12 * (nI 4)) + v15))) fun v17 => f_X3_layThreaded_102 a1 k_10 v12 v15 v17 v_5 M11) else (f_X3_layThreaded_96 a1 v_2 v_3 v_4 v_5 rc v_6 M)) else (f_X3_layThreaded_96 a1 v_2 v_3 v_4 v_5 rc v_6 M))
def f_X3_layThreaded_22 (a1 : Int32) (k_10 : Int32 → Int32 → Int32 → Int32 → Mem → Option (Mem)) (v_2 : Int32) (v_3 : Int32) (v_4 : Int32) (v_5 : Int32) : Nat → (Int32 × Mem) → Option (Mem) := lp (fun rc q => b_X3_layThreaded_22 a1 k_10 v_2 v_3 v_4 v_5 (fun x0 x1 => rc (x0, x1)) q.1 q.2)
def b_X3_layThreaded_10 (a1 : Int32) (rc : Int32 → Int32 → Int32 → Int32 → Mem → Option (Mem)) (v_2 : Int32) (v_3 : Int32) (v_4 : Int32) (v_5 : Int32) (M : Mem) : Option (Mem) :=
  if (gI M 17 1) ≤ v_5 then (some M) else (f_X3_layThreaded_22 a1 rc v_2 v_3 v_4 v_5 FU ((nI 0), M))
def f_X3_layThreaded_10 (a1 : Int32) : Nat → (Int32 × Int32 × Int32 × Int32 × Mem) → Option (Mem) := lp (fun rc q => b_X3_layThreaded_10 a1 (fun x0 x1 x2 x3 x4 => rc (x0, x1, x2, x3, x4)) q.1 q.2.1 q.2.2.1 q.2.2.2.1 q.2.2.2.2)
def f_X3_layThreaded (M : Mem) (a1 : Int32) : Option (Mem) :=
  f_X3_layThreaded_10 a1 FU ((nI 0), (-1), a1, (nI 0), M)
set_option maxRecDepth 100000 in
set_option maxHeartbeats 4000000 in
theorem n_X3_layThreaded_96 {a1 : Int32} {v_2 : Int32} {v_3 : Int32} {v_4 : Int32} {v_5 : Int32} (X : Cx p s m args meth c D cy ad A RX3 cX3_layThreaded 7 ((none : Option Jvm.ClassFile.FieldType))) (hN : NsC ns) {k_22 : Int32 → Mem → Option (Mem)} {v_6 : Int32} {M : Mem} {r : Mem} (hX : f_X3_layThreaded_96 a1 v_2 v_3 v_4 v_5 k_22 v_6 M = some r) : (∀ (v_6 : Int32) (M : Mem) (r : Mem), k_22 v_6 M = some r → ∀ (ls : Array Slot) (H : Heap) (locs : List Loc), lv_has ls 7 [(0, .ref (ad 17 0)), (2, .int v_2), (3, .int v_3), (4, .int v_4), (5, .int v_5), (6, .int v_6)] → St D cy ad ns A M s.heap H locs → W p l e rm_X3_layThreaded s m args below meth c H locs 0 0 (MQ below (QC D cy ad ns A r none) args s 0 0 A) (F0 m 22 ls [])) → ∀ (ls : Array Slot) (H : Heap) (locs : List Loc), lv_has ls 7 [(0, .ref (ad 17 0)), (2, .int v_2), (3, .int v_3), (4, .int v_4), (5, .int v_5), (6, .int v_6)] → St D cy ad ns A M s.heap H locs → W p l e rm_X3_layThreaded s m args below meth c H locs 0 0 (MQ below (QC D cy ad ns A r none) args s 0 0 A) (F0 m 96 ls []) := by
  obtain ⟨hx, hb, hml, hown, hts, hK, hr, hlk, hA, hG⟩ := id X
  intro hk_22 ls H locs hl hS
  unfold f_X3_layThreaded_96 at hX
  obtain ⟨v1, ev1⟩ : ∃ y : Int32, y = (v_6 + nI 1) := ⟨_, rfl⟩
  have hX := nm_of ev1 hX
  refine lv_iinc (v := v1) (lv' := [(6, .int v1), (0, .ref (ad 17 0)), (2, .int v_2), (3, .int v_3), (4, .int v_4), (5, .int v_5)]) hx hb dX3_layThreaded_96 hl (k := 5) rfl (by rw [ev1]; rfl) (by decide) rfl (fun ls hl => ?_)
  refine lv_goto (tgt := 22) hx hb dX3_layThreaded_99 (by decide) ?_
  exact hk_22 _ _ _ hX _ _ _ (lv_sub hl [1, 2, 3, 4, 5, 0] rfl) hS
set_option maxRecDepth 100000 in
set_option maxHeartbeats 4000000 in
theorem n_X3_layThreaded_102 {a1 : Int32} (X : Cx p s m args meth c D cy ad A RX3 cX3_layThreaded 7 ((none : Option Jvm.ClassFile.FieldType))) (hN : NsC ns) {k_10 : Int32 → Int32 → Int32 → Int32 → Mem → Option (Mem)} {v_2 : Int32} {v_3 : Int32} {v_4 : Int32} {v_5 : Int32} {M : Mem} {r : Mem} (hX : f_X3_layThreaded_102 a1 k_10 v_2 v_3 v_4 v_5 M = some r) : (∀ (v_2 : Int32) (v_3 : Int32) (v_4 : Int32) (v_5 : Int32) (M : Mem) (r : Mem), k_10 v_2 v_3 v_4 v_5 M = some r → ∀ (ls : Array Slot) (H : Heap) (locs : List Loc), lv_has ls 7 [(0, .ref (ad 17 0)), (2, .int v_2), (3, .int v_3), (4, .int v_4), (5, .int v_5)] → St D cy ad ns A M s.heap H locs → W p l e rm_X3_layThreaded s m args below meth c H locs 0 0 (MQ below (QC D cy ad ns A r none) args s 0 0 A) (F0 m 10 ls [])) → ∀ (ls : Array Slot) (H : Heap) (locs : List Loc), lv_has ls 7 [(0, .ref (ad 17 0)), (2, .int v_2), (3, .int v_3), (4, .int v_4), (5, .int v_5)] → St D cy ad ns A M s.heap H locs → W p l e rm_X3_layThreaded s m args below meth c H locs 0 0 (MQ below (QC D cy ad ns A r none) args s 0 0 A) (F0 m 102 ls []) := by
  obtain ⟨hx, hb, hml, hown, hts, hK, hr, hlk, hA, hG⟩ := id X
  intro hk_10 ls H locs hl hS
  unfold f_X3_layThreaded_102 at hX
  obtain ⟨v2, ev2⟩ : ∃ y : Int32, y = (v_5 + nI 1) := ⟨_, rfl⟩
  have hX := nm_of ev2 hX
  refine lv_iinc (v := v2) (lv' := [(5, .int v2), (0, .ref (ad 17 0)), (2, .int v_2), (3, .int v_3), (4, .int v_4)]) hx hb dX3_layThreaded_102 hl (k := 4) rfl (by rw [ev2]; rfl) (by decide) rfl (fun ls hl => ?_)
  refine lv_goto (tgt := 10) hx hb dX3_layThreaded_105 (by decide) ?_
  exact hk_10 _ _ _ _ _ _ hX _ _ _ (lv_sub hl [1, 2, 3, 4, 0] rfl) hS
set_option maxRecDepth 100000 in
set_option maxHeartbeats 4000000 in
theorem n_X3_layThreaded_22 {a1 : Int32} (X : Cx p s m args meth c D cy ad A RX3 cX3_layThreaded 7 ((none : Option Jvm.ClassFile.FieldType))) (hN : NsC ns) {k_10 : Int32 → Int32 → Int32 → Int32 → Mem → Option (Mem)} {v_2 : Int32} {v_3 : Int32} {v_4 : Int32} {v_5 : Int32} : ∀ (n : Nat) (v_6 : Int32) (M : Mem) (r : Mem), f_X3_layThreaded_22 a1 k_10 v_2 v_3 v_4 v_5 n (v_6, M) = some r → (∀ (v_2 : Int32) (v_3 : Int32) (v_4 : Int32) (v_5 : Int32) (M : Mem) (r : Mem), k_10 v_2 v_3 v_4 v_5 M = some r → ∀ (ls : Array Slot) (H : Heap) (locs : List Loc), lv_has ls 7 [(0, .ref (ad 17 0)), (2, .int v_2), (3, .int v_3), (4, .int v_4), (5, .int v_5)] → St D cy ad ns A M s.heap H locs → W p l e rm_X3_layThreaded s m args below meth c H locs 0 0 (MQ below (QC D cy ad ns A r none) args s 0 0 A) (F0 m 10 ls [])) → ∀ (ls : Array Slot) (H : Heap) (locs : List Loc), lv_has ls 7 [(0, .ref (ad 17 0)), (2, .int v_2), (3, .int v_3), (4, .int v_4), (5, .int v_5), (6, .int v_6)] → St D cy ad ns A M s.heap H locs → W p l e rm_X3_layThreaded s m args below meth c H locs 0 0 (MQ below (QC D cy ad ns A r none) args s 0 0 A) (F0 m 22 ls []) := by
  obtain ⟨hx, hb, hml, hown, hts, hK, hr, hlk, hA, hG⟩ := id X
  intro n
  induction n with
  | zero => intro v_6 M r hX; cases (show (none : Option (Mem)) = some r from hX)
  | succ n ih =>
    intro v_6 M r hX hk_10 ls H locs hl hS
    have hX : b_X3_layThreaded_22 a1 k_10 v_2 v_3 v_4 v_5 (fun x0 x1 => f_X3_layThreaded_22 a1 k_10 v_2 v_3 v_4 v_5 n (x0, x1)) v_6 M = some r := hX
    unfold b_X3_layThreaded_22 at hX
    refine lv_iload hx hb dX3_layThreaded_22 (lv_at hl 5 rfl) ?_
    refine lv_aload_n hx hb dX3_layThreaded_24 rfl (lv_at hl 0 rfl) ?_
    refine fg_X3_47 X hS (o_of hN (o := 17) (c := 3) (by decide) rfl) dX3_layThreaded_25 ?_
    refine lv_icmp_ge (tgt := 102) hx hb dX3_layThreaded_28 (by decide) (fun c3 => ?_) (fun c3 => ?_)
    · have hX := if_t c3 hX
      exact n_X3_layThreaded_102 X hN hX hk_10 _ _ _ (lv_sub hl [0, 1, 2, 3, 4] rfl) hS
    · have hX := if_f c3 hX
      refine lv_aload_n hx hb dX3_layThreaded_31 rfl (lv_at hl 0 rfl) ?_
      refine lv_iload hx hb dX3_layThreaded_32 (lv_at hl 5 rfl) ?_
      refine lv_iload_n hx hb dX3_layThreaded_34 rfl (lv_at hl 1 rfl) ?_
      obtain ⟨r5, h4, hX⟩ := bn_of hX
      refine r_callV1 (v := .int (b2i r5)) (As := [.int v_6, .int v_2]) (rest := []) X hS (m_X3_mayCome hN h4) mv_X3_mayCome rfl (o_of hN (o := 17) (c := 3) (by decide) rfl) t4_41 ⟨rfl, rfl, Nat.le_of_ble_eq_true rfl, Nat.le_of_ble_eq_true rfl⟩ rfl hl.1 rfl (Nat.le_of_ble_eq_true rfl) ⟨Nat.zero_le _, Nat.zero_le _⟩ dX3_layThreaded_35 (fun H locs hS => ?_)
      refine lv_if_eq (tgt := 96) hx hb dX3_layThreaded_38 (by decide) (fun c6 => ?_) (fun c6 => ?_)
      · have hX := if_bf c6 hX
        exact n_X3_layThreaded_96 X hN hX (fun z0 z1 r h ls H locs hl hS => ih z0 z1 r h hk_10 ls H locs hl hS) _ _ _ (lv_sub hl [0, 1, 2, 3, 4, 5] rfl) hS
      · have hX := if_bt c6 hX
        refine lv_aload_n hx hb dX3_layThreaded_41 rfl (lv_at hl 0 rfl) ?_
        refine lv_iload hx hb dX3_layThreaded_42 (lv_at hl 5 rfl) ?_
        refine lv_iload_n hx hb dX3_layThreaded_44 rfl (lv_at hl 1 rfl) ?_
        refine lv_iload_n hx hb dX3_layThreaded_45 rfl (lv_at hl 2 rfl) ?_
        obtain ⟨r8, h7, hX⟩ := bn_of hX
        refine r_callV1 (v := .int r8) (As := [.int v_6, .int v_2, .int v_3]) (rest := []) X hS (m_X3_changesFrom hN h7) mv_X3_changesFrom rfl (o_of hN (o := 17) (c := 3) (by decide) rfl) t4_98 ⟨rfl, rfl, Nat.le_of_ble_eq_true rfl, Nat.le_of_ble_eq_true rfl⟩ rfl hl.1 rfl (Nat.le_of_ble_eq_true rfl) ⟨Nat.zero_le _, Nat.zero_le _⟩ dX3_layThreaded_46 (fun H locs hS => ?_)
        refine lv_iload hx hb dX3_layThreaded_49 (lv_at hl 3 rfl) ?_
        refine lv_icmp_ne (tgt := 96) hx hb dX3_layThreaded_51 (by decide) (fun c9 => ?_) (fun c9 => ?_)
        · have hX := if_f c9 hX
          exact n_X3_layThreaded_96 X hN hX (fun z0 z1 r h ls H locs hl hS => ih z0 z1 r h hk_10 ls H locs hl hS) _ _ _ (lv_sub hl [0, 1, 2, 3, 4, 5] rfl) hS
        · have hX := if_t c9 hX
          refine lv_aload_n hx hb dX3_layThreaded_54 rfl (lv_at hl 0 rfl) ?_
          refine fg_X3_25 X hS (o_of hN (o := 17) (c := 3) (by decide) rfl) dX3_layThreaded_55 ?_
          refine lv_iload hx hb dX3_layThreaded_58 (lv_at hl 4 rfl) ?_
          refine lv_iload hx hb dX3_layThreaded_60 (lv_at hl 5 rfl) ?_
          obtain ⟨g10, hX⟩ := gin_of hX
          refine r_iast (ci := 3) (o := 17) (k := 4) (n := 9) X hS (o_of hN (o := 17) (c := 3) (by decide) rfl) rfl rfl g10 dX3_layThreaded_62 (fun H locs hS => ?_)
          obtain ⟨M11, eM11, hS, hX⟩ := nm_mem hS hX
          refine lv_iload_n hx hb dX3_layThreaded_63 rfl (lv_at hl 1 rfl) ?_
          refine lv_iconst (v := nI 1) hx hb dX3_layThreaded_64 (by decide) ?_
          refine lv_iload hx hb dX3_layThreaded_65 (lv_at hl 5 rfl) ?_
          refine lv_ishl hx hb dX3_layThreaded_67 ?_
          refine lv_ior hx hb dX3_layThreaded_68 ?_
          refine lv_topi (fun v12 ev12 => ?_)
          have hX := nm_of ev12 hX
          refine lv_istore_n (lv' := [(2, .int v12), (0, .ref (ad 17 0)), (3, .int v_3), (4, .int v_4), (5, .int v_5), (6, .int v_6)]) hx hb dX3_layThreaded_69 rfl hl (by decide) rfl (fun ls hl => ?_)
          refine lv_aload_n hx hb dX3_layThreaded_70 rfl (lv_at hl 1 rfl) ?_
          refine fg_X3_12 X hS (o_of hN (o := 17) (c := 3) (by decide) rfl) dX3_layThreaded_71 ?_
          have q13 := wr_17 hN hS
          refine fg_X3_137 X hS q13 dX3_layThreaded_74 ?_
          refine lv_iload hx hb dX3_layThreaded_77 (lv_at hl 5 rfl) ?_
          obtain ⟨g14, hX⟩ := gin_of hX
          refine r_iald (ci := 0) (o := (gR M11 17 0)) (k := 3) (n := 9) X hS q13 rfl rfl g14 dX3_layThreaded_79 ?_
          refine lv_topi (fun v15 ev15 => ?_)
          have hX := nm_of ev15 hX
          refine lv_istore_n (lv' := [(3, .int v15), (2, .int v12), (0, .ref (ad 17 0)), (4, .int v_4), (5, .int v_5), (6, .int v_6)]) hx hb dX3_layThreaded_80 rfl hl (by decide) rfl (fun ls hl => ?_)
          refine lv_aload_n hx hb dX3_layThreaded_81 rfl (lv_at hl 2 rfl) ?_
          refine fg_X3_40 X hS (o_of hN (o := 17) (c := 3) (by decide) rfl) dX3_layThreaded_82 ?_
          refine lv_iload_n hx hb dX3_layThreaded_85 rfl (lv_at hl 1 rfl) ?_
          refine lv_iconst (v := nI 4) hx hb dX3_layThreaded_86 (by decide) ?_
          refine lv_imul hx hb dX3_layThreaded_87 ?_
          refine lv_iload_n hx hb dX3_layThreaded_88 rfl (lv_at hl 0 rfl) ?_
          refine lv_iadd hx hb dX3_layThreaded_89 ?_
          obtain ⟨g16, hX⟩ := gin_of hX
          refine r_iald (ci := 3) (o := 17) (k := 9) (n := 2048) X hS (o_of hN (o := 17) (c := 3) (by decide) rfl) rfl rfl g16 dX3_layThreaded_90 ?_
          refine lv_topi (fun v17 ev17 => ?_)
          have hX := nm_of ev17 hX
          refine lv_istore (lv' := [(4, .int v17), (3, .int v15), (2, .int v12), (0, .ref (ad 17 0)), (5, .int v_5), (6, .int v_6)]) hx hb dX3_layThreaded_91 hl (by decide) rfl (fun ls hl => ?_)
          refine lv_goto (tgt := 102) hx hb dX3_layThreaded_93 (by decide) ?_
          exact n_X3_layThreaded_102 X hN hX hk_10 _ _ _ (lv_sub hl [3, 2, 1, 0, 4] rfl) hS
set_option maxRecDepth 100000 in
set_option maxHeartbeats 4000000 in
theorem n_X3_layThreaded_10 {a1 : Int32} (X : Cx p s m args meth c D cy ad A RX3 cX3_layThreaded 7 ((none : Option Jvm.ClassFile.FieldType))) (hN : NsC ns) : ∀ (n : Nat) (v_2 : Int32) (v_3 : Int32) (v_4 : Int32) (v_5 : Int32) (M : Mem) (r : Mem), f_X3_layThreaded_10 a1 n (v_2, v_3, v_4, v_5, M) = some r → ∀ (ls : Array Slot) (H : Heap) (locs : List Loc), lv_has ls 7 [(0, .ref (ad 17 0)), (2, .int v_2), (3, .int v_3), (4, .int v_4), (5, .int v_5)] → St D cy ad ns A M s.heap H locs → W p l e rm_X3_layThreaded s m args below meth c H locs 0 0 (MQ below (QC D cy ad ns A r none) args s 0 0 A) (F0 m 10 ls []) := by
  obtain ⟨hx, hb, hml, hown, hts, hK, hr, hlk, hA, hG⟩ := id X
  intro n
  induction n with
  | zero => intro v_2 v_3 v_4 v_5 M r hX; cases (show (none : Option (Mem)) = some r from hX)
  | succ n ih =>
    intro v_2 v_3 v_4 v_5 M r hX ls H locs hl hS
    have hX : b_X3_layThreaded_10 a1 (fun x0 x1 x2 x3 x4 => f_X3_layThreaded_10 a1 n (x0, x1, x2, x3, x4)) v_2 v_3 v_4 v_5 M = some r := hX
    unfold b_X3_layThreaded_10 at hX
    refine lv_iload hx hb dX3_layThreaded_10 (lv_at hl 4 rfl) ?_
    refine lv_aload_n hx hb dX3_layThreaded_12 rfl (lv_at hl 0 rfl) ?_
    refine fg_X3_47 X hS (o_of hN (o := 17) (c := 3) (by decide) rfl) dX3_layThreaded_13 ?_
    refine lv_icmp_ge (tgt := 108) hx hb dX3_layThreaded_16 (by decide) (fun c18 => ?_) (fun c18 => ?_)
    · have hX := if_t c18 hX
      obtain rfl := some_of hX
      exact x_V X hS dX3_layThreaded_108
    · have hX := if_f c18 hX
      refine lv_iconst (v := nI 0) hx hb dX3_layThreaded_19 (by decide) ?_
      refine lv_istore (lv' := [(6, .int (nI 0)), (0, .ref (ad 17 0)), (2, .int v_2), (3, .int v_3), (4, .int v_4), (5, .int v_5)]) hx hb dX3_layThreaded_20 hl (by decide) rfl (fun ls hl => ?_)
      exact n_X3_layThreaded_22 X hN _ _ _ _ hX (fun z0 z1 z2 z3 z4 r h ls H locs hl hS => ih z0 z1 z2 z3 z4 r h ls H locs hl hS) _ _ _ (lv_sub hl [1, 2, 3, 4, 5, 0] rfl) hS
set_option maxRecDepth 100000 in
set_option maxHeartbeats 4000000 in
theorem m_X3_layThreaded {l : Launch} {D : va_G} {cy : Nat → ClassId} {ad : Nat → Nat → Nat} {ns : List (Nat × Nat)} {A : Nat → Prop} {M : Mem} (hN : NsC ns) {a1 : Int32} {r : Mem} (hX : f_X3_layThreaded M a1 = some r) : Ct l yX3_layThreaded cX3_layThreaded 7 ((none : Option Jvm.ClassFile.FieldType)) rm_X3_layThreaded D cy ad ns A [.ref (ad 17 0), .int a1] M r none := by
  refine ct_of (lv := [(0, .ref (ad 17 0)), (1, .int a1)]) (by decide) (Nat.le_of_ble_eq_true rfl) rfl ?_
  intro p e s m args below meth c ls X hl hS
  obtain ⟨hx, hb, hml, hown, hts, hK, hr, hlk, hA, hG⟩ := id X
  obtain ⟨H, hH⟩ : ∃ z, z = s.heap := ⟨_, rfl⟩
  obtain ⟨locs, hlo⟩ : ∃ z : List Loc, z = [] := ⟨_, rfl⟩
  have hS : St D cy ad ns A M s.heap H locs := by rw [hH, hlo]; exact hS
  have hgoal : W p l e rm_X3_layThreaded s m args below meth c H locs 0 0 (MQ below (QC D cy ad ns A r none) args s 0 0 A) (F0 m 0 ls []) := by
    unfold f_X3_layThreaded at hX
    refine lv_iconst (v := nI 0) hx hb dX3_layThreaded_0 (by decide) ?_
    refine lv_istore_n (lv' := [(2, .int (nI 0)), (0, .ref (ad 17 0)), (1, .int a1)]) hx hb dX3_layThreaded_1 rfl hl (by decide) rfl (fun ls hl => ?_)
    refine lv_iconst (v := (-1)) hx hb dX3_layThreaded_2 (by decide) ?_
    refine lv_istore_n (lv' := [(3, .int (-1)), (2, .int (nI 0)), (0, .ref (ad 17 0)), (1, .int a1)]) hx hb dX3_layThreaded_3 rfl hl (by decide) rfl (fun ls hl => ?_)
    refine lv_iload_n hx hb dX3_layThreaded_4 rfl (lv_at hl 3 rfl) ?_
    refine lv_istore (lv' := [(4, .int a1), (3, .int (-1)), (2, .int (nI 0)), (0, .ref (ad 17 0)), (1, .int a1)]) hx hb dX3_layThreaded_5 hl (by decide) rfl (fun ls hl => ?_)
    refine lv_iconst (v := nI 0) hx hb dX3_layThreaded_7 (by decide) ?_
    refine lv_istore (lv' := [(5, .int (nI 0)), (4, .int a1), (3, .int (-1)), (2, .int (nI 0)), (0, .ref (ad 17 0)), (1, .int a1)]) hx hb dX3_layThreaded_8 hl (by decide) rfl (fun ls hl => ?_)
    exact n_X3_layThreaded_10 X hN _ _ _ _ _ _ _ hX _ _ _ (lv_sub hl [4, 3, 2, 1, 0] rfl) hS
  rw [hH, hlo] at hgoal
  exact hgoal
theorem mv_X3_layThreaded : Mv yX3_layThreaded RX3 cX3_layThreaded 7 ((none : Option Jvm.ClassFile.FieldType)) 1 := ⟨t4_105, t4_103, t4_104, t1_9, ⟨by decide, by decide⟩, by decide +kernel⟩
/-! SewnYear$Sewing.fewestChanges()I -/
def rm_X3_fewestChanges : Room := { frames := 3, cells := 0, slots := 0, locals := 68 }
def f_X3_fewestChanges_72 (v_1 : Int32) (v_2 : Int32) (v_3 : Int32) (k_38 : Int32 → Int32 → Mem → Option (Int32 × Mem)) (v_4 : Int32) (v_5 : Int32) (M : Mem) : Option (Int32 × Mem) :=
  nm (v_5 + nI 1) fun v1 => k_38 v_4 v1 M
def b_X3_fewestChanges_38 (v_1 : Int32) (v_2 : Int32) (k_17 : Int32 → Mem → Option (Int32 × Mem)) (v_3 : Int32) (rc : Int32 → Int32 → Mem → Option (Int32 × Mem)) (v_4 : Int32) (v_5 : Int32) (M : Mem) : Option (Int32 × Mem) :=
  if (gI M 17 1) ≤ v_5 then (gin ((v_2 * (nI 4)) + v_3) 2048 <| nm (sA M 17 9 (ix ((v_2 * (nI 4)) + v_3)) v_4) fun M4 => nm (v_3 + nI 1) fun v5 => k_17 v5 M4) else (bn (f_X3_mayCome M v_5 v_2) fun r7 => if r7 = true then (bn (f_X3_changesFrom M v_5 v_2 v_3) fun r10 => nm (mnI v_4 r10) fun v11 => f_X3_fewestChanges_72 v_1 v_2 v_3 rc v11 v_5 M) else (f_X3_fewestChanges_72 v_1 v_2 v_3 rc v_4 v_5 M))
def f_X3_fewestChanges_38 (v_1 : Int32) (v_2 : Int32) (k_17 : Int32 → Mem → Option (Int32 × Mem)) (v_3 : Int32) : Nat → (Int32 × Int32 × Mem) → Option (Int32 × Mem) := lp (fun rc q => b_X3_fewestChanges_38 v_1 v_2 k_17 v_3 (fun x0 x1 x2 => rc (x0, x1, x2)) q.1 q.2.1 q.2.2)
def f_X3_fewestChanges_147 (k_118 : Int32 → Int32 → Mem → Option (Int32 × Mem)) (v_2 : Int32) (v_3 : Int32) (M : Mem) : Option (Int32 × Mem) :=
  nm (v_3 + nI 1) fun v12 => k_118 v_2 v12 M
def f_X3_fewestChanges_33 (v_1 : Int32) (v_2 : Int32) (k_17 : Int32 → Mem → Option (Int32 × Mem)) (v_3 : Int32) (s_0 : Int32) (M : Mem) : Option (Int32 × Mem) :=
  f_X3_fewestChanges_38 v_1 v_2 k_17 v_3 FU (s_0, (nI 0), M)
def b_X3_fewestChanges_118 (rc : Int32 → Int32 → Mem → Option (Int32 × Mem)) (v_2 : Int32) (v_3 : Int32) (M : Mem) : Option (Int32 × Mem) :=
  if (gI M 17 1) ≤ v_3 then (bn (f_X3_layThreaded M v_2) fun M15 => some (v_2, M15)) else (bn (f_X3_mayCome M v_3 (nI 0)) fun r17 => if r17 = true then (bn (f_X3_changesFrom M v_3 (nI 0) (-1)) fun r20 => nm (mnI v_2 r20) fun v21 => f_X3_fewestChanges_147 rc v21 v_3 M) else (f_X3_fewestChanges_147 rc v_2 v_3 M))
def f_X3_fewestChanges_118 : Nat → (Int32 × Int32 × Mem) → Option (Int32 × Mem) := lp (fun rc q => b_X3_fewestChanges_118 (fun x0 x1 x2 => rc (x0, x1, x2)) q.1 q.2.1 q.2.2)
def b_X3_fewestChanges_17 (v_1 : Int32) (k_11 : Int32 → Mem → Option (Int32 × Mem)) (v_2 : Int32) (rc : Int32 → Mem → Option (Int32 × Mem)) (v_3 : Int32) (M : Mem) : Option (Int32 × Mem) :=
  if (nI 4) ≤ v_3 then (nm (v_2 + (-1)) fun v23 => k_11 v23 M) else (if v_2 = v_1 then (f_X3_fewestChanges_33 v_1 v_2 rc v_3 (nI 0) M) else (f_X3_fewestChanges_33 v_1 v_2 rc v_3 (nI 1000000) M))
def f_X3_fewestChanges_17 (v_1 : Int32) (k_11 : Int32 → Mem → Option (Int32 × Mem)) (v_2 : Int32) : Nat → (Int32 × Mem) → Option (Int32 × Mem) := lp (fun rc q => b_X3_fewestChanges_17 v_1 k_11 v_2 (fun x0 x1 => rc (x0, x1)) q.1 q.2)
def f_X3_fewestChanges_115 (s_0 : Int32) (M : Mem) : Option (Int32 × Mem) :=
  f_X3_fewestChanges_118 FU (s_0, (nI 0), M)
def b_X3_fewestChanges_11 (v_1 : Int32) (rc : Int32 → Mem → Option (Int32 × Mem)) (v_2 : Int32) (M : Mem) : Option (Int32 × Mem) :=
  if v_2 ≤ (nI 0) then (if (gI M 17 1) = (nI 0) then (f_X3_fewestChanges_115 (nI 0) M) else (f_X3_fewestChanges_115 (nI 1000000) M)) else (f_X3_fewestChanges_17 v_1 rc v_2 FU ((nI 0), M))
def f_X3_fewestChanges_11 (v_1 : Int32) : Nat → (Int32 × Mem) → Option (Int32 × Mem) := lp (fun rc q => b_X3_fewestChanges_11 v_1 (fun x0 x1 => rc (x0, x1)) q.1 q.2)
def f_X3_fewestChanges (M : Mem) : Option (Int32 × Mem) :=
  nm (((nI 1) <<< ((gI M 17 1) &&& 31)) - (nI 1)) fun v27 => f_X3_fewestChanges_11 v27 FU (v27, M)
set_option maxRecDepth 100000 in
set_option maxHeartbeats 4000000 in
theorem n_X3_fewestChanges_72 {v_1 : Int32} {v_2 : Int32} {v_3 : Int32} (X : Cx p s m args meth c D cy ad A RX3 cX3_fewestChanges 6 ((some .int))) (hN : NsC ns) {k_38 : Int32 → Int32 → Mem → Option (Int32 × Mem)} {v_4 : Int32} {v_5 : Int32} {M : Mem} {r : Int32 × Mem} (hX : f_X3_fewestChanges_72 v_1 v_2 v_3 k_38 v_4 v_5 M = some r) : (∀ (v_4 : Int32) (v_5 : Int32) (M : Mem) (r : Int32 × Mem), k_38 v_4 v_5 M = some r → ∀ (ls : Array Slot) (H : Heap) (locs : List Loc), lv_has ls 6 [(0, .ref (ad 17 0)), (1, .int v_1), (2, .int v_2), (3, .int v_3), (4, .int v_4), (5, .int v_5)] → St D cy ad ns A M s.heap H locs → W p l e rm_X3_fewestChanges s m args below meth c H locs 0 0 (MQ below (QC D cy ad ns A r.2 (some (.int r.1))) args s 0 0 A) (F0 m 38 ls [])) → ∀ (ls : Array Slot) (H : Heap) (locs : List Loc), lv_has ls 6 [(0, .ref (ad 17 0)), (1, .int v_1), (2, .int v_2), (3, .int v_3), (4, .int v_4), (5, .int v_5)] → St D cy ad ns A M s.heap H locs → W p l e rm_X3_fewestChanges s m args below meth c H locs 0 0 (MQ below (QC D cy ad ns A r.2 (some (.int r.1))) args s 0 0 A) (F0 m 72 ls []) := by
  obtain ⟨hx, hb, hml, hown, hts, hK, hr, hlk, hA, hG⟩ := id X
  intro hk_38 ls H locs hl hS
  unfold f_X3_fewestChanges_72 at hX
  obtain ⟨v1, ev1⟩ : ∃ y : Int32, y = (v_5 + nI 1) := ⟨_, rfl⟩
  have hX := nm_of ev1 hX
  refine lv_iinc (v := v1) (lv' := [(5, .int v1), (0, .ref (ad 17 0)), (1, .int v_1), (2, .int v_2), (3, .int v_3), (4, .int v_4)]) hx hb dX3_fewestChanges_72 hl (k := 5) rfl (by rw [ev1]; rfl) (by decide) rfl (fun ls hl => ?_)
  refine lv_goto (tgt := 38) hx hb dX3_fewestChanges_75 (by decide) ?_
  exact hk_38 _ _ _ _ hX _ _ _ (lv_sub hl [1, 2, 3, 4, 5, 0] rfl) hS
set_option maxRecDepth 100000 in
set_option maxHeartbeats 4000000 in
theorem n_X3_fewestChanges_38 {v_1 : Int32} {v_2 : Int32} (X : Cx p s m args meth c D cy ad A RX3 cX3_fewestChanges 6 ((some .int))) (hN : NsC ns) {k_17 : Int32 → Mem → Option (Int32 × Mem)} {v_3 : Int32} : ∀ (n : Nat) (v_4 : Int32) (v_5 : Int32) (M : Mem) (r : Int32 × Mem), f_X3_fewestChanges_38 v_1 v_2 k_17 v_3 n (v_4, v_5, M) = some r → (∀ (v_3 : Int32) (M : Mem) (r : Int32 × Mem), k_17 v_3 M = some r → ∀ (ls : Array Slot) (H : Heap) (locs : List Loc), lv_has ls 6 [(0, .ref (ad 17 0)), (1, .int v_1), (2, .int v_2), (3, .int v_3)] → St D cy ad ns A M s.heap H locs → W p l e rm_X3_fewestChanges s m args below meth c H locs 0 0 (MQ below (QC D cy ad ns A r.2 (some (.int r.1))) args s 0 0 A) (F0 m 17 ls [])) → ∀ (ls : Array Slot) (H : Heap) (locs : List Loc), lv_has ls 6 [(0, .ref (ad 17 0)), (1, .int v_1), (2, .int v_2), (3, .int v_3), (4, .int v_4), (5, .int v_5)] → St D cy ad ns A M s.heap H locs → W p l e rm_X3_fewestChanges s m args below meth c H locs 0 0 (MQ below (QC D cy ad ns A r.2 (some (.int r.1))) args s 0 0 A) (F0 m 38 ls []) := by
  obtain ⟨hx, hb, hml, hown, hts, hK, hr, hlk, hA, hG⟩ := id X
  intro n
  induction n with
  | zero => intro v_4 v_5 M r hX; cases (show (none : Option (Int32 × Mem)) = some r from hX)
  | succ n ih =>
    intro v_4 v_5 M r hX hk_17 ls H locs hl hS
    have hX : b_X3_fewestChanges_38 v_1 v_2 k_17 v_3 (fun x0 x1 x2 => f_X3_fewestChanges_38 v_1 v_2 k_17 v_3 n (x0, x1, x2)) v_4 v_5 M = some r := hX
    unfold b_X3_fewestChanges_38 at hX
    refine lv_iload hx hb dX3_fewestChanges_38 (lv_at hl 5 rfl) ?_
    refine lv_aload_n hx hb dX3_fewestChanges_40 rfl (lv_at hl 0 rfl) ?_
    refine fg_X3_47 X hS (o_of hN (o := 17) (c := 3) (by decide) rfl) dX3_fewestChanges_41 ?_
    refine lv_icmp_ge (tgt := 78) hx hb dX3_fewestChanges_44 (by decide) (fun c2 => ?_) (fun c2 => ?_)
    · have hX := if_t c2 hX
      refine lv_aload_n hx hb dX3_fewestChanges_78 rfl (lv_at hl 0 rfl) ?_
      refine fg_X3_40 X hS (o_of hN (o := 17) (c := 3) (by decide) rfl) dX3_fewestChanges_79 ?_
      refine lv_iload_n hx hb dX3_fewestChanges_82 rfl (lv_at hl 2 rfl) ?_
      refine lv_iconst (v := nI 4) hx hb dX3_fewestChanges_83 (by decide) ?_
      refine lv_imul hx hb dX3_fewestChanges_84 ?_
      refine lv_iload_n hx hb dX3_fewestChanges_85 rfl (lv_at hl 3 rfl) ?_
      refine lv_iadd hx hb dX3_fewestChanges_86 ?_
      refine lv_iload hx hb dX3_fewestChanges_87 (lv_at hl 4 rfl) ?_
      obtain ⟨g3, hX⟩ := gin_of hX
      refine r_iast (ci := 3) (o := 17) (k := 9) (n := 2048) X hS (o_of hN (o := 17) (c := 3) (by decide) rfl) rfl rfl g3 dX3_fewestChanges_89 (fun H locs hS => ?_)
      obtain ⟨M4, eM4, hS, hX⟩ := nm_mem hS hX
      obtain ⟨v5, ev5⟩ : ∃ y : Int32, y = (v_3 + nI 1) := ⟨_, rfl⟩
      have hX := nm_of ev5 hX
      refine lv_iinc (v := v5) (lv' := [(3, .int v5), (0, .ref (ad 17 0)), (1, .int v_1), (2, .int v_2), (4, .int v_4), (5, .int v_5)]) hx hb dX3_fewestChanges_90 hl (k := 3) rfl (by rw [ev5]; rfl) (by decide) rfl (fun ls hl => ?_)
      refine lv_goto (tgt := 17) hx hb dX3_fewestChanges_93 (by decide) ?_
      exact hk_17 _ _ _ hX _ _ _ (lv_sub hl [1, 2, 3, 0] rfl) hS
    · have hX := if_f c2 hX
      refine lv_aload_n hx hb dX3_fewestChanges_47 rfl (lv_at hl 0 rfl) ?_
      refine lv_iload hx hb dX3_fewestChanges_48 (lv_at hl 5 rfl) ?_
      refine lv_iload_n hx hb dX3_fewestChanges_50 rfl (lv_at hl 2 rfl) ?_
      obtain ⟨r7, h6, hX⟩ := bn_of hX
      refine r_callV1 (v := .int (b2i r7)) (As := [.int v_5, .int v_2]) (rest := []) X hS (m_X3_mayCome hN h6) mv_X3_mayCome rfl (o_of hN (o := 17) (c := 3) (by decide) rfl) t4_41 ⟨rfl, rfl, Nat.le_of_ble_eq_true rfl, Nat.le_of_ble_eq_true rfl⟩ rfl hl.1 rfl (Nat.le_of_ble_eq_true rfl) ⟨Nat.zero_le _, Nat.zero_le _⟩ dX3_fewestChanges_51 (fun H locs hS => ?_)
      refine lv_if_eq (tgt := 72) hx hb dX3_fewestChanges_54 (by decide) (fun c8 => ?_) (fun c8 => ?_)
      · have hX := if_bf c8 hX
        exact n_X3_fewestChanges_72 X hN hX (fun z0 z1 z2 r h ls H locs hl hS => ih z0 z1 z2 r h hk_17 ls H locs hl hS) _ _ _ (lv_sub hl [0, 1, 2, 3, 4, 5] rfl) hS
      · have hX := if_bt c8 hX
        refine lv_iload hx hb dX3_fewestChanges_57 (lv_at hl 4 rfl) ?_
        refine lv_aload_n hx hb dX3_fewestChanges_59 rfl (lv_at hl 0 rfl) ?_
        refine lv_iload hx hb dX3_fewestChanges_60 (lv_at hl 5 rfl) ?_
        refine lv_iload_n hx hb dX3_fewestChanges_62 rfl (lv_at hl 2 rfl) ?_
        refine lv_iload_n hx hb dX3_fewestChanges_63 rfl (lv_at hl 3 rfl) ?_
        obtain ⟨r10, h9, hX⟩ := bn_of hX
        refine r_callV1 (v := .int r10) (As := [.int v_5, .int v_2, .int v_3]) (rest := [.int v_4]) X hS (m_X3_changesFrom hN h9) mv_X3_changesFrom rfl (o_of hN (o := 17) (c := 3) (by decide) rfl) t4_98 ⟨rfl, rfl, Nat.le_of_ble_eq_true rfl, Nat.le_of_ble_eq_true rfl⟩ rfl hl.1 rfl (Nat.le_of_ble_eq_true rfl) ⟨Nat.zero_le _, Nat.zero_le _⟩ dX3_fewestChanges_64 (fun H locs hS => ?_)
        refine va_mmin hx hb (hml.trans hl.1.symm) (own := RX3) hown (hts _ t4_93) (hts _ jm_min.1) (hts _ jm_min.2.1) (hts _ jm_min.2.2) (Nat.le_of_ble_eq_true rfl) (Nat.le_of_ble_eq_true rfl) (Nat.zero_le _) (Nat.zero_le _) dX3_fewestChanges_67 ?_
        refine lv_topi (fun v11 ev11 => ?_)
        have hX := nm_of ev11 hX
        refine lv_istore (lv' := [(4, .int v11), (0, .ref (ad 17 0)), (1, .int v_1), (2, .int v_2), (3, .int v_3), (5, .int v_5)]) hx hb dX3_fewestChanges_70 hl (by decide) rfl (fun ls hl => ?_)
        exact n_X3_fewestChanges_72 X hN hX (fun z0 z1 z2 r h ls H locs hl hS => ih z0 z1 z2 r h hk_17 ls H locs hl hS) _ _ _ (lv_sub hl [1, 2, 3, 4, 0, 5] rfl) hS
set_option maxRecDepth 100000 in
set_option maxHeartbeats 4000000 in
theorem n_X3_fewestChanges_147 (X : Cx p s m args meth c D cy ad A RX3 cX3_fewestChanges 6 ((some .int))) (hN : NsC ns) {k_118 : Int32 → Int32 → Mem → Option (Int32 × Mem)} {v_2 : Int32} {v_3 : Int32} {M : Mem} {r : Int32 × Mem} (hX : f_X3_fewestChanges_147 k_118 v_2 v_3 M = some r) : (∀ (v_2 : Int32) (v_3 : Int32) (M : Mem) (r : Int32 × Mem), k_118 v_2 v_3 M = some r → ∀ (ls : Array Slot) (H : Heap) (locs : List Loc), lv_has ls 6 [(0, .ref (ad 17 0)), (2, .int v_2), (3, .int v_3)] → St D cy ad ns A M s.heap H locs → W p l e rm_X3_fewestChanges s m args below meth c H locs 0 0 (MQ below (QC D cy ad ns A r.2 (some (.int r.1))) args s 0 0 A) (F0 m 118 ls [])) → ∀ (ls : Array Slot) (H : Heap) (locs : List Loc), lv_has ls 6 [(0, .ref (ad 17 0)), (2, .int v_2), (3, .int v_3)] → St D cy ad ns A M s.heap H locs → W p l e rm_X3_fewestChanges s m args below meth c H locs 0 0 (MQ below (QC D cy ad ns A r.2 (some (.int r.1))) args s 0 0 A) (F0 m 147 ls []) := by
  obtain ⟨hx, hb, hml, hown, hts, hK, hr, hlk, hA, hG⟩ := id X
  intro hk_118 ls H locs hl hS
  unfold f_X3_fewestChanges_147 at hX
  obtain ⟨v12, ev12⟩ : ∃ y : Int32, y = (v_3 + nI 1) := ⟨_, rfl⟩
  have hX := nm_of ev12 hX
  refine lv_iinc (v := v12) (lv' := [(3, .int v12), (0, .ref (ad 17 0)), (2, .int v_2)]) hx hb dX3_fewestChanges_147 hl (k := 2) rfl (by rw [ev12]; rfl) (by decide) rfl (fun ls hl => ?_)
  refine lv_goto (tgt := 118) hx hb dX3_fewestChanges_150 (by decide) ?_
  exact hk_118 _ _ _ _ hX _ _ _ (lv_sub hl [1, 2, 0] rfl) hS
set_option maxRecDepth 100000 in
set_option maxHeartbeats 4000000 in
theorem n_X3_fewestChanges_33 {v_1 : Int32} {v_2 : Int32} (X : Cx p s m args meth c D cy ad A RX3 cX3_fewestChanges 6 ((some .int))) (hN : NsC ns) {k_17 : Int32 → Mem → Option (Int32 × Mem)} {v_3 : Int32} {s_0 : Int32} {M : Mem} {r : Int32 × Mem} (hX : f_X3_fewestChanges_33 v_1 v_2 k_17 v_3 s_0 M = some r) : (∀ (v_3 : Int32) (M : Mem) (r : Int32 × Mem), k_17 v_3 M = some r → ∀ (ls : Array Slot) (H : Heap) (locs : List Loc), lv_has ls 6 [(0, .ref (ad 17 0)), (1, .int v_1), (2, .int v_2), (3, .int v_3)] → St D cy ad ns A M s.heap H locs → W p l e rm_X3_fewestChanges s m args below meth c H locs 0 0 (MQ below (QC D cy ad ns A r.2 (some (.int r.1))) args s 0 0 A) (F0 m 17 ls [])) → ∀ (ls : Array Slot) (H : Heap) (locs : List Loc), lv_has ls 6 [(0, .ref (ad 17 0)), (1, .int v_1), (2, .int v_2), (3, .int v_3)] → St D cy ad ns A M s.heap H locs → W p l e rm_X3_fewestChanges s m args below meth c H locs 0 0 (MQ below (QC D cy ad ns A r.2 (some (.int r.1))) args s 0 0 A) (F0 m 33 ls [.int s_0]) := by
  obtain ⟨hx, hb, hml, hown, hts, hK, hr, hlk, hA, hG⟩ := id X
  intro hk_17 ls H locs hl hS
  unfold f_X3_fewestChanges_33 at hX
  refine lv_istore (lv' := [(4, .int s_0), (0, .ref (ad 17 0)), (1, .int v_1), (2, .int v_2), (3, .int v_3)]) hx hb dX3_fewestChanges_33 hl (by decide) rfl (fun ls hl => ?_)
  refine lv_iconst (v := nI 0) hx hb dX3_fewestChanges_35 (by decide) ?_
  refine lv_istore (lv' := [(5, .int (nI 0)), (4, .int s_0), (0, .ref (ad 17 0)), (1, .int v_1), (2, .int v_2), (3, .int v_3)]) hx hb dX3_fewestChanges_36 hl (by decide) rfl (fun ls hl => ?_)
  exact n_X3_fewestChanges_38 X hN _ _ _ _ _ hX hk_17 _ _ _ (lv_sub hl [2, 3, 4, 5, 1, 0] rfl) hS
set_option maxRecDepth 100000 in
set_option maxHeartbeats 4000000 in
theorem n_X3_fewestChanges_118 (X : Cx p s m args meth c D cy ad A RX3 cX3_fewestChanges 6 ((some .int))) (hN : NsC ns) : ∀ (n : Nat) (v_2 : Int32) (v_3 : Int32) (M : Mem) (r : Int32 × Mem), f_X3_fewestChanges_118 n (v_2, v_3, M) = some r → ∀ (ls : Array Slot) (H : Heap) (locs : List Loc), lv_has ls 6 [(0, .ref (ad 17 0)), (2, .int v_2), (3, .int v_3)] → St D cy ad ns A M s.heap H locs → W p l e rm_X3_fewestChanges s m args below meth c H locs 0 0 (MQ below (QC D cy ad ns A r.2 (some (.int r.1))) args s 0 0 A) (F0 m 118 ls []) := by
  obtain ⟨hx, hb, hml, hown, hts, hK, hr, hlk, hA, hG⟩ := id X
  intro n
  induction n with
  | zero => intro v_2 v_3 M r hX; cases (show (none : Option (Int32 × Mem)) = some r from hX)
  | succ n ih =>
    intro v_2 v_3 M r hX ls H locs hl hS
    have hX : b_X3_fewestChanges_118 (fun x0 x1 x2 => f_X3_fewestChanges_118 n (x0, x1, x2)) v_2 v_3 M = some r := hX
    unfold b_X3_fewestChanges_118 at hX
    refine lv_iload_n hx hb dX3_fewestChanges_118 rfl (lv_at hl 2 rfl) ?_
    refine lv_aload_n hx hb dX3_fewestChanges_119 rfl (lv_at hl 0 rfl) ?_
    refine fg_X3_47 X hS (o_of hN (o := 17) (c := 3) (by decide) rfl) dX3_fewestChanges_120 ?_
    refine lv_icmp_ge (tgt := 153) hx hb dX3_fewestChanges_123 (by decide) (fun c13 => ?_) (fun c13 => ?_)
    · have hX := if_t c13 hX
      refine lv_aload_n hx hb dX3_fewestChanges_153 rfl (lv_at hl 0 rfl) ?_
      refine lv_iload_n hx hb dX3_fewestChanges_154 rfl (lv_at hl 1 rfl) ?_
      obtain ⟨M15, h14, hX⟩ := bn_of hX
      refine r_callV0 (As := [.int v_2]) (rest := []) X hS (m_X3_layThreaded hN h14) mv_X3_layThreaded rfl (o_of hN (o := 17) (c := 3) (by decide) rfl) t4_102 ⟨rfl, rfl, Nat.le_of_ble_eq_true rfl, Nat.le_of_ble_eq_true rfl⟩ rfl hl.1 rfl (Nat.le_of_ble_eq_true rfl) ⟨Nat.zero_le _, Nat.zero_le _⟩ dX3_fewestChanges_155 (fun H locs hS => ?_)
      refine lv_iload_n hx hb dX3_fewestChanges_158 rfl (lv_at hl 1 rfl) ?_
      obtain rfl := some_of hX
      exact x_I (v := v_2) X hS dX3_fewestChanges_159
    · have hX := if_f c13 hX
      refine lv_aload_n hx hb dX3_fewestChanges_126 rfl (lv_at hl 0 rfl) ?_
      refine lv_iload_n hx hb dX3_fewestChanges_127 rfl (lv_at hl 2 rfl) ?_
      refine lv_iconst (v := nI 0) hx hb dX3_fewestChanges_128 (by decide) ?_
      obtain ⟨r17, h16, hX⟩ := bn_of hX
      refine r_callV1 (v := .int (b2i r17)) (As := [.int v_3, .int (nI 0)]) (rest := []) X hS (m_X3_mayCome hN h16) mv_X3_mayCome rfl (o_of hN (o := 17) (c := 3) (by decide) rfl) t4_41 ⟨rfl, rfl, Nat.le_of_ble_eq_true rfl, Nat.le_of_ble_eq_true rfl⟩ rfl hl.1 rfl (Nat.le_of_ble_eq_true rfl) ⟨Nat.zero_le _, Nat.zero_le _⟩ dX3_fewestChanges_129 (fun H locs hS => ?_)
      refine lv_if_eq (tgt := 147) hx hb dX3_fewestChanges_132 (by decide) (fun c18 => ?_) (fun c18 => ?_)
      · have hX := if_bf c18 hX
        exact n_X3_fewestChanges_147 X hN hX (fun z0 z1 z2 r h ls H locs hl hS => ih z0 z1 z2 r h ls H locs hl hS) _ _ _ (lv_sub hl [0, 1, 2] rfl) hS
      · have hX := if_bt c18 hX
        refine lv_iload_n hx hb dX3_fewestChanges_135 rfl (lv_at hl 1 rfl) ?_
        refine lv_aload_n hx hb dX3_fewestChanges_136 rfl (lv_at hl 0 rfl) ?_
        refine lv_iload_n hx hb dX3_fewestChanges_137 rfl (lv_at hl 2 rfl) ?_
        refine lv_iconst (v := nI 0) hx hb dX3_fewestChanges_138 (by decide) ?_
        refine lv_iconst (v := (-1)) hx hb dX3_fewestChanges_139 (by decide) ?_
        obtain ⟨r20, h19, hX⟩ := bn_of hX
        refine r_callV1 (v := .int r20) (As := [.int v_3, .int (nI 0), .int (-1)]) (rest := [.int v_2]) X hS (m_X3_changesFrom hN h19) mv_X3_changesFrom rfl (o_of hN (o := 17) (c := 3) (by decide) rfl) t4_98 ⟨rfl, rfl, Nat.le_of_ble_eq_true rfl, Nat.le_of_ble_eq_true rfl⟩ rfl hl.1 rfl (Nat.le_of_ble_eq_true rfl) ⟨Nat.zero_le _, Nat.zero_le _⟩ dX3_fewestChanges_140 (fun H locs hS => ?_)
        refine va_mmin hx hb (hml.trans hl.1.symm) (own := RX3) hown (hts _ t4_93) (hts _ jm_min.1) (hts _ jm_min.2.1) (hts _ jm_min.2.2) (Nat.le_of_ble_eq_true rfl) (Nat.le_of_ble_eq_true rfl) (Nat.zero_le _) (Nat.zero_le _) dX3_fewestChanges_143 ?_
        refine lv_topi (fun v21 ev21 => ?_)
        have hX := nm_of ev21 hX
        refine lv_istore_n (lv' := [(2, .int v21), (0, .ref (ad 17 0)), (3, .int v_3)]) hx hb dX3_fewestChanges_146 rfl hl (by decide) rfl (fun ls hl => ?_)
        exact n_X3_fewestChanges_147 X hN hX (fun z0 z1 z2 r h ls H locs hl hS => ih z0 z1 z2 r h ls H locs hl hS) _ _ _ (lv_sub hl [1, 0, 2] rfl) hS
set_option maxRecDepth 100000 in
set_option maxHeartbeats 4000000 in
theorem n_X3_fewestChanges_17 {v_1 : Int32} (X : Cx p s m args meth c D cy ad A RX3 cX3_fewestChanges 6 ((some .int))) (hN : NsC ns) {k_11 : Int32 → Mem → Option (Int32 × Mem)} {v_2 : Int32} : ∀ (n : Nat) (v_3 : Int32) (M : Mem) (r : Int32 × Mem), f_X3_fewestChanges_17 v_1 k_11 v_2 n (v_3, M) = some r → (∀ (v_2 : Int32) (M : Mem) (r : Int32 × Mem), k_11 v_2 M = some r → ∀ (ls : Array Slot) (H : Heap) (locs : List Loc), lv_has ls 6 [(0, .ref (ad 17 0)), (1, .int v_1), (2, .int v_2)] → St D cy ad ns A M s.heap H locs → W p l e rm_X3_fewestChanges s m args below meth c H locs 0 0 (MQ below (QC D cy ad ns A r.2 (some (.int r.1))) args s 0 0 A) (F0 m 11 ls [])) → ∀ (ls : Array Slot) (H : Heap) (locs : List Loc), lv_has ls 6 [(0, .ref (ad 17 0)), (1, .int v_1), (2, .int v_2), (3, .int v_3)] → St D cy ad ns A M s.heap H locs → W p l e rm_X3_fewestChanges s m args below meth c H locs 0 0 (MQ below (QC D cy ad ns A r.2 (some (.int r.1))) args s 0 0 A) (F0 m 17 ls []) := by
  obtain ⟨hx, hb, hml, hown, hts, hK, hr, hlk, hA, hG⟩ := id X
  intro n
  induction n with
  | zero => intro v_3 M r hX; cases (show (none : Option (Int32 × Mem)) = some r from hX)
  | succ n ih =>
    intro v_3 M r hX hk_11 ls H locs hl hS
    have hX : b_X3_fewestChanges_17 v_1 k_11 v_2 (fun x0 x1 => f_X3_fewestChanges_17 v_1 k_11 v_2 n (x0, x1)) v_3 M = some r := hX
    unfold b_X3_fewestChanges_17 at hX
    refine lv_iload_n hx hb dX3_fewestChanges_17 rfl (lv_at hl 3 rfl) ?_
    refine lv_iconst (v := nI 4) hx hb dX3_fewestChanges_18 (by decide) ?_
    refine lv_icmp_ge (tgt := 96) hx hb dX3_fewestChanges_19 (by decide) (fun c22 => ?_) (fun c22 => ?_)
    · have hX := if_t c22 hX
      obtain ⟨v23, ev23⟩ : ∃ y : Int32, y = (v_2 + (-1)) := ⟨_, rfl⟩
      have hX := nm_of ev23 hX
      refine lv_iinc (v := v23) (lv' := [(2, .int v23), (0, .ref (ad 17 0)), (1, .int v_1), (3, .int v_3)]) hx hb dX3_fewestChanges_96 hl (k := 2) rfl (by rw [ev23]; rfl) (by decide) rfl (fun ls hl => ?_)
      refine lv_goto (tgt := 11) hx hb dX3_fewestChanges_99 (by decide) ?_
      exact hk_11 _ _ _ hX _ _ _ (lv_sub hl [1, 2, 0] rfl) hS
    · have hX := if_f c22 hX
      refine lv_iload_n hx hb dX3_fewestChanges_22 rfl (lv_at hl 2 rfl) ?_
      refine lv_iload_n hx hb dX3_fewestChanges_23 rfl (lv_at hl 1 rfl) ?_
      refine lv_icmp_ne (tgt := 31) hx hb dX3_fewestChanges_24 (by decide) (fun c24 => ?_) (fun c24 => ?_)
      · have hX := if_f c24 hX
        refine lv_ldc hx hb (own := RX3) hown (hts _ t4_81) dX3_fewestChanges_31 ?_
        exact n_X3_fewestChanges_33 X hN hX (fun z0 z1 r h ls H locs hl hS => ih z0 z1 r h hk_11 ls H locs hl hS) _ _ _ (lv_sub hl [0, 1, 2, 3] rfl) hS
      · have hX := if_t c24 hX
        refine lv_iconst (v := nI 0) hx hb dX3_fewestChanges_27 (by decide) ?_
        refine lv_goto (tgt := 33) hx hb dX3_fewestChanges_28 (by decide) ?_
        exact n_X3_fewestChanges_33 X hN hX (fun z0 z1 r h ls H locs hl hS => ih z0 z1 r h hk_11 ls H locs hl hS) _ _ _ (lv_sub hl [0, 1, 2, 3] rfl) hS
set_option maxRecDepth 100000 in
set_option maxHeartbeats 4000000 in
theorem n_X3_fewestChanges_115 (X : Cx p s m args meth c D cy ad A RX3 cX3_fewestChanges 6 ((some .int))) (hN : NsC ns) {s_0 : Int32} {M : Mem} {r : Int32 × Mem} (hX : f_X3_fewestChanges_115 s_0 M = some r) : ∀ (ls : Array Slot) (H : Heap) (locs : List Loc), lv_has ls 6 [(0, .ref (ad 17 0))] → St D cy ad ns A M s.heap H locs → W p l e rm_X3_fewestChanges s m args below meth c H locs 0 0 (MQ below (QC D cy ad ns A r.2 (some (.int r.1))) args s 0 0 A) (F0 m 115 ls [.int s_0]) := by
  obtain ⟨hx, hb, hml, hown, hts, hK, hr, hlk, hA, hG⟩ := id X
  intro ls H locs hl hS
  unfold f_X3_fewestChanges_115 at hX
  refine lv_istore_n (lv' := [(2, .int s_0), (0, .ref (ad 17 0))]) hx hb dX3_fewestChanges_115 rfl hl (by decide) rfl (fun ls hl => ?_)
  refine lv_iconst (v := nI 0) hx hb dX3_fewestChanges_116 (by decide) ?_
  refine lv_istore_n (lv' := [(3, .int (nI 0)), (2, .int s_0), (0, .ref (ad 17 0))]) hx hb dX3_fewestChanges_117 rfl hl (by decide) rfl (fun ls hl => ?_)
  exact n_X3_fewestChanges_118 X hN _ _ _ _ _ hX _ _ _ (lv_sub hl [2, 1, 0] rfl) hS
set_option maxRecDepth 100000 in
set_option maxHeartbeats 4000000 in
theorem n_X3_fewestChanges_11 (X : Cx p s m args meth c D cy ad A RX3 cX3_fewestChanges 6 ((some .int))) (hN : NsC ns) {v_1 : Int32} : ∀ (n : Nat) (v_2 : Int32) (M : Mem) (r : Int32 × Mem), f_X3_fewestChanges_11 v_1 n (v_2, M) = some r → ∀ (ls : Array Slot) (H : Heap) (locs : List Loc), lv_has ls 6 [(0, .ref (ad 17 0)), (1, .int v_1), (2, .int v_2)] → St D cy ad ns A M s.heap H locs → W p l e rm_X3_fewestChanges s m args below meth c H locs 0 0 (MQ below (QC D cy ad ns A r.2 (some (.int r.1))) args s 0 0 A) (F0 m 11 ls []) := by
  obtain ⟨hx, hb, hml, hown, hts, hK, hr, hlk, hA, hG⟩ := id X
  intro n
  induction n with
  | zero => intro v_2 M r hX; cases (show (none : Option (Int32 × Mem)) = some r from hX)
  | succ n ih =>
    intro v_2 M r hX ls H locs hl hS
    have hX : b_X3_fewestChanges_11 v_1 (fun x0 x1 => f_X3_fewestChanges_11 v_1 n (x0, x1)) v_2 M = some r := hX
    unfold b_X3_fewestChanges_11 at hX
    refine lv_iload_n hx hb dX3_fewestChanges_11 rfl (lv_at hl 2 rfl) ?_
    refine lv_if_le (tgt := 102) hx hb dX3_fewestChanges_12 (by decide) (fun c25 => ?_) (fun c25 => ?_)
    · have hX := if_t c25 hX
      refine lv_aload_n hx hb dX3_fewestChanges_102 rfl (lv_at hl 0 rfl) ?_
      refine fg_X3_47 X hS (o_of hN (o := 17) (c := 3) (by decide) rfl) dX3_fewestChanges_103 ?_
      refine lv_if_ne (tgt := 113) hx hb dX3_fewestChanges_106 (by decide) (fun c26 => ?_) (fun c26 => ?_)
      · have hX := if_f c26 hX
        refine lv_ldc hx hb (own := RX3) hown (hts _ t4_81) dX3_fewestChanges_113 ?_
        exact n_X3_fewestChanges_115 X hN hX _ _ _ (lv_sub hl [0] rfl) hS
      · have hX := if_t c26 hX
        refine lv_iconst (v := nI 0) hx hb dX3_fewestChanges_109 (by decide) ?_
        refine lv_goto (tgt := 115) hx hb dX3_fewestChanges_110 (by decide) ?_
        exact n_X3_fewestChanges_115 X hN hX _ _ _ (lv_sub hl [0] rfl) hS
    · have hX := if_f c25 hX
      refine lv_iconst (v := nI 0) hx hb dX3_fewestChanges_15 (by decide) ?_
      refine lv_istore_n (lv' := [(3, .int (nI 0)), (0, .ref (ad 17 0)), (1, .int v_1), (2, .int v_2)]) hx hb dX3_fewestChanges_16 rfl hl (by decide) rfl (fun ls hl => ?_)
      exact n_X3_fewestChanges_17 X hN _ _ _ _ hX (fun z0 z1 r h ls H locs hl hS => ih z0 z1 r h ls H locs hl hS) _ _ _ (lv_sub hl [1, 2, 3, 0] rfl) hS
set_option maxRecDepth 100000 in
set_option maxHeartbeats 4000000 in
theorem m_X3_fewestChanges {l : Launch} {D : va_G} {cy : Nat → ClassId} {ad : Nat → Nat → Nat} {ns : List (Nat × Nat)} {A : Nat → Prop} {M : Mem} (hN : NsC ns) {r : Int32 × Mem} (hX : f_X3_fewestChanges M = some r) : Ct l yX3_fewestChanges cX3_fewestChanges 6 ((some .int)) rm_X3_fewestChanges D cy ad ns A [.ref (ad 17 0)] M r.2 (some (.int r.1)) := by
  refine ct_of (lv := [(0, .ref (ad 17 0))]) (by decide) (Nat.le_of_ble_eq_true rfl) rfl ?_
  intro p e s m args below meth c ls X hl hS
  obtain ⟨hx, hb, hml, hown, hts, hK, hr, hlk, hA, hG⟩ := id X
  obtain ⟨H, hH⟩ : ∃ z, z = s.heap := ⟨_, rfl⟩
  obtain ⟨locs, hlo⟩ : ∃ z : List Loc, z = [] := ⟨_, rfl⟩
  have hS : St D cy ad ns A M s.heap H locs := by rw [hH, hlo]; exact hS
  have hgoal : W p l e rm_X3_fewestChanges s m args below meth c H locs 0 0 (MQ below (QC D cy ad ns A r.2 (some (.int r.1))) args s 0 0 A) (F0 m 0 ls []) := by
    unfold f_X3_fewestChanges at hX
    refine lv_iconst (v := nI 1) hx hb dX3_fewestChanges_0 (by decide) ?_
    refine lv_aload_n hx hb dX3_fewestChanges_1 rfl (lv_at hl 0 rfl) ?_
    refine fg_X3_47 X hS (o_of hN (o := 17) (c := 3) (by decide) rfl) dX3_fewestChanges_2 ?_
    refine lv_ishl hx hb dX3_fewestChanges_5 ?_
    refine lv_iconst (v := nI 1) hx hb dX3_fewestChanges_6 (by decide) ?_
    refine lv_isub hx hb dX3_fewestChanges_7 ?_
    refine lv_topi (fun v27 ev27 => ?_)
    have hX := nm_of ev27 hX
    refine lv_istore_n (lv' := [(1, .int v27), (0, .ref (ad 17 0))]) hx hb dX3_fewestChanges_8 rfl hl (by decide) rfl (fun ls hl => ?_)
    refine lv_iload_n hx hb dX3_fewestChanges_9 rfl (lv_at hl 0 rfl) ?_
    refine lv_istore_n (lv' := [(2, .int v27), (1, .int v27), (0, .ref (ad 17 0))]) hx hb dX3_fewestChanges_10 rfl hl (by decide) rfl (fun ls hl => ?_)
    exact n_X3_fewestChanges_11 X hN _ _ _ _ hX _ _ _ (lv_sub hl [2, 1, 0] rfl) hS
  rw [hH, hlo] at hgoal
  exact hgoal
theorem mv_X3_fewestChanges : Mv yX3_fewestChanges RX3 cX3_fewestChanges 6 ((some .int)) 0 := ⟨t4_97, t4_95, t4_96, t1_9, ⟨by decide, by decide⟩, by decide +kernel⟩
/-! SewnYear$Sewing.longest(I)I -/
def rm_X3_longest : Room := { frames := 1, cells := 0, slots := 0, locals := 24 }
def f_X3_longest_65 (a1 : Int32) (v_2 : Int32) (v_3 : Int32) (v_4 : Int32) (k_26 : Int32 → Int32 → Mem → Option (Int32 × Mem)) (v_5 : Int32) (v_6 : Int32) (M : Mem) : Option (Int32 × Mem) :=
  nm (v_6 + nI 1) fun v1 => k_26 v_5 v1 M
def b_X3_longest_26 (a1 : Int32) (k_4 : Int32 → Int32 → Mem → Option (Int32 × Mem)) (v_2 : Int32) (v_3 : Int32) (v_4 : Int32) (rc : Int32 → Int32 → Mem → Option (Int32 × Mem)) (v_5 : Int32) (v_6 : Int32) (M : Mem) : Option (Int32 × Mem) :=
  if (gI M 17 1) ≤ v_6 then (gin v_4 9 <| bn (f_X9_begun (gA M (gR M 17 0) 2 (ix v_4)) a1) fun r6 => gin v_4 9 <| nm (sA M 17 5 (ix v_4) (v_5 + r6)) fun M8 => gin v_4 9 <| nm (mxI v_2 (gA M8 17 5 (ix v_4))) fun v10 => nm (v_3 + nI 1) fun v11 => k_4 v10 v11 M8) else (gin v_4 9 <| if (((gA M 17 2 (ix v_4)) >>> (v_6 &&& 31)) &&& (nI 1)) = (nI 1) then (gin v_6 9 <| nm (mxI v_5 (gA M 17 5 (ix v_6))) fun v15 => f_X3_longest_65 a1 v_2 v_3 v_4 rc v15 v_6 M) else (f_X3_longest_65 a1 v_2 v_3 v_4 rc v_5 v_6 M))
def f_X3_longest_26 (a1 : Int32) (k_4 : Int32 → Int32 → Mem → Option (Int32 × Mem)) (v_2 : Int32) (v_3 : Int32) (v_4 : Int32) : Nat → (Int32 × Int32 × Mem) → Option (Int32 × Mem) := lp (fun rc q => b_X3_longest_26 a1 k_4 v_2 v_3 v_4 (fun x0 x1 x2 => rc (x0, x1, x2)) q.1 q.2.1 q.2.2)
def b_X3_longest_4 (a1 : Int32) (rc : Int32 → Int32 → Mem → Option (Int32 × Mem)) (v_2 : Int32) (v_3 : Int32) (M : Mem) : Option (Int32 × Mem) :=
  if (gI M 17 1) ≤ v_3 then (some (v_2, M)) else (gin v_3 9 <| nm (gA M 17 4 (ix v_3)) fun v18 => f_X3_longest_26 a1 rc v_2 v_3 v18 FU ((nI 0), (nI 0), M))
def f_X3_longest_4 (a1 : Int32) : Nat → (Int32 × Int32 × Mem) → Option (Int32 × Mem) := lp (fun rc q => b_X3_longest_4 a1 (fun x0 x1 x2 => rc (x0, x1, x2)) q.1 q.2.1 q.2.2)
def f_X3_longest (M : Mem) (a1 : Int32) : Option (Int32 × Mem) :=
  f_X3_longest_4 a1 FU ((nI 0), (nI 0), M)
set_option maxRecDepth 100000 in
set_option maxHeartbeats 4000000 in
theorem n_X3_longest_65 {a1 : Int32} {v_2 : Int32} {v_3 : Int32} {v_4 : Int32} (X : Cx p s m args meth c D cy ad A RX3 cX3_longest 7 ((some .int))) (hN : NsC ns) {k_26 : Int32 → Int32 → Mem → Option (Int32 × Mem)} {v_5 : Int32} {v_6 : Int32} {M : Mem} {r : Int32 × Mem} (hX : f_X3_longest_65 a1 v_2 v_3 v_4 k_26 v_5 v_6 M = some r) : (∀ (v_5 : Int32) (v_6 : Int32) (M : Mem) (r : Int32 × Mem), k_26 v_5 v_6 M = some r → ∀ (ls : Array Slot) (H : Heap) (locs : List Loc), lv_has ls 7 [(0, .ref (ad 17 0)), (1, .int a1), (2, .int v_2), (3, .int v_3), (4, .int v_4), (5, .int v_5), (6, .int v_6)] → St D cy ad ns A M s.heap H locs → W p l e rm_X3_longest s m args below meth c H locs 0 0 (MQ below (QC D cy ad ns A r.2 (some (.int r.1))) args s 0 0 A) (F0 m 26 ls [])) → ∀ (ls : Array Slot) (H : Heap) (locs : List Loc), lv_has ls 7 [(0, .ref (ad 17 0)), (1, .int a1), (2, .int v_2), (3, .int v_3), (4, .int v_4), (5, .int v_5), (6, .int v_6)] → St D cy ad ns A M s.heap H locs → W p l e rm_X3_longest s m args below meth c H locs 0 0 (MQ below (QC D cy ad ns A r.2 (some (.int r.1))) args s 0 0 A) (F0 m 65 ls []) := by
  obtain ⟨hx, hb, hml, hown, hts, hK, hr, hlk, hA, hG⟩ := id X
  intro hk_26 ls H locs hl hS
  unfold f_X3_longest_65 at hX
  obtain ⟨v1, ev1⟩ : ∃ y : Int32, y = (v_6 + nI 1) := ⟨_, rfl⟩
  have hX := nm_of ev1 hX
  refine lv_iinc (v := v1) (lv' := [(6, .int v1), (0, .ref (ad 17 0)), (1, .int a1), (2, .int v_2), (3, .int v_3), (4, .int v_4), (5, .int v_5)]) hx hb dX3_longest_65 hl (k := 6) rfl (by rw [ev1]; rfl) (by decide) rfl (fun ls hl => ?_)
  refine lv_goto (tgt := 26) hx hb dX3_longest_68 (by decide) ?_
  exact hk_26 _ _ _ _ hX _ _ _ (lv_sub hl [1, 2, 3, 4, 5, 6, 0] rfl) hS
set_option maxRecDepth 100000 in
set_option maxHeartbeats 4000000 in
theorem n_X3_longest_26 {a1 : Int32} (X : Cx p s m args meth c D cy ad A RX3 cX3_longest 7 ((some .int))) (hN : NsC ns) {k_4 : Int32 → Int32 → Mem → Option (Int32 × Mem)} {v_2 : Int32} {v_3 : Int32} {v_4 : Int32} : ∀ (n : Nat) (v_5 : Int32) (v_6 : Int32) (M : Mem) (r : Int32 × Mem), f_X3_longest_26 a1 k_4 v_2 v_3 v_4 n (v_5, v_6, M) = some r → (∀ (v_2 : Int32) (v_3 : Int32) (M : Mem) (r : Int32 × Mem), k_4 v_2 v_3 M = some r → ∀ (ls : Array Slot) (H : Heap) (locs : List Loc), lv_has ls 7 [(0, .ref (ad 17 0)), (1, .int a1), (2, .int v_2), (3, .int v_3)] → St D cy ad ns A M s.heap H locs → W p l e rm_X3_longest s m args below meth c H locs 0 0 (MQ below (QC D cy ad ns A r.2 (some (.int r.1))) args s 0 0 A) (F0 m 4 ls [])) → ∀ (ls : Array Slot) (H : Heap) (locs : List Loc), lv_has ls 7 [(0, .ref (ad 17 0)), (1, .int a1), (2, .int v_2), (3, .int v_3), (4, .int v_4), (5, .int v_5), (6, .int v_6)] → St D cy ad ns A M s.heap H locs → W p l e rm_X3_longest s m args below meth c H locs 0 0 (MQ below (QC D cy ad ns A r.2 (some (.int r.1))) args s 0 0 A) (F0 m 26 ls []) := by
  obtain ⟨hx, hb, hml, hown, hts, hK, hr, hlk, hA, hG⟩ := id X
  intro n
  induction n with
  | zero => intro v_5 v_6 M r hX; cases (show (none : Option (Int32 × Mem)) = some r from hX)
  | succ n ih =>
    intro v_5 v_6 M r hX hk_4 ls H locs hl hS
    have hX : b_X3_longest_26 a1 k_4 v_2 v_3 v_4 (fun x0 x1 x2 => f_X3_longest_26 a1 k_4 v_2 v_3 v_4 n (x0, x1, x2)) v_5 v_6 M = some r := hX
    unfold b_X3_longest_26 at hX
    refine lv_iload hx hb dX3_longest_26 (lv_at hl 6 rfl) ?_
    refine lv_aload_n hx hb dX3_longest_28 rfl (lv_at hl 0 rfl) ?_
    refine fg_X3_47 X hS (o_of hN (o := 17) (c := 3) (by decide) rfl) dX3_longest_29 ?_
    refine lv_icmp_ge (tgt := 71) hx hb dX3_longest_32 (by decide) (fun c2 => ?_) (fun c2 => ?_)
    · have hX := if_t c2 hX
      refine lv_aload_n hx hb dX3_longest_71 rfl (lv_at hl 0 rfl) ?_
      refine fg_X3_28 X hS (o_of hN (o := 17) (c := 3) (by decide) rfl) dX3_longest_72 ?_
      refine lv_iload hx hb dX3_longest_75 (lv_at hl 4 rfl) ?_
      refine lv_iload hx hb dX3_longest_77 (lv_at hl 5 rfl) ?_
      refine lv_aload_n hx hb dX3_longest_79 rfl (lv_at hl 0 rfl) ?_
      refine fg_X3_12 X hS (o_of hN (o := 17) (c := 3) (by decide) rfl) dX3_longest_80 ?_
      have q3 := wr_17 hN hS
      refine fg_X3_140 X hS q3 dX3_longest_83 ?_
      refine lv_iload hx hb dX3_longest_86 (lv_at hl 4 rfl) ?_
      obtain ⟨g4, hX⟩ := gin_of hX
      refine r_iald (ci := 0) (o := (gR M 17 0)) (k := 2) (n := 9) X hS q3 rfl rfl g4 dX3_longest_88 ?_
      refine lv_iload_n hx hb dX3_longest_89 rfl (lv_at hl 1 rfl) ?_
      obtain ⟨r6, h5, hX⟩ := bn_of hX
      refine r_callN1 (v := .int r6) (As := [.int (gA M (gR M 17 0) 2 (ix v_4)), .int a1]) (rest := [.int v_5, .int v_4, .ref (ad 17 (5 + 1))]) X hS (m_X9_begun (M := M) hN h5) ms_X9_begun (by decide +kernel) ⟨rfl, rfl, Nat.le_of_ble_eq_true rfl, Nat.le_of_ble_eq_true rfl⟩ rfl hl.1 rfl (Nat.le_of_ble_eq_true rfl) ⟨Nat.zero_le _, Nat.zero_le _⟩ dX3_longest_90 (fun H locs hS => ?_)
      refine lv_iadd hx hb dX3_longest_93 ?_
      obtain ⟨g7, hX⟩ := gin_of hX
      refine r_iast (ci := 3) (o := 17) (k := 5) (n := 9) X hS (o_of hN (o := 17) (c := 3) (by decide) rfl) rfl rfl g7 dX3_longest_94 (fun H locs hS => ?_)
      obtain ⟨M8, eM8, hS, hX⟩ := nm_mem hS hX
      refine lv_iload_n hx hb dX3_longest_95 rfl (lv_at hl 2 rfl) ?_
      refine lv_aload_n hx hb dX3_longest_96 rfl (lv_at hl 0 rfl) ?_
      refine fg_X3_28 X hS (o_of hN (o := 17) (c := 3) (by decide) rfl) dX3_longest_97 ?_
      refine lv_iload hx hb dX3_longest_100 (lv_at hl 4 rfl) ?_
      obtain ⟨g9, hX⟩ := gin_of hX
      refine r_iald (ci := 3) (o := 17) (k := 5) (n := 9) X hS (o_of hN (o := 17) (c := 3) (by decide) rfl) rfl rfl g9 dX3_longest_102 ?_
      refine va_mmax hx hb (hml.trans hl.1.symm) (own := RX3) hown (hts _ t4_114) (hts _ jm_max.1) (hts _ jm_max.2.1) (hts _ jm_max.2.2) (Nat.le_of_ble_eq_true rfl) (Nat.le_of_ble_eq_true rfl) (Nat.zero_le _) (Nat.zero_le _) dX3_longest_103 ?_
      refine lv_topi (fun v10 ev10 => ?_)
      have hX := nm_of ev10 hX
      refine lv_istore_n (lv' := [(2, .int v10), (0, .ref (ad 17 0)), (1, .int a1), (3, .int v_3), (4, .int v_4), (5, .int v_5), (6, .int v_6)]) hx hb dX3_longest_106 rfl hl (by decide) rfl (fun ls hl => ?_)
      obtain ⟨v11, ev11⟩ : ∃ y : Int32, y = (v_3 + nI 1) := ⟨_, rfl⟩
      have hX := nm_of ev11 hX
      refine lv_iinc (v := v11) (lv' := [(3, .int v11), (2, .int v10), (0, .ref (ad 17 0)), (1, .int a1), (4, .int v_4), (5, .int v_5), (6, .int v_6)]) hx hb dX3_longest_107 hl (k := 3) rfl (by rw [ev11]; rfl) (by decide) rfl (fun ls hl => ?_)
      refine lv_goto (tgt := 4) hx hb dX3_longest_110 (by decide) ?_
      exact hk_4 _ _ _ _ hX _ _ _ (lv_sub hl [2, 3, 1, 0] rfl) hS
    · have hX := if_f c2 hX
      refine lv_aload_n hx hb dX3_longest_35 rfl (lv_at hl 0 rfl) ?_
      refine fg_X3_18 X hS (o_of hN (o := 17) (c := 3) (by decide) rfl) dX3_longest_36 ?_
      refine lv_iload hx hb dX3_longest_39 (lv_at hl 4 rfl) ?_
      obtain ⟨g12, hX⟩ := gin_of hX
      refine r_iald (ci := 3) (o := 17) (k := 2) (n := 9) X hS (o_of hN (o := 17) (c := 3) (by decide) rfl) rfl rfl g12 dX3_longest_41 ?_
      refine lv_iload hx hb dX3_longest_42 (lv_at hl 6 rfl) ?_
      refine lv_ishr hx hb dX3_longest_44 ?_
      refine lv_iconst (v := nI 1) hx hb dX3_longest_45 (by decide) ?_
      refine lv_iand hx hb dX3_longest_46 ?_
      refine lv_iconst (v := nI 1) hx hb dX3_longest_47 (by decide) ?_
      refine lv_icmp_ne (tgt := 65) hx hb dX3_longest_48 (by decide) (fun c13 => ?_) (fun c13 => ?_)
      · have hX := if_f c13 hX
        exact n_X3_longest_65 X hN hX (fun z0 z1 z2 r h ls H locs hl hS => ih z0 z1 z2 r h hk_4 ls H locs hl hS) _ _ _ (lv_sub hl [0, 1, 2, 3, 4, 5, 6] rfl) hS
      · have hX := if_t c13 hX
        refine lv_iload hx hb dX3_longest_51 (lv_at hl 5 rfl) ?_
        refine lv_aload_n hx hb dX3_longest_53 rfl (lv_at hl 0 rfl) ?_
        refine fg_X3_28 X hS (o_of hN (o := 17) (c := 3) (by decide) rfl) dX3_longest_54 ?_
        refine lv_iload hx hb dX3_longest_57 (lv_at hl 6 rfl) ?_
        obtain ⟨g14, hX⟩ := gin_of hX
        refine r_iald (ci := 3) (o := 17) (k := 5) (n := 9) X hS (o_of hN (o := 17) (c := 3) (by decide) rfl) rfl rfl g14 dX3_longest_59 ?_
        refine va_mmax hx hb (hml.trans hl.1.symm) (own := RX3) hown (hts _ t4_114) (hts _ jm_max.1) (hts _ jm_max.2.1) (hts _ jm_max.2.2) (Nat.le_of_ble_eq_true rfl) (Nat.le_of_ble_eq_true rfl) (Nat.zero_le _) (Nat.zero_le _) dX3_longest_60 ?_
        refine lv_topi (fun v15 ev15 => ?_)
        have hX := nm_of ev15 hX
        refine lv_istore (lv' := [(5, .int v15), (0, .ref (ad 17 0)), (1, .int a1), (2, .int v_2), (3, .int v_3), (4, .int v_4), (6, .int v_6)]) hx hb dX3_longest_63 hl (by decide) rfl (fun ls hl => ?_)
        exact n_X3_longest_65 X hN hX (fun z0 z1 z2 r h ls H locs hl hS => ih z0 z1 z2 r h hk_4 ls H locs hl hS) _ _ _ (lv_sub hl [1, 2, 3, 4, 5, 0, 6] rfl) hS
set_option maxRecDepth 100000 in
set_option maxHeartbeats 4000000 in
theorem n_X3_longest_4 {a1 : Int32} (X : Cx p s m args meth c D cy ad A RX3 cX3_longest 7 ((some .int))) (hN : NsC ns) : ∀ (n : Nat) (v_2 : Int32) (v_3 : Int32) (M : Mem) (r : Int32 × Mem), f_X3_longest_4 a1 n (v_2, v_3, M) = some r → ∀ (ls : Array Slot) (H : Heap) (locs : List Loc), lv_has ls 7 [(0, .ref (ad 17 0)), (1, .int a1), (2, .int v_2), (3, .int v_3)] → St D cy ad ns A M s.heap H locs → W p l e rm_X3_longest s m args below meth c H locs 0 0 (MQ below (QC D cy ad ns A r.2 (some (.int r.1))) args s 0 0 A) (F0 m 4 ls []) := by
  obtain ⟨hx, hb, hml, hown, hts, hK, hr, hlk, hA, hG⟩ := id X
  intro n
  induction n with
  | zero => intro v_2 v_3 M r hX; cases (show (none : Option (Int32 × Mem)) = some r from hX)
  | succ n ih =>
    intro v_2 v_3 M r hX ls H locs hl hS
    have hX : b_X3_longest_4 a1 (fun x0 x1 x2 => f_X3_longest_4 a1 n (x0, x1, x2)) v_2 v_3 M = some r := hX
    unfold b_X3_longest_4 at hX
    refine lv_iload_n hx hb dX3_longest_4 rfl (lv_at hl 3 rfl) ?_
    refine lv_aload_n hx hb dX3_longest_5 rfl (lv_at hl 0 rfl) ?_
    refine fg_X3_47 X hS (o_of hN (o := 17) (c := 3) (by decide) rfl) dX3_longest_6 ?_
    refine lv_icmp_ge (tgt := 113) hx hb dX3_longest_9 (by decide) (fun c16 => ?_) (fun c16 => ?_)
    · have hX := if_t c16 hX
      refine lv_iload_n hx hb dX3_longest_113 rfl (lv_at hl 2 rfl) ?_
      obtain rfl := some_of hX
      exact x_I (v := v_2) X hS dX3_longest_114
    · have hX := if_f c16 hX
      refine lv_aload_n hx hb dX3_longest_12 rfl (lv_at hl 0 rfl) ?_
      refine fg_X3_25 X hS (o_of hN (o := 17) (c := 3) (by decide) rfl) dX3_longest_13 ?_
      refine lv_iload_n hx hb dX3_longest_16 rfl (lv_at hl 3 rfl) ?_
      obtain ⟨g17, hX⟩ := gin_of hX
      refine r_iald (ci := 3) (o := 17) (k := 4) (n := 9) X hS (o_of hN (o := 17) (c := 3) (by decide) rfl) rfl rfl g17 dX3_longest_17 ?_
      refine lv_topi (fun v18 ev18 => ?_)
      have hX := nm_of ev18 hX
      refine lv_istore (lv' := [(4, .int v18), (0, .ref (ad 17 0)), (1, .int a1), (2, .int v_2), (3, .int v_3)]) hx hb dX3_longest_18 hl (by decide) rfl (fun ls hl => ?_)
      refine lv_iconst (v := nI 0) hx hb dX3_longest_20 (by decide) ?_
      refine lv_istore (lv' := [(5, .int (nI 0)), (4, .int v18), (0, .ref (ad 17 0)), (1, .int a1), (2, .int v_2), (3, .int v_3)]) hx hb dX3_longest_21 hl (by decide) rfl (fun ls hl => ?_)
      refine lv_iconst (v := nI 0) hx hb dX3_longest_23 (by decide) ?_
      refine lv_istore (lv' := [(6, .int (nI 0)), (5, .int (nI 0)), (4, .int v18), (0, .ref (ad 17 0)), (1, .int a1), (2, .int v_2), (3, .int v_3)]) hx hb dX3_longest_24 hl (by decide) rfl (fun ls hl => ?_)
      exact n_X3_longest_26 X hN _ _ _ _ _ hX (fun z0 z1 z2 r h ls H locs hl hS => ih z0 z1 z2 r h ls H locs hl hS) _ _ _ (lv_sub hl [3, 4, 5, 6, 2, 1, 0] rfl) hS
set_option maxRecDepth 100000 in
set_option maxHeartbeats 4000000 in
theorem m_X3_longest {l : Launch} {D : va_G} {cy : Nat → ClassId} {ad : Nat → Nat → Nat} {ns : List (Nat × Nat)} {A : Nat → Prop} {M : Mem} (hN : NsC ns) {a1 : Int32} {r : Int32 × Mem} (hX : f_X3_longest M a1 = some r) : Ct l yX3_longest cX3_longest 7 ((some .int)) rm_X3_longest D cy ad ns A [.ref (ad 17 0), .int a1] M r.2 (some (.int r.1)) := by
  refine ct_of (lv := [(0, .ref (ad 17 0)), (1, .int a1)]) (by decide) (Nat.le_of_ble_eq_true rfl) rfl ?_
  intro p e s m args below meth c ls X hl hS
  obtain ⟨hx, hb, hml, hown, hts, hK, hr, hlk, hA, hG⟩ := id X
  obtain ⟨H, hH⟩ : ∃ z, z = s.heap := ⟨_, rfl⟩
  obtain ⟨locs, hlo⟩ : ∃ z : List Loc, z = [] := ⟨_, rfl⟩
  have hS : St D cy ad ns A M s.heap H locs := by rw [hH, hlo]; exact hS
  have hgoal : W p l e rm_X3_longest s m args below meth c H locs 0 0 (MQ below (QC D cy ad ns A r.2 (some (.int r.1))) args s 0 0 A) (F0 m 0 ls []) := by
    unfold f_X3_longest at hX
    refine lv_iconst (v := nI 0) hx hb dX3_longest_0 (by decide) ?_
    refine lv_istore_n (lv' := [(2, .int (nI 0)), (0, .ref (ad 17 0)), (1, .int a1)]) hx hb dX3_longest_1 rfl hl (by decide) rfl (fun ls hl => ?_)
    refine lv_iconst (v := nI 0) hx hb dX3_longest_2 (by decide) ?_
    refine lv_istore_n (lv' := [(3, .int (nI 0)), (2, .int (nI 0)), (0, .ref (ad 17 0)), (1, .int a1)]) hx hb dX3_longest_3 rfl hl (by decide) rfl (fun ls hl => ?_)
    exact n_X3_longest_4 X hN _ _ _ _ _ hX _ _ _ (lv_sub hl [2, 3, 1, 0] rfl) hS
  rw [hH, hlo] at hgoal
  exact hgoal
theorem mv_X3_longest : Mv yX3_longest RX3 cX3_longest 7 ((some .int)) 1 := ⟨t4_113, t4_111, t4_112, t1_9, ⟨by decide, by decide⟩, by decide +kernel⟩
/-! SewnYear$Sewing.readyOn(II)I -/
def rm_X3_readyOn : Room := { frames := 0, cells := 0, slots := 0, locals := 0 }
def f_X3_readyOn_76 (M : Mem) (a1 : Int32) (a2 : Int32) (v_3 : Int32) (k_41 : Int32 → Option (Int32)) (v_4 : Int32) : Option (Int32) :=
  nm (v_4 + nI 1) fun v1 => k_41 v1
def f_X3_readyOn_32 (M : Mem) (a1 : Int32) (a2 : Int32) (k_5 : Int32 → Int32 → Option (Int32)) (v_3 : Int32) (v_4 : Int32) : Option (Int32) :=
  nm (v_4 + nI 1) fun v2 => k_5 v_3 v2
def b_X3_readyOn_41 (M : Mem) (a1 : Int32) (a2 : Int32) (v_3 : Int32) (rc : Int32 → Option (Int32)) (v_4 : Int32) : Option (Int32) :=
  if (gI M 17 1) ≤ v_4 then (some (-1)) else (if ((a2 >>> (v_4 &&& 31)) &&& (nI 1)) = (nI 0) then (gin v_4 9 <| if ((gA M 17 2 (ix v_4)) &&& (v_3 ^^^ (-1))) = (nI 0) then (some v_4) else (f_X3_readyOn_76 M a1 a2 v_3 rc v_4)) else (f_X3_readyOn_76 M a1 a2 v_3 rc v_4))
def f_X3_readyOn_41 (M : Mem) (a1 : Int32) (a2 : Int32) (v_3 : Int32) : Nat → Int32 → Option (Int32) := lp (fun rc q => b_X3_readyOn_41 M a1 a2 v_3 (fun x0 => rc x0) q)
def b_X3_readyOn_5 (M : Mem) (a1 : Int32) (a2 : Int32) (rc : Int32 → Int32 → Option (Int32)) (v_3 : Int32) (v_4 : Int32) : Option (Int32) :=
  if (gI M 17 1) ≤ v_4 then (f_X3_readyOn_41 M a1 a2 v_3 FU (nI 0)) else (gin v_4 9 <| if a1 < (gA M 17 5 (ix v_4)) then (f_X3_readyOn_32 M a1 a2 rc v_3 v_4) else (nm (v_3 ||| ((nI 1) <<< (v_4 &&& 31))) fun v10 => f_X3_readyOn_32 M a1 a2 rc v10 v_4))
def f_X3_readyOn_5 (M : Mem) (a1 : Int32) (a2 : Int32) : Nat → (Int32 × Int32) → Option (Int32) := lp (fun rc q => b_X3_readyOn_5 M a1 a2 (fun x0 x1 => rc (x0, x1)) q.1 q.2)
def f_X3_readyOn (M : Mem) (a1 : Int32) (a2 : Int32) : Option (Int32) :=
  f_X3_readyOn_5 M a1 a2 FU ((nI 0), (nI 0))
set_option maxRecDepth 100000 in
set_option maxHeartbeats 4000000 in
theorem n_X3_readyOn_76 {a1 : Int32} {a2 : Int32} {v_3 : Int32} (X : Cx p s m args meth c D cy ad A RX3 cX3_readyOn 5 ((some .int))) (hN : NsC ns) {M : Mem} {k_41 : Int32 → Option (Int32)} {v_4 : Int32} {r : Int32} (hX : f_X3_readyOn_76 M a1 a2 v_3 k_41 v_4 = some r) : (∀ (v_4 : Int32) (r : Int32), k_41 v_4 = some r → ∀ (ls : Array Slot) (H : Heap) (locs : List Loc), lv_has ls 5 [(0, .ref (ad 17 0)), (2, .int a2), (3, .int v_3), (4, .int v_4)] → St D cy ad ns A M s.heap H locs → W p l e rm_X3_readyOn s m args below meth c H locs 0 0 (MQ below (QC D cy ad ns A M (some (.int r))) args s 0 0 A) (F0 m 41 ls [])) → ∀ (ls : Array Slot) (H : Heap) (locs : List Loc), lv_has ls 5 [(0, .ref (ad 17 0)), (2, .int a2), (3, .int v_3), (4, .int v_4)] → St D cy ad ns A M s.heap H locs → W p l e rm_X3_readyOn s m args below meth c H locs 0 0 (MQ below (QC D cy ad ns A M (some (.int r))) args s 0 0 A) (F0 m 76 ls []) := by
  obtain ⟨hx, hb, hml, hown, hts, hK, hr, hlk, hA, hG⟩ := id X
  intro hk_41 ls H locs hl hS
  unfold f_X3_readyOn_76 at hX
  obtain ⟨v1, ev1⟩ : ∃ y : Int32, y = (v_4 + nI 1) := ⟨_, rfl⟩
  have hX := nm_of ev1 hX
  refine lv_iinc (v := v1) (lv' := [(4, .int v1), (0, .ref (ad 17 0)), (2, .int a2), (3, .int v_3)]) hx hb dX3_readyOn_76 hl (k := 3) rfl (by rw [ev1]; rfl) (by decide) rfl (fun ls hl => ?_)
  refine lv_goto (tgt := 41) hx hb dX3_readyOn_79 (by decide) ?_
  exact hk_41 _ _ hX _ _ _ (lv_sub hl [1, 2, 3, 0] rfl) hS
set_option maxRecDepth 100000 in
set_option maxHeartbeats 4000000 in
theorem n_X3_readyOn_32 {a1 : Int32} {a2 : Int32} (X : Cx p s m args meth c D cy ad A RX3 cX3_readyOn 5 ((some .int))) (hN : NsC ns) {M : Mem} {k_5 : Int32 → Int32 → Option (Int32)} {v_3 : Int32} {v_4 : Int32} {r : Int32} (hX : f_X3_readyOn_32 M a1 a2 k_5 v_3 v_4 = some r) : (∀ (v_3 : Int32) (v_4 : Int32) (r : Int32), k_5 v_3 v_4 = some r → ∀ (ls : Array Slot) (H : Heap) (locs : List Loc), lv_has ls 5 [(0, .ref (ad 17 0)), (1, .int a1), (2, .int a2), (3, .int v_3), (4, .int v_4)] → St D cy ad ns A M s.heap H locs → W p l e rm_X3_readyOn s m args below meth c H locs 0 0 (MQ below (QC D cy ad ns A M (some (.int r))) args s 0 0 A) (F0 m 5 ls [])) → ∀ (ls : Array Slot) (H : Heap) (locs : List Loc), lv_has ls 5 [(0, .ref (ad 17 0)), (1, .int a1), (2, .int a2), (3, .int v_3), (4, .int v_4)] → St D cy ad ns A M s.heap H locs → W p l e rm_X3_readyOn s m args below meth c H locs 0 0 (MQ below (QC D cy ad ns A M (some (.int r))) args s 0 0 A) (F0 m 32 ls []) := by
  obtain ⟨hx, hb, hml, hown, hts, hK, hr, hlk, hA, hG⟩ := id X
  intro hk_5 ls H locs hl hS
  unfold f_X3_readyOn_32 at hX
  obtain ⟨v2, ev2⟩ : ∃ y : Int32, y = (v_4 + nI 1) := ⟨_, rfl⟩
  have hX := nm_of ev2 hX
  refine lv_iinc (v := v2) (lv' := [(4, .int v2), (0, .ref (ad 17 0)), (1, .int a1), (2, .int a2), (3, .int v_3)]) hx hb dX3_readyOn_32 hl (k := 4) rfl (by rw [ev2]; rfl) (by decide) rfl (fun ls hl => ?_)
  refine lv_goto (tgt := 5) hx hb dX3_readyOn_35 (by decide) ?_
  exact hk_5 _ _ _ hX _ _ _ (lv_sub hl [1, 2, 3, 4, 0] rfl) hS
set_option maxRecDepth 100000 in
set_option maxHeartbeats 4000000 in
theorem n_X3_readyOn_41 {a1 : Int32} {a2 : Int32} (X : Cx p s m args meth c D cy ad A RX3 cX3_readyOn 5 ((some .int))) (hN : NsC ns) {M : Mem} {v_3 : Int32} : ∀ (n : Nat) (v_4 : Int32) (r : Int32), f_X3_readyOn_41 M a1 a2 v_3 n v_4 = some r → ∀ (ls : Array Slot) (H : Heap) (locs : List Loc), lv_has ls 5 [(0, .ref (ad 17 0)), (2, .int a2), (3, .int v_3), (4, .int v_4)] → St D cy ad ns A M s.heap H locs → W p l e rm_X3_readyOn s m args below meth c H locs 0 0 (MQ below (QC D cy ad ns A M (some (.int r))) args s 0 0 A) (F0 m 41 ls []) := by
  obtain ⟨hx, hb, hml, hown, hts, hK, hr, hlk, hA, hG⟩ := id X
  intro n
  induction n with
  | zero => intro v_4 r hX; cases (show (none : Option (Int32)) = some r from hX)
  | succ n ih =>
    intro v_4 r hX ls H locs hl hS
    have hX : b_X3_readyOn_41 M a1 a2 v_3 (fun x0 => f_X3_readyOn_41 M a1 a2 v_3 n x0) v_4 = some r := hX
    unfold b_X3_readyOn_41 at hX
    refine lv_iload hx hb dX3_readyOn_41 (lv_at hl 3 rfl) ?_
    refine lv_aload_n hx hb dX3_readyOn_43 rfl (lv_at hl 0 rfl) ?_
    refine fg_X3_47 X hS (o_of hN (o := 17) (c := 3) (by decide) rfl) dX3_readyOn_44 ?_
    refine lv_icmp_ge (tgt := 82) hx hb dX3_readyOn_47 (by decide) (fun c3 => ?_) (fun c3 => ?_)
    · have hX := if_t c3 hX
      refine lv_iconst (v := (-1)) hx hb dX3_readyOn_82 (by decide) ?_
      obtain rfl := some_of hX
      exact x_I (v := (-1)) X hS dX3_readyOn_83
    · have hX := if_f c3 hX
      refine lv_iload_n hx hb dX3_readyOn_50 rfl (lv_at hl 1 rfl) ?_
      refine lv_iload hx hb dX3_readyOn_51 (lv_at hl 3 rfl) ?_
      refine lv_ishr hx hb dX3_readyOn_53 ?_
      refine lv_iconst (v := nI 1) hx hb dX3_readyOn_54 (by decide) ?_
      refine lv_iand hx hb dX3_readyOn_55 ?_
      refine lv_if_ne (tgt := 76) hx hb dX3_readyOn_56 (by decide) (fun c4 => ?_) (fun c4 => ?_)
      · have hX := if_f c4 hX
        exact n_X3_readyOn_76 X hN hX (fun z0 r h ls H locs hl hS => ih z0 r h ls H locs hl hS) _ _ _ (lv_sub hl [0, 1, 2, 3] rfl) hS
      · have hX := if_t c4 hX
        refine lv_aload_n hx hb dX3_readyOn_59 rfl (lv_at hl 0 rfl) ?_
        refine fg_X3_18 X hS (o_of hN (o := 17) (c := 3) (by decide) rfl) dX3_readyOn_60 ?_
        refine lv_iload hx hb dX3_readyOn_63 (lv_at hl 3 rfl) ?_
        obtain ⟨g5, hX⟩ := gin_of hX
        refine r_iald (ci := 3) (o := 17) (k := 2) (n := 9) X hS (o_of hN (o := 17) (c := 3) (by decide) rfl) rfl rfl g5 dX3_readyOn_65 ?_
        refine lv_iload_n hx hb dX3_readyOn_66 rfl (lv_at hl 2 rfl) ?_
        refine lv_iconst (v := (-1)) hx hb dX3_readyOn_67 (by decide) ?_
        refine lv_ixor hx hb dX3_readyOn_68 ?_
        refine lv_iand hx hb dX3_readyOn_69 ?_
        refine lv_if_ne (tgt := 76) hx hb dX3_readyOn_70 (by decide) (fun c6 => ?_) (fun c6 => ?_)
        · have hX := if_f c6 hX
          exact n_X3_readyOn_76 X hN hX (fun z0 r h ls H locs hl hS => ih z0 r h ls H locs hl hS) _ _ _ (lv_sub hl [0, 1, 2, 3] rfl) hS
        · have hX := if_t c6 hX
          refine lv_iload hx hb dX3_readyOn_73 (lv_at hl 3 rfl) ?_
          obtain rfl := some_of hX
          exact x_I (v := v_4) X hS dX3_readyOn_75
set_option maxRecDepth 100000 in
set_option maxHeartbeats 4000000 in
theorem n_X3_readyOn_5 {a1 : Int32} {a2 : Int32} (X : Cx p s m args meth c D cy ad A RX3 cX3_readyOn 5 ((some .int))) (hN : NsC ns) {M : Mem} : ∀ (n : Nat) (v_3 : Int32) (v_4 : Int32) (r : Int32), f_X3_readyOn_5 M a1 a2 n (v_3, v_4) = some r → ∀ (ls : Array Slot) (H : Heap) (locs : List Loc), lv_has ls 5 [(0, .ref (ad 17 0)), (1, .int a1), (2, .int a2), (3, .int v_3), (4, .int v_4)] → St D cy ad ns A M s.heap H locs → W p l e rm_X3_readyOn s m args below meth c H locs 0 0 (MQ below (QC D cy ad ns A M (some (.int r))) args s 0 0 A) (F0 m 5 ls []) := by
  obtain ⟨hx, hb, hml, hown, hts, hK, hr, hlk, hA, hG⟩ := id X
  intro n
  induction n with
  | zero => intro v_3 v_4 r hX; cases (show (none : Option (Int32)) = some r from hX)
  | succ n ih =>
    intro v_3 v_4 r hX ls H locs hl hS
    have hX : b_X3_readyOn_5 M a1 a2 (fun x0 x1 => f_X3_readyOn_5 M a1 a2 n (x0, x1)) v_3 v_4 = some r := hX
    unfold b_X3_readyOn_5 at hX
    refine lv_iload hx hb dX3_readyOn_5 (lv_at hl 4 rfl) ?_
    refine lv_aload_n hx hb dX3_readyOn_7 rfl (lv_at hl 0 rfl) ?_
    refine fg_X3_47 X hS (o_of hN (o := 17) (c := 3) (by decide) rfl) dX3_readyOn_8 ?_
    refine lv_icmp_ge (tgt := 38) hx hb dX3_readyOn_11 (by decide) (fun c7 => ?_) (fun c7 => ?_)
    · have hX := if_t c7 hX
      refine lv_iconst (v := nI 0) hx hb dX3_readyOn_38 (by decide) ?_
      refine lv_istore (lv' := [(4, .int (nI 0)), (0, .ref (ad 17 0)), (1, .int a1), (2, .int a2), (3, .int v_3)]) hx hb dX3_readyOn_39 hl (by decide) rfl (fun ls hl => ?_)
      exact n_X3_readyOn_41 X hN _ _ _ hX _ _ _ (lv_sub hl [1, 3, 4, 0] rfl) hS
    · have hX := if_f c7 hX
      refine lv_aload_n hx hb dX3_readyOn_14 rfl (lv_at hl 0 rfl) ?_
      refine fg_X3_28 X hS (o_of hN (o := 17) (c := 3) (by decide) rfl) dX3_readyOn_15 ?_
      refine lv_iload hx hb dX3_readyOn_18 (lv_at hl 4 rfl) ?_
      obtain ⟨g8, hX⟩ := gin_of hX
      refine r_iald (ci := 3) (o := 17) (k := 5) (n := 9) X hS (o_of hN (o := 17) (c := 3) (by decide) rfl) rfl rfl g8 dX3_readyOn_20 ?_
      refine lv_iload_n hx hb dX3_readyOn_21 rfl (lv_at hl 1 rfl) ?_
      refine lv_icmp_gt (tgt := 32) hx hb dX3_readyOn_22 (by decide) (fun c9 => ?_) (fun c9 => ?_)
      · have hX := if_t c9 hX
        exact n_X3_readyOn_32 X hN hX (fun z0 z1 r h ls H locs hl hS => ih z0 z1 r h ls H locs hl hS) _ _ _ (lv_sub hl [0, 1, 2, 3, 4] rfl) hS
      · have hX := if_f c9 hX
        refine lv_iload_n hx hb dX3_readyOn_25 rfl (lv_at hl 3 rfl) ?_
        refine lv_iconst (v := nI 1) hx hb dX3_readyOn_26 (by decide) ?_
        refine lv_iload hx hb dX3_readyOn_27 (lv_at hl 4 rfl) ?_
        refine lv_ishl hx hb dX3_readyOn_29 ?_
        refine lv_ior hx hb dX3_readyOn_30 ?_
        refine lv_topi (fun v10 ev10 => ?_)
        have hX := nm_of ev10 hX
        refine lv_istore_n (lv' := [(3, .int v10), (0, .ref (ad 17 0)), (1, .int a1), (2, .int a2), (4, .int v_4)]) hx hb dX3_readyOn_31 rfl hl (by decide) rfl (fun ls hl => ?_)
        exact n_X3_readyOn_32 X hN hX (fun z0 z1 r h ls H locs hl hS => ih z0 z1 r h ls H locs hl hS) _ _ _ (lv_sub hl [1, 2, 3, 0, 4] rfl) hS
set_option maxRecDepth 100000 in
set_option maxHeartbeats 4000000 in
theorem m_X3_readyOn {l : Launch} {D : va_G} {cy : Nat → ClassId} {ad : Nat → Nat → Nat} {ns : List (Nat × Nat)} {A : Nat → Prop} {M : Mem} (hN : NsC ns) {a1 : Int32} {a2 : Int32} {r : Int32} (hX : f_X3_readyOn M a1 a2 = some r) : Ct l yX3_readyOn cX3_readyOn 5 ((some .int)) rm_X3_readyOn D cy ad ns A [.ref (ad 17 0), .int a1, .int a2] M M (some (.int r)) := by
  refine ct_of (lv := [(0, .ref (ad 17 0)), (1, .int a1), (2, .int a2)]) (by decide) (Nat.le_of_ble_eq_true rfl) rfl ?_
  intro p e s m args below meth c ls X hl hS
  obtain ⟨hx, hb, hml, hown, hts, hK, hr, hlk, hA, hG⟩ := id X
  obtain ⟨H, hH⟩ : ∃ z, z = s.heap := ⟨_, rfl⟩
  obtain ⟨locs, hlo⟩ : ∃ z : List Loc, z = [] := ⟨_, rfl⟩
  have hS : St D cy ad ns A M s.heap H locs := by rw [hH, hlo]; exact hS
  have hgoal : W p l e rm_X3_readyOn s m args below meth c H locs 0 0 (MQ below (QC D cy ad ns A M (some (.int r))) args s 0 0 A) (F0 m 0 ls []) := by
    unfold f_X3_readyOn at hX
    refine lv_iconst (v := nI 0) hx hb dX3_readyOn_0 (by decide) ?_
    refine lv_istore_n (lv' := [(3, .int (nI 0)), (0, .ref (ad 17 0)), (1, .int a1), (2, .int a2)]) hx hb dX3_readyOn_1 rfl hl (by decide) rfl (fun ls hl => ?_)
    refine lv_iconst (v := nI 0) hx hb dX3_readyOn_2 (by decide) ?_
    refine lv_istore (lv' := [(4, .int (nI 0)), (3, .int (nI 0)), (0, .ref (ad 17 0)), (1, .int a1), (2, .int a2)]) hx hb dX3_readyOn_3 hl (by decide) rfl (fun ls hl => ?_)
    exact n_X3_readyOn_5 X hN _ _ _ _ hX _ _ _ (lv_sub hl [2, 3, 4, 1, 0] rfl) hS
  rw [hH, hlo] at hgoal
  exact hgoal
theorem mv_X3_readyOn : Mv yX3_readyOn RX3 cX3_readyOn 5 ((some .int)) 2 := ⟨t5_73, t5_71, t5_72, t1_9, ⟨by decide, by decide⟩, by decide +kernel⟩
/-! SewnYear$Sewing.daysOfTailors(I)I -/
def rm_X3_daysOfTailors : Room := { frames := 1, cells := 0, slots := 0, locals := 24 }
def f_X3_daysOfTailors_152 (a1 : Int32) (v_4 : Int32) (k_46 : Int32 → Int32 → Int32 → Mem → Option (Int32 × Mem)) (v_2 : Int32) (v_3 : Int32) (v_5 : Int32) (M : Mem) : Option (Int32 × Mem) :=
  nm (v_5 + nI 1) fun v1 => k_46 v_2 v_3 v1 M
def f_X3_daysOfTailors_81 (a1 : Int32) (v_4 : Int32) (k_46 : Int32 → Int32 → Int32 → Mem → Option (Int32 × Mem)) (v_2 : Int32) (v_3 : Int32) (v_5 : Int32) (s_0 : Int32) (M : Mem) : Option (Int32 × Mem) :=
  if s_0 = (-1) then (f_X3_daysOfTailors_152 a1 v_4 k_46 v_2 v_3 v_5 M) else (nm (v_2 ||| ((nI 1) <<< (s_0 &&& 31))) fun v3 => gin s_0 9 <| bn (f_X9_begun (gA M (gR M 17 0) 2 (ix s_0)) (gI M (gR M 17 0) 1)) fun r8 => gin s_0 9 <| nm (sA M 17 5 (ix s_0) (v_4 + r8)) fun M10 => gin s_0 9 <| gin v_5 4 <| nm (sA M10 17 6 (ix v_5) (gA M10 17 5 (ix s_0))) fun M13 => gin s_0 9 <| nm (mxI v_3 (gA M13 17 5 (ix s_0))) fun v15 => f_X3_daysOfTailors_152 a1 v_4 k_46 v3 v15 v_5 M13)
def f_X3_daysOfTailors_158 (a1 : Int32) (k_24 : Int32 → Int32 → Int32 → Mem → Option (Int32 × Mem)) (v_2 : Int32) (v_3 : Int32) (v_4 : Int32) (M : Mem) : Option (Int32 × Mem) :=
  nm (v_4 + nI 1) fun v16 => k_24 v_2 v_3 v16 M
def b_X3_daysOfTailors_46 (a1 : Int32) (k_24 : Int32 → Int32 → Int32 → Mem → Option (Int32 × Mem)) (v_4 : Int32) (rc : Int32 → Int32 → Int32 → Mem → Option (Int32 × Mem)) (v_2 : Int32) (v_3 : Int32) (v_5 : Int32) (M : Mem) : Option (Int32 × Mem) :=
  if a1 ≤ v_5 then (f_X3_daysOfTailors_158 a1 k_24 v_2 v_3 v_4 M) else (if (nI 4) ≤ v_5 then (f_X3_daysOfTailors_158 a1 k_24 v_2 v_3 v_4 M) else (gin v_5 4 <| if v_4 < (gA M 17 6 (ix v_5)) then (f_X3_daysOfTailors_81 a1 v_4 rc v_2 v_3 v_5 (-1) M) else (bn (f_X3_readyOn M v_4 v_2) fun r22 => f_X3_daysOfTailors_81 a1 v_4 rc v_2 v_3 v_5 r22 M)))
def f_X3_daysOfTailors_46 (a1 : Int32) (k_24 : Int32 → Int32 → Int32 → Mem → Option (Int32 × Mem)) (v_4 : Int32) : Nat → (Int32 × Int32 × Int32 × Mem) → Option (Int32 × Mem) := lp (fun rc q => b_X3_daysOfTailors_46 a1 k_24 v_4 (fun x0 x1 x2 x3 => rc (x0, x1, x2, x3)) q.1 q.2.1 q.2.2.1 q.2.2.2)
def b_X3_daysOfTailors_24 (a1 : Int32) (rc : Int32 → Int32 → Int32 → Mem → Option (Int32 × Mem)) (v_2 : Int32) (v_3 : Int32) (v_4 : Int32) (M : Mem) : Option (Int32 × Mem) :=
  if (nI 100) ≤ v_4 then (some (v_3, M)) else (if v_2 = (((nI 1) <<< ((gI M 17 1) &&& 31)) - (nI 1)) then (some (v_3, M)) else (f_X3_daysOfTailors_46 a1 rc v_4 FU (v_2, v_3, (nI 0), M)))
def f_X3_daysOfTailors_24 (a1 : Int32) : Nat → (Int32 × Int32 × Int32 × Mem) → Option (Int32 × Mem) := lp (fun rc q => b_X3_daysOfTailors_24 a1 (fun x0 x1 x2 x3 => rc (x0, x1, x2, x3)) q.1 q.2.1 q.2.2.1 q.2.2.2)
def f_X3_daysOfTailors (M : Mem) (a1 : Int32) : Option (Int32 × Mem) :=
  nm (flA M 17 6 4 (nI 0)) fun M25 => nm (flA M25 17 5 9 (nI 1000000)) fun M26 => f_X3_daysOfTailors_24 a1 FU ((nI 0), (nI 0), (nI 0), M26)
set_option maxRecDepth 100000 in
set_option maxHeartbeats 4000000 in
theorem n_X3_daysOfTailors_152 {a1 : Int32} {v_4 : Int32} (X : Cx p s m args meth c D cy ad A RX3 cX3_daysOfTailors 7 ((some .int))) (hN : NsC ns) {k_46 : Int32 → Int32 → Int32 → Mem → Option (Int32 × Mem)} {v_2 : Int32} {v_3 : Int32} {v_5 : Int32} {M : Mem} {r : Int32 × Mem} (hX : f_X3_daysOfTailors_152 a1 v_4 k_46 v_2 v_3 v_5 M = some r) : (∀ (v_2 : Int32) (v_3 : Int32) (v_5 : Int32) (M : Mem) (r : Int32 × Mem), k_46 v_2 v_3 v_5 M = some r → ∀ (ls : Array Slot) (H : Heap) (locs : List Loc), lv_has ls 7 [(0, .ref (ad 17 0)), (1, .int a1), (2, .int v_2), (3, .int v_3), (4, .int v_4), (5, .int v_5)] → St D cy ad ns A M s.heap H locs → W p l e rm_X3_daysOfTailors s m args below meth c H locs 0 0 (MQ below (QC D cy ad ns A r.2 (some (.int r.1))) args s 0 0 A) (F0 m 46 ls [])) → ∀ (ls : Array Slot) (H : Heap) (locs : List Loc), lv_has ls 7 [(0, .ref (ad 17 0)), (1, .int a1), (2, .int v_2), (3, .int v_3), (4, .int v_4), (5, .int v_5)] → St D cy ad ns A M s.heap H locs → W p l e rm_X3_daysOfTailors s m args below meth c H locs 0 0 (MQ below (QC D cy ad ns A r.2 (some (.int r.1))) args s 0 0 A) (F0 m 152 ls []) := by
  obtain ⟨hx, hb, hml, hown, hts, hK, hr, hlk, hA, hG⟩ := id X
  intro hk_46 ls H locs hl hS
  unfold f_X3_daysOfTailors_152 at hX
  obtain ⟨v1, ev1⟩ : ∃ y : Int32, y = (v_5 + nI 1) := ⟨_, rfl⟩
  have hX := nm_of ev1 hX
  refine lv_iinc (v := v1) (lv' := [(5, .int v1), (0, .ref (ad 17 0)), (1, .int a1), (2, .int v_2), (3, .int v_3), (4, .int v_4)]) hx hb dX3_daysOfTailors_152 hl (k := 5) rfl (by rw [ev1]; rfl) (by decide) rfl (fun ls hl => ?_)
  refine lv_goto (tgt := 46) hx hb dX3_daysOfTailors_155 (by decide) ?_
  exact hk_46 _ _ _ _ _ hX _ _ _ (lv_sub hl [1, 2, 3, 4, 5, 0] rfl) hS
set_option maxRecDepth 100000 in
set_option maxHeartbeats 4000000 in
theorem n_X3_daysOfTailors_81 {a1 : Int32} {v_4 : Int32} (X : Cx p s m args meth c D cy ad A RX3 cX3_daysOfTailors 7 ((some .int))) (hN : NsC ns) {k_46 : Int32 → Int32 → Int32 → Mem → Option (Int32 × Mem)} {v_2 : Int32} {v_3 : Int32} {v_5 : Int32} {s_0 : Int32} {M : Mem} {r : Int32 × Mem} (hX : f_X3_daysOfTailors_81 a1 v_4 k_46 v_2 v_3 v_5 s_0 M = some r) : (∀ (v_2 : Int32) (v_3 : Int32) (v_5 : Int32) (M : Mem) (r : Int32 × Mem), k_46 v_2 v_3 v_5 M = some r → ∀ (ls : Array Slot) (H : Heap) (locs : List Loc), lv_has ls 7 [(0, .ref (ad 17 0)), (1, .int a1), (2, .int v_2), (3, .int v_3), (4, .int v_4), (5, .int v_5)] → St D cy ad ns A M s.heap H locs → W p l e rm_X3_daysOfTailors s m args below meth c H locs 0 0 (MQ below (QC D cy ad ns A r.2 (some (.int r.1))) args s 0 0 A) (F0 m 46 ls [])) → ∀ (ls : Array Slot) (H : Heap) (locs : List Loc), lv_has ls 7 [(0, .ref (ad 17 0)), (1, .int a1), (2, .int v_2), (3, .int v_3), (4, .int v_4), (5, .int v_5)] → St D cy ad ns A M s.heap H locs → W p l e rm_X3_daysOfTailors s m args below meth c H locs 0 0 (MQ below (QC D cy ad ns A r.2 (some (.int r.1))) args s 0 0 A) (F0 m 81 ls [.int s_0]) := by
  obtain ⟨hx, hb, hml, hown, hts, hK, hr, hlk, hA, hG⟩ := id X
  intro hk_46 ls H locs hl hS
  unfold f_X3_daysOfTailors_81 at hX
  refine lv_istore (lv' := [(6, .int s_0), (0, .ref (ad 17 0)), (1, .int a1), (2, .int v_2), (3, .int v_3), (4, .int v_4), (5, .int v_5)]) hx hb dX3_daysOfTailors_81 hl (by decide) rfl (fun ls hl => ?_)
  refine lv_iload hx hb dX3_daysOfTailors_83 (lv_at hl 0 rfl) ?_
  refine lv_iconst (v := (-1)) hx hb dX3_daysOfTailors_85 (by decide) ?_
  refine lv_icmp_eq (tgt := 152) hx hb dX3_daysOfTailors_86 (by decide) (fun c2 => ?_) (fun c2 => ?_)
  · have hX := if_t c2 hX
    exact n_X3_daysOfTailors_152 X hN hX hk_46 _ _ _ (lv_sub hl [1, 2, 3, 4, 5, 6] rfl) hS
  · have hX := if_f c2 hX
    refine lv_iload_n hx hb dX3_daysOfTailors_89 rfl (lv_at hl 3 rfl) ?_
    refine lv_iconst (v := nI 1) hx hb dX3_daysOfTailors_90 (by decide) ?_
    refine lv_iload hx hb dX3_daysOfTailors_91 (lv_at hl 0 rfl) ?_
    refine lv_ishl hx hb dX3_daysOfTailors_93 ?_
    refine lv_ior hx hb dX3_daysOfTailors_94 ?_
    refine lv_topi (fun v3 ev3 => ?_)
    have hX := nm_of ev3 hX
    refine lv_istore_n (lv' := [(2, .int v3), (6, .int s_0), (0, .ref (ad 17 0)), (1, .int a1), (3, .int v_3), (4, .int v_4), (5, .int v_5)]) hx hb dX3_daysOfTailors_95 rfl hl (by decide) rfl (fun ls hl => ?_)
    refine lv_aload_n hx hb dX3_daysOfTailors_96 rfl (lv_at hl 2 rfl) ?_
    refine fg_X3_28 X hS (o_of hN (o := 17) (c := 3) (by decide) rfl) dX3_daysOfTailors_97 ?_
    refine lv_iload hx hb dX3_daysOfTailors_100 (lv_at hl 1 rfl) ?_
    refine lv_iload hx hb dX3_daysOfTailors_102 (lv_at hl 5 rfl) ?_
    refine lv_aload_n hx hb dX3_daysOfTailors_104 rfl (lv_at hl 2 rfl) ?_
    refine fg_X3_12 X hS (o_of hN (o := 17) (c := 3) (by decide) rfl) dX3_daysOfTailors_105 ?_
    have q4 := wr_17 hN hS
    refine fg_X3_140 X hS q4 dX3_daysOfTailors_108 ?_
    refine lv_iload hx hb dX3_daysOfTailors_111 (lv_at hl 1 rfl) ?_
    obtain ⟨g5, hX⟩ := gin_of hX
    refine r_iald (ci := 0) (o := (gR M 17 0)) (k := 2) (n := 9) X hS q4 rfl rfl g5 dX3_daysOfTailors_113 ?_
    refine lv_aload_n hx hb dX3_daysOfTailors_114 rfl (lv_at hl 2 rfl) ?_
    refine fg_X3_12 X hS (o_of hN (o := 17) (c := 3) (by decide) rfl) dX3_daysOfTailors_115 ?_
    have q6 := wr_17 hN hS
    refine fg_X3_120 X hS q6 dX3_daysOfTailors_118 ?_
    obtain ⟨r8, h7, hX⟩ := bn_of hX
    refine r_callN1 (v := .int r8) (As := [.int (gA M (gR M 17 0) 2 (ix s_0)), .int (gI M (gR M 17 0) 1)]) (rest := [.int v_4, .int s_0, .ref (ad 17 (5 + 1))]) X hS (m_X9_begun (M := M) hN h7) ms_X9_begun (by decide +kernel) ⟨rfl, rfl, Nat.le_of_ble_eq_true rfl, Nat.le_of_ble_eq_true rfl⟩ rfl hl.1 rfl (Nat.le_of_ble_eq_true rfl) ⟨Nat.zero_le _, Nat.zero_le _⟩ dX3_daysOfTailors_121 (fun H locs hS => ?_)
    refine lv_iadd hx hb dX3_daysOfTailors_124 ?_
    obtain ⟨g9, hX⟩ := gin_of hX
    refine r_iast (ci := 3) (o := 17) (k := 5) (n := 9) X hS (o_of hN (o := 17) (c := 3) (by decide) rfl) rfl rfl g9 dX3_daysOfTailors_125 (fun H locs hS => ?_)
    obtain ⟨M10, eM10, hS, hX⟩ := nm_mem hS hX
    refine lv_aload_n hx hb dX3_daysOfTailors_126 rfl (lv_at hl 2 rfl) ?_
    refine fg_X3_31 X hS (o_of hN (o := 17) (c := 3) (by decide) rfl) dX3_daysOfTailors_127 ?_
    refine lv_iload hx hb dX3_daysOfTailors_130 (lv_at hl 6 rfl) ?_
    refine lv_aload_n hx hb dX3_daysOfTailors_132 rfl (lv_at hl 2 rfl) ?_
    refine fg_X3_28 X hS (o_of hN (o := 17) (c := 3) (by decide) rfl) dX3_daysOfTailors_133 ?_
    refine lv_iload hx hb dX3_daysOfTailors_136 (lv_at hl 1 rfl) ?_
    obtain ⟨g11, hX⟩ := gin_of hX
    refine r_iald (ci := 3) (o := 17) (k := 5) (n := 9) X hS (o_of hN (o := 17) (c := 3) (by decide) rfl) rfl rfl g11 dX3_daysOfTailors_138 ?_
    obtain ⟨g12, hX⟩ := gin_of hX
    refine r_iast (ci := 3) (o := 17) (k := 6) (n := 4) X hS (o_of hN (o := 17) (c := 3) (by decide) rfl) rfl rfl g12 dX3_daysOfTailors_139 (fun H locs hS => ?_)
    obtain ⟨M13, eM13, hS, hX⟩ := nm_mem hS hX
    refine lv_iload_n hx hb dX3_daysOfTailors_140 rfl (lv_at hl 4 rfl) ?_
    refine lv_aload_n hx hb dX3_daysOfTailors_141 rfl (lv_at hl 2 rfl) ?_
    refine fg_X3_28 X hS (o_of hN (o := 17) (c := 3) (by decide) rfl) dX3_daysOfTailors_142 ?_
    refine lv_iload hx hb dX3_daysOfTailors_145 (lv_at hl 1 rfl) ?_
    obtain ⟨g14, hX⟩ := gin_of hX
    refine r_iald (ci := 3) (o := 17) (k := 5) (n := 9) X hS (o_of hN (o := 17) (c := 3) (by decide) rfl) rfl rfl g14 dX3_daysOfTailors_147 ?_
    refine va_mmax hx hb (hml.trans hl.1.symm) (own := RX3) hown (hts _ t4_114) (hts _ jm_max.1) (hts _ jm_max.2.1) (hts _ jm_max.2.2) (Nat.le_of_ble_eq_true rfl) (Nat.le_of_ble_eq_true rfl) (Nat.zero_le _) (Nat.zero_le _) dX3_daysOfTailors_148 ?_
    refine lv_topi (fun v15 ev15 => ?_)
    have hX := nm_of ev15 hX
    refine lv_istore_n (lv' := [(3, .int v15), (2, .int v3), (6, .int s_0), (0, .ref (ad 17 0)), (1, .int a1), (4, .int v_4), (5, .int v_5)]) hx hb dX3_daysOfTailors_151 rfl hl (by decide) rfl (fun ls hl => ?_)
    exact n_X3_daysOfTailors_152 X hN hX hk_46 _ _ _ (lv_sub hl [3, 4, 1, 0, 5, 6] rfl) hS
set_option maxRecDepth 100000 in
set_option maxHeartbeats 4000000 in
theorem n_X3_daysOfTailors_158 {a1 : Int32} (X : Cx p s m args meth c D cy ad A RX3 cX3_daysOfTailors 7 ((some .int))) (hN : NsC ns) {k_24 : Int32 → Int32 → Int32 → Mem → Option (Int32 × Mem)} {v_2 : Int32} {v_3 : Int32} {v_4 : Int32} {M : Mem} {r : Int32 × Mem} (hX : f_X3_daysOfTailors_158 a1 k_24 v_2 v_3 v_4 M = some r) : (∀ (v_2 : Int32) (v_3 : Int32) (v_4 : Int32) (M : Mem) (r : Int32 × Mem), k_24 v_2 v_3 v_4 M = some r → ∀ (ls : Array Slot) (H : Heap) (locs : List Loc), lv_has ls 7 [(0, .ref (ad 17 0)), (1, .int a1), (2, .int v_2), (3, .int v_3), (4, .int v_4)] → St D cy ad ns A M s.heap H locs → W p l e rm_X3_daysOfTailors s m args below meth c H locs 0 0 (MQ below (QC D cy ad ns A r.2 (some (.int r.1))) args s 0 0 A) (F0 m 24 ls [])) → ∀ (ls : Array Slot) (H : Heap) (locs : List Loc), lv_has ls 7 [(0, .ref (ad 17 0)), (1, .int a1), (2, .int v_2), (3, .int v_3), (4, .int v_4)] → St D cy ad ns A M s.heap H locs → W p l e rm_X3_daysOfTailors s m args below meth c H locs 0 0 (MQ below (QC D cy ad ns A r.2 (some (.int r.1))) args s 0 0 A) (F0 m 158 ls []) := by
  obtain ⟨hx, hb, hml, hown, hts, hK, hr, hlk, hA, hG⟩ := id X
  intro hk_24 ls H locs hl hS
  unfold f_X3_daysOfTailors_158 at hX
  obtain ⟨v16, ev16⟩ : ∃ y : Int32, y = (v_4 + nI 1) := ⟨_, rfl⟩
  have hX := nm_of ev16 hX
  refine lv_iinc (v := v16) (lv' := [(4, .int v16), (0, .ref (ad 17 0)), (1, .int a1), (2, .int v_2), (3, .int v_3)]) hx hb dX3_daysOfTailors_158 hl (k := 4) rfl (by rw [ev16]; rfl) (by decide) rfl (fun ls hl => ?_)
  refine lv_goto (tgt := 24) hx hb dX3_daysOfTailors_161 (by decide) ?_
  exact hk_24 _ _ _ _ _ hX _ _ _ (lv_sub hl [1, 2, 3, 4, 0] rfl) hS
set_option maxRecDepth 100000 in
set_option maxHeartbeats 4000000 in
theorem n_X3_daysOfTailors_46 {a1 : Int32} (X : Cx p s m args meth c D cy ad A RX3 cX3_daysOfTailors 7 ((some .int))) (hN : NsC ns) {k_24 : Int32 → Int32 → Int32 → Mem → Option (Int32 × Mem)} {v_4 : Int32} : ∀ (n : Nat) (v_2 : Int32) (v_3 : Int32) (v_5 : Int32) (M : Mem) (r : Int32 × Mem), f_X3_daysOfTailors_46 a1 k_24 v_4 n (v_2, v_3, v_5, M) = some r → (∀ (v_2 : Int32) (v_3 : Int32) (v_4 : Int32) (M : Mem) (r : Int32 × Mem), k_24 v_2 v_3 v_4 M = some r → ∀ (ls : Array Slot) (H : Heap) (locs : List Loc), lv_has ls 7 [(0, .ref (ad 17 0)), (1, .int a1), (2, .int v_2), (3, .int v_3), (4, .int v_4)] → St D cy ad ns A M s.heap H locs → W p l e rm_X3_daysOfTailors s m args below meth c H locs 0 0 (MQ below (QC D cy ad ns A r.2 (some (.int r.1))) args s 0 0 A) (F0 m 24 ls [])) → ∀ (ls : Array Slot) (H : Heap) (locs : List Loc), lv_has ls 7 [(0, .ref (ad 17 0)), (1, .int a1), (2, .int v_2), (3, .int v_3), (4, .int v_4), (5, .int v_5)] → St D cy ad ns A M s.heap H locs → W p l e rm_X3_daysOfTailors s m args below meth c H locs 0 0 (MQ below (QC D cy ad ns A r.2 (some (.int r.1))) args s 0 0 A) (F0 m 46 ls []) := by
  obtain ⟨hx, hb, hml, hown, hts, hK, hr, hlk, hA, hG⟩ := id X
  intro n
  induction n with
  | zero => intro v_2 v_3 v_5 M r hX; cases (show (none : Option (Int32 × Mem)) = some r from hX)
  | succ n ih =>
    intro v_2 v_3 v_5 M r hX hk_24 ls H locs hl hS
    have hX : b_X3_daysOfTailors_46 a1 k_24 v_4 (fun x0 x1 x2 x3 => f_X3_daysOfTailors_46 a1 k_24 v_4 n (x0, x1, x2, x3)) v_2 v_3 v_5 M = some r := hX
    unfold b_X3_daysOfTailors_46 at hX
    refine lv_iload hx hb dX3_daysOfTailors_46 (lv_at hl 5 rfl) ?_
    refine lv_iload_n hx hb dX3_daysOfTailors_48 rfl (lv_at hl 1 rfl) ?_
    refine lv_icmp_ge (tgt := 158) hx hb dX3_daysOfTailors_49 (by decide) (fun c17 => ?_) (fun c17 => ?_)
    · have hX := if_t c17 hX
      exact n_X3_daysOfTailors_158 X hN hX hk_24 _ _ _ (lv_sub hl [0, 1, 2, 3, 4] rfl) hS
    · have hX := if_f c17 hX
      refine lv_iload hx hb dX3_daysOfTailors_52 (lv_at hl 5 rfl) ?_
      refine lv_iconst (v := nI 4) hx hb dX3_daysOfTailors_54 (by decide) ?_
      refine lv_icmp_ge (tgt := 158) hx hb dX3_daysOfTailors_55 (by decide) (fun c18 => ?_) (fun c18 => ?_)
      · have hX := if_t c18 hX
        exact n_X3_daysOfTailors_158 X hN hX hk_24 _ _ _ (lv_sub hl [0, 1, 2, 3, 4] rfl) hS
      · have hX := if_f c18 hX
        refine lv_aload_n hx hb dX3_daysOfTailors_58 rfl (lv_at hl 0 rfl) ?_
        refine fg_X3_31 X hS (o_of hN (o := 17) (c := 3) (by decide) rfl) dX3_daysOfTailors_59 ?_
        refine lv_iload hx hb dX3_daysOfTailors_62 (lv_at hl 5 rfl) ?_
        obtain ⟨g19, hX⟩ := gin_of hX
        refine r_iald (ci := 3) (o := 17) (k := 6) (n := 4) X hS (o_of hN (o := 17) (c := 3) (by decide) rfl) rfl rfl g19 dX3_daysOfTailors_64 ?_
        refine lv_iload hx hb dX3_daysOfTailors_65 (lv_at hl 4 rfl) ?_
        refine lv_icmp_gt (tgt := 80) hx hb dX3_daysOfTailors_67 (by decide) (fun c20 => ?_) (fun c20 => ?_)
        · have hX := if_t c20 hX
          refine lv_iconst (v := (-1)) hx hb dX3_daysOfTailors_80 (by decide) ?_
          exact n_X3_daysOfTailors_81 X hN hX (fun z0 z1 z2 z3 r h ls H locs hl hS => ih z0 z1 z2 z3 r h hk_24 ls H locs hl hS) _ _ _ (lv_sub hl [0, 1, 2, 3, 4, 5] rfl) hS
        · have hX := if_f c20 hX
          refine lv_aload_n hx hb dX3_daysOfTailors_70 rfl (lv_at hl 0 rfl) ?_
          refine lv_iload hx hb dX3_daysOfTailors_71 (lv_at hl 4 rfl) ?_
          refine lv_iload_n hx hb dX3_daysOfTailors_73 rfl (lv_at hl 2 rfl) ?_
          obtain ⟨r22, h21, hX⟩ := bn_of hX
          refine r_callV1 (v := .int r22) (As := [.int v_4, .int v_2]) (rest := []) X hS (m_X3_readyOn hN h21) mv_X3_readyOn rfl (o_of hN (o := 17) (c := 3) (by decide) rfl) t5_70 ⟨rfl, rfl, Nat.le_of_ble_eq_true rfl, Nat.le_of_ble_eq_true rfl⟩ rfl hl.1 rfl (Nat.le_of_ble_eq_true rfl) ⟨Nat.zero_le _, Nat.zero_le _⟩ dX3_daysOfTailors_74 (fun H locs hS => ?_)
          refine lv_goto (tgt := 81) hx hb dX3_daysOfTailors_77 (by decide) ?_
          exact n_X3_daysOfTailors_81 X hN hX (fun z0 z1 z2 z3 r h ls H locs hl hS => ih z0 z1 z2 z3 r h hk_24 ls H locs hl hS) _ _ _ (lv_sub hl [0, 1, 2, 3, 4, 5] rfl) hS
set_option maxRecDepth 100000 in
set_option maxHeartbeats 4000000 in
theorem n_X3_daysOfTailors_24 {a1 : Int32} (X : Cx p s m args meth c D cy ad A RX3 cX3_daysOfTailors 7 ((some .int))) (hN : NsC ns) : ∀ (n : Nat) (v_2 : Int32) (v_3 : Int32) (v_4 : Int32) (M : Mem) (r : Int32 × Mem), f_X3_daysOfTailors_24 a1 n (v_2, v_3, v_4, M) = some r → ∀ (ls : Array Slot) (H : Heap) (locs : List Loc), lv_has ls 7 [(0, .ref (ad 17 0)), (1, .int a1), (2, .int v_2), (3, .int v_3), (4, .int v_4)] → St D cy ad ns A M s.heap H locs → W p l e rm_X3_daysOfTailors s m args below meth c H locs 0 0 (MQ below (QC D cy ad ns A r.2 (some (.int r.1))) args s 0 0 A) (F0 m 24 ls []) := by
  obtain ⟨hx, hb, hml, hown, hts, hK, hr, hlk, hA, hG⟩ := id X
  intro n
  induction n with
  | zero => intro v_2 v_3 v_4 M r hX; cases (show (none : Option (Int32 × Mem)) = some r from hX)
  | succ n ih =>
    intro v_2 v_3 v_4 M r hX ls H locs hl hS
    have hX : b_X3_daysOfTailors_24 a1 (fun x0 x1 x2 x3 => f_X3_daysOfTailors_24 a1 n (x0, x1, x2, x3)) v_2 v_3 v_4 M = some r := hX
    unfold b_X3_daysOfTailors_24 at hX
    refine lv_iload hx hb dX3_daysOfTailors_24 (lv_at hl 4 rfl) ?_
    refine lv_bipush (v := nI 100) hx hb dX3_daysOfTailors_26 (by decide) ?_
    refine lv_icmp_ge (tgt := 164) hx hb dX3_daysOfTailors_28 (by decide) (fun c23 => ?_) (fun c23 => ?_)
    · have hX := if_t c23 hX
      refine lv_iload_n hx hb dX3_daysOfTailors_164 rfl (lv_at hl 3 rfl) ?_
      obtain rfl := some_of hX
      exact x_I (v := v_3) X hS dX3_daysOfTailors_165
    · have hX := if_f c23 hX
      refine lv_iload_n hx hb dX3_daysOfTailors_31 rfl (lv_at hl 2 rfl) ?_
      refine lv_iconst (v := nI 1) hx hb dX3_daysOfTailors_32 (by decide) ?_
      refine lv_aload_n hx hb dX3_daysOfTailors_33 rfl (lv_at hl 0 rfl) ?_
      refine fg_X3_47 X hS (o_of hN (o := 17) (c := 3) (by decide) rfl) dX3_daysOfTailors_34 ?_
      refine lv_ishl hx hb dX3_daysOfTailors_37 ?_
      refine lv_iconst (v := nI 1) hx hb dX3_daysOfTailors_38 (by decide) ?_
      refine lv_isub hx hb dX3_daysOfTailors_39 ?_
      refine lv_icmp_eq (tgt := 164) hx hb dX3_daysOfTailors_40 (by decide) (fun c24 => ?_) (fun c24 => ?_)
      · have hX := if_t c24 hX
        refine lv_iload_n hx hb dX3_daysOfTailors_164 rfl (lv_at hl 3 rfl) ?_
        obtain rfl := some_of hX
        exact x_I (v := v_3) X hS dX3_daysOfTailors_165
      · have hX := if_f c24 hX
        refine lv_iconst (v := nI 0) hx hb dX3_daysOfTailors_43 (by decide) ?_
        refine lv_istore (lv' := [(5, .int (nI 0)), (0, .ref (ad 17 0)), (1, .int a1), (2, .int v_2), (3, .int v_3), (4, .int v_4)]) hx hb dX3_daysOfTailors_44 hl (by decide) rfl (fun ls hl => ?_)
        exact n_X3_daysOfTailors_46 X hN _ _ _ _ _ _ hX (fun z0 z1 z2 z3 r h ls H locs hl hS => ih z0 z1 z2 z3 r h ls H locs hl hS) _ _ _ (lv_sub hl [1, 2, 3, 4, 5, 0] rfl) hS
set_option maxRecDepth 100000 in
set_option maxHeartbeats 4000000 in
theorem m_X3_daysOfTailors {l : Launch} {D : va_G} {cy : Nat → ClassId} {ad : Nat → Nat → Nat} {ns : List (Nat × Nat)} {A : Nat → Prop} {M : Mem} (hN : NsC ns) {a1 : Int32} {r : Int32 × Mem} (hX : f_X3_daysOfTailors M a1 = some r) : Ct l yX3_daysOfTailors cX3_daysOfTailors 7 ((some .int)) rm_X3_daysOfTailors D cy ad ns A [.ref (ad 17 0), .int a1] M r.2 (some (.int r.1)) := by
  refine ct_of (lv := [(0, .ref (ad 17 0)), (1, .int a1)]) (by decide) (Nat.le_of_ble_eq_true rfl) rfl ?_
  intro p e s m args below meth c ls X hl hS
  obtain ⟨hx, hb, hml, hown, hts, hK, hr, hlk, hA, hG⟩ := id X
  obtain ⟨H, hH⟩ : ∃ z, z = s.heap := ⟨_, rfl⟩
  obtain ⟨locs, hlo⟩ : ∃ z : List Loc, z = [] := ⟨_, rfl⟩
  have hS : St D cy ad ns A M s.heap H locs := by rw [hH, hlo]; exact hS
  have hgoal : W p l e rm_X3_daysOfTailors s m args below meth c H locs 0 0 (MQ below (QC D cy ad ns A r.2 (some (.int r.1))) args s 0 0 A) (F0 m 0 ls []) := by
    unfold f_X3_daysOfTailors at hX
    refine lv_aload_n hx hb dX3_daysOfTailors_0 rfl (lv_at hl 0 rfl) ?_
    refine fg_X3_31 X hS (o_of hN (o := 17) (c := 3) (by decide) rfl) dX3_daysOfTailors_1 ?_
    refine lv_iconst (v := nI 0) hx hb dX3_daysOfTailors_4 (by decide) ?_
    refine r_callS0 (As := [.ref (ad 17 (6 + 1)), .int (nI 0)]) (rest := []) X hS (m_fill (o_of hN (o := 17) (c := 3) (by decide) rfl) (k := 6) rfl rfl (by decide)) ms_fill t4_36 ⟨rfl, rfl, Nat.le_of_ble_eq_true rfl, Nat.le_of_ble_eq_true rfl⟩ rfl hl.1 rfl (Nat.le_of_ble_eq_true rfl) ⟨Nat.zero_le _, Nat.zero_le _⟩ dX3_daysOfTailors_5 (fun H locs hS => ?_)
    obtain ⟨M25, eM25, hS, hX⟩ := nm_mem hS hX
    refine lv_aload_n hx hb dX3_daysOfTailors_8 rfl (lv_at hl 0 rfl) ?_
    refine fg_X3_28 X hS (o_of hN (o := 17) (c := 3) (by decide) rfl) dX3_daysOfTailors_9 ?_
    refine lv_ldc hx hb (own := RX3) hown (hts _ t4_81) dX3_daysOfTailors_12 ?_
    refine r_callS0 (As := [.ref (ad 17 (5 + 1)), .int (nI 1000000)]) (rest := []) X hS (m_fill (o_of hN (o := 17) (c := 3) (by decide) rfl) (k := 5) rfl rfl (by decide)) ms_fill t4_36 ⟨rfl, rfl, Nat.le_of_ble_eq_true rfl, Nat.le_of_ble_eq_true rfl⟩ rfl hl.1 rfl (Nat.le_of_ble_eq_true rfl) ⟨Nat.zero_le _, Nat.zero_le _⟩ dX3_daysOfTailors_14 (fun H locs hS => ?_)
    obtain ⟨M26, eM26, hS, hX⟩ := nm_mem hS hX
    refine lv_iconst (v := nI 0) hx hb dX3_daysOfTailors_17 (by decide) ?_
    refine lv_istore_n (lv' := [(2, .int (nI 0)), (0, .ref (ad 17 0)), (1, .int a1)]) hx hb dX3_daysOfTailors_18 rfl hl (by decide) rfl (fun ls hl => ?_)
    refine lv_iconst (v := nI 0) hx hb dX3_daysOfTailors_19 (by decide) ?_
    refine lv_istore_n (lv' := [(3, .int (nI 0)), (2, .int (nI 0)), (0, .ref (ad 17 0)), (1, .int a1)]) hx hb dX3_daysOfTailors_20 rfl hl (by decide) rfl (fun ls hl => ?_)
    refine lv_iconst (v := nI 0) hx hb dX3_daysOfTailors_21 (by decide) ?_
    refine lv_istore (lv' := [(4, .int (nI 0)), (3, .int (nI 0)), (2, .int (nI 0)), (0, .ref (ad 17 0)), (1, .int a1)]) hx hb dX3_daysOfTailors_22 hl (by decide) rfl (fun ls hl => ?_)
    exact n_X3_daysOfTailors_24 X hN _ _ _ _ _ _ hX _ _ _ (lv_sub hl [3, 4, 2, 1, 0] rfl) hS
  rw [hH, hlo] at hgoal
  exact hgoal
theorem mv_X3_daysOfTailors : Mv yX3_daysOfTailors RX3 cX3_daysOfTailors 7 ((some .int)) 1 := ⟨t5_69, t5_67, t5_68, t1_9, ⟨by decide, by decide⟩, by decide +kernel⟩
/-! SewnYear$Sewing.wound(III)I -/
def rm_X3_wound : Room := { frames := 0, cells := 0, slots := 0, locals := 0 }
def f_X3_wound (a1 : Int32) (a2 : Int32) (a3 : Int32) : Option (Int32) :=
  gnz (nI 100) <| nm (a1 - a1 / (nI 100) * (nI 100)) fun v2 => if a3 < (v2 + a2) then (some (((a1 - v2) + (nI 100)) + a2)) else (some (a1 + a2))
set_option maxRecDepth 100000 in
set_option maxHeartbeats 4000000 in
theorem m_X3_wound {l : Launch} {D : va_G} {cy : Nat → ClassId} {ad : Nat → Nat → Nat} {ns : List (Nat × Nat)} {A : Nat → Prop} {M : Mem} (hN : NsC ns) {a1 : Int32} {a2 : Int32} {a3 : Int32} {r : Int32} (hX : f_X3_wound a1 a2 a3 = some r) : Ct l yX3_wound cX3_wound 4 ((some .int)) rm_X3_wound D cy ad ns A [.int a1, .int a2, .int a3] M M (some (.int r)) := by
  refine ct_of (lv := [(0, .int a1), (1, .int a2), (2, .int a3)]) (by decide) (Nat.le_of_ble_eq_true rfl) rfl ?_
  intro p e s m args below meth c ls X hl hS
  obtain ⟨hx, hb, hml, hown, hts, hK, hr, hlk, hA, hG⟩ := id X
  obtain ⟨H, hH⟩ : ∃ z, z = s.heap := ⟨_, rfl⟩
  obtain ⟨locs, hlo⟩ : ∃ z : List Loc, z = [] := ⟨_, rfl⟩
  have hS : St D cy ad ns A M s.heap H locs := by rw [hH, hlo]; exact hS
  have hgoal : W p l e rm_X3_wound s m args below meth c H locs 0 0 (MQ below (QC D cy ad ns A M (some (.int r))) args s 0 0 A) (F0 m 0 ls []) := by
    unfold f_X3_wound at hX
    refine lv_iload_n hx hb dX3_wound_0 rfl (lv_at hl 0 rfl) ?_
    refine lv_bipush (v := nI 100) hx hb dX3_wound_1 (by decide) ?_
    obtain ⟨g1, hX⟩ := gnz_of hX
    refine lv_irem hx hb dX3_wound_3 g1 ?_
    refine lv_topi (fun v2 ev2 => ?_)
    have hX := nm_of ev2 hX
    refine lv_istore_n (lv' := [(3, .int v2), (0, .int a1), (1, .int a2), (2, .int a3)]) hx hb dX3_wound_4 rfl hl (by decide) rfl (fun ls hl => ?_)
    refine lv_iload_n hx hb dX3_wound_5 rfl (lv_at hl 0 rfl) ?_
    refine lv_iload_n hx hb dX3_wound_6 rfl (lv_at hl 2 rfl) ?_
    refine lv_iadd hx hb dX3_wound_7 ?_
    refine lv_iload_n hx hb dX3_wound_8 rfl (lv_at hl 3 rfl) ?_
    refine lv_icmp_gt (tgt := 18) hx hb dX3_wound_9 (by decide) (fun c3 => ?_) (fun c3 => ?_)
    · have hX := if_t c3 hX
      refine lv_iload_n hx hb dX3_wound_18 rfl (lv_at hl 1 rfl) ?_
      refine lv_iload_n hx hb dX3_wound_19 rfl (lv_at hl 0 rfl) ?_
      refine lv_isub hx hb dX3_wound_20 ?_
      refine lv_bipush (v := nI 100) hx hb dX3_wound_21 (by decide) ?_
      refine lv_iadd hx hb dX3_wound_23 ?_
      refine lv_iload_n hx hb dX3_wound_24 rfl (lv_at hl 2 rfl) ?_
      refine lv_iadd hx hb dX3_wound_25 ?_
      obtain rfl := some_of hX
      exact x_I (v := (((a1 - v2) + (nI 100)) + a2)) X hS dX3_wound_26
    · have hX := if_f c3 hX
      refine lv_iload_n hx hb dX3_wound_12 rfl (lv_at hl 1 rfl) ?_
      refine lv_iload_n hx hb dX3_wound_13 rfl (lv_at hl 2 rfl) ?_
      refine lv_iadd hx hb dX3_wound_14 ?_
      refine lv_goto (tgt := 26) hx hb dX3_wound_15 (by decide) ?_
      obtain rfl := some_of hX
      exact x_I (v := (a1 + a2)) X hS dX3_wound_26
  rw [hH, hlo] at hgoal
  exact hgoal
theorem ms_X3_wound : Ms yX3_wound cX3_wound 4 ((some .int)) 3 := ⟨t5_93, t5_92, t1_9, ⟨by decide, by decide⟩, by decide +kernel⟩
/-! SewnYear$Sewing.fewestSpools(II)I -/
def rm_X3_fewestSpools : Room := { frames := 1, cells := 0, slots := 0, locals := 24 }
def f_X3_fewestSpools_99 (a1 : Int32) (a2 : Int32) (v_3 : Int32) (k_30 : Int32 → Mem → Option (Int32 × Mem)) (v_4 : Int32) (M : Mem) : Option (Int32 × Mem) :=
  nm (v_4 + nI 1) fun v1 => k_30 v1 M
def b_X3_fewestSpools_30 (a1 : Int32) (a2 : Int32) (k_9 : Int32 → Mem → Option (Int32 × Mem)) (v_3 : Int32) (rc : Int32 → Mem → Option (Int32 × Mem)) (v_4 : Int32) (M : Mem) : Option (Int32 × Mem) :=
  if (gI M 17 1) ≤ v_4 then (nm (v_3 + nI 1) fun v3 => k_9 v3 M) else (if (v_3 &&& (a1 ^^^ (-1))) = (nI 0) then (if ((v_3 >>> (v_4 &&& 31)) &&& (nI 1)) = (nI 1) then (gin v_3 512 <| gin (v_3 &&& (((nI 1) <<< (v_4 &&& 31)) ^^^ (-1))) 512 <| gin v_4 9 <| bn (f_X3_wound (gA M 17 8 (ix (v_3 &&& (((nI 1) <<< (v_4 &&& 31)) ^^^ (-1))))) (gA M (gR M 17 0) 2 (ix v_4)) a2) fun r11 => nm (mnI (gA M 17 8 (ix v_3)) r11) fun v12 => gin v_3 512 <| nm (sA M 17 8 (ix v_3) v12) fun M14 => f_X3_fewestSpools_99 a1 a2 v_3 rc v_4 M14) else (f_X3_fewestSpools_99 a1 a2 v_3 rc v_4 M)) else (f_X3_fewestSpools_99 a1 a2 v_3 rc v_4 M))
def f_X3_fewestSpools_30 (a1 : Int32) (a2 : Int32) (k_9 : Int32 → Mem → Option (Int32 × Mem)) (v_3 : Int32) : Nat → (Int32 × Mem) → Option (Int32 × Mem) := lp (fun rc q => b_X3_fewestSpools_30 a1 a2 k_9 v_3 (fun x0 x1 => rc (x0, x1)) q.1 q.2)
def b_X3_fewestSpools_9 (a1 : Int32) (a2 : Int32) (rc : Int32 → Mem → Option (Int32 × Mem)) (v_3 : Int32) (M : Mem) : Option (Int32 × Mem) :=
  if ((nI 1) <<< ((gI M 17 1) &&& 31)) ≤ v_3 then (if a1 < (nI 0) then (some ((nI 0), M)) else (if a1 < (nI 512) then (gin a1 512 <| gnz (nI 100) <| some (((gA M 17 8 (ix a1)) / (nI 100)), M)) else (some ((nI 0), M)))) else (gin v_3 512 <| nm (sA M 17 8 (ix v_3) (nI 1000000)) fun M21 => f_X3_fewestSpools_30 a1 a2 rc v_3 FU ((nI 0), M21))
def f_X3_fewestSpools_9 (a1 : Int32) (a2 : Int32) : Nat → (Int32 × Mem) → Option (Int32 × Mem) := lp (fun rc q => b_X3_fewestSpools_9 a1 a2 (fun x0 x1 => rc (x0, x1)) q.1 q.2)
def f_X3_fewestSpools (M : Mem) (a1 : Int32) (a2 : Int32) : Option (Int32 × Mem) :=
  gin (nI 0) 512 <| nm (sA M 17 8 (ix (nI 0)) a2) fun M23 => f_X3_fewestSpools_9 a1 a2 FU ((nI 1), M23)
set_option maxRecDepth 100000 in
set_option maxHeartbeats 4000000 in
theorem n_X3_fewestSpools_99 {a1 : Int32} {a2 : Int32} {v_3 : Int32} (X : Cx p s m args meth c D cy ad A RX3 cX3_fewestSpools 5 ((some .int))) (hN : NsC ns) {k_30 : Int32 → Mem → Option (Int32 × Mem)} {v_4 : Int32} {M : Mem} {r : Int32 × Mem} (hX : f_X3_fewestSpools_99 a1 a2 v_3 k_30 v_4 M = some r) : (∀ (v_4 : Int32) (M : Mem) (r : Int32 × Mem), k_30 v_4 M = some r → ∀ (ls : Array Slot) (H : Heap) (locs : List Loc), lv_has ls 5 [(0, .ref (ad 17 0)), (1, .int a1), (2, .int a2), (3, .int v_3), (4, .int v_4)] → St D cy ad ns A M s.heap H locs → W p l e rm_X3_fewestSpools s m args below meth c H locs 0 0 (MQ below (QC D cy ad ns A r.2 (some (.int r.1))) args s 0 0 A) (F0 m 30 ls [])) → ∀ (ls : Array Slot) (H : Heap) (locs : List Loc), lv_has ls 5 [(0, .ref (ad 17 0)), (1, .int a1), (2, .int a2), (3, .int v_3), (4, .int v_4)] → St D cy ad ns A M s.heap H locs → W p l e rm_X3_fewestSpools s m args below meth c H locs 0 0 (MQ below (QC D cy ad ns A r.2 (some (.int r.1))) args s 0 0 A) (F0 m 99 ls []) := by
  obtain ⟨hx, hb, hml, hown, hts, hK, hr, hlk, hA, hG⟩ := id X
  intro hk_30 ls H locs hl hS
  unfold f_X3_fewestSpools_99 at hX
  obtain ⟨v1, ev1⟩ : ∃ y : Int32, y = (v_4 + nI 1) := ⟨_, rfl⟩
  have hX := nm_of ev1 hX
  refine lv_iinc (v := v1) (lv' := [(4, .int v1), (0, .ref (ad 17 0)), (1, .int a1), (2, .int a2), (3, .int v_3)]) hx hb dX3_fewestSpools_99 hl (k := 4) rfl (by rw [ev1]; rfl) (by decide) rfl (fun ls hl => ?_)
  refine lv_goto (tgt := 30) hx hb dX3_fewestSpools_102 (by decide) ?_
  exact hk_30 _ _ _ hX _ _ _ (lv_sub hl [1, 2, 3, 4, 0] rfl) hS
set_option maxRecDepth 100000 in
set_option maxHeartbeats 4000000 in
theorem n_X3_fewestSpools_30 {a1 : Int32} {a2 : Int32} (X : Cx p s m args meth c D cy ad A RX3 cX3_fewestSpools 5 ((some .int))) (hN : NsC ns) {k_9 : Int32 → Mem → Option (Int32 × Mem)} {v_3 : Int32} : ∀ (n : Nat) (v_4 : Int32) (M : Mem) (r : Int32 × Mem), f_X3_fewestSpools_30 a1 a2 k_9 v_3 n (v_4, M) = some r → (∀ (v_3 : Int32) (M : Mem) (r : Int32 × Mem), k_9 v_3 M = some r → ∀ (ls : Array Slot) (H : Heap) (locs : List Loc), lv_has ls 5 [(0, .ref (ad 17 0)), (1, .int a1), (2, .int a2), (3, .int v_3)] → St D cy ad ns A M s.heap H locs → W p l e rm_X3_fewestSpools s m args below meth c H locs 0 0 (MQ below (QC D cy ad ns A r.2 (some (.int r.1))) args s 0 0 A) (F0 m 9 ls [])) → ∀ (ls : Array Slot) (H : Heap) (locs : List Loc), lv_has ls 5 [(0, .ref (ad 17 0)), (1, .int a1), (2, .int a2), (3, .int v_3), (4, .int v_4)] → St D cy ad ns A M s.heap H locs → W p l e rm_X3_fewestSpools s m args below meth c H locs 0 0 (MQ below (QC D cy ad ns A r.2 (some (.int r.1))) args s 0 0 A) (F0 m 30 ls []) := by
  obtain ⟨hx, hb, hml, hown, hts, hK, hr, hlk, hA, hG⟩ := id X
  intro n
  induction n with
  | zero => intro v_4 M r hX; cases (show (none : Option (Int32 × Mem)) = some r from hX)
  | succ n ih =>
    intro v_4 M r hX hk_9 ls H locs hl hS
    have hX : b_X3_fewestSpools_30 a1 a2 k_9 v_3 (fun x0 x1 => f_X3_fewestSpools_30 a1 a2 k_9 v_3 n (x0, x1)) v_4 M = some r := hX
    unfold b_X3_fewestSpools_30 at hX
    refine lv_iload hx hb dX3_fewestSpools_30 (lv_at hl 4 rfl) ?_
    refine lv_aload_n hx hb dX3_fewestSpools_32 rfl (lv_at hl 0 rfl) ?_
    refine fg_X3_47 X hS (o_of hN (o := 17) (c := 3) (by decide) rfl) dX3_fewestSpools_33 ?_
    refine lv_icmp_ge (tgt := 105) hx hb dX3_fewestSpools_36 (by decide) (fun c2 => ?_) (fun c2 => ?_)
    · have hX := if_t c2 hX
      obtain ⟨v3, ev3⟩ : ∃ y : Int32, y = (v_3 + nI 1) := ⟨_, rfl⟩
      have hX := nm_of ev3 hX
      refine lv_iinc (v := v3) (lv' := [(3, .int v3), (0, .ref (ad 17 0)), (1, .int a1), (2, .int a2), (4, .int v_4)]) hx hb dX3_fewestSpools_105 hl (k := 3) rfl (by rw [ev3]; rfl) (by decide) rfl (fun ls hl => ?_)
      refine lv_goto (tgt := 9) hx hb dX3_fewestSpools_108 (by decide) ?_
      exact hk_9 _ _ _ hX _ _ _ (lv_sub hl [1, 2, 3, 0] rfl) hS
    · have hX := if_f c2 hX
      refine lv_iload_n hx hb dX3_fewestSpools_39 rfl (lv_at hl 3 rfl) ?_
      refine lv_iload_n hx hb dX3_fewestSpools_40 rfl (lv_at hl 1 rfl) ?_
      refine lv_iconst (v := (-1)) hx hb dX3_fewestSpools_41 (by decide) ?_
      refine lv_ixor hx hb dX3_fewestSpools_42 ?_
      refine lv_iand hx hb dX3_fewestSpools_43 ?_
      refine lv_if_ne (tgt := 99) hx hb dX3_fewestSpools_44 (by decide) (fun c4 => ?_) (fun c4 => ?_)
      · have hX := if_f c4 hX
        exact n_X3_fewestSpools_99 X hN hX (fun z0 z1 r h ls H locs hl hS => ih z0 z1 r h hk_9 ls H locs hl hS) _ _ _ (lv_sub hl [0, 1, 2, 3, 4] rfl) hS
      · have hX := if_t c4 hX
        refine lv_iload_n hx hb dX3_fewestSpools_47 rfl (lv_at hl 3 rfl) ?_
        refine lv_iload hx hb dX3_fewestSpools_48 (lv_at hl 4 rfl) ?_
        refine lv_ishr hx hb dX3_fewestSpools_50 ?_
        refine lv_iconst (v := nI 1) hx hb dX3_fewestSpools_51 (by decide) ?_
        refine lv_iand hx hb dX3_fewestSpools_52 ?_
        refine lv_iconst (v := nI 1) hx hb dX3_fewestSpools_53 (by decide) ?_
        refine lv_icmp_ne (tgt := 99) hx hb dX3_fewestSpools_54 (by decide) (fun c5 => ?_) (fun c5 => ?_)
        · have hX := if_f c5 hX
          exact n_X3_fewestSpools_99 X hN hX (fun z0 z1 r h ls H locs hl hS => ih z0 z1 r h hk_9 ls H locs hl hS) _ _ _ (lv_sub hl [0, 1, 2, 3, 4] rfl) hS
        · have hX := if_t c5 hX
          refine lv_aload_n hx hb dX3_fewestSpools_57 rfl (lv_at hl 0 rfl) ?_
          refine fg_X3_37 X hS (o_of hN (o := 17) (c := 3) (by decide) rfl) dX3_fewestSpools_58 ?_
          refine lv_iload_n hx hb dX3_fewestSpools_61 rfl (lv_at hl 3 rfl) ?_
          refine lv_aload_n hx hb dX3_fewestSpools_62 rfl (lv_at hl 0 rfl) ?_
          refine fg_X3_37 X hS (o_of hN (o := 17) (c := 3) (by decide) rfl) dX3_fewestSpools_63 ?_
          refine lv_iload_n hx hb dX3_fewestSpools_66 rfl (lv_at hl 3 rfl) ?_
          obtain ⟨g6, hX⟩ := gin_of hX
          refine r_iald (ci := 3) (o := 17) (k := 8) (n := 512) X hS (o_of hN (o := 17) (c := 3) (by decide) rfl) rfl rfl g6 dX3_fewestSpools_67 ?_
          refine lv_aload_n hx hb dX3_fewestSpools_68 rfl (lv_at hl 0 rfl) ?_
          refine fg_X3_37 X hS (o_of hN (o := 17) (c := 3) (by decide) rfl) dX3_fewestSpools_69 ?_
          refine lv_iload_n hx hb dX3_fewestSpools_72 rfl (lv_at hl 3 rfl) ?_
          refine lv_iconst (v := nI 1) hx hb dX3_fewestSpools_73 (by decide) ?_
          refine lv_iload hx hb dX3_fewestSpools_74 (lv_at hl 4 rfl) ?_
          refine lv_ishl hx hb dX3_fewestSpools_76 ?_
          refine lv_iconst (v := (-1)) hx hb dX3_fewestSpools_77 (by decide) ?_
          refine lv_ixor hx hb dX3_fewestSpools_78 ?_
          refine lv_iand hx hb dX3_fewestSpools_79 ?_
          obtain ⟨g7, hX⟩ := gin_of hX
          refine r_iald (ci := 3) (o := 17) (k := 8) (n := 512) X hS (o_of hN (o := 17) (c := 3) (by decide) rfl) rfl rfl g7 dX3_fewestSpools_80 ?_
          refine lv_aload_n hx hb dX3_fewestSpools_81 rfl (lv_at hl 0 rfl) ?_
          refine fg_X3_12 X hS (o_of hN (o := 17) (c := 3) (by decide) rfl) dX3_fewestSpools_82 ?_
          have q8 := wr_17 hN hS
          refine fg_X3_140 X hS q8 dX3_fewestSpools_85 ?_
          refine lv_iload hx hb dX3_fewestSpools_88 (lv_at hl 4 rfl) ?_
          obtain ⟨g9, hX⟩ := gin_of hX
          refine r_iald (ci := 0) (o := (gR M 17 0)) (k := 2) (n := 9) X hS q8 rfl rfl g9 dX3_fewestSpools_90 ?_
          refine lv_iload_n hx hb dX3_fewestSpools_91 rfl (lv_at hl 2 rfl) ?_
          obtain ⟨r11, h10, hX⟩ := bn_of hX
          refine r_callS1 (v := .int r11) (As := [.int (gA M 17 8 (ix (v_3 &&& (((nI 1) <<< (v_4 &&& 31)) ^^^ (-1))))), .int (gA M (gR M 17 0) 2 (ix v_4)), .int a2]) (rest := [.int (gA M 17 8 (ix v_3)), .int v_3, .ref (ad 17 (8 + 1))]) X hS (m_X3_wound (M := M) hN h10) ms_X3_wound t5_91 ⟨rfl, rfl, Nat.le_of_ble_eq_true rfl, Nat.le_of_ble_eq_true rfl⟩ rfl hl.1 rfl (Nat.le_of_ble_eq_true rfl) ⟨Nat.zero_le _, Nat.zero_le _⟩ dX3_fewestSpools_92 (fun H locs hS => ?_)
          refine va_mmin hx hb (hml.trans hl.1.symm) (own := RX3) hown (hts _ t4_93) (hts _ jm_min.1) (hts _ jm_min.2.1) (hts _ jm_min.2.2) (Nat.le_of_ble_eq_true rfl) (Nat.le_of_ble_eq_true rfl) (Nat.zero_le _) (Nat.zero_le _) dX3_fewestSpools_95 ?_
          refine lv_topi (fun v12 ev12 => ?_)
          have hX := nm_of ev12 hX
          obtain ⟨g13, hX⟩ := gin_of hX
          refine r_iast (ci := 3) (o := 17) (k := 8) (n := 512) X hS (o_of hN (o := 17) (c := 3) (by decide) rfl) rfl rfl g13 dX3_fewestSpools_98 (fun H locs hS => ?_)
          obtain ⟨M14, eM14, hS, hX⟩ := nm_mem hS hX
          exact n_X3_fewestSpools_99 X hN hX (fun z0 z1 r h ls H locs hl hS => ih z0 z1 r h hk_9 ls H locs hl hS) _ _ _ (lv_sub hl [0, 1, 2, 3, 4] rfl) hS
set_option maxRecDepth 100000 in
set_option maxHeartbeats 4000000 in
theorem n_X3_fewestSpools_9 {a1 : Int32} {a2 : Int32} (X : Cx p s m args meth c D cy ad A RX3 cX3_fewestSpools 5 ((some .int))) (hN : NsC ns) : ∀ (n : Nat) (v_3 : Int32) (M : Mem) (r : Int32 × Mem), f_X3_fewestSpools_9 a1 a2 n (v_3, M) = some r → ∀ (ls : Array Slot) (H : Heap) (locs : List Loc), lv_has ls 5 [(0, .ref (ad 17 0)), (1, .int a1), (2, .int a2), (3, .int v_3)] → St D cy ad ns A M s.heap H locs → W p l e rm_X3_fewestSpools s m args below meth c H locs 0 0 (MQ below (QC D cy ad ns A r.2 (some (.int r.1))) args s 0 0 A) (F0 m 9 ls []) := by
  obtain ⟨hx, hb, hml, hown, hts, hK, hr, hlk, hA, hG⟩ := id X
  intro n
  induction n with
  | zero => intro v_3 M r hX; cases (show (none : Option (Int32 × Mem)) = some r from hX)
  | succ n ih =>
    intro v_3 M r hX ls H locs hl hS
    have hX : b_X3_fewestSpools_9 a1 a2 (fun x0 x1 => f_X3_fewestSpools_9 a1 a2 n (x0, x1)) v_3 M = some r := hX
    unfold b_X3_fewestSpools_9 at hX
    refine lv_iload_n hx hb dX3_fewestSpools_9 rfl (lv_at hl 3 rfl) ?_
    refine lv_iconst (v := nI 1) hx hb dX3_fewestSpools_10 (by decide) ?_
    refine lv_aload_n hx hb dX3_fewestSpools_11 rfl (lv_at hl 0 rfl) ?_
    refine fg_X3_47 X hS (o_of hN (o := 17) (c := 3) (by decide) rfl) dX3_fewestSpools_12 ?_
    refine lv_ishl hx hb dX3_fewestSpools_15 ?_
    refine lv_icmp_ge (tgt := 111) hx hb dX3_fewestSpools_16 (by decide) (fun c15 => ?_) (fun c15 => ?_)
    · have hX := if_t c15 hX
      refine lv_iload_n hx hb dX3_fewestSpools_111 rfl (lv_at hl 1 rfl) ?_
      refine lv_if_lt (tgt := 122) hx hb dX3_fewestSpools_112 (by decide) (fun c16 => ?_) (fun c16 => ?_)
      · have hX := if_t c16 hX
        refine lv_iconst (v := nI 0) hx hb dX3_fewestSpools_122 (by decide) ?_
        refine lv_goto (tgt := 135) hx hb dX3_fewestSpools_123 (by decide) ?_
        obtain rfl := some_of hX
        exact x_I (v := (nI 0)) X hS dX3_fewestSpools_135
      · have hX := if_f c16 hX
        refine lv_iload_n hx hb dX3_fewestSpools_115 rfl (lv_at hl 1 rfl) ?_
        refine lv_sipush (v := nI 512) hx hb dX3_fewestSpools_116 (by decide) ?_
        refine lv_icmp_lt (tgt := 126) hx hb dX3_fewestSpools_119 (by decide) (fun c17 => ?_) (fun c17 => ?_)
        · have hX := if_t c17 hX
          refine lv_aload_n hx hb dX3_fewestSpools_126 rfl (lv_at hl 0 rfl) ?_
          refine fg_X3_37 X hS (o_of hN (o := 17) (c := 3) (by decide) rfl) dX3_fewestSpools_127 ?_
          refine lv_iload_n hx hb dX3_fewestSpools_130 rfl (lv_at hl 1 rfl) ?_
          obtain ⟨g18, hX⟩ := gin_of hX
          refine r_iald (ci := 3) (o := 17) (k := 8) (n := 512) X hS (o_of hN (o := 17) (c := 3) (by decide) rfl) rfl rfl g18 dX3_fewestSpools_131 ?_
          refine lv_bipush (v := nI 100) hx hb dX3_fewestSpools_132 (by decide) ?_
          obtain ⟨g19, hX⟩ := gnz_of hX
          refine lv_idiv hx hb dX3_fewestSpools_134 g19 ?_
          obtain rfl := some_of hX
          exact x_I (v := ((gA M 17 8 (ix a1)) / (nI 100))) X hS dX3_fewestSpools_135
        · have hX := if_f c17 hX
          refine lv_iconst (v := nI 0) hx hb dX3_fewestSpools_122 (by decide) ?_
          refine lv_goto (tgt := 135) hx hb dX3_fewestSpools_123 (by decide) ?_
          obtain rfl := some_of hX
          exact x_I (v := (nI 0)) X hS dX3_fewestSpools_135
    · have hX := if_f c15 hX
      refine lv_aload_n hx hb dX3_fewestSpools_19 rfl (lv_at hl 0 rfl) ?_
      refine fg_X3_37 X hS (o_of hN (o := 17) (c := 3) (by decide) rfl) dX3_fewestSpools_20 ?_
      refine lv_iload_n hx hb dX3_fewestSpools_23 rfl (lv_at hl 3 rfl) ?_
      refine lv_ldc hx hb (own := RX3) hown (hts _ t4_81) dX3_fewestSpools_24 ?_
      obtain ⟨g20, hX⟩ := gin_of hX
      refine r_iast (ci := 3) (o := 17) (k := 8) (n := 512) X hS (o_of hN (o := 17) (c := 3) (by decide) rfl) rfl rfl g20 dX3_fewestSpools_26 (fun H locs hS => ?_)
      obtain ⟨M21, eM21, hS, hX⟩ := nm_mem hS hX
      refine lv_iconst (v := nI 0) hx hb dX3_fewestSpools_27 (by decide) ?_
      refine lv_istore (lv' := [(4, .int (nI 0)), (0, .ref (ad 17 0)), (1, .int a1), (2, .int a2), (3, .int v_3)]) hx hb dX3_fewestSpools_28 hl (by decide) rfl (fun ls hl => ?_)
      exact n_X3_fewestSpools_30 X hN _ _ _ _ hX (fun z0 z1 r h ls H locs hl hS => ih z0 z1 r h ls H locs hl hS) _ _ _ (lv_sub hl [1, 2, 3, 4, 0] rfl) hS
set_option maxRecDepth 100000 in
set_option maxHeartbeats 4000000 in
theorem m_X3_fewestSpools {l : Launch} {D : va_G} {cy : Nat → ClassId} {ad : Nat → Nat → Nat} {ns : List (Nat × Nat)} {A : Nat → Prop} {M : Mem} (hN : NsC ns) {a1 : Int32} {a2 : Int32} {r : Int32 × Mem} (hX : f_X3_fewestSpools M a1 a2 = some r) : Ct l yX3_fewestSpools cX3_fewestSpools 5 ((some .int)) rm_X3_fewestSpools D cy ad ns A [.ref (ad 17 0), .int a1, .int a2] M r.2 (some (.int r.1)) := by
  refine ct_of (lv := [(0, .ref (ad 17 0)), (1, .int a1), (2, .int a2)]) (by decide) (Nat.le_of_ble_eq_true rfl) rfl ?_
  intro p e s m args below meth c ls X hl hS
  obtain ⟨hx, hb, hml, hown, hts, hK, hr, hlk, hA, hG⟩ := id X
  obtain ⟨H, hH⟩ : ∃ z, z = s.heap := ⟨_, rfl⟩
  obtain ⟨locs, hlo⟩ : ∃ z : List Loc, z = [] := ⟨_, rfl⟩
  have hS : St D cy ad ns A M s.heap H locs := by rw [hH, hlo]; exact hS
  have hgoal : W p l e rm_X3_fewestSpools s m args below meth c H locs 0 0 (MQ below (QC D cy ad ns A r.2 (some (.int r.1))) args s 0 0 A) (F0 m 0 ls []) := by
    unfold f_X3_fewestSpools at hX
    refine lv_aload_n hx hb dX3_fewestSpools_0 rfl (lv_at hl 0 rfl) ?_
    refine fg_X3_37 X hS (o_of hN (o := 17) (c := 3) (by decide) rfl) dX3_fewestSpools_1 ?_
    refine lv_iconst (v := nI 0) hx hb dX3_fewestSpools_4 (by decide) ?_
    refine lv_iload_n hx hb dX3_fewestSpools_5 rfl (lv_at hl 2 rfl) ?_
    obtain ⟨g22, hX⟩ := gin_of hX
    refine r_iast (ci := 3) (o := 17) (k := 8) (n := 512) X hS (o_of hN (o := 17) (c := 3) (by decide) rfl) rfl rfl g22 dX3_fewestSpools_6 (fun H locs hS => ?_)
    obtain ⟨M23, eM23, hS, hX⟩ := nm_mem hS hX
    refine lv_iconst (v := nI 1) hx hb dX3_fewestSpools_7 (by decide) ?_
    refine lv_istore_n (lv' := [(3, .int (nI 1)), (0, .ref (ad 17 0)), (1, .int a1), (2, .int a2)]) hx hb dX3_fewestSpools_8 rfl hl (by decide) rfl (fun ls hl => ?_)
    exact n_X3_fewestSpools_9 X hN _ _ _ _ hX _ _ _ (lv_sub hl [1, 2, 3, 0] rfl) hS
  rw [hH, hlo] at hgoal
  exact hgoal
theorem mv_X3_fewestSpools : Mv yX3_fewestSpools RX3 cX3_fewestSpools 5 ((some .int)) 2 := ⟨t5_90, t5_88, t5_89, t1_9, ⟨by decide, by decide⟩, by decide +kernel⟩
end MT_20_X3
