section FR_18_X5
variable {p : Program} {l : Launch} {e : Env} {R : Room} {s : State} {m : MethodId} {args : Array Value} {below : List Frame} {meth : Method} {c : Code} {H : Heap} {locs : List Loc} {cells slots : Nat} {Q : State → Prop} {D : va_G} {cy : Nat → ClassId} {ad : Nat → Nat → Nat} {ns : List (Nat × Nat)} {A : Nat → Prop} {M M' : Mem} {cc : ByteArray} {nL : Nat} {ret : Option FieldType} {pc : Nat} {ls : Array Slot} {rest : List Value}
theorem fg_X5_9 (X : Cx p s m args meth c D cy ad A RX5 cc nL ret) (hS : St D cy ad ns A M s.heap H locs) {o : Nat} (ho : Ob ns 5 o) (hdg : decode cc pc = .ok (.getfield 9, 3)) (kk : W p l e R s m args below meth c H locs cells slots Q (F0 m (pc + 3) ls (.ref (ad o (0 + 1)) :: rest))) : W p l e R s m args below meth c H locs cells slots Q (F0 m pc ls (.ref (ad o 0) :: rest)) := r_get X hS (C := RX5) (T := TX5) (N := 9) (k := 0) tf5 rfl rfl ho (by decide) t1_189 ⟨rfl, rfl, rfl⟩ (by unfold fv; rw [ho.1]; rfl) hdg kk
theorem fg_X5_15 (X : Cx p s m args meth c D cy ad A RX5 cc nL ret) (hS : St D cy ad ns A M s.heap H locs) {o : Nat} (ho : Ob ns 5 o) (hdg : decode cc pc = .ok (.getfield 15, 3)) (kk : W p l e R s m args below meth c H locs cells slots Q (F0 m (pc + 3) ls (.int (gI M o 3) :: rest))) : W p l e R s m args below meth c H locs cells slots Q (F0 m pc ls (.ref (ad o 0) :: rest)) := r_get X hS (C := RX5) (T := TX5) (N := 9) (k := 3) tf5 rfl rfl ho (by decide) t1_195 ⟨rfl, rfl, rfl⟩ (by unfold fv; rw [ho.1]; rfl) hdg kk
theorem fp_X5_15 (X : Cx p s m args meth c D cy ad A RX5 cc nL ret) (hS : St D cy ad ns A M s.heap H locs) {o : Nat} (ho : Ob ns 5 o) {v : Int32} (hdg : decode cc pc = .ok (.putfield 15, 3)) (kk : ∀ (H1 : Heap) (locs1 : List Loc), St D cy ad ns A (sI M o 3 v) s.heap H1 locs1 → W p l e R s m args below meth c H1 locs1 cells slots Q (F0 m (pc + 3) ls rest)) : W p l e R s m args below meth c H locs cells slots Q (F0 m pc ls (.int v :: .ref (ad o 0) :: rest)) := r_put X hS (C := RX5) (T := TX5) (N := 9) (k := 3) tf5 rfl rfl tyX5 tyX5_ok nmX5 ho (by decide) t1_195 ⟨rfl, rfl, rfl⟩ rfl (ty := .int) (by decide +kernel) rfl rfl (wr_sI hS.1.2.2) (cel_sI (by rw [ho.1]; decide) (by rw [ho.1]; rfl)) (fun q hq => cel_sI' hq) hdg kk
theorem fg_X5_19 (X : Cx p s m args meth c D cy ad A RX5 cc nL ret) (hS : St D cy ad ns A M s.heap H locs) {o : Nat} (ho : Ob ns 5 o) (hdg : decode cc pc = .ok (.getfield 19, 3)) (kk : W p l e R s m args below meth c H locs cells slots Q (F0 m (pc + 3) ls (.ref (ad o (4 + 1)) :: rest))) : W p l e R s m args below meth c H locs cells slots Q (F0 m pc ls (.ref (ad o 0) :: rest)) := r_get X hS (C := RX5) (T := TX5) (N := 9) (k := 4) tf5 rfl rfl ho (by decide) t1_197 ⟨rfl, rfl, rfl⟩ (by unfold fv; rw [ho.1]; rfl) hdg kk
theorem fg_X5_26 (X : Cx p s m args meth c D cy ad A RX5 cc nL ret) (hS : St D cy ad ns A M s.heap H locs) {o : Nat} (ho : Ob ns 5 o) (hdg : decode cc pc = .ok (.getfield 26, 3)) (kk : W p l e R s m args below meth c H locs cells slots Q (F0 m (pc + 3) ls (.ref (ad o (5 + 1)) :: rest))) : W p l e R s m args below meth c H locs cells slots Q (F0 m pc ls (.ref (ad o 0) :: rest)) := r_get X hS (C := RX5) (T := TX5) (N := 9) (k := 5) tf5 rfl rfl ho (by decide) t1_199 ⟨rfl, rfl, rfl⟩ (by unfold fv; rw [ho.1]; rfl) hdg kk
theorem fg_X5_33 (X : Cx p s m args meth c D cy ad A RX5 cc nL ret) (hS : St D cy ad ns A M s.heap H locs) {o : Nat} (ho : Ob ns 5 o) (hdg : decode cc pc = .ok (.getfield 33, 3)) (kk : W p l e R s m args below meth c H locs cells slots Q (F0 m (pc + 3) ls (.ref (ad o (6 + 1)) :: rest))) : W p l e R s m args below meth c H locs cells slots Q (F0 m pc ls (.ref (ad o 0) :: rest)) := r_get X hS (C := RX5) (T := TX5) (N := 9) (k := 6) tf5 rfl rfl ho (by decide) t1_201 ⟨rfl, rfl, rfl⟩ (by unfold fv; rw [ho.1]; rfl) hdg kk
theorem fg_X5_40 (X : Cx p s m args meth c D cy ad A RX5 cc nL ret) (hS : St D cy ad ns A M s.heap H locs) {o : Nat} (ho : Ob ns 5 o) (hdg : decode cc pc = .ok (.getfield 40, 3)) (kk : W p l e R s m args below meth c H locs cells slots Q (F0 m (pc + 3) ls (.ref (ad o (7 + 1)) :: rest))) : W p l e R s m args below meth c H locs cells slots Q (F0 m pc ls (.ref (ad o 0) :: rest)) := r_get X hS (C := RX5) (T := TX5) (N := 9) (k := 7) tf5 rfl rfl ho (by decide) t1_203 ⟨rfl, rfl, rfl⟩ (by unfold fv; rw [ho.1]; rfl) hdg kk
theorem fg_X5_47 (X : Cx p s m args meth c D cy ad A RX5 cc nL ret) (hS : St D cy ad ns A M s.heap H locs) {o : Nat} (ho : Ob ns 5 o) (hdg : decode cc pc = .ok (.getfield 47, 3)) (kk : W p l e R s m args below meth c H locs cells slots Q (F0 m (pc + 3) ls (.ref (ad o (8 + 1)) :: rest))) : W p l e R s m args below meth c H locs cells slots Q (F0 m pc ls (.ref (ad o 0) :: rest)) := r_get X hS (C := RX5) (T := TX5) (N := 9) (k := 8) tf5 rfl rfl ho (by decide) t1_205 ⟨rfl, rfl, rfl⟩ (by unfold fv; rw [ho.1]; rfl) hdg kk
theorem fg_X5_51 (X : Cx p s m args meth c D cy ad A RX5 cc nL ret) (hS : St D cy ad ns A M s.heap H locs) {o : Nat} (ho : Ob ns 5 o) (hdg : decode cc pc = .ok (.getfield 51, 3)) (kk : W p l e R s m args below meth c H locs cells slots Q (F0 m (pc + 3) ls (.int (gI M o 1) :: rest))) : W p l e R s m args below meth c H locs cells slots Q (F0 m pc ls (.ref (ad o 0) :: rest)) := r_get X hS (C := RX5) (T := TX5) (N := 9) (k := 1) tf5 rfl rfl ho (by decide) t1_192 ⟨rfl, rfl, rfl⟩ (by unfold fv; rw [ho.1]; rfl) hdg kk
theorem fp_X5_51 (X : Cx p s m args meth c D cy ad A RX5 cc nL ret) (hS : St D cy ad ns A M s.heap H locs) {o : Nat} (ho : Ob ns 5 o) {v : Int32} (hdg : decode cc pc = .ok (.putfield 51, 3)) (kk : ∀ (H1 : Heap) (locs1 : List Loc), St D cy ad ns A (sI M o 1 v) s.heap H1 locs1 → W p l e R s m args below meth c H1 locs1 cells slots Q (F0 m (pc + 3) ls rest)) : W p l e R s m args below meth c H locs cells slots Q (F0 m pc ls (.int v :: .ref (ad o 0) :: rest)) := r_put X hS (C := RX5) (T := TX5) (N := 9) (k := 1) tf5 rfl rfl tyX5 tyX5_ok nmX5 ho (by decide) t1_192 ⟨rfl, rfl, rfl⟩ rfl (ty := .int) (by decide +kernel) rfl rfl (wr_sI hS.1.2.2) (cel_sI (by rw [ho.1]; decide) (by rw [ho.1]; rfl)) (fun q hq => cel_sI' hq) hdg kk
theorem fg_X5_54 (X : Cx p s m args meth c D cy ad A RX5 cc nL ret) (hS : St D cy ad ns A M s.heap H locs) {o : Nat} (ho : Ob ns 5 o) (hdg : decode cc pc = .ok (.getfield 54, 3)) (kk : W p l e R s m args below meth c H locs cells slots Q (F0 m (pc + 3) ls (.int (gI M o 2) :: rest))) : W p l e R s m args below meth c H locs cells slots Q (F0 m pc ls (.ref (ad o 0) :: rest)) := r_get X hS (C := RX5) (T := TX5) (N := 9) (k := 2) tf5 rfl rfl ho (by decide) t1_193 ⟨rfl, rfl, rfl⟩ (by unfold fv; rw [ho.1]; rfl) hdg kk
theorem fp_X5_54 (X : Cx p s m args meth c D cy ad A RX5 cc nL ret) (hS : St D cy ad ns A M s.heap H locs) {o : Nat} (ho : Ob ns 5 o) {v : Int32} (hdg : decode cc pc = .ok (.putfield 54, 3)) (kk : ∀ (H1 : Heap) (locs1 : List Loc), St D cy ad ns A (sI M o 2 v) s.heap H1 locs1 → W p l e R s m args below meth c H1 locs1 cells slots Q (F0 m (pc + 3) ls rest)) : W p l e R s m args below meth c H locs cells slots Q (F0 m pc ls (.int v :: .ref (ad o 0) :: rest)) := r_put X hS (C := RX5) (T := TX5) (N := 9) (k := 2) tf5 rfl rfl tyX5 tyX5_ok nmX5 ho (by decide) t1_193 ⟨rfl, rfl, rfl⟩ rfl (ty := .int) (by decide +kernel) rfl rfl (wr_sI hS.1.2.2) (cel_sI (by rw [ho.1]; decide) (by rw [ho.1]; rfl)) (fun q hq => cel_sI' hq) hdg kk
theorem fg_X5_57 (X : Cx p s m args meth c D cy ad A RX5 cc nL ret) (hS : St D cy ad ns A M s.heap H locs) (ho : Ob ns 2 10) (hdg : decode cc pc = .ok (.getfield 57, 3)) (kk : W p l e R s m args below meth c H locs cells slots Q (F0 m (pc + 3) ls (.ref (ad 11 0) :: rest))) : W p l e R s m args below meth c H locs cells slots Q (F0 m pc ls (.ref (ad 10 0) :: rest)) := r_get X hS (C := RX2) (T := TX2) (N := 14) (k := 0) tf2 rfl rfl ho (by decide) t2_2 ⟨rfl, rfl, rfl⟩ rfl hdg kk
theorem fg_X5_67 (X : Cx p s m args meth c D cy ad A RX5 cc nL ret) (hS : St D cy ad ns A M s.heap H locs) (ho : Ob ns 2 10) (hdg : decode cc pc = .ok (.getfield 67, 3)) (kk : W p l e R s m args below meth c H locs cells slots Q (F0 m (pc + 3) ls (.ref (ad 12 0) :: rest))) : W p l e R s m args below meth c H locs cells slots Q (F0 m pc ls (.ref (ad 10 0) :: rest)) := r_get X hS (C := RX2) (T := TX2) (N := 14) (k := 1) tf2 rfl rfl ho (by decide) t2_4 ⟨rfl, rfl, rfl⟩ rfl hdg kk
theorem fg_X5_74 (X : Cx p s m args meth c D cy ad A RX5 cc nL ret) (hS : St D cy ad ns A M s.heap H locs) (ho : Ob ns 2 10) (hdg : decode cc pc = .ok (.getfield 74, 3)) (kk : W p l e R s m args below meth c H locs cells slots Q (F0 m (pc + 3) ls (.ref (ad 13 0) :: rest))) : W p l e R s m args below meth c H locs cells slots Q (F0 m pc ls (.ref (ad 10 0) :: rest)) := r_get X hS (C := RX2) (T := TX2) (N := 14) (k := 2) tf2 rfl rfl ho (by decide) t2_6 ⟨rfl, rfl, rfl⟩ rfl hdg kk
theorem fg_X5_81 (X : Cx p s m args meth c D cy ad A RX5 cc nL ret) (hS : St D cy ad ns A M s.heap H locs) (ho : Ob ns 2 10) (hdg : decode cc pc = .ok (.getfield 81, 3)) (kk : W p l e R s m args below meth c H locs cells slots Q (F0 m (pc + 3) ls (.ref (ad 14 0) :: rest))) : W p l e R s m args below meth c H locs cells slots Q (F0 m pc ls (.ref (ad 10 0) :: rest)) := r_get X hS (C := RX2) (T := TX2) (N := 14) (k := 3) tf2 rfl rfl ho (by decide) t2_8 ⟨rfl, rfl, rfl⟩ rfl hdg kk
end FR_18_X5
section MT_18_X5
variable {p : Program} {l : Launch} {e : Env} {s : State} {m : MethodId} {args : Array Value} {below : List Frame} {meth : Method} {c : Code} {D : va_G} {cy : Nat → ClassId} {ad : Nat → Nat → Nat} {ns : List (Nat × Nat)} {A : Nat → Prop}
/-! SewnYear$Told.put(I)V -/
def rm_X5_put : Room := { frames := 0, cells := 0, slots := 0, locals := 0 }
def b_X5_put_3 (o : Nat) (a1 : Int32) (rc : Int32 → Mem → Option (Mem)) (v_2 : Int32) (M : Mem) : Option (Mem) :=
  if v_2 < (nI 0) then (some M) else (if (nI 600) ≤ (gI M o 1) then (some M) else (gin (gI M o 1) 600 <| nm (sA M o 0 (ix (gI M o 1)) (Int8.toInt32 (Int32.toInt8 (a1 >>> (v_2 &&& 31))))) fun M4 => nm (sI M4 o 1 ((gI M4 o 1) + (nI 1))) fun M5 => nm (v_2 + (-8)) fun v6 => rc v6 M5))
def f_X5_put_3 (o : Nat) (a1 : Int32) : Nat → (Int32 × Mem) → Option (Mem) := lp (fun rc q => b_X5_put_3 o a1 (fun x0 x1 => rc (x0, x1)) q.1 q.2)
def f_X5_put (M : Mem) (o : Nat) (a1 : Int32) : Option (Mem) :=
  f_X5_put_3 o a1 FU ((nI 24), M)
set_option maxRecDepth 100000 in
set_option maxHeartbeats 4000000 in
theorem n_X5_put_3 {o : Nat} {a1 : Int32} (X : Cx p s m args meth c D cy ad A RX5 cX5_put 3 ((none : Option Jvm.ClassFile.FieldType))) (hN : NsC ns) (ho : Ob ns 5 o) : ∀ (n : Nat) (v_2 : Int32) (M : Mem) (r : Mem), f_X5_put_3 o a1 n (v_2, M) = some r → ∀ (ls : Array Slot) (H : Heap) (locs : List Loc), lv_has ls 3 [(0, .ref (ad o 0)), (1, .int a1), (2, .int v_2)] → St D cy ad ns A M s.heap H locs → W p l e rm_X5_put s m args below meth c H locs 0 0 (MQ below (QC D cy ad ns A r none) args s 0 0 A) (F0 m 3 ls []) := by
  obtain ⟨hx, hb, hml, hown, hts, hK, hr, hlk, hA, hG⟩ := id X
  intro n
  induction n with
  | zero => intro v_2 M r hX; cases (show (none : Option (Mem)) = some r from hX)
  | succ n ih =>
    intro v_2 M r hX ls H locs hl hS
    have hX : b_X5_put_3 o a1 (fun x0 x1 => f_X5_put_3 o a1 n (x0, x1)) v_2 M = some r := hX
    unfold b_X5_put_3 at hX
    refine lv_iload_n hx hb dX5_put_3 rfl (lv_at hl 2 rfl) ?_
    refine lv_if_lt (tgt := 46) hx hb dX5_put_4 (by decide) (fun c1 => ?_) (fun c1 => ?_)
    · have hX := if_t c1 hX
      obtain rfl := some_of hX
      exact x_V X hS dX5_put_46
    · have hX := if_f c1 hX
      refine lv_aload_n hx hb dX5_put_7 rfl (lv_at hl 0 rfl) ?_
      refine fg_X5_51 X hS ho dX5_put_8 ?_
      refine lv_sipush (v := nI 600) hx hb dX5_put_11 (by decide) ?_
      refine lv_icmp_ge (tgt := 46) hx hb dX5_put_14 (by decide) (fun c2 => ?_) (fun c2 => ?_)
      · have hX := if_t c2 hX
        obtain rfl := some_of hX
        exact x_V X hS dX5_put_46
      · have hX := if_f c2 hX
        refine lv_aload_n hx hb dX5_put_17 rfl (lv_at hl 0 rfl) ?_
        refine fg_X5_9 X hS ho dX5_put_18 ?_
        refine lv_aload_n hx hb dX5_put_21 rfl (lv_at hl 0 rfl) ?_
        refine fg_X5_51 X hS ho dX5_put_22 ?_
        refine lv_iload_n hx hb dX5_put_25 rfl (lv_at hl 1 rfl) ?_
        refine lv_iload_n hx hb dX5_put_26 rfl (lv_at hl 2 rfl) ?_
        refine lv_ishr hx hb dX5_put_27 ?_
        refine lv_i2b (v := (Int8.toInt32 (Int32.toInt8 (a1 >>> (v_2 &&& 31))))) hx hb dX5_put_28 rfl ?_
        obtain ⟨g3, hX⟩ := gin_of hX
        refine r_bast (ci := 5) (o := o) (k := 0) (n := 600) X hS ho rfl rfl g3 dX5_put_29 (fun H locs hS => ?_)
        obtain ⟨M4, eM4, hS, hX⟩ := nm_mem hS hX
        refine lv_aload_n hx hb dX5_put_30 rfl (lv_at hl 0 rfl) ?_
        refine lv_dup hx hb dX5_put_31 rfl ?_
        refine fg_X5_51 X hS ho dX5_put_32 ?_
        refine lv_iconst (v := nI 1) hx hb dX5_put_35 (by decide) ?_
        refine lv_iadd hx hb dX5_put_36 ?_
        refine fp_X5_51 X hS ho dX5_put_37 (fun H locs hS => ?_)
        obtain ⟨M5, eM5, hS, hX⟩ := nm_mem hS hX
        obtain ⟨v6, ev6⟩ : ∃ y : Int32, y = (v_2 + (-8)) := ⟨_, rfl⟩
        have hX := nm_of ev6 hX
        refine lv_iinc (v := v6) (lv' := [(2, .int v6), (0, .ref (ad o 0)), (1, .int a1)]) hx hb dX5_put_40 hl (k := 2) rfl (by rw [ev6]; rfl) (by decide) rfl (fun ls hl => ?_)
        refine lv_goto (tgt := 3) hx hb dX5_put_43 (by decide) ?_
        exact ih _ _ _ hX _ _ _ (lv_sub hl [1, 2, 0] rfl) hS
set_option maxRecDepth 100000 in
set_option maxHeartbeats 4000000 in
theorem m_X5_put {l : Launch} {D : va_G} {cy : Nat → ClassId} {ad : Nat → Nat → Nat} {ns : List (Nat × Nat)} {A : Nat → Prop} {M : Mem} (hN : NsC ns) {o : Nat} {a1 : Int32} (ho : Ob ns 5 o) {r : Mem} (hX : f_X5_put M o a1 = some r) : Ct l yX5_put cX5_put 3 ((none : Option Jvm.ClassFile.FieldType)) rm_X5_put D cy ad ns A [.ref (ad o 0), .int a1] M r none := by
  refine ct_of (lv := [(0, .ref (ad o 0)), (1, .int a1)]) (by decide) (Nat.le_of_ble_eq_true rfl) rfl ?_
  intro p e s m args below meth c ls X hl hS
  obtain ⟨hx, hb, hml, hown, hts, hK, hr, hlk, hA, hG⟩ := id X
  obtain ⟨H, hH⟩ : ∃ z, z = s.heap := ⟨_, rfl⟩
  obtain ⟨locs, hlo⟩ : ∃ z : List Loc, z = [] := ⟨_, rfl⟩
  have hS : St D cy ad ns A M s.heap H locs := by rw [hH, hlo]; exact hS
  have hgoal : W p l e rm_X5_put s m args below meth c H locs 0 0 (MQ below (QC D cy ad ns A r none) args s 0 0 A) (F0 m 0 ls []) := by
    unfold f_X5_put at hX
    refine lv_bipush (v := nI 24) hx hb dX5_put_0 (by decide) ?_
    refine lv_istore_n (lv' := [(2, .int (nI 24)), (0, .ref (ad o 0)), (1, .int a1)]) hx hb dX5_put_2 rfl hl (by decide) rfl (fun ls hl => ?_)
    exact n_X5_put_3 X hN ho _ _ _ _ hX _ _ _ (lv_sub hl [1, 2, 0] rfl) hS
  rw [hH, hlo] at hgoal
  exact hgoal
theorem mv_X5_put : Mv yX5_put RX5 cX5_put 3 ((none : Option Jvm.ClassFile.FieldType)) 1 := ⟨t2_193, t2_191, t2_192, t1_2, ⟨by decide, by decide⟩, by decide +kernel⟩
/-! SewnYear$Told.close(II)V -/
def rm_X5_close : Room := { frames := 0, cells := 0, slots := 0, locals := 0 }
def f_X5_close (M : Mem) (o : Nat) (a1 : Int32) (a2 : Int32) : Option (Mem) :=
  nm (sI M o 1 (nI 0)) fun M1 => nm (sI M1 o 2 a1) fun M2 => nm (sI M2 o 3 a2) fun M3 => some M3
set_option maxRecDepth 100000 in
set_option maxHeartbeats 4000000 in
theorem m_X5_close {l : Launch} {D : va_G} {cy : Nat → ClassId} {ad : Nat → Nat → Nat} {ns : List (Nat × Nat)} {A : Nat → Prop} {M : Mem} (hN : NsC ns) {o : Nat} {a1 : Int32} {a2 : Int32} (ho : Ob ns 5 o) {r : Mem} (hX : f_X5_close M o a1 a2 = some r) : Ct l yX5_close cX5_close 3 ((none : Option Jvm.ClassFile.FieldType)) rm_X5_close D cy ad ns A [.ref (ad o 0), .int a1, .int a2] M r none := by
  refine ct_of (lv := [(0, .ref (ad o 0)), (1, .int a1), (2, .int a2)]) (by decide) (Nat.le_of_ble_eq_true rfl) rfl ?_
  intro p e s m args below meth c ls X hl hS
  obtain ⟨hx, hb, hml, hown, hts, hK, hr, hlk, hA, hG⟩ := id X
  obtain ⟨H, hH⟩ : ∃ z, z = s.heap := ⟨_, rfl⟩
  obtain ⟨locs, hlo⟩ : ∃ z : List Loc, z = [] := ⟨_, rfl⟩
  have hS : St D cy ad ns A M s.heap H locs := by rw [hH, hlo]; exact hS
  have hgoal : W p l e rm_X5_close s m args below meth c H locs 0 0 (MQ below (QC D cy ad ns A r none) args s 0 0 A) (F0 m 0 ls []) := by
    unfold f_X5_close at hX
    refine lv_aload_n hx hb dX5_close_0 rfl (lv_at hl 0 rfl) ?_
    refine lv_iconst (v := nI 0) hx hb dX5_close_1 (by decide) ?_
    refine fp_X5_51 X hS ho dX5_close_2 (fun H locs hS => ?_)
    obtain ⟨M1, eM1, hS, hX⟩ := nm_mem hS hX
    refine lv_aload_n hx hb dX5_close_5 rfl (lv_at hl 0 rfl) ?_
    refine lv_iload_n hx hb dX5_close_6 rfl (lv_at hl 1 rfl) ?_
    refine fp_X5_54 X hS ho dX5_close_7 (fun H locs hS => ?_)
    obtain ⟨M2, eM2, hS, hX⟩ := nm_mem hS hX
    refine lv_aload_n hx hb dX5_close_10 rfl (lv_at hl 0 rfl) ?_
    refine lv_iload_n hx hb dX5_close_11 rfl (lv_at hl 2 rfl) ?_
    refine fp_X5_15 X hS ho dX5_close_12 (fun H locs hS => ?_)
    obtain ⟨M3, eM3, hS, hX⟩ := nm_mem hS hX
    obtain rfl := some_of hX
    exact x_V X hS dX5_close_15
  rw [hH, hlo] at hgoal
  exact hgoal
theorem mv_X5_close : Mv yX5_close RX5 cX5_close 3 ((none : Option Jvm.ClassFile.FieldType)) 2 := ⟨t2_209, t2_207, t2_208, t1_2, ⟨by decide, by decide⟩, by decide +kernel⟩
/-! SewnYear$Told.has(II)Z -/
def rm_X5_has : Room := { frames := 0, cells := 0, slots := 0, locals := 0 }
def f_X5_has (M : Mem) (o : Nat) (a1 : Int32) (a2 : Int32) : Option (Bool) :=
  if a1 < (nI 0) then (some false) else (if (nI 4) ≤ a1 then (some false) else (if a2 < (nI 0) then (some false) else (gin a1 4 <| if (gA M o 4 (ix a1)) ≤ a2 then (some false) else (if (nI 2) ≤ a2 then (some false) else (some true)))))
set_option maxRecDepth 100000 in
set_option maxHeartbeats 4000000 in
theorem m_X5_has {l : Launch} {D : va_G} {cy : Nat → ClassId} {ad : Nat → Nat → Nat} {ns : List (Nat × Nat)} {A : Nat → Prop} {M : Mem} (hN : NsC ns) {o : Nat} {a1 : Int32} {a2 : Int32} (ho : Ob ns 5 o) {r : Bool} (hX : f_X5_has M o a1 a2 = some r) : Ct l yX5_has cX5_has 3 ((some .boolean)) rm_X5_has D cy ad ns A [.ref (ad o 0), .int a1, .int a2] M M (some (.int (b2i r))) := by
  refine ct_of (lv := [(0, .ref (ad o 0)), (1, .int a1), (2, .int a2)]) (by decide) (Nat.le_of_ble_eq_true rfl) rfl ?_
  intro p e s m args below meth c ls X hl hS
  obtain ⟨hx, hb, hml, hown, hts, hK, hr, hlk, hA, hG⟩ := id X
  obtain ⟨H, hH⟩ : ∃ z, z = s.heap := ⟨_, rfl⟩
  obtain ⟨locs, hlo⟩ : ∃ z : List Loc, z = [] := ⟨_, rfl⟩
  have hS : St D cy ad ns A M s.heap H locs := by rw [hH, hlo]; exact hS
  have hgoal : W p l e rm_X5_has s m args below meth c H locs 0 0 (MQ below (QC D cy ad ns A M (some (.int (b2i r)))) args s 0 0 A) (F0 m 0 ls []) := by
    unfold f_X5_has at hX
    refine lv_iload_n hx hb dX5_has_0 rfl (lv_at hl 1 rfl) ?_
    refine lv_if_lt (tgt := 32) hx hb dX5_has_1 (by decide) (fun c1 => ?_) (fun c1 => ?_)
    · have hX := if_t c1 hX
      refine lv_iconst (v := nI 0) hx hb dX5_has_32 (by decide) ?_
      obtain rfl := some_of hX
      exact x_Z (v := false) X hS dX5_has_33
    · have hX := if_f c1 hX
      refine lv_iload_n hx hb dX5_has_4 rfl (lv_at hl 1 rfl) ?_
      refine lv_iconst (v := nI 4) hx hb dX5_has_5 (by decide) ?_
      refine lv_icmp_ge (tgt := 32) hx hb dX5_has_6 (by decide) (fun c2 => ?_) (fun c2 => ?_)
      · have hX := if_t c2 hX
        refine lv_iconst (v := nI 0) hx hb dX5_has_32 (by decide) ?_
        obtain rfl := some_of hX
        exact x_Z (v := false) X hS dX5_has_33
      · have hX := if_f c2 hX
        refine lv_iload_n hx hb dX5_has_9 rfl (lv_at hl 2 rfl) ?_
        refine lv_if_lt (tgt := 32) hx hb dX5_has_10 (by decide) (fun c3 => ?_) (fun c3 => ?_)
        · have hX := if_t c3 hX
          refine lv_iconst (v := nI 0) hx hb dX5_has_32 (by decide) ?_
          obtain rfl := some_of hX
          exact x_Z (v := false) X hS dX5_has_33
        · have hX := if_f c3 hX
          refine lv_iload_n hx hb dX5_has_13 rfl (lv_at hl 2 rfl) ?_
          refine lv_aload_n hx hb dX5_has_14 rfl (lv_at hl 0 rfl) ?_
          refine fg_X5_19 X hS ho dX5_has_15 ?_
          refine lv_iload_n hx hb dX5_has_18 rfl (lv_at hl 1 rfl) ?_
          obtain ⟨g4, hX⟩ := gin_of hX
          refine r_iald (ci := 5) (o := o) (k := 4) (n := 4) X hS ho rfl rfl g4 dX5_has_19 ?_
          refine lv_icmp_ge (tgt := 32) hx hb dX5_has_20 (by decide) (fun c5 => ?_) (fun c5 => ?_)
          · have hX := if_t c5 hX
            refine lv_iconst (v := nI 0) hx hb dX5_has_32 (by decide) ?_
            obtain rfl := some_of hX
            exact x_Z (v := false) X hS dX5_has_33
          · have hX := if_f c5 hX
            refine lv_iload_n hx hb dX5_has_23 rfl (lv_at hl 2 rfl) ?_
            refine lv_iconst (v := nI 2) hx hb dX5_has_24 (by decide) ?_
            refine lv_icmp_ge (tgt := 32) hx hb dX5_has_25 (by decide) (fun c6 => ?_) (fun c6 => ?_)
            · have hX := if_t c6 hX
              refine lv_iconst (v := nI 0) hx hb dX5_has_32 (by decide) ?_
              obtain rfl := some_of hX
              exact x_Z (v := false) X hS dX5_has_33
            · have hX := if_f c6 hX
              refine lv_iconst (v := nI 1) hx hb dX5_has_28 (by decide) ?_
              refine lv_goto (tgt := 33) hx hb dX5_has_29 (by decide) ?_
              obtain rfl := some_of hX
              exact x_Z (v := true) X hS dX5_has_33
  rw [hH, hlo] at hgoal
  exact hgoal
theorem mv_X5_has : Mv yX5_has RX5 cX5_has 3 ((some .boolean)) 2 := ⟨t3_186, t3_184, t3_185, t1_2, ⟨by decide, by decide⟩, by decide +kernel⟩
/-! SewnYear$Told.keep(IILSewnYear$Reader;)V -/
def rm_X5_keep : Room := { frames := 2, cells := 0, slots := 0, locals := 81 }
def f_X5_keep_109 (o : Nat) (a1 : Int32) (a2 : Int32) (M : Mem) : Option (Mem) :=
  gin a1 4 <| nm (mxI (gA M o 4 (ix a1)) (a2 + (nI 1))) fun v2 => gin a1 4 <| nm (sA M o 4 (ix a1) v2) fun M4 => some M4
def f_X5_keep (M : Mem) (o : Nat) (a1 : Int32) (a2 : Int32) : Option (Mem) :=
  if a1 < (nI 0) then (some M) else (if (nI 4) ≤ a1 then (some M) else (if a2 < (nI 0) then (some M) else (if a2 < (nI 2) then (if a1 = nI 0 then (gin a2 2 <| bn (f_X0_take M (o + 1 + ix a2) 11) fun M13 => f_X5_keep_109 o a1 a2 M13) else if a1 = nI 1 then (gin a2 2 <| bn (f_X1_take M (o + 3 + ix a2) 12) fun M18 => f_X5_keep_109 o a1 a2 M18) else if a1 = nI 2 then (gin a2 2 <| bn (f_X6_take M (o + 5 + ix a2) 13) fun M23 => f_X5_keep_109 o a1 a2 M23) else (gin a2 2 <| bn (f_X4_take M (o + 7 + ix a2) 14) fun M27 => f_X5_keep_109 o a1 a2 M27)) else (some M))))
set_option maxRecDepth 100000 in
set_option maxHeartbeats 4000000 in
theorem n_X5_keep_109 {o : Nat} {a1 : Int32} {a2 : Int32} (X : Cx p s m args meth c D cy ad A RX5 cX5_keep 4 ((none : Option Jvm.ClassFile.FieldType))) (hN : NsC ns) (ho : Ob ns 5 o) {M : Mem} {r : Mem} (hX : f_X5_keep_109 o a1 a2 M = some r) : ∀ (ls : Array Slot) (H : Heap) (locs : List Loc), lv_has ls 4 [(0, .ref (ad o 0)), (1, .int a1), (2, .int a2)] → St D cy ad ns A M s.heap H locs → W p l e rm_X5_keep s m args below meth c H locs 0 0 (MQ below (QC D cy ad ns A r none) args s 0 0 A) (F0 m 109 ls []) := by
  obtain ⟨hx, hb, hml, hown, hts, hK, hr, hlk, hA, hG⟩ := id X
  intro ls H locs hl hS
  unfold f_X5_keep_109 at hX
  refine lv_aload_n hx hb dX5_keep_109 rfl (lv_at hl 0 rfl) ?_
  refine fg_X5_19 X hS ho dX5_keep_110 ?_
  refine lv_iload_n hx hb dX5_keep_113 rfl (lv_at hl 1 rfl) ?_
  refine lv_aload_n hx hb dX5_keep_114 rfl (lv_at hl 0 rfl) ?_
  refine fg_X5_19 X hS ho dX5_keep_115 ?_
  refine lv_iload_n hx hb dX5_keep_118 rfl (lv_at hl 1 rfl) ?_
  obtain ⟨g1, hX⟩ := gin_of hX
  refine r_iald (ci := 5) (o := o) (k := 4) (n := 4) X hS ho rfl rfl g1 dX5_keep_119 ?_
  refine lv_iload_n hx hb dX5_keep_120 rfl (lv_at hl 2 rfl) ?_
  refine lv_iconst (v := nI 1) hx hb dX5_keep_121 (by decide) ?_
  refine lv_iadd hx hb dX5_keep_122 ?_
  refine va_mmax hx hb (hml.trans hl.1.symm) (own := RX5) hown (hts _ t3_168) (hts _ jm_max.1) (hts _ jm_max.2.1) (hts _ jm_max.2.2) (Nat.le_of_ble_eq_true rfl) (Nat.le_of_ble_eq_true rfl) (Nat.zero_le _) (Nat.zero_le _) dX5_keep_123 ?_
  refine lv_topi (fun v2 ev2 => ?_)
  have hX := nm_of ev2 hX
  obtain ⟨g3, hX⟩ := gin_of hX
  refine r_iast (ci := 5) (o := o) (k := 4) (n := 4) X hS ho rfl rfl g3 dX5_keep_126 (fun H locs hS => ?_)
  obtain ⟨M4, eM4, hS, hX⟩ := nm_mem hS hX
  obtain rfl := some_of hX
  exact x_V X hS dX5_keep_127
set_option maxRecDepth 100000 in
set_option maxHeartbeats 4000000 in
theorem m_X5_keep {l : Launch} {D : va_G} {cy : Nat → ClassId} {ad : Nat → Nat → Nat} {ns : List (Nat × Nat)} {A : Nat → Prop} {M : Mem} (hN : NsC ns) {o : Nat} {a1 : Int32} {a2 : Int32} (ho : Ob ns 5 o) {r : Mem} (hX : f_X5_keep M o a1 a2 = some r) : Ct l yX5_keep cX5_keep 4 ((none : Option Jvm.ClassFile.FieldType)) rm_X5_keep D cy ad ns A [.ref (ad o 0), .int a1, .int a2, .ref (ad 10 0)] M r none := by
  refine ct_of (lv := [(0, .ref (ad o 0)), (1, .int a1), (2, .int a2), (3, .ref (ad 10 0))]) (by decide) (Nat.le_of_ble_eq_true rfl) rfl ?_
  intro p e s m args below meth c ls X hl hS
  obtain ⟨hx, hb, hml, hown, hts, hK, hr, hlk, hA, hG⟩ := id X
  obtain ⟨H, hH⟩ : ∃ z, z = s.heap := ⟨_, rfl⟩
  obtain ⟨locs, hlo⟩ : ∃ z : List Loc, z = [] := ⟨_, rfl⟩
  have hS : St D cy ad ns A M s.heap H locs := by rw [hH, hlo]; exact hS
  have hgoal : W p l e rm_X5_keep s m args below meth c H locs 0 0 (MQ below (QC D cy ad ns A r none) args s 0 0 A) (F0 m 0 ls []) := by
    unfold f_X5_keep at hX
    refine lv_iload_n hx hb dX5_keep_0 rfl (lv_at hl 1 rfl) ?_
    refine lv_if_lt (tgt := 18) hx hb dX5_keep_1 (by decide) (fun c5 => ?_) (fun c5 => ?_)
    · have hX := if_t c5 hX
      obtain rfl := some_of hX
      exact x_V X hS dX5_keep_18
    · have hX := if_f c5 hX
      refine lv_iload_n hx hb dX5_keep_4 rfl (lv_at hl 1 rfl) ?_
      refine lv_iconst (v := nI 4) hx hb dX5_keep_5 (by decide) ?_
      refine lv_icmp_ge (tgt := 18) hx hb dX5_keep_6 (by decide) (fun c6 => ?_) (fun c6 => ?_)
      · have hX := if_t c6 hX
        obtain rfl := some_of hX
        exact x_V X hS dX5_keep_18
      · have hX := if_f c6 hX
        refine lv_iload_n hx hb dX5_keep_9 rfl (lv_at hl 2 rfl) ?_
        refine lv_if_lt (tgt := 18) hx hb dX5_keep_10 (by decide) (fun c7 => ?_) (fun c7 => ?_)
        · have hX := if_t c7 hX
          obtain rfl := some_of hX
          exact x_V X hS dX5_keep_18
        · have hX := if_f c7 hX
          refine lv_iload_n hx hb dX5_keep_13 rfl (lv_at hl 2 rfl) ?_
          refine lv_iconst (v := nI 2) hx hb dX5_keep_14 (by decide) ?_
          refine lv_icmp_lt (tgt := 19) hx hb dX5_keep_15 (by decide) (fun c8 => ?_) (fun c8 => ?_)
          · have hX := if_t c8 hX
            refine lv_iload_n hx hb dX5_keep_19 rfl (lv_at hl 1 rfl) ?_
            by_cases c9 : a1 = nI 0
            · have hX := if_t c9 hX
              refine r_tabIn c9 (off := 28) (tgt := 48) hx hb dX5_keep_20 (by decide) (by decide) (by decide) (by decide) ?_
              refine lv_aload_n hx hb dX5_keep_48 rfl (lv_at hl 0 rfl) ?_
              refine fg_X5_26 X hS ho dX5_keep_49 ?_
              refine lv_iload_n hx hb dX5_keep_52 rfl (lv_at hl 2 rfl) ?_
              obtain ⟨g10, hX⟩ := gin_of hX
              refine r_aald (o := o) (k := 5) (n := 4) X hS ho rfl (by decide) rfl rfl g10 dX5_keep_53 ?_
              have q11 := (hN.2 _ ho _ (gin_lt g10)).1
              refine lv_aload_n hx hb dX5_keep_54 rfl (lv_at hl 3 rfl) ?_
              refine fg_X5_57 X hS (o_of hN (o := 10) (c := 2) (by decide) rfl) dX5_keep_55 ?_
              obtain ⟨M13, h12, hX⟩ := bn_of hX
              refine r_callV0 (As := [.ref (ad 11 0)]) (rest := []) X hS (m_X0_take hN q11 (o_of hN (o := 11) (c := 0) (by decide) rfl) h12) mv_X0_take rfl q11 t3_146 ⟨rfl, rfl, Nat.le_of_ble_eq_true rfl, Nat.le_of_ble_eq_true rfl⟩ rfl hl.1 rfl (Nat.le_of_ble_eq_true rfl) ⟨Nat.zero_le _, Nat.zero_le _⟩ dX5_keep_58 (fun H locs hS => ?_)
              refine lv_goto (tgt := 109) hx hb dX5_keep_61 (by decide) ?_
              exact n_X5_keep_109 X hN ho hX _ _ _ (lv_sub hl [0, 1, 2] rfl) hS
            have hX := if_f c9 hX
            by_cases c14 : a1 = nI 1
            · have hX := if_t c14 hX
              refine r_tabIn c14 (off := 44) (tgt := 64) hx hb dX5_keep_20 (by decide) (by decide) (by decide) (by decide) ?_
              refine lv_aload_n hx hb dX5_keep_64 rfl (lv_at hl 0 rfl) ?_
              refine fg_X5_33 X hS ho dX5_keep_65 ?_
              refine lv_iload_n hx hb dX5_keep_68 rfl (lv_at hl 2 rfl) ?_
              obtain ⟨g15, hX⟩ := gin_of hX
              refine r_aald (o := o) (k := 6) (n := 5) X hS ho rfl (by decide) rfl rfl g15 dX5_keep_69 ?_
              have q16 := (hN.2 _ ho _ (gin_lt g15)).2.1
              refine lv_aload_n hx hb dX5_keep_70 rfl (lv_at hl 3 rfl) ?_
              refine fg_X5_67 X hS (o_of hN (o := 10) (c := 2) (by decide) rfl) dX5_keep_71 ?_
              obtain ⟨M18, h17, hX⟩ := bn_of hX
              refine r_callV0 (As := [.ref (ad 12 0)]) (rest := []) X hS (m_X1_take hN q16 (o_of hN (o := 12) (c := 1) (by decide) rfl) h17) mv_X1_take rfl q16 t3_153 ⟨rfl, rfl, Nat.le_of_ble_eq_true rfl, Nat.le_of_ble_eq_true rfl⟩ rfl hl.1 rfl (Nat.le_of_ble_eq_true rfl) ⟨Nat.zero_le _, Nat.zero_le _⟩ dX5_keep_74 (fun H locs hS => ?_)
              refine lv_goto (tgt := 109) hx hb dX5_keep_77 (by decide) ?_
              exact n_X5_keep_109 X hN ho hX _ _ _ (lv_sub hl [0, 1, 2] rfl) hS
            have hX := if_f c14 hX
            by_cases c19 : a1 = nI 2
            · have hX := if_t c19 hX
              refine r_tabIn c19 (off := 60) (tgt := 80) hx hb dX5_keep_20 (by decide) (by decide) (by decide) (by decide) ?_
              refine lv_aload_n hx hb dX5_keep_80 rfl (lv_at hl 0 rfl) ?_
              refine fg_X5_40 X hS ho dX5_keep_81 ?_
              refine lv_iload_n hx hb dX5_keep_84 rfl (lv_at hl 2 rfl) ?_
              obtain ⟨g20, hX⟩ := gin_of hX
              refine r_aald (o := o) (k := 7) (n := 6) X hS ho rfl (by decide) rfl rfl g20 dX5_keep_85 ?_
              have q21 := (hN.2 _ ho _ (gin_lt g20)).2.2.1
              refine lv_aload_n hx hb dX5_keep_86 rfl (lv_at hl 3 rfl) ?_
              refine fg_X5_74 X hS (o_of hN (o := 10) (c := 2) (by decide) rfl) dX5_keep_87 ?_
              obtain ⟨M23, h22, hX⟩ := bn_of hX
              refine r_callV0 (As := [.ref (ad 13 0)]) (rest := []) X hS (m_X6_take hN q21 (o_of hN (o := 13) (c := 6) (by decide) rfl) h22) mv_X6_take rfl q21 t3_158 ⟨rfl, rfl, Nat.le_of_ble_eq_true rfl, Nat.le_of_ble_eq_true rfl⟩ rfl hl.1 rfl (Nat.le_of_ble_eq_true rfl) ⟨Nat.zero_le _, Nat.zero_le _⟩ dX5_keep_90 (fun H locs hS => ?_)
              refine lv_goto (tgt := 109) hx hb dX5_keep_93 (by decide) ?_
              exact n_X5_keep_109 X hN ho hX _ _ _ (lv_sub hl [0, 1, 2] rfl) hS
            have hX := if_f c19 hX
            have ic9 : ¬ a1.toInt = 0 := lv_neT c9 rfl
            have ic14 : ¬ a1.toInt = 1 := lv_neT c14 rfl
            have ic19 : ¬ a1.toInt = 2 := lv_neT c19 rfl
            refine lv_tableOut (tgt := 96) hx hb dX5_keep_20 (by omega) (by decide) ?_
            refine lv_aload_n hx hb dX5_keep_96 rfl (lv_at hl 0 rfl) ?_
            refine fg_X5_47 X hS ho dX5_keep_97 ?_
            refine lv_iload_n hx hb dX5_keep_100 rfl (lv_at hl 2 rfl) ?_
            obtain ⟨g24, hX⟩ := gin_of hX
            refine r_aald (o := o) (k := 8) (n := 7) X hS ho rfl (by decide) rfl rfl g24 dX5_keep_101 ?_
            have q25 := (hN.2 _ ho _ (gin_lt g24)).2.2.2
            refine lv_aload_n hx hb dX5_keep_102 rfl (lv_at hl 3 rfl) ?_
            refine fg_X5_81 X hS (o_of hN (o := 10) (c := 2) (by decide) rfl) dX5_keep_103 ?_
            obtain ⟨M27, h26, hX⟩ := bn_of hX
            refine r_callV0 (As := [.ref (ad 14 0)]) (rest := []) X hS (m_X4_take hN q25 (o_of hN (o := 14) (c := 4) (by decide) rfl) h26) mv_X4_take rfl q25 t3_163 ⟨rfl, rfl, Nat.le_of_ble_eq_true rfl, Nat.le_of_ble_eq_true rfl⟩ rfl hl.1 rfl (Nat.le_of_ble_eq_true rfl) ⟨Nat.zero_le _, Nat.zero_le _⟩ dX5_keep_106 (fun H locs hS => ?_)
            exact n_X5_keep_109 X hN ho hX _ _ _ (lv_sub hl [0, 1, 2] rfl) hS
          · have hX := if_f c8 hX
            obtain rfl := some_of hX
            exact x_V X hS dX5_keep_18
  rw [hH, hlo] at hgoal
  exact hgoal
theorem mv_X5_keep : Mv yX5_keep RX5 cX5_keep 4 ((none : Option Jvm.ClassFile.FieldType)) 3 := ⟨t3_145, t3_143, t3_144, t1_2, ⟨by decide, by decide⟩, by decide +kernel⟩
/-! SewnYear$Told.take(LSewnYear$Told;)V -/
def rm_X5_take : Room := { frames := 2, cells := 0, slots := 0, locals := 81 }
def b_X5_take_56 (o : Nat) (a1 : Nat) (rc : Int32 → Mem → Option (Mem)) (v_2 : Int32) (M : Mem) : Option (Mem) :=
  if (nI 2) ≤ v_2 then (some M) else (gin v_2 2 <| gin v_2 2 <| bn (f_X0_take M (o + 1 + ix v_2) (a1 + 1 + ix v_2)) fun M7 => gin v_2 2 <| gin v_2 2 <| bn (f_X1_take M7 (o + 3 + ix v_2) (a1 + 3 + ix v_2)) fun M13 => gin v_2 2 <| gin v_2 2 <| bn (f_X6_take M13 (o + 5 + ix v_2) (a1 + 5 + ix v_2)) fun M19 => gin v_2 2 <| gin v_2 2 <| bn (f_X4_take M19 (o + 7 + ix v_2) (a1 + 7 + ix v_2)) fun M25 => nm (v_2 + nI 1) fun v26 => rc v26 M25)
def f_X5_take_56 (o : Nat) (a1 : Nat) : Nat → (Int32 × Mem) → Option (Mem) := lp (fun rc q => b_X5_take_56 o a1 (fun x0 x1 => rc (x0, x1)) q.1 q.2)
def f_X5_take (M : Mem) (o : Nat) (a1 : Nat) : Option (Mem) :=
  nm (cpA M a1 0 o 0 600) fun M27 => nm (sI M27 o 1 (gI M27 a1 1)) fun M28 => nm (sI M28 o 2 (gI M28 a1 2)) fun M29 => nm (sI M29 o 3 (gI M29 a1 3)) fun M30 => nm (cpA M30 a1 4 o 4 4) fun M31 => f_X5_take_56 o a1 FU ((nI 0), M31)
set_option maxRecDepth 100000 in
set_option maxHeartbeats 4000000 in
theorem n_X5_take_56 {o : Nat} {a1 : Nat} (X : Cx p s m args meth c D cy ad A RX5 cX5_take 3 ((none : Option Jvm.ClassFile.FieldType))) (hN : NsC ns) (ho : Ob ns 5 o) (ha1 : Ob ns 5 a1) : ∀ (n : Nat) (v_2 : Int32) (M : Mem) (r : Mem), f_X5_take_56 o a1 n (v_2, M) = some r → ∀ (ls : Array Slot) (H : Heap) (locs : List Loc), lv_has ls 3 [(0, .ref (ad o 0)), (1, .ref (ad a1 0)), (2, .int v_2)] → St D cy ad ns A M s.heap H locs → W p l e rm_X5_take s m args below meth c H locs 0 0 (MQ below (QC D cy ad ns A r none) args s 0 0 A) (F0 m 56 ls []) := by
  obtain ⟨hx, hb, hml, hown, hts, hK, hr, hlk, hA, hG⟩ := id X
  intro n
  induction n with
  | zero => intro v_2 M r hX; cases (show (none : Option (Mem)) = some r from hX)
  | succ n ih =>
    intro v_2 M r hX ls H locs hl hS
    have hX : b_X5_take_56 o a1 (fun x0 x1 => f_X5_take_56 o a1 n (x0, x1)) v_2 M = some r := hX
    unfold b_X5_take_56 at hX
    refine lv_iload_n hx hb dX5_take_56 rfl (lv_at hl 2 rfl) ?_
    refine lv_iconst (v := nI 2) hx hb dX5_take_57 (by decide) ?_
    refine lv_icmp_ge (tgt := 127) hx hb dX5_take_58 (by decide) (fun c1 => ?_) (fun c1 => ?_)
    · have hX := if_t c1 hX
      obtain rfl := some_of hX
      exact x_V X hS dX5_take_127
    · have hX := if_f c1 hX
      refine lv_aload_n hx hb dX5_take_61 rfl (lv_at hl 0 rfl) ?_
      refine fg_X5_26 X hS ho dX5_take_62 ?_
      refine lv_iload_n hx hb dX5_take_65 rfl (lv_at hl 2 rfl) ?_
      obtain ⟨g2, hX⟩ := gin_of hX
      refine r_aald (o := o) (k := 5) (n := 4) X hS ho rfl (by decide) rfl rfl g2 dX5_take_66 ?_
      have q3 := (hN.2 _ ho _ (gin_lt g2)).1
      refine lv_aload_n hx hb dX5_take_67 rfl (lv_at hl 1 rfl) ?_
      refine fg_X5_26 X hS ha1 dX5_take_68 ?_
      refine lv_iload_n hx hb dX5_take_71 rfl (lv_at hl 2 rfl) ?_
      obtain ⟨g4, hX⟩ := gin_of hX
      refine r_aald (o := a1) (k := 5) (n := 4) X hS ha1 rfl (by decide) rfl rfl g4 dX5_take_72 ?_
      have q5 := (hN.2 _ ha1 _ (gin_lt g4)).1
      obtain ⟨M7, h6, hX⟩ := bn_of hX
      refine r_callV0 (As := [.ref (ad (a1 + 1 + ix v_2) 0)]) (rest := []) X hS (m_X0_take hN q3 q5 h6) mv_X0_take rfl q3 t3_146 ⟨rfl, rfl, Nat.le_of_ble_eq_true rfl, Nat.le_of_ble_eq_true rfl⟩ rfl hl.1 rfl (Nat.le_of_ble_eq_true rfl) ⟨Nat.zero_le _, Nat.zero_le _⟩ dX5_take_73 (fun H locs hS => ?_)
      refine lv_aload_n hx hb dX5_take_76 rfl (lv_at hl 0 rfl) ?_
      refine fg_X5_33 X hS ho dX5_take_77 ?_
      refine lv_iload_n hx hb dX5_take_80 rfl (lv_at hl 2 rfl) ?_
      obtain ⟨g8, hX⟩ := gin_of hX
      refine r_aald (o := o) (k := 6) (n := 5) X hS ho rfl (by decide) rfl rfl g8 dX5_take_81 ?_
      have q9 := (hN.2 _ ho _ (gin_lt g8)).2.1
      refine lv_aload_n hx hb dX5_take_82 rfl (lv_at hl 1 rfl) ?_
      refine fg_X5_33 X hS ha1 dX5_take_83 ?_
      refine lv_iload_n hx hb dX5_take_86 rfl (lv_at hl 2 rfl) ?_
      obtain ⟨g10, hX⟩ := gin_of hX
      refine r_aald (o := a1) (k := 6) (n := 5) X hS ha1 rfl (by decide) rfl rfl g10 dX5_take_87 ?_
      have q11 := (hN.2 _ ha1 _ (gin_lt g10)).2.1
      obtain ⟨M13, h12, hX⟩ := bn_of hX
      refine r_callV0 (As := [.ref (ad (a1 + 3 + ix v_2) 0)]) (rest := []) X hS (m_X1_take hN q9 q11 h12) mv_X1_take rfl q9 t3_153 ⟨rfl, rfl, Nat.le_of_ble_eq_true rfl, Nat.le_of_ble_eq_true rfl⟩ rfl hl.1 rfl (Nat.le_of_ble_eq_true rfl) ⟨Nat.zero_le _, Nat.zero_le _⟩ dX5_take_88 (fun H locs hS => ?_)
      refine lv_aload_n hx hb dX5_take_91 rfl (lv_at hl 0 rfl) ?_
      refine fg_X5_40 X hS ho dX5_take_92 ?_
      refine lv_iload_n hx hb dX5_take_95 rfl (lv_at hl 2 rfl) ?_
      obtain ⟨g14, hX⟩ := gin_of hX
      refine r_aald (o := o) (k := 7) (n := 6) X hS ho rfl (by decide) rfl rfl g14 dX5_take_96 ?_
      have q15 := (hN.2 _ ho _ (gin_lt g14)).2.2.1
      refine lv_aload_n hx hb dX5_take_97 rfl (lv_at hl 1 rfl) ?_
      refine fg_X5_40 X hS ha1 dX5_take_98 ?_
      refine lv_iload_n hx hb dX5_take_101 rfl (lv_at hl 2 rfl) ?_
      obtain ⟨g16, hX⟩ := gin_of hX
      refine r_aald (o := a1) (k := 7) (n := 6) X hS ha1 rfl (by decide) rfl rfl g16 dX5_take_102 ?_
      have q17 := (hN.2 _ ha1 _ (gin_lt g16)).2.2.1
      obtain ⟨M19, h18, hX⟩ := bn_of hX
      refine r_callV0 (As := [.ref (ad (a1 + 5 + ix v_2) 0)]) (rest := []) X hS (m_X6_take hN q15 q17 h18) mv_X6_take rfl q15 t3_158 ⟨rfl, rfl, Nat.le_of_ble_eq_true rfl, Nat.le_of_ble_eq_true rfl⟩ rfl hl.1 rfl (Nat.le_of_ble_eq_true rfl) ⟨Nat.zero_le _, Nat.zero_le _⟩ dX5_take_103 (fun H locs hS => ?_)
      refine lv_aload_n hx hb dX5_take_106 rfl (lv_at hl 0 rfl) ?_
      refine fg_X5_47 X hS ho dX5_take_107 ?_
      refine lv_iload_n hx hb dX5_take_110 rfl (lv_at hl 2 rfl) ?_
      obtain ⟨g20, hX⟩ := gin_of hX
      refine r_aald (o := o) (k := 8) (n := 7) X hS ho rfl (by decide) rfl rfl g20 dX5_take_111 ?_
      have q21 := (hN.2 _ ho _ (gin_lt g20)).2.2.2
      refine lv_aload_n hx hb dX5_take_112 rfl (lv_at hl 1 rfl) ?_
      refine fg_X5_47 X hS ha1 dX5_take_113 ?_
      refine lv_iload_n hx hb dX5_take_116 rfl (lv_at hl 2 rfl) ?_
      obtain ⟨g22, hX⟩ := gin_of hX
      refine r_aald (o := a1) (k := 8) (n := 7) X hS ha1 rfl (by decide) rfl rfl g22 dX5_take_117 ?_
      have q23 := (hN.2 _ ha1 _ (gin_lt g22)).2.2.2
      obtain ⟨M25, h24, hX⟩ := bn_of hX
      refine r_callV0 (As := [.ref (ad (a1 + 7 + ix v_2) 0)]) (rest := []) X hS (m_X4_take hN q21 q23 h24) mv_X4_take rfl q21 t3_163 ⟨rfl, rfl, Nat.le_of_ble_eq_true rfl, Nat.le_of_ble_eq_true rfl⟩ rfl hl.1 rfl (Nat.le_of_ble_eq_true rfl) ⟨Nat.zero_le _, Nat.zero_le _⟩ dX5_take_118 (fun H locs hS => ?_)
      obtain ⟨v26, ev26⟩ : ∃ y : Int32, y = (v_2 + nI 1) := ⟨_, rfl⟩
      have hX := nm_of ev26 hX
      refine lv_iinc (v := v26) (lv' := [(2, .int v26), (0, .ref (ad o 0)), (1, .ref (ad a1 0))]) hx hb dX5_take_121 hl (k := 2) rfl (by rw [ev26]; rfl) (by decide) rfl (fun ls hl => ?_)
      refine lv_goto (tgt := 56) hx hb dX5_take_124 (by decide) ?_
      exact ih _ _ _ hX _ _ _ (lv_sub hl [1, 2, 0] rfl) hS
set_option maxRecDepth 100000 in
set_option maxHeartbeats 4000000 in
theorem m_X5_take {l : Launch} {D : va_G} {cy : Nat → ClassId} {ad : Nat → Nat → Nat} {ns : List (Nat × Nat)} {A : Nat → Prop} {M : Mem} (hN : NsC ns) {o : Nat} {a1 : Nat} (ho : Ob ns 5 o) (ha1 : Ob ns 5 a1) {r : Mem} (hX : f_X5_take M o a1 = some r) : Ct l yX5_take cX5_take 3 ((none : Option Jvm.ClassFile.FieldType)) rm_X5_take D cy ad ns A [.ref (ad o 0), .ref (ad a1 0)] M r none := by
  refine ct_of (lv := [(0, .ref (ad o 0)), (1, .ref (ad a1 0))]) (by decide) (Nat.le_of_ble_eq_true rfl) rfl ?_
  intro p e s m args below meth c ls X hl hS
  obtain ⟨hx, hb, hml, hown, hts, hK, hr, hlk, hA, hG⟩ := id X
  obtain ⟨H, hH⟩ : ∃ z, z = s.heap := ⟨_, rfl⟩
  obtain ⟨locs, hlo⟩ : ∃ z : List Loc, z = [] := ⟨_, rfl⟩
  have hS : St D cy ad ns A M s.heap H locs := by rw [hH, hlo]; exact hS
  have hgoal : W p l e rm_X5_take s m args below meth c H locs 0 0 (MQ below (QC D cy ad ns A r none) args s 0 0 A) (F0 m 0 ls []) := by
    unfold f_X5_take at hX
    refine lv_aload_n hx hb dX5_take_0 rfl (lv_at hl 1 rfl) ?_
    refine fg_X5_9 X hS ha1 dX5_take_1 ?_
    refine lv_iconst (v := nI 0) hx hb dX5_take_4 (by decide) ?_
    refine lv_aload_n hx hb dX5_take_5 rfl (lv_at hl 0 rfl) ?_
    refine fg_X5_9 X hS ho dX5_take_6 ?_
    refine lv_iconst (v := nI 0) hx hb dX5_take_9 (by decide) ?_
    refine lv_sipush (v := nI 600) hx hb dX5_take_10 (by decide) ?_
    refine r_copyB (c0 := 5) (c1 := 5) (o := a1) (k := 0) (o' := o) (k' := 0) (n := 600) X hS ha1 ho rfl rfl (by decide) (by decide) (by decide) (by decide) hl.1 t5_121 t3_152 t3_151 t1_18 (Nat.le_of_ble_eq_true rfl) (Nat.le_of_ble_eq_true rfl) dX5_take_13 (fun H locs hS => ?_)
    obtain ⟨M27, eM27, hS, hX⟩ := nm_mem hS hX
    refine lv_aload_n hx hb dX5_take_16 rfl (lv_at hl 0 rfl) ?_
    refine lv_aload_n hx hb dX5_take_17 rfl (lv_at hl 1 rfl) ?_
    refine fg_X5_51 X hS ha1 dX5_take_18 ?_
    refine fp_X5_51 X hS ho dX5_take_21 (fun H locs hS => ?_)
    obtain ⟨M28, eM28, hS, hX⟩ := nm_mem hS hX
    refine lv_aload_n hx hb dX5_take_24 rfl (lv_at hl 0 rfl) ?_
    refine lv_aload_n hx hb dX5_take_25 rfl (lv_at hl 1 rfl) ?_
    refine fg_X5_54 X hS ha1 dX5_take_26 ?_
    refine fp_X5_54 X hS ho dX5_take_29 (fun H locs hS => ?_)
    obtain ⟨M29, eM29, hS, hX⟩ := nm_mem hS hX
    refine lv_aload_n hx hb dX5_take_32 rfl (lv_at hl 0 rfl) ?_
    refine lv_aload_n hx hb dX5_take_33 rfl (lv_at hl 1 rfl) ?_
    refine fg_X5_15 X hS ha1 dX5_take_34 ?_
    refine fp_X5_15 X hS ho dX5_take_37 (fun H locs hS => ?_)
    obtain ⟨M30, eM30, hS, hX⟩ := nm_mem hS hX
    refine lv_aload_n hx hb dX5_take_40 rfl (lv_at hl 1 rfl) ?_
    refine fg_X5_19 X hS ha1 dX5_take_41 ?_
    refine lv_iconst (v := nI 0) hx hb dX5_take_44 (by decide) ?_
    refine lv_aload_n hx hb dX5_take_45 rfl (lv_at hl 0 rfl) ?_
    refine fg_X5_19 X hS ho dX5_take_46 ?_
    refine lv_iconst (v := nI 0) hx hb dX5_take_49 (by decide) ?_
    refine lv_iconst (v := nI 4) hx hb dX5_take_50 (by decide) ?_
    refine r_copy (c0 := 5) (c1 := 5) (o := a1) (k := 4) (o' := o) (k' := 4) (n := 4) X hS ha1 ho rfl rfl (by decide) (by decide) (by decide) (by decide) hl.1 t5_121 t3_152 t3_151 t1_18 (Nat.le_of_ble_eq_true rfl) (Nat.le_of_ble_eq_true rfl) dX5_take_51 (fun H locs hS => ?_)
    obtain ⟨M31, eM31, hS, hX⟩ := nm_mem hS hX
    refine lv_iconst (v := nI 0) hx hb dX5_take_54 (by decide) ?_
    refine lv_istore_n (lv' := [(2, .int (nI 0)), (0, .ref (ad o 0)), (1, .ref (ad a1 0))]) hx hb dX5_take_55 rfl hl (by decide) rfl (fun ls hl => ?_)
    exact n_X5_take_56 X hN ho ha1 _ _ _ _ hX _ _ _ (lv_sub hl [1, 2, 0] rfl) hS
  rw [hH, hlo] at hgoal
  exact hgoal
theorem mv_X5_take : Mv yX5_take RX5 cX5_take 3 ((none : Option Jvm.ClassFile.FieldType)) 1 := ⟨t5_120, t5_118, t5_119, t1_2, ⟨by decide, by decide⟩, by decide +kernel⟩
end MT_18_X5
