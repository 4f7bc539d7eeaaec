section FR_19_X7
variable {p : Program} {l : Launch} {e : Env} {R : Room} {s : State} {m : MethodId} {args : Array Value} {below : List Frame} {meth : Method} {c : Code} {H : Heap} {locs : List Loc} {cells slots : Nat} {Q : State → Prop} {D : va_G} {cy : Nat → ClassId} {ad : Nat → Nat → Nat} {ns : List (Nat × Nat)} {A : Nat → Prop} {M M' : Mem} {cc : ByteArray} {nL : Nat} {ret : Option FieldType} {pc : Nat} {ls : Array Slot} {rest : List Value}
theorem fg_X7_12 (X : Cx p s m args meth c D cy ad A RX7 cc nL ret) (hS : St D cy ad ns A M s.heap H locs) (ho : Ob ns 7 19) (hdg : decode cc pc = .ok (.getfield 12, 3)) (kk : W p l e R s m args below meth c H locs cells slots Q (F0 m (pc + 3) ls (.ref (ad (gR M 19 0) 0) :: rest))) : W p l e R s m args below meth c H locs cells slots Q (F0 m pc ls (.ref (ad 19 0) :: rest)) := r_get X hS (C := RX7) (T := TX7) (N := 10) (k := 0) tf7 rfl rfl ho (by decide) t2_134 ⟨rfl, rfl, rfl⟩ rfl hdg kk
theorem fp_X7_12 (X : Cx p s m args meth c D cy ad A RX7 cc nL ret) (hS : St D cy ad ns A M s.heap H locs) (ho : Ob ns 7 19) (hN : NsC ns) {u : Nat} (hu : Ob ns 6 u) (hdg : decode cc pc = .ok (.putfield 12, 3)) (kk : ∀ (H1 : Heap) (locs1 : List Loc), St D cy ad ns A (sR M 19 0 u) s.heap H1 locs1 → W p l e R s m args below meth c H1 locs1 cells slots Q (F0 m (pc + 3) ls rest)) : W p l e R s m args below meth c H locs cells slots Q (F0 m pc ls (.ref (ad u 0) :: .ref (ad 19 0) :: rest)) := r_put X hS (C := RX7) (T := TX7) (N := 10) (k := 0) tf7 rfl rfl tyX7 tyX7_ok nmX7 ho (by decide) t2_134 ⟨rfl, rfl, rfl⟩ rfl (ty := (.object "SewnYear$Town")) (by decide +kernel) rfl rfl (wr_sR19 hN hS.1.2.2 hu) (cel_sR (by decide) rfl) (fun q hq => cel_sR' hq) hdg kk
theorem fg_X7_18 (X : Cx p s m args meth c D cy ad A RX7 cc nL ret) (hS : St D cy ad ns A M s.heap H locs) (ho : Ob ns 7 19) (hdg : decode cc pc = .ok (.getfield 18, 3)) (kk : W p l e R s m args below meth c H locs cells slots Q (F0 m (pc + 3) ls (.ref (ad 19 (6 + 1)) :: rest))) : W p l e R s m args below meth c H locs cells slots Q (F0 m pc ls (.ref (ad 19 0) :: rest)) := r_get X hS (C := RX7) (T := TX7) (N := 10) (k := 6) tf7 rfl rfl ho (by decide) t2_140 ⟨rfl, rfl, rfl⟩ rfl hdg kk
theorem fg_X7_22 (X : Cx p s m args meth c D cy ad A RX7 cc nL ret) (hS : St D cy ad ns A M s.heap H locs) (ho : Ob ns 7 19) (hdg : decode cc pc = .ok (.getfield 22, 3)) (kk : W p l e R s m args below meth c H locs cells slots Q (F0 m (pc + 3) ls (.ref (ad 19 (7 + 1)) :: rest))) : W p l e R s m args below meth c H locs cells slots Q (F0 m pc ls (.ref (ad 19 0) :: rest)) := r_get X hS (C := RX7) (T := TX7) (N := 10) (k := 7) tf7 rfl rfl ho (by decide) t2_141 ⟨rfl, rfl, rfl⟩ rfl hdg kk
theorem fg_X7_25 (X : Cx p s m args meth c D cy ad A RX7 cc nL ret) (hS : St D cy ad ns A M s.heap H locs) (ho : Ob ns 7 19) (hdg : decode cc pc = .ok (.getfield 25, 3)) (kk : W p l e R s m args below meth c H locs cells slots Q (F0 m (pc + 3) ls (.ref (ad 19 (8 + 1)) :: rest))) : W p l e R s m args below meth c H locs cells slots Q (F0 m pc ls (.ref (ad 19 0) :: rest)) := r_get X hS (C := RX7) (T := TX7) (N := 10) (k := 8) tf7 rfl rfl ho (by decide) t2_143 ⟨rfl, rfl, rfl⟩ rfl hdg kk
theorem fg_X7_28 (X : Cx p s m args meth c D cy ad A RX7 cc nL ret) (hS : St D cy ad ns A M s.heap H locs) (ho : Ob ns 7 19) (hdg : decode cc pc = .ok (.getfield 28, 3)) (kk : W p l e R s m args below meth c H locs cells slots Q (F0 m (pc + 3) ls (.ref (ad 19 (9 + 1)) :: rest))) : W p l e R s m args below meth c H locs cells slots Q (F0 m pc ls (.ref (ad 19 0) :: rest)) := r_get X hS (C := RX7) (T := TX7) (N := 10) (k := 9) tf7 rfl rfl ho (by decide) t2_144 ⟨rfl, rfl, rfl⟩ rfl hdg kk
theorem fg_X7_31 (X : Cx p s m args meth c D cy ad A RX7 cc nL ret) (hS : St D cy ad ns A M s.heap H locs) (ho : Ob ns 7 19) (hdg : decode cc pc = .ok (.getfield 31, 3)) (kk : W p l e R s m args below meth c H locs cells slots Q (F0 m (pc + 3) ls (.int (gI M 19 1) :: rest))) : W p l e R s m args below meth c H locs cells slots Q (F0 m pc ls (.ref (ad 19 0) :: rest)) := r_get X hS (C := RX7) (T := TX7) (N := 10) (k := 1) tf7 rfl rfl ho (by decide) t2_135 ⟨rfl, rfl, rfl⟩ rfl hdg kk
theorem fp_X7_31 (X : Cx p s m args meth c D cy ad A RX7 cc nL ret) (hS : St D cy ad ns A M s.heap H locs) (ho : Ob ns 7 19) {v : Int32} (hdg : decode cc pc = .ok (.putfield 31, 3)) (kk : ∀ (H1 : Heap) (locs1 : List Loc), St D cy ad ns A (sI M 19 1 v) s.heap H1 locs1 → W p l e R s m args below meth c H1 locs1 cells slots Q (F0 m (pc + 3) ls rest)) : W p l e R s m args below meth c H locs cells slots Q (F0 m pc ls (.int v :: .ref (ad 19 0) :: rest)) := r_put X hS (C := RX7) (T := TX7) (N := 10) (k := 1) tf7 rfl rfl tyX7 tyX7_ok nmX7 ho (by decide) t2_135 ⟨rfl, rfl, rfl⟩ rfl (ty := .int) (by decide +kernel) rfl rfl (wr_sI hS.1.2.2) (cel_sI (by decide) rfl) (fun q hq => cel_sI' hq) hdg kk
theorem fg_X7_35 (X : Cx p s m args meth c D cy ad A RX7 cc nL ret) (hS : St D cy ad ns A M s.heap H locs) (ho : Ob ns 7 19) (hdg : decode cc pc = .ok (.getfield 35, 3)) (kk : W p l e R s m args below meth c H locs cells slots Q (F0 m (pc + 3) ls (.int (gI M 19 2) :: rest))) : W p l e R s m args below meth c H locs cells slots Q (F0 m pc ls (.ref (ad 19 0) :: rest)) := r_get X hS (C := RX7) (T := TX7) (N := 10) (k := 2) tf7 rfl rfl ho (by decide) t2_136 ⟨rfl, rfl, rfl⟩ rfl hdg kk
theorem fp_X7_35 (X : Cx p s m args meth c D cy ad A RX7 cc nL ret) (hS : St D cy ad ns A M s.heap H locs) (ho : Ob ns 7 19) {v : Int32} (hdg : decode cc pc = .ok (.putfield 35, 3)) (kk : ∀ (H1 : Heap) (locs1 : List Loc), St D cy ad ns A (sI M 19 2 v) s.heap H1 locs1 → W p l e R s m args below meth c H1 locs1 cells slots Q (F0 m (pc + 3) ls rest)) : W p l e R s m args below meth c H locs cells slots Q (F0 m pc ls (.int v :: .ref (ad 19 0) :: rest)) := r_put X hS (C := RX7) (T := TX7) (N := 10) (k := 2) tf7 rfl rfl tyX7 tyX7_ok nmX7 ho (by decide) t2_136 ⟨rfl, rfl, rfl⟩ rfl (ty := .int) (by decide +kernel) rfl rfl (wr_sI hS.1.2.2) (cel_sI (by decide) rfl) (fun q hq => cel_sI' hq) hdg kk
theorem fg_X7_38 (X : Cx p s m args meth c D cy ad A RX7 cc nL ret) (hS : St D cy ad ns A M s.heap H locs) (ho : Ob ns 7 19) (hdg : decode cc pc = .ok (.getfield 38, 3)) (kk : W p l e R s m args below meth c H locs cells slots Q (F0 m (pc + 3) ls (.int (gI M 19 3) :: rest))) : W p l e R s m args below meth c H locs cells slots Q (F0 m pc ls (.ref (ad 19 0) :: rest)) := r_get X hS (C := RX7) (T := TX7) (N := 10) (k := 3) tf7 rfl rfl ho (by decide) t2_137 ⟨rfl, rfl, rfl⟩ rfl hdg kk
theorem fp_X7_38 (X : Cx p s m args meth c D cy ad A RX7 cc nL ret) (hS : St D cy ad ns A M s.heap H locs) (ho : Ob ns 7 19) {v : Int32} (hdg : decode cc pc = .ok (.putfield 38, 3)) (kk : ∀ (H1 : Heap) (locs1 : List Loc), St D cy ad ns A (sI M 19 3 v) s.heap H1 locs1 → W p l e R s m args below meth c H1 locs1 cells slots Q (F0 m (pc + 3) ls rest)) : W p l e R s m args below meth c H locs cells slots Q (F0 m pc ls (.int v :: .ref (ad 19 0) :: rest)) := r_put X hS (C := RX7) (T := TX7) (N := 10) (k := 3) tf7 rfl rfl tyX7 tyX7_ok nmX7 ho (by decide) t2_137 ⟨rfl, rfl, rfl⟩ rfl (ty := .int) (by decide +kernel) rfl rfl (wr_sI hS.1.2.2) (cel_sI (by decide) rfl) (fun q hq => cel_sI' hq) hdg kk
theorem fg_X7_41 (X : Cx p s m args meth c D cy ad A RX7 cc nL ret) (hS : St D cy ad ns A M s.heap H locs) (ho : Ob ns 7 19) (hdg : decode cc pc = .ok (.getfield 41, 3)) (kk : W p l e R s m args below meth c H locs cells slots Q (F0 m (pc + 3) ls (.int (gI M 19 4) :: rest))) : W p l e R s m args below meth c H locs cells slots Q (F0 m pc ls (.ref (ad 19 0) :: rest)) := r_get X hS (C := RX7) (T := TX7) (N := 10) (k := 4) tf7 rfl rfl ho (by decide) t2_138 ⟨rfl, rfl, rfl⟩ rfl hdg kk
theorem fp_X7_41 (X : Cx p s m args meth c D cy ad A RX7 cc nL ret) (hS : St D cy ad ns A M s.heap H locs) (ho : Ob ns 7 19) {v : Int32} (hdg : decode cc pc = .ok (.putfield 41, 3)) (kk : ∀ (H1 : Heap) (locs1 : List Loc), St D cy ad ns A (sI M 19 4 v) s.heap H1 locs1 → W p l e R s m args below meth c H1 locs1 cells slots Q (F0 m (pc + 3) ls rest)) : W p l e R s m args below meth c H locs cells slots Q (F0 m pc ls (.int v :: .ref (ad 19 0) :: rest)) := r_put X hS (C := RX7) (T := TX7) (N := 10) (k := 4) tf7 rfl rfl tyX7 tyX7_ok nmX7 ho (by decide) t2_138 ⟨rfl, rfl, rfl⟩ rfl (ty := .int) (by decide +kernel) rfl rfl (wr_sI hS.1.2.2) (cel_sI (by decide) rfl) (fun q hq => cel_sI' hq) hdg kk
theorem fg_X7_44 (X : Cx p s m args meth c D cy ad A RX7 cc nL ret) (hS : St D cy ad ns A M s.heap H locs) (ho : Ob ns 7 19) (hdg : decode cc pc = .ok (.getfield 44, 3)) (kk : W p l e R s m args below meth c H locs cells slots Q (F0 m (pc + 3) ls (.int (gI M 19 5) :: rest))) : W p l e R s m args below meth c H locs cells slots Q (F0 m pc ls (.ref (ad 19 0) :: rest)) := r_get X hS (C := RX7) (T := TX7) (N := 10) (k := 5) tf7 rfl rfl ho (by decide) t2_139 ⟨rfl, rfl, rfl⟩ rfl hdg kk
theorem fp_X7_44 (X : Cx p s m args meth c D cy ad A RX7 cc nL ret) (hS : St D cy ad ns A M s.heap H locs) (ho : Ob ns 7 19) {v : Int32} (hdg : decode cc pc = .ok (.putfield 44, 3)) (kk : ∀ (H1 : Heap) (locs1 : List Loc), St D cy ad ns A (sI M 19 5 v) s.heap H1 locs1 → W p l e R s m args below meth c H1 locs1 cells slots Q (F0 m (pc + 3) ls rest)) : W p l e R s m args below meth c H locs cells slots Q (F0 m pc ls (.int v :: .ref (ad 19 0) :: rest)) := r_put X hS (C := RX7) (T := TX7) (N := 10) (k := 5) tf7 rfl rfl tyX7 tyX7_ok nmX7 ho (by decide) t2_139 ⟨rfl, rfl, rfl⟩ rfl (ty := .int) (by decide +kernel) rfl rfl (wr_sI hS.1.2.2) (cel_sI (by decide) rfl) (fun q hq => cel_sI' hq) hdg kk
theorem fg_X7_47 (X : Cx p s m args meth c D cy ad A RX7 cc nL ret) (hS : St D cy ad ns A M s.heap H locs) {o : Nat} (ho : Ob ns 6 o) (hdg : decode cc pc = .ok (.getfield 47, 3)) (kk : W p l e R s m args below meth c H locs cells slots Q (F0 m (pc + 3) ls (.int (gI M o 4) :: rest))) : W p l e R s m args below meth c H locs cells slots Q (F0 m pc ls (.ref (ad o 0) :: rest)) := r_get X hS (C := RX6) (T := TX6) (N := 11) (k := 4) tf6 rfl rfl ho (by decide) t1_125 ⟨rfl, rfl, rfl⟩ (by unfold fv; rw [ho.1]; rfl) hdg kk
theorem fg_X7_58 (X : Cx p s m args meth c D cy ad A RX7 cc nL ret) (hS : St D cy ad ns A M s.heap H locs) {o : Nat} (ho : Ob ns 6 o) (hdg : decode cc pc = .ok (.getfield 58, 3)) (kk : W p l e R s m args below meth c H locs cells slots Q (F0 m (pc + 3) ls (.ref (ad o (5 + 1)) :: rest))) : W p l e R s m args below meth c H locs cells slots Q (F0 m pc ls (.ref (ad o 0) :: rest)) := r_get X hS (C := RX6) (T := TX6) (N := 11) (k := 5) tf6 rfl rfl ho (by decide) t1_129 ⟨rfl, rfl, rfl⟩ (by unfold fv; rw [ho.1]; rfl) hdg kk
theorem fg_X7_61 (X : Cx p s m args meth c D cy ad A RX7 cc nL ret) (hS : St D cy ad ns A M s.heap H locs) {o : Nat} (ho : Ob ns 6 o) (hdg : decode cc pc = .ok (.getfield 61, 3)) (kk : W p l e R s m args below meth c H locs cells slots Q (F0 m (pc + 3) ls (.ref (ad o (6 + 1)) :: rest))) : W p l e R s m args below meth c H locs cells slots Q (F0 m pc ls (.ref (ad o 0) :: rest)) := r_get X hS (C := RX6) (T := TX6) (N := 11) (k := 6) tf6 rfl rfl ho (by decide) t1_132 ⟨rfl, rfl, rfl⟩ (by unfold fv; rw [ho.1]; rfl) hdg kk
theorem fg_X7_79 (X : Cx p s m args meth c D cy ad A RX7 cc nL ret) (hS : St D cy ad ns A M s.heap H locs) {o : Nat} (ho : Ob ns 6 o) (hdg : decode cc pc = .ok (.getfield 79, 3)) (kk : W p l e R s m args below meth c H locs cells slots Q (F0 m (pc + 3) ls (.ref (ad o (8 + 1)) :: rest))) : W p l e R s m args below meth c H locs cells slots Q (F0 m pc ls (.ref (ad o 0) :: rest)) := r_get X hS (C := RX6) (T := TX6) (N := 11) (k := 8) tf6 rfl rfl ho (by decide) t1_136 ⟨rfl, rfl, rfl⟩ (by unfold fv; rw [ho.1]; rfl) hdg kk
end FR_19_X7
section MT_19_X7
variable {p : Program} {l : Launch} {e : Env} {s : State} {m : MethodId} {args : Array Value} {below : List Frame} {meth : Method} {c : Code} {D : va_G} {cy : Nat → ClassId} {ad : Nat → Nat → Nat} {ns : List (Nat × Nat)} {A : Nat → Prop}
/-! SewnYear$Walk.begin(LSewnYear$Town;II)V -/
def rm_X7_begin : Room := { frames := 2, cells := 0, slots := 0, locals := 42 }
def b_X7_begin_33 (a1 : Nat) (a2 : Int32) (a3 : Int32) (rc : Int32 → Mem → Option (Mem)) (v_4 : Int32) (M : Mem) : Option (Mem) :=
  if (gI M a1 4) ≤ v_4 then (some M) else (bn (f_X6_daysOfSewing M a1 v_4) fun r3 => nm (sI M 19 5 ((gI M 19 5) + r3)) fun M4 => nm (v_4 + nI 1) fun v5 => rc v5 M4)
def f_X7_begin_33 (a1 : Nat) (a2 : Int32) (a3 : Int32) : Nat → (Int32 × Mem) → Option (Mem) := lp (fun rc q => b_X7_begin_33 a1 a2 a3 (fun x0 x1 => rc (x0, x1)) q.1 q.2)
def f_X7_begin (M : Mem) (a1 : Nat) (a2 : Int32) (a3 : Int32) : Option (Mem) :=
  nm (sR M 19 0 a1) fun M6 => nm (sI M6 19 1 a2) fun M7 => nm (sI M7 19 2 a3) fun M8 => nm (sI M8 19 3 (nI 0)) fun M9 => nm (sI M9 19 4 (nI 0)) fun M10 => nm (sI M10 19 5 (nI 0)) fun M11 => f_X7_begin_33 a1 a2 a3 FU ((nI 0), M11)
set_option maxRecDepth 100000 in
set_option maxHeartbeats 4000000 in
theorem n_X7_begin_33 {a1 : Nat} {a2 : Int32} {a3 : Int32} (X : Cx p s m args meth c D cy ad A RX7 cX7_begin 5 ((none : Option Jvm.ClassFile.FieldType))) (hN : NsC ns) (ha1 : Ob ns 6 a1) : ∀ (n : Nat) (v_4 : Int32) (M : Mem) (r : Mem), f_X7_begin_33 a1 a2 a3 n (v_4, M) = some r → ∀ (ls : Array Slot) (H : Heap) (locs : List Loc), lv_has ls 5 [(0, .ref (ad 19 0)), (1, .ref (ad a1 0)), (4, .int v_4)] → St D cy ad ns A M s.heap H locs → W p l e rm_X7_begin s m args below meth c H locs 0 0 (MQ below (QC D cy ad ns A r none) args s 0 0 A) (F0 m 33 ls []) := by
  obtain ⟨hx, hb, hml, hown, hts, hK, hr, hlk, hA, hG⟩ := id X
  intro n
  induction n with
  | zero => intro v_4 M r hX; cases (show (none : Option (Mem)) = some r from hX)
  | succ n ih =>
    intro v_4 M r hX ls H locs hl hS
    have hX : b_X7_begin_33 a1 a2 a3 (fun x0 x1 => f_X7_begin_33 a1 a2 a3 n (x0, x1)) v_4 M = some r := hX
    unfold b_X7_begin_33 at hX
    refine lv_iload hx hb dX7_begin_33 (lv_at hl 2 rfl) ?_
    refine lv_aload_n hx hb dX7_begin_35 rfl (lv_at hl 1 rfl) ?_
    refine fg_X7_47 X hS ha1 dX7_begin_36 ?_
    refine lv_icmp_ge (tgt := 63) hx hb dX7_begin_39 (by decide) (fun c1 => ?_) (fun c1 => ?_)
    · have hX := if_t c1 hX
      obtain rfl := some_of hX
      exact x_V X hS dX7_begin_63
    · have hX := if_f c1 hX
      refine lv_aload_n hx hb dX7_begin_42 rfl (lv_at hl 0 rfl) ?_
      refine lv_dup hx hb dX7_begin_43 rfl ?_
      refine fg_X7_44 X hS (o_of hN (o := 19) (c := 7) (by decide) rfl) dX7_begin_44 ?_
      refine lv_aload_n hx hb dX7_begin_47 rfl (lv_at hl 1 rfl) ?_
      refine lv_iload hx hb dX7_begin_48 (lv_at hl 2 rfl) ?_
      obtain ⟨r3, h2, hX⟩ := bn_of hX
      refine r_callV1 (v := .int r3) (As := [.int v_4]) (rest := [.int (gI M 19 5), .ref (ad 19 0)]) X hS (m_X6_daysOfSewing hN ha1 h2) mv_X6_daysOfSewing rfl ha1 t4_149 ⟨rfl, rfl, Nat.le_of_ble_eq_true rfl, Nat.le_of_ble_eq_true rfl⟩ rfl hl.1 rfl (Nat.le_of_ble_eq_true rfl) ⟨Nat.zero_le _, Nat.zero_le _⟩ dX7_begin_50 (fun H locs hS => ?_)
      refine lv_iadd hx hb dX7_begin_53 ?_
      refine fp_X7_44 X hS (o_of hN (o := 19) (c := 7) (by decide) rfl) dX7_begin_54 (fun H locs hS => ?_)
      obtain ⟨M4, eM4, hS, hX⟩ := nm_mem hS hX
      obtain ⟨v5, ev5⟩ : ∃ y : Int32, y = (v_4 + nI 1) := ⟨_, rfl⟩
      have hX := nm_of ev5 hX
      refine lv_iinc (v := v5) (lv' := [(4, .int v5), (0, .ref (ad 19 0)), (1, .ref (ad a1 0))]) hx hb dX7_begin_57 hl (k := 2) rfl (by rw [ev5]; rfl) (by decide) rfl (fun ls hl => ?_)
      refine lv_goto (tgt := 33) hx hb dX7_begin_60 (by decide) ?_
      exact ih _ _ _ hX _ _ _ (lv_sub hl [1, 2, 0] rfl) hS
set_option maxRecDepth 100000 in
set_option maxHeartbeats 4000000 in
theorem m_X7_begin {l : Launch} {D : va_G} {cy : Nat → ClassId} {ad : Nat → Nat → Nat} {ns : List (Nat × Nat)} {A : Nat → Prop} {M : Mem} (hN : NsC ns) {a1 : Nat} {a2 : Int32} {a3 : Int32} (ha1 : Ob ns 6 a1) {r : Mem} (hX : f_X7_begin M a1 a2 a3 = some r) : Ct l yX7_begin cX7_begin 5 ((none : Option Jvm.ClassFile.FieldType)) rm_X7_begin D cy ad ns A [.ref (ad 19 0), .ref (ad a1 0), .int a2, .int a3] M r none := by
  refine ct_of (lv := [(0, .ref (ad 19 0)), (1, .ref (ad a1 0)), (2, .int a2), (3, .int a3)]) (by decide) (Nat.le_of_ble_eq_true rfl) rfl ?_
  intro p e s m args below meth c ls X hl hS
  obtain ⟨hx, hb, hml, hown, hts, hK, hr, hlk, hA, hG⟩ := id X
  obtain ⟨H, hH⟩ : ∃ z, z = s.heap := ⟨_, rfl⟩
  obtain ⟨locs, hlo⟩ : ∃ z : List Loc, z = [] := ⟨_, rfl⟩
  have hS : St D cy ad ns A M s.heap H locs := by rw [hH, hlo]; exact hS
  have hgoal : W p l e rm_X7_begin s m args below meth c H locs 0 0 (MQ below (QC D cy ad ns A r none) args s 0 0 A) (F0 m 0 ls []) := by
    unfold f_X7_begin at hX
    refine lv_aload_n hx hb dX7_begin_0 rfl (lv_at hl 0 rfl) ?_
    refine lv_aload_n hx hb dX7_begin_1 rfl (lv_at hl 1 rfl) ?_
    refine fp_X7_12 X hS (o_of hN (o := 19) (c := 7) (by decide) rfl) hN ha1 dX7_begin_2 (fun H locs hS => ?_)
    obtain ⟨M6, eM6, hS, hX⟩ := nm_mem hS hX
    refine lv_aload_n hx hb dX7_begin_5 rfl (lv_at hl 0 rfl) ?_
    refine lv_iload_n hx hb dX7_begin_6 rfl (lv_at hl 2 rfl) ?_
    refine fp_X7_31 X hS (o_of hN (o := 19) (c := 7) (by decide) rfl) dX7_begin_7 (fun H locs hS => ?_)
    obtain ⟨M7, eM7, hS, hX⟩ := nm_mem hS hX
    refine lv_aload_n hx hb dX7_begin_10 rfl (lv_at hl 0 rfl) ?_
    refine lv_iload_n hx hb dX7_begin_11 rfl (lv_at hl 3 rfl) ?_
    refine fp_X7_35 X hS (o_of hN (o := 19) (c := 7) (by decide) rfl) dX7_begin_12 (fun H locs hS => ?_)
    obtain ⟨M8, eM8, hS, hX⟩ := nm_mem hS hX
    refine lv_aload_n hx hb dX7_begin_15 rfl (lv_at hl 0 rfl) ?_
    refine lv_iconst (v := nI 0) hx hb dX7_begin_16 (by decide) ?_
    refine fp_X7_38 X hS (o_of hN (o := 19) (c := 7) (by decide) rfl) dX7_begin_17 (fun H locs hS => ?_)
    obtain ⟨M9, eM9, hS, hX⟩ := nm_mem hS hX
    refine lv_aload_n hx hb dX7_begin_20 rfl (lv_at hl 0 rfl) ?_
    refine lv_iconst (v := nI 0) hx hb dX7_begin_21 (by decide) ?_
    refine fp_X7_41 X hS (o_of hN (o := 19) (c := 7) (by decide) rfl) dX7_begin_22 (fun H locs hS => ?_)
    obtain ⟨M10, eM10, hS, hX⟩ := nm_mem hS hX
    refine lv_aload_n hx hb dX7_begin_25 rfl (lv_at hl 0 rfl) ?_
    refine lv_iconst (v := nI 0) hx hb dX7_begin_26 (by decide) ?_
    refine fp_X7_44 X hS (o_of hN (o := 19) (c := 7) (by decide) rfl) dX7_begin_27 (fun H locs hS => ?_)
    obtain ⟨M11, eM11, hS, hX⟩ := nm_mem hS hX
    refine lv_iconst (v := nI 0) hx hb dX7_begin_30 (by decide) ?_
    refine lv_istore (lv' := [(4, .int (nI 0)), (0, .ref (ad 19 0)), (1, .ref (ad a1 0)), (2, .int a2), (3, .int a3)]) hx hb dX7_begin_31 hl (by decide) rfl (fun ls hl => ?_)
    exact n_X7_begin_33 X hN ha1 _ _ _ _ hX _ _ _ (lv_sub hl [1, 2, 0] rfl) hS
  rw [hH, hlo] at hgoal
  exact hgoal
theorem mv_X7_begin : Mv yX7_begin RX7 cX7_begin 5 ((none : Option Jvm.ClassFile.FieldType)) 3 := ⟨t4_148, t4_146, t4_147, t1_10, ⟨by decide, by decide⟩, by decide +kernel⟩
/-! SewnYear$Walk.lastDone()I -/
def rm_X7_lastDone : Room := { frames := 0, cells := 0, slots := 0, locals := 0 }
def f_X7_lastDone (M : Mem) : Option (Int32) :=
  if (gI M 19 3) ≤ (nI 0) then (some (-1)) else (gin ((gI M 19 3) - (nI 1)) 6 <| some (gA M 19 7 (ix ((gI M 19 3) - (nI 1)))))
set_option maxRecDepth 100000 in
set_option maxHeartbeats 4000000 in
theorem m_X7_lastDone {l : Launch} {D : va_G} {cy : Nat → ClassId} {ad : Nat → Nat → Nat} {ns : List (Nat × Nat)} {A : Nat → Prop} {M : Mem} (hN : NsC ns) {r : Int32} (hX : f_X7_lastDone M = some r) : Ct l yX7_lastDone cX7_lastDone 1 ((some .int)) rm_X7_lastDone D cy ad ns A [.ref (ad 19 0)] M M (some (.int r)) := by
  refine ct_of (lv := [(0, .ref (ad 19 0))]) (by decide) (Nat.le_of_ble_eq_true rfl) rfl ?_
  intro p e s m args below meth c ls X hl hS
  obtain ⟨hx, hb, hml, hown, hts, hK, hr, hlk, hA, hG⟩ := id X
  obtain ⟨H, hH⟩ : ∃ z, z = s.heap := ⟨_, rfl⟩
  obtain ⟨locs, hlo⟩ : ∃ z : List Loc, z = [] := ⟨_, rfl⟩
  have hS : St D cy ad ns A M s.heap H locs := by rw [hH, hlo]; exact hS
  have hgoal : W p l e rm_X7_lastDone s m args below meth c H locs 0 0 (MQ below (QC D cy ad ns A M (some (.int r))) args s 0 0 A) (F0 m 0 ls []) := by
    unfold f_X7_lastDone at hX
    refine lv_aload_n hx hb dX7_lastDone_0 rfl (lv_at hl 0 rfl) ?_
    refine fg_X7_38 X hS (o_of hN (o := 19) (c := 7) (by decide) rfl) dX7_lastDone_1 ?_
    refine lv_if_le (tgt := 21) hx hb dX7_lastDone_4 (by decide) (fun c1 => ?_) (fun c1 => ?_)
    · have hX := if_t c1 hX
      refine lv_iconst (v := (-1)) hx hb dX7_lastDone_21 (by decide) ?_
      obtain rfl := some_of hX
      exact x_I (v := (-1)) X hS dX7_lastDone_22
    · have hX := if_f c1 hX
      refine lv_aload_n hx hb dX7_lastDone_7 rfl (lv_at hl 0 rfl) ?_
      refine fg_X7_22 X hS (o_of hN (o := 19) (c := 7) (by decide) rfl) dX7_lastDone_8 ?_
      refine lv_aload_n hx hb dX7_lastDone_11 rfl (lv_at hl 0 rfl) ?_
      refine fg_X7_38 X hS (o_of hN (o := 19) (c := 7) (by decide) rfl) dX7_lastDone_12 ?_
      refine lv_iconst (v := nI 1) hx hb dX7_lastDone_15 (by decide) ?_
      refine lv_isub hx hb dX7_lastDone_16 ?_
      obtain ⟨g2, hX⟩ := gin_of hX
      refine r_iald (ci := 7) (o := 19) (k := 7) (n := 6) X hS (o_of hN (o := 19) (c := 7) (by decide) rfl) rfl rfl g2 dX7_lastDone_17 ?_
      refine lv_goto (tgt := 22) hx hb dX7_lastDone_18 (by decide) ?_
      obtain rfl := some_of hX
      exact x_I (v := (gA M 19 7 (ix ((gI M 19 3) - (nI 1))))) X hS dX7_lastDone_22
  rw [hH, hlo] at hgoal
  exact hgoal
theorem mv_X7_lastDone : Mv yX7_lastDone RX7 cX7_lastDone 1 ((some .int)) 0 := ⟨t4_162, t4_160, t4_161, t1_10, ⟨by decide, by decide⟩, by decide +kernel⟩
/-! SewnYear$Walk.lateSum()I -/
def rm_X7_lateSum : Room := { frames := 0, cells := 0, slots := 0, locals := 0 }
def f_X7_lateSum (M : Mem) : Option (Int32) :=
  if (gI M 19 3) ≤ (nI 0) then (some (nI 0)) else (gin ((gI M 19 3) - (nI 1)) 6 <| some (gA M 19 8 (ix ((gI M 19 3) - (nI 1)))))
set_option maxRecDepth 100000 in
set_option maxHeartbeats 4000000 in
theorem m_X7_lateSum {l : Launch} {D : va_G} {cy : Nat → ClassId} {ad : Nat → Nat → Nat} {ns : List (Nat × Nat)} {A : Nat → Prop} {M : Mem} (hN : NsC ns) {r : Int32} (hX : f_X7_lateSum M = some r) : Ct l yX7_lateSum cX7_lateSum 1 ((some .int)) rm_X7_lateSum D cy ad ns A [.ref (ad 19 0)] M M (some (.int r)) := by
  refine ct_of (lv := [(0, .ref (ad 19 0))]) (by decide) (Nat.le_of_ble_eq_true rfl) rfl ?_
  intro p e s m args below meth c ls X hl hS
  obtain ⟨hx, hb, hml, hown, hts, hK, hr, hlk, hA, hG⟩ := id X
  obtain ⟨H, hH⟩ : ∃ z, z = s.heap := ⟨_, rfl⟩
  obtain ⟨locs, hlo⟩ : ∃ z : List Loc, z = [] := ⟨_, rfl⟩
  have hS : St D cy ad ns A M s.heap H locs := by rw [hH, hlo]; exact hS
  have hgoal : W p l e rm_X7_lateSum s m args below meth c H locs 0 0 (MQ below (QC D cy ad ns A M (some (.int r))) args s 0 0 A) (F0 m 0 ls []) := by
    unfold f_X7_lateSum at hX
    refine lv_aload_n hx hb dX7_lateSum_0 rfl (lv_at hl 0 rfl) ?_
    refine fg_X7_38 X hS (o_of hN (o := 19) (c := 7) (by decide) rfl) dX7_lateSum_1 ?_
    refine lv_if_le (tgt := 21) hx hb dX7_lateSum_4 (by decide) (fun c1 => ?_) (fun c1 => ?_)
    · have hX := if_t c1 hX
      refine lv_iconst (v := nI 0) hx hb dX7_lateSum_21 (by decide) ?_
      obtain rfl := some_of hX
      exact x_I (v := (nI 0)) X hS dX7_lateSum_22
    · have hX := if_f c1 hX
      refine lv_aload_n hx hb dX7_lateSum_7 rfl (lv_at hl 0 rfl) ?_
      refine fg_X7_25 X hS (o_of hN (o := 19) (c := 7) (by decide) rfl) dX7_lateSum_8 ?_
      refine lv_aload_n hx hb dX7_lateSum_11 rfl (lv_at hl 0 rfl) ?_
      refine fg_X7_38 X hS (o_of hN (o := 19) (c := 7) (by decide) rfl) dX7_lateSum_12 ?_
      refine lv_iconst (v := nI 1) hx hb dX7_lateSum_15 (by decide) ?_
      refine lv_isub hx hb dX7_lateSum_16 ?_
      obtain ⟨g2, hX⟩ := gin_of hX
      refine r_iald (ci := 7) (o := 19) (k := 8) (n := 6) X hS (o_of hN (o := 19) (c := 7) (by decide) rfl) rfl rfl g2 dX7_lateSum_17 ?_
      refine lv_goto (tgt := 22) hx hb dX7_lateSum_18 (by decide) ?_
      obtain rfl := some_of hX
      exact x_I (v := (gA M 19 8 (ix ((gI M 19 3) - (nI 1))))) X hS dX7_lateSum_22
  rw [hH, hlo] at hgoal
  exact hgoal
theorem mv_X7_lateSum : Mv yX7_lateSum RX7 cX7_lateSum 1 ((some .int)) 0 := ⟨t4_178, t4_176, t4_177, t1_10, ⟨by decide, by decide⟩, by decide +kernel⟩
/-! SewnYear$Walk.go(I)Z -/
def rm_X7_go : Room := { frames := 3, cells := 0, slots := 0, locals := 65 }
def f_X7_go_112 (a1 : Int32) (v_3 : Int32) (s_0 : Int32) (M : Mem) : Option (Bool × Mem) :=
  bn (f_X7_lastDone M) fun r3 => bn (f_X6_daysTo M (gR M 19 0) v_3 s_0 a1) fun r6 => bn (f_X6_lastDay M (gR M 19 0) a1 ((r3 + (nI 1)) + r6)) fun r8 => bn (f_X7_lateSum M) fun r10 => gin a1 6 <| nm (mxI (nI 0) (r8 - (gA M (gR M 19 0) 8 (ix a1)))) fun v13 => gin (gI M 19 3) 6 <| nm (sA M 19 8 (ix (gI M 19 3)) (r10 + v13)) fun M15 => gin (gI M15 19 3) 6 <| nm (sA M15 19 6 (ix (gI M15 19 3)) a1) fun M17 => gin (gI M17 19 3) 6 <| nm (sA M17 19 7 (ix (gI M17 19 3)) r8) fun M19 => nm (sI M19 19 4 ((gI M19 19 4) ||| ((nI 1) <<< (a1 &&& 31)))) fun M20 => bn (f_X6_daysOfSewing M20 (gR M20 19 0) a1) fun r23 => nm (sI M20 19 5 ((gI M20 19 5) - r23)) fun M24 => nm (sI M24 19 3 ((gI M24 19 3) + (nI 1))) fun M25 => some (true, M25)
def f_X7_go_84 (a1 : Int32) (v_2 : Int32) (s_0 : Int32) (M : Mem) : Option (Bool × Mem) :=
  bn (f_X6_hasWearer M (gR M 19 0) v_2) fun r28 => if r28 = true then (gin v_2 6 <| f_X7_go_112 a1 s_0 (gA M (gR M 19 0) 6 (ix v_2)) M) else (f_X7_go_112 a1 s_0 (gI M 19 2) M)
def f_X7_go_56 (a1 : Int32) (s_0 : Int32) (M : Mem) : Option (Bool × Mem) :=
  bn (f_X6_hasWearer M (gR M 19 0) s_0) fun r34 => if r34 = true then (gin s_0 6 <| f_X7_go_84 a1 s_0 (gA M (gR M 19 0) 5 (ix s_0)) M) else (f_X7_go_84 a1 s_0 (gI M 19 1) M)
def f_X7_go (M : Mem) (a1 : Int32) : Option (Bool × Mem) :=
  bn (f_X6_hasWearer M (gR M 19 0) a1) fun r40 => if r40 = true then (if (((gI M 19 4) >>> (a1 &&& 31)) &&& (nI 1)) = (nI 1) then (some (false, M)) else (if (gI M 19 3) < (nI 6) then (if (gI M 19 3) ≤ (nI 0) then (f_X7_go_56 a1 (-1) M) else (gin ((gI M 19 3) - (nI 1)) 6 <| f_X7_go_56 a1 (gA M 19 6 (ix ((gI M 19 3) - (nI 1)))) M)) else (some (false, M)))) else (some (false, M))
set_option maxRecDepth 100000 in
set_option maxHeartbeats 4000000 in
theorem n_X7_go_112 {a1 : Int32} (X : Cx p s m args meth c D cy ad A RX7 cX7_go 6 ((some .boolean))) (hN : NsC ns) {v_3 : Int32} {s_0 : Int32} {M : Mem} {r : Bool × Mem} (hX : f_X7_go_112 a1 v_3 s_0 M = some r) : ∀ (ls : Array Slot) (H : Heap) (locs : List Loc), lv_has ls 6 [(0, .ref (ad 19 0)), (1, .int a1), (3, .int v_3)] → St D cy ad ns A M s.heap H locs → W p l e rm_X7_go s m args below meth c H locs 0 0 (MQ below (QC D cy ad ns A r.2 (some (.int (b2i r.1)))) args s 0 0 A) (F0 m 112 ls [.int s_0]) := by
  obtain ⟨hx, hb, hml, hown, hts, hK, hr, hlk, hA, hG⟩ := id X
  intro ls H locs hl hS
  unfold f_X7_go_112 at hX
  refine lv_istore (lv' := [(4, .int s_0), (0, .ref (ad 19 0)), (1, .int a1), (3, .int v_3)]) hx hb dX7_go_112 hl (by decide) rfl (fun ls hl => ?_)
  refine lv_aload_n hx hb dX7_go_114 rfl (lv_at hl 1 rfl) ?_
  refine fg_X7_12 X hS (o_of hN (o := 19) (c := 7) (by decide) rfl) dX7_go_115 ?_
  have q1 := wr_19 hN hS
  refine lv_iload_n hx hb dX7_go_118 rfl (lv_at hl 2 rfl) ?_
  refine lv_aload_n hx hb dX7_go_119 rfl (lv_at hl 1 rfl) ?_
  obtain ⟨r3, h2, hX⟩ := bn_of hX
  refine r_callV1 (v := .int r3) (As := []) (rest := [.int a1, .ref (ad (gR M 19 0) 0)]) X hS (m_X7_lastDone hN h2) mv_X7_lastDone rfl (o_of hN (o := 19) (c := 7) (by decide) rfl) t4_159 ⟨rfl, rfl, Nat.le_of_ble_eq_true rfl, Nat.le_of_ble_eq_true rfl⟩ rfl hl.1 rfl (Nat.le_of_ble_eq_true rfl) ⟨Nat.zero_le _, Nat.zero_le _⟩ dX7_go_120 (fun H locs hS => ?_)
  refine lv_iconst (v := nI 1) hx hb dX7_go_123 (by decide) ?_
  refine lv_iadd hx hb dX7_go_124 ?_
  refine lv_aload_n hx hb dX7_go_125 rfl (lv_at hl 1 rfl) ?_
  refine fg_X7_12 X hS (o_of hN (o := 19) (c := 7) (by decide) rfl) dX7_go_126 ?_
  have q4 := wr_19 hN hS
  refine lv_iload_n hx hb dX7_go_129 rfl (lv_at hl 3 rfl) ?_
  refine lv_iload hx hb dX7_go_130 (lv_at hl 0 rfl) ?_
  refine lv_iload_n hx hb dX7_go_132 rfl (lv_at hl 2 rfl) ?_
  obtain ⟨r6, h5, hX⟩ := bn_of hX
  refine r_callV1 (v := .int r6) (As := [.int v_3, .int s_0, .int a1]) (rest := [.int (r3 + (nI 1)), .int a1, .ref (ad (gR M 19 0) 0)]) X hS (m_X6_daysTo hN q4 h5) mv_X6_daysTo rfl q4 t4_163 ⟨rfl, rfl, Nat.le_of_ble_eq_true rfl, Nat.le_of_ble_eq_true rfl⟩ rfl hl.1 rfl (Nat.le_of_ble_eq_true rfl) ⟨Nat.zero_le _, Nat.zero_le _⟩ dX7_go_133 (fun H locs hS => ?_)
  refine lv_iadd hx hb dX7_go_136 ?_
  obtain ⟨r8, h7, hX⟩ := bn_of hX
  refine r_callV1 (v := .int r8) (As := [.int a1, .int ((r3 + (nI 1)) + r6)]) (rest := []) X hS (m_X6_lastDay hN q1 h7) mv_X6_lastDay rfl q1 t4_170 ⟨rfl, rfl, Nat.le_of_ble_eq_true rfl, Nat.le_of_ble_eq_true rfl⟩ rfl hl.1 rfl (Nat.le_of_ble_eq_true rfl) ⟨Nat.zero_le _, Nat.zero_le _⟩ dX7_go_137 (fun H locs hS => ?_)
  refine lv_istore (lv' := [(5, .int r8), (4, .int s_0), (0, .ref (ad 19 0)), (1, .int a1), (3, .int v_3)]) hx hb dX7_go_140 hl (by decide) rfl (fun ls hl => ?_)
  refine lv_aload_n hx hb dX7_go_142 rfl (lv_at hl 2 rfl) ?_
  refine fg_X7_25 X hS (o_of hN (o := 19) (c := 7) (by decide) rfl) dX7_go_143 ?_
  refine lv_aload_n hx hb dX7_go_146 rfl (lv_at hl 2 rfl) ?_
  refine fg_X7_38 X hS (o_of hN (o := 19) (c := 7) (by decide) rfl) dX7_go_147 ?_
  refine lv_aload_n hx hb dX7_go_150 rfl (lv_at hl 2 rfl) ?_
  obtain ⟨r10, h9, hX⟩ := bn_of hX
  refine r_callV1 (v := .int r10) (As := []) (rest := [.int (gI M 19 3), .ref (ad 19 (8 + 1))]) X hS (m_X7_lateSum hN h9) mv_X7_lateSum rfl (o_of hN (o := 19) (c := 7) (by decide) rfl) t4_175 ⟨rfl, rfl, Nat.le_of_ble_eq_true rfl, Nat.le_of_ble_eq_true rfl⟩ rfl hl.1 rfl (Nat.le_of_ble_eq_true rfl) ⟨Nat.zero_le _, Nat.zero_le _⟩ dX7_go_151 (fun H locs hS => ?_)
  refine lv_iconst (v := nI 0) hx hb dX7_go_154 (by decide) ?_
  refine lv_iload hx hb dX7_go_155 (lv_at hl 0 rfl) ?_
  refine lv_aload_n hx hb dX7_go_157 rfl (lv_at hl 2 rfl) ?_
  refine fg_X7_12 X hS (o_of hN (o := 19) (c := 7) (by decide) rfl) dX7_go_158 ?_
  have q11 := wr_19 hN hS
  refine fg_X7_79 X hS q11 dX7_go_161 ?_
  refine lv_iload_n hx hb dX7_go_164 rfl (lv_at hl 3 rfl) ?_
  obtain ⟨g12, hX⟩ := gin_of hX
  refine r_iald (ci := 6) (o := (gR M 19 0)) (k := 8) (n := 6) X hS q11 rfl rfl g12 dX7_go_165 ?_
  refine lv_isub hx hb dX7_go_166 ?_
  refine va_mmax hx hb (hml.trans hl.1.symm) (own := RX7) hown (hts _ t4_179) (hts _ jm_max.1) (hts _ jm_max.2.1) (hts _ jm_max.2.2) (Nat.le_of_ble_eq_true rfl) (Nat.le_of_ble_eq_true rfl) (Nat.zero_le _) (Nat.zero_le _) dX7_go_167 ?_
  refine lv_topi (fun v13 ev13 => ?_)
  have hX := nm_of ev13 hX
  refine lv_iadd hx hb dX7_go_170 ?_
  obtain ⟨g14, hX⟩ := gin_of hX
  refine r_iast (ci := 7) (o := 19) (k := 8) (n := 6) X hS (o_of hN (o := 19) (c := 7) (by decide) rfl) rfl rfl g14 dX7_go_171 (fun H locs hS => ?_)
  obtain ⟨M15, eM15, hS, hX⟩ := nm_mem hS hX
  refine lv_aload_n hx hb dX7_go_172 rfl (lv_at hl 2 rfl) ?_
  refine fg_X7_18 X hS (o_of hN (o := 19) (c := 7) (by decide) rfl) dX7_go_173 ?_
  refine lv_aload_n hx hb dX7_go_176 rfl (lv_at hl 2 rfl) ?_
  refine fg_X7_38 X hS (o_of hN (o := 19) (c := 7) (by decide) rfl) dX7_go_177 ?_
  refine lv_iload_n hx hb dX7_go_180 rfl (lv_at hl 3 rfl) ?_
  obtain ⟨g16, hX⟩ := gin_of hX
  refine r_iast (ci := 7) (o := 19) (k := 6) (n := 6) X hS (o_of hN (o := 19) (c := 7) (by decide) rfl) rfl rfl g16 dX7_go_181 (fun H locs hS => ?_)
  obtain ⟨M17, eM17, hS, hX⟩ := nm_mem hS hX
  refine lv_aload_n hx hb dX7_go_182 rfl (lv_at hl 2 rfl) ?_
  refine fg_X7_22 X hS (o_of hN (o := 19) (c := 7) (by decide) rfl) dX7_go_183 ?_
  refine lv_aload_n hx hb dX7_go_186 rfl (lv_at hl 2 rfl) ?_
  refine fg_X7_38 X hS (o_of hN (o := 19) (c := 7) (by decide) rfl) dX7_go_187 ?_
  refine lv_iload hx hb dX7_go_190 (lv_at hl 0 rfl) ?_
  obtain ⟨g18, hX⟩ := gin_of hX
  refine r_iast (ci := 7) (o := 19) (k := 7) (n := 6) X hS (o_of hN (o := 19) (c := 7) (by decide) rfl) rfl rfl g18 dX7_go_192 (fun H locs hS => ?_)
  obtain ⟨M19, eM19, hS, hX⟩ := nm_mem hS hX
  refine lv_aload_n hx hb dX7_go_193 rfl (lv_at hl 2 rfl) ?_
  refine lv_dup hx hb dX7_go_194 rfl ?_
  refine fg_X7_41 X hS (o_of hN (o := 19) (c := 7) (by decide) rfl) dX7_go_195 ?_
  refine lv_iconst (v := nI 1) hx hb dX7_go_198 (by decide) ?_
  refine lv_iload_n hx hb dX7_go_199 rfl (lv_at hl 3 rfl) ?_
  refine lv_ishl hx hb dX7_go_200 ?_
  refine lv_ior hx hb dX7_go_201 ?_
  refine fp_X7_41 X hS (o_of hN (o := 19) (c := 7) (by decide) rfl) dX7_go_202 (fun H locs hS => ?_)
  obtain ⟨M20, eM20, hS, hX⟩ := nm_mem hS hX
  refine lv_aload_n hx hb dX7_go_205 rfl (lv_at hl 2 rfl) ?_
  refine lv_dup hx hb dX7_go_206 rfl ?_
  refine fg_X7_44 X hS (o_of hN (o := 19) (c := 7) (by decide) rfl) dX7_go_207 ?_
  refine lv_aload_n hx hb dX7_go_210 rfl (lv_at hl 2 rfl) ?_
  refine fg_X7_12 X hS (o_of hN (o := 19) (c := 7) (by decide) rfl) dX7_go_211 ?_
  have q21 := wr_19 hN hS
  refine lv_iload_n hx hb dX7_go_214 rfl (lv_at hl 3 rfl) ?_
  obtain ⟨r23, h22, hX⟩ := bn_of hX
  refine r_callV1 (v := .int r23) (As := [.int a1]) (rest := [.int (gI M20 19 5), .ref (ad 19 0)]) X hS (m_X6_daysOfSewing hN q21 h22) mv_X6_daysOfSewing rfl q21 t4_149 ⟨rfl, rfl, Nat.le_of_ble_eq_true rfl, Nat.le_of_ble_eq_true rfl⟩ rfl hl.1 rfl (Nat.le_of_ble_eq_true rfl) ⟨Nat.zero_le _, Nat.zero_le _⟩ dX7_go_215 (fun H locs hS => ?_)
  refine lv_isub hx hb dX7_go_218 ?_
  refine fp_X7_44 X hS (o_of hN (o := 19) (c := 7) (by decide) rfl) dX7_go_219 (fun H locs hS => ?_)
  obtain ⟨M24, eM24, hS, hX⟩ := nm_mem hS hX
  refine lv_aload_n hx hb dX7_go_222 rfl (lv_at hl 2 rfl) ?_
  refine lv_dup hx hb dX7_go_223 rfl ?_
  refine fg_X7_38 X hS (o_of hN (o := 19) (c := 7) (by decide) rfl) dX7_go_224 ?_
  refine lv_iconst (v := nI 1) hx hb dX7_go_227 (by decide) ?_
  refine lv_iadd hx hb dX7_go_228 ?_
  refine fp_X7_38 X hS (o_of hN (o := 19) (c := 7) (by decide) rfl) dX7_go_229 (fun H locs hS => ?_)
  obtain ⟨M25, eM25, hS, hX⟩ := nm_mem hS hX
  refine lv_iconst (v := nI 1) hx hb dX7_go_232 (by decide) ?_
  obtain rfl := some_of hX
  exact x_Z (v := true) X hS dX7_go_233
set_option maxRecDepth 100000 in
set_option maxHeartbeats 4000000 in
theorem n_X7_go_84 {a1 : Int32} (X : Cx p s m args meth c D cy ad A RX7 cX7_go 6 ((some .boolean))) (hN : NsC ns) {v_2 : Int32} {s_0 : Int32} {M : Mem} {r : Bool × Mem} (hX : f_X7_go_84 a1 v_2 s_0 M = some r) : ∀ (ls : Array Slot) (H : Heap) (locs : List Loc), lv_has ls 6 [(0, .ref (ad 19 0)), (1, .int a1), (2, .int v_2)] → St D cy ad ns A M s.heap H locs → W p l e rm_X7_go s m args below meth c H locs 0 0 (MQ below (QC D cy ad ns A r.2 (some (.int (b2i r.1)))) args s 0 0 A) (F0 m 84 ls [.int s_0]) := by
  obtain ⟨hx, hb, hml, hown, hts, hK, hr, hlk, hA, hG⟩ := id X
  intro ls H locs hl hS
  unfold f_X7_go_84 at hX
  refine lv_istore_n (lv' := [(3, .int s_0), (0, .ref (ad 19 0)), (1, .int a1), (2, .int v_2)]) hx hb dX7_go_84 rfl hl (by decide) rfl (fun ls hl => ?_)
  refine lv_aload_n hx hb dX7_go_85 rfl (lv_at hl 1 rfl) ?_
  refine fg_X7_12 X hS (o_of hN (o := 19) (c := 7) (by decide) rfl) dX7_go_86 ?_
  have q26 := wr_19 hN hS
  refine lv_iload_n hx hb dX7_go_89 rfl (lv_at hl 3 rfl) ?_
  obtain ⟨r28, h27, hX⟩ := bn_of hX
  refine r_callV1 (v := .int (b2i r28)) (As := [.int v_2]) (rest := []) X hS (m_X6_hasWearer hN q26 h27) mv_X6_hasWearer rfl q26 t4_158 ⟨rfl, rfl, Nat.le_of_ble_eq_true rfl, Nat.le_of_ble_eq_true rfl⟩ rfl hl.1 rfl (Nat.le_of_ble_eq_true rfl) ⟨Nat.zero_le _, Nat.zero_le _⟩ dX7_go_90 (fun H locs hS => ?_)
  refine lv_if_eq (tgt := 108) hx hb dX7_go_93 (by decide) (fun c29 => ?_) (fun c29 => ?_)
  · have hX := if_bf c29 hX
    refine lv_aload_n hx hb dX7_go_108 rfl (lv_at hl 1 rfl) ?_
    refine fg_X7_35 X hS (o_of hN (o := 19) (c := 7) (by decide) rfl) dX7_go_109 ?_
    exact n_X7_go_112 X hN hX _ _ _ (lv_sub hl [1, 2, 0] rfl) hS
  · have hX := if_bt c29 hX
    refine lv_aload_n hx hb dX7_go_96 rfl (lv_at hl 1 rfl) ?_
    refine fg_X7_12 X hS (o_of hN (o := 19) (c := 7) (by decide) rfl) dX7_go_97 ?_
    have q30 := wr_19 hN hS
    refine fg_X7_61 X hS q30 dX7_go_100 ?_
    refine lv_iload_n hx hb dX7_go_103 rfl (lv_at hl 3 rfl) ?_
    obtain ⟨g31, hX⟩ := gin_of hX
    refine r_iald (ci := 6) (o := (gR M 19 0)) (k := 6) (n := 6) X hS q30 rfl rfl g31 dX7_go_104 ?_
    refine lv_goto (tgt := 112) hx hb dX7_go_105 (by decide) ?_
    exact n_X7_go_112 X hN hX _ _ _ (lv_sub hl [1, 2, 0] rfl) hS
set_option maxRecDepth 100000 in
set_option maxHeartbeats 4000000 in
theorem n_X7_go_56 {a1 : Int32} (X : Cx p s m args meth c D cy ad A RX7 cX7_go 6 ((some .boolean))) (hN : NsC ns) {s_0 : Int32} {M : Mem} {r : Bool × Mem} (hX : f_X7_go_56 a1 s_0 M = some r) : ∀ (ls : Array Slot) (H : Heap) (locs : List Loc), lv_has ls 6 [(0, .ref (ad 19 0)), (1, .int a1)] → St D cy ad ns A M s.heap H locs → W p l e rm_X7_go s m args below meth c H locs 0 0 (MQ below (QC D cy ad ns A r.2 (some (.int (b2i r.1)))) args s 0 0 A) (F0 m 56 ls [.int s_0]) := by
  obtain ⟨hx, hb, hml, hown, hts, hK, hr, hlk, hA, hG⟩ := id X
  intro ls H locs hl hS
  unfold f_X7_go_56 at hX
  refine lv_istore_n (lv' := [(2, .int s_0), (0, .ref (ad 19 0)), (1, .int a1)]) hx hb dX7_go_56 rfl hl (by decide) rfl (fun ls hl => ?_)
  refine lv_aload_n hx hb dX7_go_57 rfl (lv_at hl 1 rfl) ?_
  refine fg_X7_12 X hS (o_of hN (o := 19) (c := 7) (by decide) rfl) dX7_go_58 ?_
  have q32 := wr_19 hN hS
  refine lv_iload_n hx hb dX7_go_61 rfl (lv_at hl 0 rfl) ?_
  obtain ⟨r34, h33, hX⟩ := bn_of hX
  refine r_callV1 (v := .int (b2i r34)) (As := [.int s_0]) (rest := []) X hS (m_X6_hasWearer hN q32 h33) mv_X6_hasWearer rfl q32 t4_158 ⟨rfl, rfl, Nat.le_of_ble_eq_true rfl, Nat.le_of_ble_eq_true rfl⟩ rfl hl.1 rfl (Nat.le_of_ble_eq_true rfl) ⟨Nat.zero_le _, Nat.zero_le _⟩ dX7_go_62 (fun H locs hS => ?_)
  refine lv_if_eq (tgt := 80) hx hb dX7_go_65 (by decide) (fun c35 => ?_) (fun c35 => ?_)
  · have hX := if_bf c35 hX
    refine lv_aload_n hx hb dX7_go_80 rfl (lv_at hl 1 rfl) ?_
    refine fg_X7_31 X hS (o_of hN (o := 19) (c := 7) (by decide) rfl) dX7_go_81 ?_
    exact n_X7_go_84 X hN hX _ _ _ (lv_sub hl [1, 2, 0] rfl) hS
  · have hX := if_bt c35 hX
    refine lv_aload_n hx hb dX7_go_68 rfl (lv_at hl 1 rfl) ?_
    refine fg_X7_12 X hS (o_of hN (o := 19) (c := 7) (by decide) rfl) dX7_go_69 ?_
    have q36 := wr_19 hN hS
    refine fg_X7_58 X hS q36 dX7_go_72 ?_
    refine lv_iload_n hx hb dX7_go_75 rfl (lv_at hl 0 rfl) ?_
    obtain ⟨g37, hX⟩ := gin_of hX
    refine r_iald (ci := 6) (o := (gR M 19 0)) (k := 5) (n := 6) X hS q36 rfl rfl g37 dX7_go_76 ?_
    refine lv_goto (tgt := 84) hx hb dX7_go_77 (by decide) ?_
    exact n_X7_go_84 X hN hX _ _ _ (lv_sub hl [1, 2, 0] rfl) hS
set_option maxRecDepth 100000 in
set_option maxHeartbeats 4000000 in
theorem m_X7_go {l : Launch} {D : va_G} {cy : Nat → ClassId} {ad : Nat → Nat → Nat} {ns : List (Nat × Nat)} {A : Nat → Prop} {M : Mem} (hN : NsC ns) {a1 : Int32} {r : Bool × Mem} (hX : f_X7_go M a1 = some r) : Ct l yX7_go cX7_go 6 ((some .boolean)) rm_X7_go D cy ad ns A [.ref (ad 19 0), .int a1] M r.2 (some (.int (b2i r.1))) := by
  refine ct_of (lv := [(0, .ref (ad 19 0)), (1, .int a1)]) (by decide) (Nat.le_of_ble_eq_true rfl) rfl ?_
  intro p e s m args below meth c ls X hl hS
  obtain ⟨hx, hb, hml, hown, hts, hK, hr, hlk, hA, hG⟩ := id X
  obtain ⟨H, hH⟩ : ∃ z, z = s.heap := ⟨_, rfl⟩
  obtain ⟨locs, hlo⟩ : ∃ z : List Loc, z = [] := ⟨_, rfl⟩
  have hS : St D cy ad ns A M s.heap H locs := by rw [hH, hlo]; exact hS
  have hgoal : W p l e rm_X7_go s m args below meth c H locs 0 0 (MQ below (QC D cy ad ns A r.2 (some (.int (b2i r.1)))) args s 0 0 A) (F0 m 0 ls []) := by
    unfold f_X7_go at hX
    refine lv_aload_n hx hb dX7_go_0 rfl (lv_at hl 0 rfl) ?_
    refine fg_X7_12 X hS (o_of hN (o := 19) (c := 7) (by decide) rfl) dX7_go_1 ?_
    have q38 := wr_19 hN hS
    refine lv_iload_n hx hb dX7_go_4 rfl (lv_at hl 1 rfl) ?_
    obtain ⟨r40, h39, hX⟩ := bn_of hX
    refine r_callV1 (v := .int (b2i r40)) (As := [.int a1]) (rest := []) X hS (m_X6_hasWearer hN q38 h39) mv_X6_hasWearer rfl q38 t4_158 ⟨rfl, rfl, Nat.le_of_ble_eq_true rfl, Nat.le_of_ble_eq_true rfl⟩ rfl hl.1 rfl (Nat.le_of_ble_eq_true rfl) ⟨Nat.zero_le _, Nat.zero_le _⟩ dX7_go_5 (fun H locs hS => ?_)
    refine lv_if_eq (tgt := 32) hx hb dX7_go_8 (by decide) (fun c41 => ?_) (fun c41 => ?_)
    · have hX := if_bf c41 hX
      refine lv_iconst (v := nI 0) hx hb dX7_go_32 (by decide) ?_
      obtain rfl := some_of hX
      exact x_Z (v := false) X hS dX7_go_33
    · have hX := if_bt c41 hX
      refine lv_aload_n hx hb dX7_go_11 rfl (lv_at hl 0 rfl) ?_
      refine fg_X7_41 X hS (o_of hN (o := 19) (c := 7) (by decide) rfl) dX7_go_12 ?_
      refine lv_iload_n hx hb dX7_go_15 rfl (lv_at hl 1 rfl) ?_
      refine lv_ishr hx hb dX7_go_16 ?_
      refine lv_iconst (v := nI 1) hx hb dX7_go_17 (by decide) ?_
      refine lv_iand hx hb dX7_go_18 ?_
      refine lv_iconst (v := nI 1) hx hb dX7_go_19 (by decide) ?_
      refine lv_icmp_eq (tgt := 32) hx hb dX7_go_20 (by decide) (fun c42 => ?_) (fun c42 => ?_)
      · have hX := if_t c42 hX
        refine lv_iconst (v := nI 0) hx hb dX7_go_32 (by decide) ?_
        obtain rfl := some_of hX
        exact x_Z (v := false) X hS dX7_go_33
      · have hX := if_f c42 hX
        refine lv_aload_n hx hb dX7_go_23 rfl (lv_at hl 0 rfl) ?_
        refine fg_X7_38 X hS (o_of hN (o := 19) (c := 7) (by decide) rfl) dX7_go_24 ?_
        refine lv_bipush (v := nI 6) hx hb dX7_go_27 (by decide) ?_
        refine lv_icmp_lt (tgt := 34) hx hb dX7_go_29 (by decide) (fun c43 => ?_) (fun c43 => ?_)
        · have hX := if_t c43 hX
          refine lv_aload_n hx hb dX7_go_34 rfl (lv_at hl 0 rfl) ?_
          refine fg_X7_38 X hS (o_of hN (o := 19) (c := 7) (by decide) rfl) dX7_go_35 ?_
          refine lv_if_le (tgt := 55) hx hb dX7_go_38 (by decide) (fun c44 => ?_) (fun c44 => ?_)
          · have hX := if_t c44 hX
            refine lv_iconst (v := (-1)) hx hb dX7_go_55 (by decide) ?_
            exact n_X7_go_56 X hN hX _ _ _ (lv_sub hl [0, 1] rfl) hS
          · have hX := if_f c44 hX
            refine lv_aload_n hx hb dX7_go_41 rfl (lv_at hl 0 rfl) ?_
            refine fg_X7_18 X hS (o_of hN (o := 19) (c := 7) (by decide) rfl) dX7_go_42 ?_
            refine lv_aload_n hx hb dX7_go_45 rfl (lv_at hl 0 rfl) ?_
            refine fg_X7_38 X hS (o_of hN (o := 19) (c := 7) (by decide) rfl) dX7_go_46 ?_
            refine lv_iconst (v := nI 1) hx hb dX7_go_49 (by decide) ?_
            refine lv_isub hx hb dX7_go_50 ?_
            obtain ⟨g45, hX⟩ := gin_of hX
            refine r_iald (ci := 7) (o := 19) (k := 6) (n := 6) X hS (o_of hN (o := 19) (c := 7) (by decide) rfl) rfl rfl g45 dX7_go_51 ?_
            refine lv_goto (tgt := 56) hx hb dX7_go_52 (by decide) ?_
            exact n_X7_go_56 X hN hX _ _ _ (lv_sub hl [0, 1] rfl) hS
        · have hX := if_f c43 hX
          refine lv_iconst (v := nI 0) hx hb dX7_go_32 (by decide) ?_
          obtain rfl := some_of hX
          exact x_Z (v := false) X hS dX7_go_33
  rw [hH, hlo] at hgoal
  exact hgoal
theorem mv_X7_go : Mv yX7_go RX7 cX7_go 6 ((some .boolean)) 1 := ⟨t4_157, t4_155, t4_156, t1_10, ⟨by decide, by decide⟩, by decide +kernel⟩
/-! SewnYear$Walk.back()I -/
def rm_X7_back : Room := { frames := 2, cells := 0, slots := 0, locals := 42 }
def f_X7_back (M : Mem) : Option (Int32 × Mem) :=
  if (nI 1) ≤ (gI M 19 3) then (nm (sI M 19 3 ((gI M 19 3) - (nI 1))) fun M2 => gin (gI M2 19 3) 6 <| nm (gA M2 19 6 (ix (gI M2 19 3))) fun v4 => nm (sI M2 19 4 ((gI M2 19 4) &&& (((nI 1) <<< (v4 &&& 31)) ^^^ (-1)))) fun M5 => bn (f_X6_daysOfSewing M5 (gR M5 19 0) v4) fun r8 => nm (sI M5 19 5 ((gI M5 19 5) + r8)) fun M9 => some (v4, M9)) else (some ((-1), M))
set_option maxRecDepth 100000 in
set_option maxHeartbeats 4000000 in
theorem m_X7_back {l : Launch} {D : va_G} {cy : Nat → ClassId} {ad : Nat → Nat → Nat} {ns : List (Nat × Nat)} {A : Nat → Prop} {M : Mem} (hN : NsC ns) {r : Int32 × Mem} (hX : f_X7_back M = some r) : Ct l yX7_back cX7_back 2 ((some .int)) rm_X7_back D cy ad ns A [.ref (ad 19 0)] M r.2 (some (.int r.1)) := by
  refine ct_of (lv := [(0, .ref (ad 19 0))]) (by decide) (Nat.le_of_ble_eq_true rfl) rfl ?_
  intro p e s m args below meth c ls X hl hS
  obtain ⟨hx, hb, hml, hown, hts, hK, hr, hlk, hA, hG⟩ := id X
  obtain ⟨H, hH⟩ : ∃ z, z = s.heap := ⟨_, rfl⟩
  obtain ⟨locs, hlo⟩ : ∃ z : List Loc, z = [] := ⟨_, rfl⟩
  have hS : St D cy ad ns A M s.heap H locs := by rw [hH, hlo]; exact hS
  have hgoal : W p l e rm_X7_back s m args below meth c H locs 0 0 (MQ below (QC D cy ad ns A r.2 (some (.int r.1))) args s 0 0 A) (F0 m 0 ls []) := by
    unfold f_X7_back at hX
    refine lv_aload_n hx hb dX7_back_0 rfl (lv_at hl 0 rfl) ?_
    refine fg_X7_38 X hS (o_of hN (o := 19) (c := 7) (by decide) rfl) dX7_back_1 ?_
    refine lv_iconst (v := nI 1) hx hb dX7_back_4 (by decide) ?_
    refine lv_icmp_ge (tgt := 10) hx hb dX7_back_5 (by decide) (fun c1 => ?_) (fun c1 => ?_)
    · have hX := if_t c1 hX
      refine lv_aload_n hx hb dX7_back_10 rfl (lv_at hl 0 rfl) ?_
      refine lv_dup hx hb dX7_back_11 rfl ?_
      refine fg_X7_38 X hS (o_of hN (o := 19) (c := 7) (by decide) rfl) dX7_back_12 ?_
      refine lv_iconst (v := nI 1) hx hb dX7_back_15 (by decide) ?_
      refine lv_isub hx hb dX7_back_16 ?_
      refine fp_X7_38 X hS (o_of hN (o := 19) (c := 7) (by decide) rfl) dX7_back_17 (fun H locs hS => ?_)
      obtain ⟨M2, eM2, hS, hX⟩ := nm_mem hS hX
      refine lv_aload_n hx hb dX7_back_20 rfl (lv_at hl 0 rfl) ?_
      refine fg_X7_18 X hS (o_of hN (o := 19) (c := 7) (by decide) rfl) dX7_back_21 ?_
      refine lv_aload_n hx hb dX7_back_24 rfl (lv_at hl 0 rfl) ?_
      refine fg_X7_38 X hS (o_of hN (o := 19) (c := 7) (by decide) rfl) dX7_back_25 ?_
      obtain ⟨g3, hX⟩ := gin_of hX
      refine r_iald (ci := 7) (o := 19) (k := 6) (n := 6) X hS (o_of hN (o := 19) (c := 7) (by decide) rfl) rfl rfl g3 dX7_back_28 ?_
      refine lv_topi (fun v4 ev4 => ?_)
      have hX := nm_of ev4 hX
      refine lv_istore_n (lv' := [(1, .int v4), (0, .ref (ad 19 0))]) hx hb dX7_back_29 rfl hl (by decide) rfl (fun ls hl => ?_)
      refine lv_aload_n hx hb dX7_back_30 rfl (lv_at hl 1 rfl) ?_
      refine lv_dup hx hb dX7_back_31 rfl ?_
      refine fg_X7_41 X hS (o_of hN (o := 19) (c := 7) (by decide) rfl) dX7_back_32 ?_
      refine lv_iconst (v := nI 1) hx hb dX7_back_35 (by decide) ?_
      refine lv_iload_n hx hb dX7_back_36 rfl (lv_at hl 0 rfl) ?_
      refine lv_ishl hx hb dX7_back_37 ?_
      refine lv_iconst (v := (-1)) hx hb dX7_back_38 (by decide) ?_
      refine lv_ixor hx hb dX7_back_39 ?_
      refine lv_iand hx hb dX7_back_40 ?_
      refine fp_X7_41 X hS (o_of hN (o := 19) (c := 7) (by decide) rfl) dX7_back_41 (fun H locs hS => ?_)
      obtain ⟨M5, eM5, hS, hX⟩ := nm_mem hS hX
      refine lv_aload_n hx hb dX7_back_44 rfl (lv_at hl 1 rfl) ?_
      refine lv_dup hx hb dX7_back_45 rfl ?_
      refine fg_X7_44 X hS (o_of hN (o := 19) (c := 7) (by decide) rfl) dX7_back_46 ?_
      refine lv_aload_n hx hb dX7_back_49 rfl (lv_at hl 1 rfl) ?_
      refine fg_X7_12 X hS (o_of hN (o := 19) (c := 7) (by decide) rfl) dX7_back_50 ?_
      have q6 := wr_19 hN hS
      refine lv_iload_n hx hb dX7_back_53 rfl (lv_at hl 0 rfl) ?_
      obtain ⟨r8, h7, hX⟩ := bn_of hX
      refine r_callV1 (v := .int r8) (As := [.int v4]) (rest := [.int (gI M5 19 5), .ref (ad 19 0)]) X hS (m_X6_daysOfSewing hN q6 h7) mv_X6_daysOfSewing rfl q6 t4_149 ⟨rfl, rfl, Nat.le_of_ble_eq_true rfl, Nat.le_of_ble_eq_true rfl⟩ rfl hl.1 rfl (Nat.le_of_ble_eq_true rfl) ⟨Nat.zero_le _, Nat.zero_le _⟩ dX7_back_54 (fun H locs hS => ?_)
      refine lv_iadd hx hb dX7_back_57 ?_
      refine fp_X7_44 X hS (o_of hN (o := 19) (c := 7) (by decide) rfl) dX7_back_58 (fun H locs hS => ?_)
      obtain ⟨M9, eM9, hS, hX⟩ := nm_mem hS hX
      refine lv_iload_n hx hb dX7_back_61 rfl (lv_at hl 0 rfl) ?_
      obtain rfl := some_of hX
      exact x_I (v := v4) X hS dX7_back_62
    · have hX := if_f c1 hX
      refine lv_iconst (v := (-1)) hx hb dX7_back_8 (by decide) ?_
      obtain rfl := some_of hX
      exact x_I (v := (-1)) X hS dX7_back_9
  rw [hH, hlo] at hgoal
  exact hgoal
theorem mv_X7_back : Mv yX7_back RX7 cX7_back 2 ((some .int)) 0 := ⟨t4_195, t4_193, t4_194, t1_10, ⟨by decide, by decide⟩, by decide +kernel⟩
/-! SewnYear$Walk.turn(Z)Z -/
def rm_X7_turn : Room := { frames := 4, cells := 0, slots := 0, locals := 90 }
def b_X7_turn_26 (a1 : Bool) (k_17 : Int32 → Int32 → Mem → Option (Bool × Mem)) (v_3 : Int32) (rc : Int32 → Mem → Option (Bool × Mem)) (v_4 : Int32) (M : Mem) : Option (Bool × Mem) :=
  if (gI M (gR M 19 0) 4) ≤ v_4 then (if (gI M 19 3) = (nI 0) then (some (false, M)) else (bp (f_X7_back M) fun r6 M5 => nm (r6 + (nI 1)) fun v7 => nm (v_3 + nI 1) fun v8 => k_17 v7 v8 M5)) else (bp (f_X7_go M v_4) fun r11 M10 => if r11 = true then (some (true, M10)) else (nm (v_4 + nI 1) fun v13 => rc v13 M10))
def f_X7_turn_26 (a1 : Bool) (k_17 : Int32 → Int32 → Mem → Option (Bool × Mem)) (v_3 : Int32) : Nat → (Int32 × Mem) → Option (Bool × Mem) := lp (fun rc q => b_X7_turn_26 a1 k_17 v_3 (fun x0 x1 => rc (x0, x1)) q.1 q.2)
def b_X7_turn_17 (a1 : Bool) (rc : Int32 → Int32 → Mem → Option (Bool × Mem)) (v_2 : Int32) (v_3 : Int32) (M : Mem) : Option (Bool × Mem) :=
  if (nI 6) < v_3 then (some (false, M)) else (f_X7_turn_26 a1 rc v_3 FU (v_2, M))
def f_X7_turn_17 (a1 : Bool) : Nat → (Int32 × Int32 × Mem) → Option (Bool × Mem) := lp (fun rc q => b_X7_turn_17 a1 (fun x0 x1 x2 => rc (x0, x1, x2)) q.1 q.2.1 q.2.2)
def f_X7_turn_14 (a1 : Bool) (s_0 : Int32) (M : Mem) : Option (Bool × Mem) :=
  f_X7_turn_17 a1 FU (s_0, (nI 0), M)
def f_X7_turn (M : Mem) (a1 : Bool) : Option (Bool × Mem) :=
  if a1 = true then (f_X7_turn_14 a1 (nI 0) M) else (bp (f_X7_back M) fun r18 M17 => f_X7_turn_14 a1 (r18 + (nI 1)) M17)
set_option maxRecDepth 100000 in
set_option maxHeartbeats 4000000 in
theorem n_X7_turn_26 {a1 : Bool} (X : Cx p s m args meth c D cy ad A RX7 cX7_turn 5 ((some .boolean))) (hN : NsC ns) {k_17 : Int32 → Int32 → Mem → Option (Bool × Mem)} {v_3 : Int32} : ∀ (n : Nat) (v_4 : Int32) (M : Mem) (r : Bool × Mem), f_X7_turn_26 a1 k_17 v_3 n (v_4, M) = some r → (∀ (v_2 : Int32) (v_3 : Int32) (M : Mem) (r : Bool × Mem), k_17 v_2 v_3 M = some r → ∀ (ls : Array Slot) (H : Heap) (locs : List Loc), lv_has ls 5 [(0, .ref (ad 19 0)), (2, .int v_2), (3, .int v_3)] → St D cy ad ns A M s.heap H locs → W p l e rm_X7_turn s m args below meth c H locs 0 0 (MQ below (QC D cy ad ns A r.2 (some (.int (b2i r.1)))) args s 0 0 A) (F0 m 17 ls [])) → ∀ (ls : Array Slot) (H : Heap) (locs : List Loc), lv_has ls 5 [(0, .ref (ad 19 0)), (3, .int v_3), (4, .int v_4)] → St D cy ad ns A M s.heap H locs → W p l e rm_X7_turn s m args below meth c H locs 0 0 (MQ below (QC D cy ad ns A r.2 (some (.int (b2i r.1)))) args s 0 0 A) (F0 m 26 ls []) := by
  obtain ⟨hx, hb, hml, hown, hts, hK, hr, hlk, hA, hG⟩ := id X
  intro n
  induction n with
  | zero => intro v_4 M r hX; cases (show (none : Option (Bool × Mem)) = some r from hX)
  | succ n ih =>
    intro v_4 M r hX hk_17 ls H locs hl hS
    have hX : b_X7_turn_26 a1 k_17 v_3 (fun x0 x1 => f_X7_turn_26 a1 k_17 v_3 n (x0, x1)) v_4 M = some r := hX
    unfold b_X7_turn_26 at hX
    refine lv_iload hx hb dX7_turn_26 (lv_at hl 2 rfl) ?_
    refine lv_aload_n hx hb dX7_turn_28 rfl (lv_at hl 0 rfl) ?_
    refine fg_X7_12 X hS (o_of hN (o := 19) (c := 7) (by decide) rfl) dX7_turn_29 ?_
    have q1 := wr_19 hN hS
    refine fg_X7_47 X hS q1 dX7_turn_32 ?_
    refine lv_icmp_ge (tgt := 55) hx hb dX7_turn_35 (by decide) (fun c2 => ?_) (fun c2 => ?_)
    · have hX := if_t c2 hX
      refine lv_aload_n hx hb dX7_turn_55 rfl (lv_at hl 0 rfl) ?_
      refine fg_X7_38 X hS (o_of hN (o := 19) (c := 7) (by decide) rfl) dX7_turn_56 ?_
      refine lv_if_ne (tgt := 64) hx hb dX7_turn_59 (by decide) (fun c3 => ?_) (fun c3 => ?_)
      · have hX := if_f c3 hX
        refine lv_aload_n hx hb dX7_turn_64 rfl (lv_at hl 0 rfl) ?_
        obtain ⟨r6, M5, h4, hX⟩ := bp_of hX
        refine r_callV1 (v := .int r6) (As := []) (rest := []) X hS (m_X7_back hN h4) mv_X7_back rfl (o_of hN (o := 19) (c := 7) (by decide) rfl) t4_192 ⟨rfl, rfl, Nat.le_of_ble_eq_true rfl, Nat.le_of_ble_eq_true rfl⟩ rfl hl.1 rfl (Nat.le_of_ble_eq_true rfl) ⟨Nat.zero_le _, Nat.zero_le _⟩ dX7_turn_65 (fun H locs hS => ?_)
        refine lv_iconst (v := nI 1) hx hb dX7_turn_68 (by decide) ?_
        refine lv_iadd hx hb dX7_turn_69 ?_
        refine lv_topi (fun v7 ev7 => ?_)
        have hX := nm_of ev7 hX
        refine lv_istore_n (lv' := [(2, .int v7), (0, .ref (ad 19 0)), (3, .int v_3), (4, .int v_4)]) hx hb dX7_turn_70 rfl hl (by decide) rfl (fun ls hl => ?_)
        obtain ⟨v8, ev8⟩ : ∃ y : Int32, y = (v_3 + nI 1) := ⟨_, rfl⟩
        have hX := nm_of ev8 hX
        refine lv_iinc (v := v8) (lv' := [(3, .int v8), (2, .int v7), (0, .ref (ad 19 0)), (4, .int v_4)]) hx hb dX7_turn_71 hl (k := 2) rfl (by rw [ev8]; rfl) (by decide) rfl (fun ls hl => ?_)
        refine lv_goto (tgt := 17) hx hb dX7_turn_74 (by decide) ?_
        exact hk_17 _ _ _ _ hX _ _ _ (lv_sub hl [2, 1, 0] rfl) hS
      · have hX := if_t c3 hX
        refine lv_iconst (v := nI 0) hx hb dX7_turn_62 (by decide) ?_
        obtain rfl := some_of hX
        exact x_Z (v := false) X hS dX7_turn_63
    · have hX := if_f c2 hX
      refine lv_aload_n hx hb dX7_turn_38 rfl (lv_at hl 0 rfl) ?_
      refine lv_iload hx hb dX7_turn_39 (lv_at hl 2 rfl) ?_
      obtain ⟨r11, M10, h9, hX⟩ := bp_of hX
      refine r_callV1 (v := .int (b2i r11)) (As := [.int v_4]) (rest := []) X hS (m_X7_go hN h9) mv_X7_go rfl (o_of hN (o := 19) (c := 7) (by decide) rfl) t4_196 ⟨rfl, rfl, Nat.le_of_ble_eq_true rfl, Nat.le_of_ble_eq_true rfl⟩ rfl hl.1 rfl (Nat.le_of_ble_eq_true rfl) ⟨Nat.zero_le _, Nat.zero_le _⟩ dX7_turn_41 (fun H locs hS => ?_)
      refine lv_if_eq (tgt := 49) hx hb dX7_turn_44 (by decide) (fun c12 => ?_) (fun c12 => ?_)
      · have hX := if_bf c12 hX
        obtain ⟨v13, ev13⟩ : ∃ y : Int32, y = (v_4 + nI 1) := ⟨_, rfl⟩
        have hX := nm_of ev13 hX
        refine lv_iinc (v := v13) (lv' := [(4, .int v13), (0, .ref (ad 19 0)), (3, .int v_3)]) hx hb dX7_turn_49 hl (k := 2) rfl (by rw [ev13]; rfl) (by decide) rfl (fun ls hl => ?_)
        refine lv_goto (tgt := 26) hx hb dX7_turn_52 (by decide) ?_
        exact ih _ _ _ hX hk_17 _ _ _ (lv_sub hl [1, 2, 0] rfl) hS
      · have hX := if_bt c12 hX
        refine lv_iconst (v := nI 1) hx hb dX7_turn_47 (by decide) ?_
        obtain rfl := some_of hX
        exact x_Z (v := true) X hS dX7_turn_48
set_option maxRecDepth 100000 in
set_option maxHeartbeats 4000000 in
theorem n_X7_turn_17 {a1 : Bool} (X : Cx p s m args meth c D cy ad A RX7 cX7_turn 5 ((some .boolean))) (hN : NsC ns) : ∀ (n : Nat) (v_2 : Int32) (v_3 : Int32) (M : Mem) (r : Bool × Mem), f_X7_turn_17 a1 n (v_2, v_3, M) = some r → ∀ (ls : Array Slot) (H : Heap) (locs : List Loc), lv_has ls 5 [(0, .ref (ad 19 0)), (2, .int v_2), (3, .int v_3)] → St D cy ad ns A M s.heap H locs → W p l e rm_X7_turn s m args below meth c H locs 0 0 (MQ below (QC D cy ad ns A r.2 (some (.int (b2i r.1)))) args s 0 0 A) (F0 m 17 ls []) := by
  obtain ⟨hx, hb, hml, hown, hts, hK, hr, hlk, hA, hG⟩ := id X
  intro n
  induction n with
  | zero => intro v_2 v_3 M r hX; cases (show (none : Option (Bool × Mem)) = some r from hX)
  | succ n ih =>
    intro v_2 v_3 M r hX ls H locs hl hS
    have hX : b_X7_turn_17 a1 (fun x0 x1 x2 => f_X7_turn_17 a1 n (x0, x1, x2)) v_2 v_3 M = some r := hX
    unfold b_X7_turn_17 at hX
    refine lv_iload_n hx hb dX7_turn_17 rfl (lv_at hl 2 rfl) ?_
    refine lv_bipush (v := nI 6) hx hb dX7_turn_18 (by decide) ?_
    refine lv_icmp_gt (tgt := 77) hx hb dX7_turn_20 (by decide) (fun c14 => ?_) (fun c14 => ?_)
    · have hX := if_t c14 hX
      refine lv_iconst (v := nI 0) hx hb dX7_turn_77 (by decide) ?_
      obtain rfl := some_of hX
      exact x_Z (v := false) X hS dX7_turn_78
    · have hX := if_f c14 hX
      refine lv_iload_n hx hb dX7_turn_23 rfl (lv_at hl 1 rfl) ?_
      refine lv_istore (lv' := [(4, .int v_2), (0, .ref (ad 19 0)), (2, .int v_2), (3, .int v_3)]) hx hb dX7_turn_24 hl (by decide) rfl (fun ls hl => ?_)
      exact n_X7_turn_26 X hN _ _ _ _ hX (fun z0 z1 z2 r h ls H locs hl hS => ih z0 z1 z2 r h ls H locs hl hS) _ _ _ (lv_sub hl [1, 3, 0] rfl) hS
set_option maxRecDepth 100000 in
set_option maxHeartbeats 4000000 in
theorem n_X7_turn_14 {a1 : Bool} (X : Cx p s m args meth c D cy ad A RX7 cX7_turn 5 ((some .boolean))) (hN : NsC ns) {s_0 : Int32} {M : Mem} {r : Bool × Mem} (hX : f_X7_turn_14 a1 s_0 M = some r) : ∀ (ls : Array Slot) (H : Heap) (locs : List Loc), lv_has ls 5 [(0, .ref (ad 19 0))] → St D cy ad ns A M s.heap H locs → W p l e rm_X7_turn s m args below meth c H locs 0 0 (MQ below (QC D cy ad ns A r.2 (some (.int (b2i r.1)))) args s 0 0 A) (F0 m 14 ls [.int s_0]) := by
  obtain ⟨hx, hb, hml, hown, hts, hK, hr, hlk, hA, hG⟩ := id X
  intro ls H locs hl hS
  unfold f_X7_turn_14 at hX
  refine lv_istore_n (lv' := [(2, .int s_0), (0, .ref (ad 19 0))]) hx hb dX7_turn_14 rfl hl (by decide) rfl (fun ls hl => ?_)
  refine lv_iconst (v := nI 0) hx hb dX7_turn_15 (by decide) ?_
  refine lv_istore_n (lv' := [(3, .int (nI 0)), (2, .int s_0), (0, .ref (ad 19 0))]) hx hb dX7_turn_16 rfl hl (by decide) rfl (fun ls hl => ?_)
  exact n_X7_turn_17 X hN _ _ _ _ _ hX _ _ _ (lv_sub hl [2, 1, 0] rfl) hS
set_option maxRecDepth 100000 in
set_option maxHeartbeats 4000000 in
theorem m_X7_turn {l : Launch} {D : va_G} {cy : Nat → ClassId} {ad : Nat → Nat → Nat} {ns : List (Nat × Nat)} {A : Nat → Prop} {M : Mem} (hN : NsC ns) {a1 : Bool} {r : Bool × Mem} (hX : f_X7_turn M a1 = some r) : Ct l yX7_turn cX7_turn 5 ((some .boolean)) rm_X7_turn D cy ad ns A [.ref (ad 19 0), .int (b2i a1)] M r.2 (some (.int (b2i r.1))) := by
  refine ct_of (lv := [(0, .ref (ad 19 0)), (1, .int (b2i a1))]) (by decide) (Nat.le_of_ble_eq_true rfl) rfl ?_
  intro p e s m args below meth c ls X hl hS
  obtain ⟨hx, hb, hml, hown, hts, hK, hr, hlk, hA, hG⟩ := id X
  obtain ⟨H, hH⟩ : ∃ z, z = s.heap := ⟨_, rfl⟩
  obtain ⟨locs, hlo⟩ : ∃ z : List Loc, z = [] := ⟨_, rfl⟩
  have hS : St D cy ad ns A M s.heap H locs := by rw [hH, hlo]; exact hS
  have hgoal : W p l e rm_X7_turn s m args below meth c H locs 0 0 (MQ below (QC D cy ad ns A r.2 (some (.int (b2i r.1)))) args s 0 0 A) (F0 m 0 ls []) := by
    unfold f_X7_turn at hX
    refine lv_iload_n hx hb dX7_turn_0 rfl (lv_at hl 1 rfl) ?_
    refine lv_if_eq (tgt := 8) hx hb dX7_turn_1 (by decide) (fun c15 => ?_) (fun c15 => ?_)
    · have hX := if_bf c15 hX
      refine lv_aload_n hx hb dX7_turn_8 rfl (lv_at hl 0 rfl) ?_
      obtain ⟨r18, M17, h16, hX⟩ := bp_of hX
      refine r_callV1 (v := .int r18) (As := []) (rest := []) X hS (m_X7_back hN h16) mv_X7_back rfl (o_of hN (o := 19) (c := 7) (by decide) rfl) t4_192 ⟨rfl, rfl, Nat.le_of_ble_eq_true rfl, Nat.le_of_ble_eq_true rfl⟩ rfl hl.1 rfl (Nat.le_of_ble_eq_true rfl) ⟨Nat.zero_le _, Nat.zero_le _⟩ dX7_turn_9 (fun H locs hS => ?_)
      refine lv_iconst (v := nI 1) hx hb dX7_turn_12 (by decide) ?_
      refine lv_iadd hx hb dX7_turn_13 ?_
      exact n_X7_turn_14 X hN hX _ _ _ (lv_sub hl [0] rfl) hS
    · have hX := if_bt c15 hX
      refine lv_iconst (v := nI 0) hx hb dX7_turn_4 (by decide) ?_
      refine lv_goto (tgt := 14) hx hb dX7_turn_5 (by decide) ?_
      exact n_X7_turn_14 X hN hX _ _ _ (lv_sub hl [0] rfl) hS
  rw [hH, hlo] at hgoal
  exact hgoal
theorem mv_X7_turn : Mv yX7_turn RX7 cX7_turn 5 ((some .boolean)) 1 := ⟨t4_191, t4_189, t4_190, t1_10, ⟨by decide, by decide⟩, by decide +kernel⟩
/-! SewnYear$Walk.keepBest()V -/
def rm_X7_keepBest : Room := { frames := 1, cells := 0, slots := 0, locals := 60 }
def f_X7_keepBest (M : Mem) : Option (Mem) :=
  nm (cpA M 19 6 19 9 6) fun M1 => some M1
set_option maxRecDepth 100000 in
set_option maxHeartbeats 4000000 in
theorem m_X7_keepBest {l : Launch} {D : va_G} {cy : Nat → ClassId} {ad : Nat → Nat → Nat} {ns : List (Nat × Nat)} {A : Nat → Prop} {M : Mem} (hN : NsC ns) {r : Mem} (hX : f_X7_keepBest M = some r) : Ct l yX7_keepBest cX7_keepBest 1 ((none : Option Jvm.ClassFile.FieldType)) rm_X7_keepBest D cy ad ns A [.ref (ad 19 0)] M r none := by
  refine ct_of (lv := [(0, .ref (ad 19 0))]) (by decide) (Nat.le_of_ble_eq_true rfl) rfl ?_
  intro p e s m args below meth c ls X hl hS
  obtain ⟨hx, hb, hml, hown, hts, hK, hr, hlk, hA, hG⟩ := id X
  obtain ⟨H, hH⟩ : ∃ z, z = s.heap := ⟨_, rfl⟩
  obtain ⟨locs, hlo⟩ : ∃ z : List Loc, z = [] := ⟨_, rfl⟩
  have hS : St D cy ad ns A M s.heap H locs := by rw [hH, hlo]; exact hS
  have hgoal : W p l e rm_X7_keepBest s m args below meth c H locs 0 0 (MQ below (QC D cy ad ns A r none) args s 0 0 A) (F0 m 0 ls []) := by
    unfold f_X7_keepBest at hX
    refine lv_aload_n hx hb dX7_keepBest_0 rfl (lv_at hl 0 rfl) ?_
    refine fg_X7_18 X hS (o_of hN (o := 19) (c := 7) (by decide) rfl) dX7_keepBest_1 ?_
    refine lv_iconst (v := nI 0) hx hb dX7_keepBest_4 (by decide) ?_
    refine lv_aload_n hx hb dX7_keepBest_5 rfl (lv_at hl 0 rfl) ?_
    refine fg_X7_28 X hS (o_of hN (o := 19) (c := 7) (by decide) rfl) dX7_keepBest_6 ?_
    refine lv_iconst (v := nI 0) hx hb dX7_keepBest_9 (by decide) ?_
    refine lv_bipush (v := nI 6) hx hb dX7_keepBest_10 (by decide) ?_
    refine r_copy (c0 := 7) (c1 := 7) (o := 19) (k := 6) (o' := 19) (k' := 9) (n := 6) X hS (o_of hN (o := 19) (c := 7) (by decide) rfl) (o_of hN (o := 19) (c := 7) (by decide) rfl) rfl rfl (by decide) (by decide) (by decide) (by decide) hl.1 t4_201 t3_152 t3_151 t1_18 (Nat.le_of_ble_eq_true rfl) (Nat.le_of_ble_eq_true rfl) dX7_keepBest_12 (fun H locs hS => ?_)
    obtain ⟨M1, eM1, hS, hX⟩ := nm_mem hS hX
    obtain rfl := some_of hX
    exact x_V X hS dX7_keepBest_15
  rw [hH, hlo] at hgoal
  exact hgoal
theorem mv_X7_keepBest : Mv yX7_keepBest RX7 cX7_keepBest 1 ((none : Option Jvm.ClassFile.FieldType)) 0 := ⟨t4_200, t4_198, t4_199, t1_10, ⟨by decide, by decide⟩, by decide +kernel⟩
/-! SewnYear$Walk.most()I -/
def rm_X7_most : Room := { frames := 5, cells := 0, slots := 0, locals := 114 }
def f_X7_most_55 (k_6 : Int32 → Bool → Int32 → Mem → Option (Int32 × Mem)) (v_1 : Int32) (v_2 : Bool) (v_3 : Int32) (M : Mem) : Option (Int32 × Mem) :=
  nm (v_3 + nI 1) fun v1 => k_6 v_1 v_2 v1 M
def f_X7_most_33 (k_6 : Int32 → Bool → Int32 → Mem → Option (Int32 × Mem)) (v_1 : Int32) (v_3 : Int32) (s_0 : Bool) (M : Mem) : Option (Int32 × Mem) :=
  if s_0 = true then (if (gI M 19 3) ≤ v_1 then (f_X7_most_55 k_6 v_1 s_0 v_3 M) else (nm (gI M 19 3) fun v4 => bn (f_X7_keepBest M) fun M6 => f_X7_most_55 k_6 v4 s_0 v_3 M6)) else (f_X7_most_55 k_6 v_1 s_0 v_3 M)
def b_X7_most_6 (rc : Int32 → Bool → Int32 → Mem → Option (Int32 × Mem)) (v_1 : Int32) (v_2 : Bool) (v_3 : Int32) (M : Mem) : Option (Int32 × Mem) :=
  if (nI 1957) ≤ v_3 then (some (v_1, M)) else (bp (f_X7_turn M v_2) fun r10 M9 => if r10 = true then (bn (f_X7_lateSum M9) fun r13 => if r13 = (nI 0) then (f_X7_most_33 rc v_1 v_3 true M9) else (f_X7_most_33 rc v_1 v_3 false M9)) else (some (v_1, M9)))
def f_X7_most_6 : Nat → (Int32 × Bool × Int32 × Mem) → Option (Int32 × Mem) := lp (fun rc q => b_X7_most_6 (fun x0 x1 x2 x3 => rc (x0, x1, x2, x3)) q.1 q.2.1 q.2.2.1 q.2.2.2)
def f_X7_most (M : Mem) : Option (Int32 × Mem) :=
  f_X7_most_6 FU ((nI 0), true, (nI 0), M)
set_option maxRecDepth 100000 in
set_option maxHeartbeats 4000000 in
theorem n_X7_most_55 (X : Cx p s m args meth c D cy ad A RX7 cX7_most 4 ((some .int))) (hN : NsC ns) {k_6 : Int32 → Bool → Int32 → Mem → Option (Int32 × Mem)} {v_1 : Int32} {v_2 : Bool} {v_3 : Int32} {M : Mem} {r : Int32 × Mem} (hX : f_X7_most_55 k_6 v_1 v_2 v_3 M = some r) : (∀ (v_1 : Int32) (v_2 : Bool) (v_3 : Int32) (M : Mem) (r : Int32 × Mem), k_6 v_1 v_2 v_3 M = some r → ∀ (ls : Array Slot) (H : Heap) (locs : List Loc), lv_has ls 4 [(0, .ref (ad 19 0)), (1, .int v_1), (2, .int (b2i v_2)), (3, .int v_3)] → St D cy ad ns A M s.heap H locs → W p l e rm_X7_most s m args below meth c H locs 0 0 (MQ below (QC D cy ad ns A r.2 (some (.int r.1))) args s 0 0 A) (F0 m 6 ls [])) → ∀ (ls : Array Slot) (H : Heap) (locs : List Loc), lv_has ls 4 [(0, .ref (ad 19 0)), (1, .int v_1), (2, .int (b2i v_2)), (3, .int v_3)] → St D cy ad ns A M s.heap H locs → W p l e rm_X7_most s m args below meth c H locs 0 0 (MQ below (QC D cy ad ns A r.2 (some (.int r.1))) args s 0 0 A) (F0 m 55 ls []) := by
  obtain ⟨hx, hb, hml, hown, hts, hK, hr, hlk, hA, hG⟩ := id X
  intro hk_6 ls H locs hl hS
  unfold f_X7_most_55 at hX
  obtain ⟨v1, ev1⟩ : ∃ y : Int32, y = (v_3 + nI 1) := ⟨_, rfl⟩
  have hX := nm_of ev1 hX
  refine lv_iinc (v := v1) (lv' := [(3, .int v1), (0, .ref (ad 19 0)), (1, .int v_1), (2, .int (b2i v_2))]) hx hb dX7_most_55 hl (k := 3) rfl (by rw [ev1]; rfl) (by decide) rfl (fun ls hl => ?_)
  refine lv_goto (tgt := 6) hx hb dX7_most_58 (by decide) ?_
  exact hk_6 _ _ _ _ _ hX _ _ _ (lv_sub hl [1, 2, 3, 0] rfl) hS
set_option maxRecDepth 100000 in
set_option maxHeartbeats 4000000 in
theorem n_X7_most_33 (X : Cx p s m args meth c D cy ad A RX7 cX7_most 4 ((some .int))) (hN : NsC ns) {k_6 : Int32 → Bool → Int32 → Mem → Option (Int32 × Mem)} {v_1 : Int32} {v_3 : Int32} {s_0 : Bool} {M : Mem} {r : Int32 × Mem} (hX : f_X7_most_33 k_6 v_1 v_3 s_0 M = some r) : (∀ (v_1 : Int32) (v_2 : Bool) (v_3 : Int32) (M : Mem) (r : Int32 × Mem), k_6 v_1 v_2 v_3 M = some r → ∀ (ls : Array Slot) (H : Heap) (locs : List Loc), lv_has ls 4 [(0, .ref (ad 19 0)), (1, .int v_1), (2, .int (b2i v_2)), (3, .int v_3)] → St D cy ad ns A M s.heap H locs → W p l e rm_X7_most s m args below meth c H locs 0 0 (MQ below (QC D cy ad ns A r.2 (some (.int r.1))) args s 0 0 A) (F0 m 6 ls [])) → ∀ (ls : Array Slot) (H : Heap) (locs : List Loc), lv_has ls 4 [(0, .ref (ad 19 0)), (1, .int v_1), (3, .int v_3)] → St D cy ad ns A M s.heap H locs → W p l e rm_X7_most s m args below meth c H locs 0 0 (MQ below (QC D cy ad ns A r.2 (some (.int r.1))) args s 0 0 A) (F0 m 33 ls [.int (b2i s_0)]) := by
  obtain ⟨hx, hb, hml, hown, hts, hK, hr, hlk, hA, hG⟩ := id X
  intro hk_6 ls H locs hl hS
  unfold f_X7_most_33 at hX
  refine lv_istore_n (lv' := [(2, .int (b2i s_0)), (0, .ref (ad 19 0)), (1, .int v_1), (3, .int v_3)]) hx hb dX7_most_33 rfl hl (by decide) rfl (fun ls hl => ?_)
  refine lv_iload_n hx hb dX7_most_34 rfl (lv_at hl 0 rfl) ?_
  refine lv_if_eq (tgt := 55) hx hb dX7_most_35 (by decide) (fun c2 => ?_) (fun c2 => ?_)
  · have hX := if_bf c2 hX
    exact n_X7_most_55 X hN hX hk_6 _ _ _ (lv_sub hl [1, 2, 0, 3] rfl) hS
  · have hX := if_bt c2 hX
    refine lv_aload_n hx hb dX7_most_38 rfl (lv_at hl 1 rfl) ?_
    refine fg_X7_38 X hS (o_of hN (o := 19) (c := 7) (by decide) rfl) dX7_most_39 ?_
    refine lv_iload_n hx hb dX7_most_42 rfl (lv_at hl 2 rfl) ?_
    refine lv_icmp_le (tgt := 55) hx hb dX7_most_43 (by decide) (fun c3 => ?_) (fun c3 => ?_)
    · have hX := if_t c3 hX
      exact n_X7_most_55 X hN hX hk_6 _ _ _ (lv_sub hl [1, 2, 0, 3] rfl) hS
    · have hX := if_f c3 hX
      refine lv_aload_n hx hb dX7_most_46 rfl (lv_at hl 1 rfl) ?_
      refine fg_X7_38 X hS (o_of hN (o := 19) (c := 7) (by decide) rfl) dX7_most_47 ?_
      refine lv_topi (fun v4 ev4 => ?_)
      have hX := nm_of ev4 hX
      refine lv_istore_n (lv' := [(1, .int v4), (2, .int (b2i s_0)), (0, .ref (ad 19 0)), (3, .int v_3)]) hx hb dX7_most_50 rfl hl (by decide) rfl (fun ls hl => ?_)
      refine lv_aload_n hx hb dX7_most_51 rfl (lv_at hl 2 rfl) ?_
      obtain ⟨M6, h5, hX⟩ := bn_of hX
      refine r_callV0 (As := []) (rest := []) X hS (m_X7_keepBest hN h5) mv_X7_keepBest rfl (o_of hN (o := 19) (c := 7) (by decide) rfl) t4_197 ⟨rfl, rfl, Nat.le_of_ble_eq_true rfl, Nat.le_of_ble_eq_true rfl⟩ rfl hl.1 rfl (Nat.le_of_ble_eq_true rfl) ⟨Nat.zero_le _, Nat.zero_le _⟩ dX7_most_52 (fun H locs hS => ?_)
      exact n_X7_most_55 X hN hX hk_6 _ _ _ (lv_sub hl [2, 0, 1, 3] rfl) hS
set_option maxRecDepth 100000 in
set_option maxHeartbeats 4000000 in
theorem n_X7_most_6 (X : Cx p s m args meth c D cy ad A RX7 cX7_most 4 ((some .int))) (hN : NsC ns) : ∀ (n : Nat) (v_1 : Int32) (v_2 : Bool) (v_3 : Int32) (M : Mem) (r : Int32 × Mem), f_X7_most_6 n (v_1, v_2, v_3, M) = some r → ∀ (ls : Array Slot) (H : Heap) (locs : List Loc), lv_has ls 4 [(0, .ref (ad 19 0)), (1, .int v_1), (2, .int (b2i v_2)), (3, .int v_3)] → St D cy ad ns A M s.heap H locs → W p l e rm_X7_most s m args below meth c H locs 0 0 (MQ below (QC D cy ad ns A r.2 (some (.int r.1))) args s 0 0 A) (F0 m 6 ls []) := by
  obtain ⟨hx, hb, hml, hown, hts, hK, hr, hlk, hA, hG⟩ := id X
  intro n
  induction n with
  | zero => intro v_1 v_2 v_3 M r hX; cases (show (none : Option (Int32 × Mem)) = some r from hX)
  | succ n ih =>
    intro v_1 v_2 v_3 M r hX ls H locs hl hS
    have hX : b_X7_most_6 (fun x0 x1 x2 x3 => f_X7_most_6 n (x0, x1, x2, x3)) v_1 v_2 v_3 M = some r := hX
    unfold b_X7_most_6 at hX
    refine lv_iload_n hx hb dX7_most_6 rfl (lv_at hl 3 rfl) ?_
    refine lv_sipush (v := nI 1957) hx hb dX7_most_7 (by decide) ?_
    refine lv_icmp_ge (tgt := 61) hx hb dX7_most_10 (by decide) (fun c7 => ?_) (fun c7 => ?_)
    · have hX := if_t c7 hX
      refine lv_iload_n hx hb dX7_most_61 rfl (lv_at hl 1 rfl) ?_
      obtain rfl := some_of hX
      exact x_I (v := v_1) X hS dX7_most_62
    · have hX := if_f c7 hX
      refine lv_aload_n hx hb dX7_most_13 rfl (lv_at hl 0 rfl) ?_
      refine lv_iload_n hx hb dX7_most_14 rfl (lv_at hl 2 rfl) ?_
      obtain ⟨r10, M9, h8, hX⟩ := bp_of hX
      refine r_callV1 (v := .int (b2i r10)) (As := [.int (b2i v_2)]) (rest := []) X hS (m_X7_turn hN h8) mv_X7_turn rfl (o_of hN (o := 19) (c := 7) (by decide) rfl) t4_188 ⟨rfl, rfl, Nat.le_of_ble_eq_true rfl, Nat.le_of_ble_eq_true rfl⟩ rfl hl.1 rfl (Nat.le_of_ble_eq_true rfl) ⟨Nat.zero_le _, Nat.zero_le _⟩ dX7_most_15 (fun H locs hS => ?_)
      refine lv_if_eq (tgt := 61) hx hb dX7_most_18 (by decide) (fun c11 => ?_) (fun c11 => ?_)
      · have hX := if_bf c11 hX
        refine lv_iload_n hx hb dX7_most_61 rfl (lv_at hl 1 rfl) ?_
        obtain rfl := some_of hX
        exact x_I (v := v_1) X hS dX7_most_62
      · have hX := if_bt c11 hX
        refine lv_aload_n hx hb dX7_most_21 rfl (lv_at hl 0 rfl) ?_
        obtain ⟨r13, h12, hX⟩ := bn_of hX
        refine r_callV1 (v := .int r13) (As := []) (rest := []) X hS (m_X7_lateSum hN h12) mv_X7_lateSum rfl (o_of hN (o := 19) (c := 7) (by decide) rfl) t4_175 ⟨rfl, rfl, Nat.le_of_ble_eq_true rfl, Nat.le_of_ble_eq_true rfl⟩ rfl hl.1 rfl (Nat.le_of_ble_eq_true rfl) ⟨Nat.zero_le _, Nat.zero_le _⟩ dX7_most_22 (fun H locs hS => ?_)
        refine lv_if_ne (tgt := 32) hx hb dX7_most_25 (by decide) (fun c14 => ?_) (fun c14 => ?_)
        · have hX := if_f c14 hX
          refine lv_iconst (v := nI 0) hx hb dX7_most_32 (by decide) ?_
          exact n_X7_most_33 X hN hX (fun z0 z1 z2 z3 r h ls H locs hl hS => ih z0 z1 z2 z3 r h ls H locs hl hS) _ _ _ (lv_sub hl [0, 1, 3] rfl) hS
        · have hX := if_t c14 hX
          refine lv_iconst (v := nI 1) hx hb dX7_most_28 (by decide) ?_
          refine lv_goto (tgt := 33) hx hb dX7_most_29 (by decide) ?_
          exact n_X7_most_33 X hN hX (fun z0 z1 z2 z3 r h ls H locs hl hS => ih z0 z1 z2 z3 r h ls H locs hl hS) _ _ _ (lv_sub hl [0, 1, 3] rfl) hS
set_option maxRecDepth 100000 in
set_option maxHeartbeats 4000000 in
theorem m_X7_most {l : Launch} {D : va_G} {cy : Nat → ClassId} {ad : Nat → Nat → Nat} {ns : List (Nat × Nat)} {A : Nat → Prop} {M : Mem} (hN : NsC ns) {r : Int32 × Mem} (hX : f_X7_most M = some r) : Ct l yX7_most cX7_most 4 ((some .int)) rm_X7_most D cy ad ns A [.ref (ad 19 0)] M r.2 (some (.int r.1)) := by
  refine ct_of (lv := [(0, .ref (ad 19 0))]) (by decide) (Nat.le_of_ble_eq_true rfl) rfl ?_
  intro p e s m args below meth c ls X hl hS
  obtain ⟨hx, hb, hml, hown, hts, hK, hr, hlk, hA, hG⟩ := id X
  obtain ⟨H, hH⟩ : ∃ z, z = s.heap := ⟨_, rfl⟩
  obtain ⟨locs, hlo⟩ : ∃ z : List Loc, z = [] := ⟨_, rfl⟩
  have hS : St D cy ad ns A M s.heap H locs := by rw [hH, hlo]; exact hS
  have hgoal : W p l e rm_X7_most s m args below meth c H locs 0 0 (MQ below (QC D cy ad ns A r.2 (some (.int r.1))) args s 0 0 A) (F0 m 0 ls []) := by
    unfold f_X7_most at hX
    refine lv_iconst (v := nI 0) hx hb dX7_most_0 (by decide) ?_
    refine lv_istore_n (lv' := [(1, .int (nI 0)), (0, .ref (ad 19 0))]) hx hb dX7_most_1 rfl hl (by decide) rfl (fun ls hl => ?_)
    refine lv_iconst (v := nI 1) hx hb dX7_most_2 (by decide) ?_
    refine lv_istore_n (lv' := [(2, .int (nI 1)), (1, .int (nI 0)), (0, .ref (ad 19 0))]) hx hb dX7_most_3 rfl hl (by decide) rfl (fun ls hl => ?_)
    refine lv_iconst (v := nI 0) hx hb dX7_most_4 (by decide) ?_
    refine lv_istore_n (lv' := [(3, .int (nI 0)), (2, .int (nI 1)), (1, .int (nI 0)), (0, .ref (ad 19 0))]) hx hb dX7_most_5 rfl hl (by decide) rfl (fun ls hl => ?_)
    exact n_X7_most_6 X hN _ _ _ _ _ _ hX _ _ _ (lv_sub hl [3, 2, 1, 0] rfl) hS
  rw [hH, hlo] at hgoal
  exact hgoal
theorem mv_X7_most : Mv yX7_most RX7 cX7_most 4 ((some .int)) 0 := ⟨t4_187, t4_185, t4_186, t1_10, ⟨by decide, by decide⟩, by decide +kernel⟩
/-! SewnYear$Walk.soonest(I)I -/
def rm_X7_soonest : Room := { frames := 5, cells := 0, slots := 0, locals := 114 }
def f_X7_soonest_71 (a1 : Int32) (k_7 : Int32 → Bool → Int32 → Mem → Option (Int32 × Mem)) (v_2 : Int32) (v_3 : Bool) (v_4 : Int32) (M : Mem) : Option (Int32 × Mem) :=
  nm (v_4 + nI 1) fun v1 => k_7 v_2 v_3 v1 M
def f_X7_soonest_45 (a1 : Int32) (k_7 : Int32 → Bool → Int32 → Mem → Option (Int32 × Mem)) (v_2 : Int32) (v_4 : Int32) (v_5 : Int32) (s_0 : Bool) (M : Mem) : Option (Int32 × Mem) :=
  if s_0 = true then (if (gI M 19 3) = (gI M (gR M 19 0) 4) then (bn (f_X7_keepBest M) fun M6 => f_X7_soonest_71 a1 k_7 v_5 s_0 v_4 M6) else (f_X7_soonest_71 a1 k_7 v_2 s_0 v_4 M)) else (f_X7_soonest_71 a1 k_7 v_2 s_0 v_4 M)
def b_X7_soonest_7 (a1 : Int32) (rc : Int32 → Bool → Int32 → Mem → Option (Int32 × Mem)) (v_2 : Int32) (v_3 : Bool) (v_4 : Int32) (M : Mem) : Option (Int32 × Mem) :=
  if (nI 1957) ≤ v_4 then (some (v_2, M)) else (bp (f_X7_turn M v_3) fun r10 M9 => if r10 = true then (bn (f_X7_lastDone M9) fun r13 => nm (r13 + (gI M9 19 5)) fun v14 => if v_2 ≤ v14 then (f_X7_soonest_45 a1 rc v_2 v_4 v14 false M9) else (f_X7_soonest_45 a1 rc v_2 v_4 v14 true M9)) else (some (v_2, M9)))
def f_X7_soonest_7 (a1 : Int32) : Nat → (Int32 × Bool × Int32 × Mem) → Option (Int32 × Mem) := lp (fun rc q => b_X7_soonest_7 a1 (fun x0 x1 x2 x3 => rc (x0, x1, x2, x3)) q.1 q.2.1 q.2.2.1 q.2.2.2)
def f_X7_soonest (M : Mem) (a1 : Int32) : Option (Int32 × Mem) :=
  f_X7_soonest_7 a1 FU (a1, true, (nI 0), M)
set_option maxRecDepth 100000 in
set_option maxHeartbeats 4000000 in
theorem n_X7_soonest_71 {a1 : Int32} (X : Cx p s m args meth c D cy ad A RX7 cX7_soonest 6 ((some .int))) (hN : NsC ns) {k_7 : Int32 → Bool → Int32 → Mem → Option (Int32 × Mem)} {v_2 : Int32} {v_3 : Bool} {v_4 : Int32} {M : Mem} {r : Int32 × Mem} (hX : f_X7_soonest_71 a1 k_7 v_2 v_3 v_4 M = some r) : (∀ (v_2 : Int32) (v_3 : Bool) (v_4 : Int32) (M : Mem) (r : Int32 × Mem), k_7 v_2 v_3 v_4 M = some r → ∀ (ls : Array Slot) (H : Heap) (locs : List Loc), lv_has ls 6 [(0, .ref (ad 19 0)), (2, .int v_2), (3, .int (b2i v_3)), (4, .int v_4)] → St D cy ad ns A M s.heap H locs → W p l e rm_X7_soonest s m args below meth c H locs 0 0 (MQ below (QC D cy ad ns A r.2 (some (.int r.1))) args s 0 0 A) (F0 m 7 ls [])) → ∀ (ls : Array Slot) (H : Heap) (locs : List Loc), lv_has ls 6 [(0, .ref (ad 19 0)), (2, .int v_2), (3, .int (b2i v_3)), (4, .int v_4)] → St D cy ad ns A M s.heap H locs → W p l e rm_X7_soonest s m args below meth c H locs 0 0 (MQ below (QC D cy ad ns A r.2 (some (.int r.1))) args s 0 0 A) (F0 m 71 ls []) := by
  obtain ⟨hx, hb, hml, hown, hts, hK, hr, hlk, hA, hG⟩ := id X
  intro hk_7 ls H locs hl hS
  unfold f_X7_soonest_71 at hX
  obtain ⟨v1, ev1⟩ : ∃ y : Int32, y = (v_4 + nI 1) := ⟨_, rfl⟩
  have hX := nm_of ev1 hX
  refine lv_iinc (v := v1) (lv' := [(4, .int v1), (0, .ref (ad 19 0)), (2, .int v_2), (3, .int (b2i v_3))]) hx hb dX7_soonest_71 hl (k := 3) rfl (by rw [ev1]; rfl) (by decide) rfl (fun ls hl => ?_)
  refine lv_goto (tgt := 7) hx hb dX7_soonest_74 (by decide) ?_
  exact hk_7 _ _ _ _ _ hX _ _ _ (lv_sub hl [1, 2, 3, 0] rfl) hS
set_option maxRecDepth 100000 in
set_option maxHeartbeats 4000000 in
theorem n_X7_soonest_45 {a1 : Int32} (X : Cx p s m args meth c D cy ad A RX7 cX7_soonest 6 ((some .int))) (hN : NsC ns) {k_7 : Int32 → Bool → Int32 → Mem → Option (Int32 × Mem)} {v_2 : Int32} {v_4 : Int32} {v_5 : Int32} {s_0 : Bool} {M : Mem} {r : Int32 × Mem} (hX : f_X7_soonest_45 a1 k_7 v_2 v_4 v_5 s_0 M = some r) : (∀ (v_2 : Int32) (v_3 : Bool) (v_4 : Int32) (M : Mem) (r : Int32 × Mem), k_7 v_2 v_3 v_4 M = some r → ∀ (ls : Array Slot) (H : Heap) (locs : List Loc), lv_has ls 6 [(0, .ref (ad 19 0)), (2, .int v_2), (3, .int (b2i v_3)), (4, .int v_4)] → St D cy ad ns A M s.heap H locs → W p l e rm_X7_soonest s m args below meth c H locs 0 0 (MQ below (QC D cy ad ns A r.2 (some (.int r.1))) args s 0 0 A) (F0 m 7 ls [])) → ∀ (ls : Array Slot) (H : Heap) (locs : List Loc), lv_has ls 6 [(0, .ref (ad 19 0)), (2, .int v_2), (4, .int v_4), (5, .int v_5)] → St D cy ad ns A M s.heap H locs → W p l e rm_X7_soonest s m args below meth c H locs 0 0 (MQ below (QC D cy ad ns A r.2 (some (.int r.1))) args s 0 0 A) (F0 m 45 ls [.int (b2i s_0)]) := by
  obtain ⟨hx, hb, hml, hown, hts, hK, hr, hlk, hA, hG⟩ := id X
  intro hk_7 ls H locs hl hS
  unfold f_X7_soonest_45 at hX
  refine lv_istore_n (lv' := [(3, .int (b2i s_0)), (0, .ref (ad 19 0)), (2, .int v_2), (4, .int v_4), (5, .int v_5)]) hx hb dX7_soonest_45 rfl hl (by decide) rfl (fun ls hl => ?_)
  refine lv_iload_n hx hb dX7_soonest_46 rfl (lv_at hl 0 rfl) ?_
  refine lv_if_eq (tgt := 71) hx hb dX7_soonest_47 (by decide) (fun c2 => ?_) (fun c2 => ?_)
  · have hX := if_bf c2 hX
    exact n_X7_soonest_71 X hN hX hk_7 _ _ _ (lv_sub hl [1, 2, 0, 3] rfl) hS
  · have hX := if_bt c2 hX
    refine lv_aload_n hx hb dX7_soonest_50 rfl (lv_at hl 1 rfl) ?_
    refine fg_X7_38 X hS (o_of hN (o := 19) (c := 7) (by decide) rfl) dX7_soonest_51 ?_
    refine lv_aload_n hx hb dX7_soonest_54 rfl (lv_at hl 1 rfl) ?_
    refine fg_X7_12 X hS (o_of hN (o := 19) (c := 7) (by decide) rfl) dX7_soonest_55 ?_
    have q3 := wr_19 hN hS
    refine fg_X7_47 X hS q3 dX7_soonest_58 ?_
    refine lv_icmp_ne (tgt := 71) hx hb dX7_soonest_61 (by decide) (fun c4 => ?_) (fun c4 => ?_)
    · have hX := if_f c4 hX
      exact n_X7_soonest_71 X hN hX hk_7 _ _ _ (lv_sub hl [1, 2, 0, 3] rfl) hS
    · have hX := if_t c4 hX
      refine lv_iload hx hb dX7_soonest_64 (lv_at hl 4 rfl) ?_
      refine lv_istore_n (lv' := [(2, .int v_5), (3, .int (b2i s_0)), (0, .ref (ad 19 0)), (4, .int v_4), (5, .int v_5)]) hx hb dX7_soonest_66 rfl hl (by decide) rfl (fun ls hl => ?_)
      refine lv_aload_n hx hb dX7_soonest_67 rfl (lv_at hl 2 rfl) ?_
      obtain ⟨M6, h5, hX⟩ := bn_of hX
      refine r_callV0 (As := []) (rest := []) X hS (m_X7_keepBest hN h5) mv_X7_keepBest rfl (o_of hN (o := 19) (c := 7) (by decide) rfl) t4_197 ⟨rfl, rfl, Nat.le_of_ble_eq_true rfl, Nat.le_of_ble_eq_true rfl⟩ rfl hl.1 rfl (Nat.le_of_ble_eq_true rfl) ⟨Nat.zero_le _, Nat.zero_le _⟩ dX7_soonest_68 (fun H locs hS => ?_)
      exact n_X7_soonest_71 X hN hX hk_7 _ _ _ (lv_sub hl [2, 0, 1, 3] rfl) hS
set_option maxRecDepth 100000 in
set_option maxHeartbeats 4000000 in
theorem n_X7_soonest_7 {a1 : Int32} (X : Cx p s m args meth c D cy ad A RX7 cX7_soonest 6 ((some .int))) (hN : NsC ns) : ∀ (n : Nat) (v_2 : Int32) (v_3 : Bool) (v_4 : Int32) (M : Mem) (r : Int32 × Mem), f_X7_soonest_7 a1 n (v_2, v_3, v_4, M) = some r → ∀ (ls : Array Slot) (H : Heap) (locs : List Loc), lv_has ls 6 [(0, .ref (ad 19 0)), (2, .int v_2), (3, .int (b2i v_3)), (4, .int v_4)] → St D cy ad ns A M s.heap H locs → W p l e rm_X7_soonest s m args below meth c H locs 0 0 (MQ below (QC D cy ad ns A r.2 (some (.int r.1))) args s 0 0 A) (F0 m 7 ls []) := by
  obtain ⟨hx, hb, hml, hown, hts, hK, hr, hlk, hA, hG⟩ := id X
  intro n
  induction n with
  | zero => intro v_2 v_3 v_4 M r hX; cases (show (none : Option (Int32 × Mem)) = some r from hX)
  | succ n ih =>
    intro v_2 v_3 v_4 M r hX ls H locs hl hS
    have hX : b_X7_soonest_7 a1 (fun x0 x1 x2 x3 => f_X7_soonest_7 a1 n (x0, x1, x2, x3)) v_2 v_3 v_4 M = some r := hX
    unfold b_X7_soonest_7 at hX
    refine lv_iload hx hb dX7_soonest_7 (lv_at hl 3 rfl) ?_
    refine lv_sipush (v := nI 1957) hx hb dX7_soonest_9 (by decide) ?_
    refine lv_icmp_ge (tgt := 77) hx hb dX7_soonest_12 (by decide) (fun c7 => ?_) (fun c7 => ?_)
    · have hX := if_t c7 hX
      refine lv_iload_n hx hb dX7_soonest_77 rfl (lv_at hl 1 rfl) ?_
      obtain rfl := some_of hX
      exact x_I (v := v_2) X hS dX7_soonest_78
    · have hX := if_f c7 hX
      refine lv_aload_n hx hb dX7_soonest_15 rfl (lv_at hl 0 rfl) ?_
      refine lv_iload_n hx hb dX7_soonest_16 rfl (lv_at hl 2 rfl) ?_
      obtain ⟨r10, M9, h8, hX⟩ := bp_of hX
      refine r_callV1 (v := .int (b2i r10)) (As := [.int (b2i v_3)]) (rest := []) X hS (m_X7_turn hN h8) mv_X7_turn rfl (o_of hN (o := 19) (c := 7) (by decide) rfl) t4_188 ⟨rfl, rfl, Nat.le_of_ble_eq_true rfl, Nat.le_of_ble_eq_true rfl⟩ rfl hl.1 rfl (Nat.le_of_ble_eq_true rfl) ⟨Nat.zero_le _, Nat.zero_le _⟩ dX7_soonest_17 (fun H locs hS => ?_)
      refine lv_if_eq (tgt := 77) hx hb dX7_soonest_20 (by decide) (fun c11 => ?_) (fun c11 => ?_)
      · have hX := if_bf c11 hX
        refine lv_iload_n hx hb dX7_soonest_77 rfl (lv_at hl 1 rfl) ?_
        obtain rfl := some_of hX
        exact x_I (v := v_2) X hS dX7_soonest_78
      · have hX := if_bt c11 hX
        refine lv_aload_n hx hb dX7_soonest_23 rfl (lv_at hl 0 rfl) ?_
        obtain ⟨r13, h12, hX⟩ := bn_of hX
        refine r_callV1 (v := .int r13) (As := []) (rest := []) X hS (m_X7_lastDone hN h12) mv_X7_lastDone rfl (o_of hN (o := 19) (c := 7) (by decide) rfl) t4_159 ⟨rfl, rfl, Nat.le_of_ble_eq_true rfl, Nat.le_of_ble_eq_true rfl⟩ rfl hl.1 rfl (Nat.le_of_ble_eq_true rfl) ⟨Nat.zero_le _, Nat.zero_le _⟩ dX7_soonest_24 (fun H locs hS => ?_)
        refine lv_aload_n hx hb dX7_soonest_27 rfl (lv_at hl 0 rfl) ?_
        refine fg_X7_44 X hS (o_of hN (o := 19) (c := 7) (by decide) rfl) dX7_soonest_28 ?_
        refine lv_iadd hx hb dX7_soonest_31 ?_
        refine lv_topi (fun v14 ev14 => ?_)
        have hX := nm_of ev14 hX
        refine lv_istore (lv' := [(5, .int v14), (0, .ref (ad 19 0)), (2, .int v_2), (3, .int (b2i v_3)), (4, .int v_4)]) hx hb dX7_soonest_32 hl (by decide) rfl (fun ls hl => ?_)
        refine lv_iload hx hb dX7_soonest_34 (lv_at hl 0 rfl) ?_
        refine lv_iload_n hx hb dX7_soonest_36 rfl (lv_at hl 2 rfl) ?_
        refine lv_icmp_ge (tgt := 44) hx hb dX7_soonest_37 (by decide) (fun c15 => ?_) (fun c15 => ?_)
        · have hX := if_t c15 hX
          refine lv_iconst (v := nI 0) hx hb dX7_soonest_44 (by decide) ?_
          exact n_X7_soonest_45 X hN hX (fun z0 z1 z2 z3 r h ls H locs hl hS => ih z0 z1 z2 z3 r h ls H locs hl hS) _ _ _ (lv_sub hl [1, 2, 4, 0] rfl) hS
        · have hX := if_f c15 hX
          refine lv_iconst (v := nI 1) hx hb dX7_soonest_40 (by decide) ?_
          refine lv_goto (tgt := 45) hx hb dX7_soonest_41 (by decide) ?_
          exact n_X7_soonest_45 X hN hX (fun z0 z1 z2 z3 r h ls H locs hl hS => ih z0 z1 z2 z3 r h ls H locs hl hS) _ _ _ (lv_sub hl [1, 2, 4, 0] rfl) hS
set_option maxRecDepth 100000 in
set_option maxHeartbeats 4000000 in
theorem m_X7_soonest {l : Launch} {D : va_G} {cy : Nat → ClassId} {ad : Nat → Nat → Nat} {ns : List (Nat × Nat)} {A : Nat → Prop} {M : Mem} (hN : NsC ns) {a1 : Int32} {r : Int32 × Mem} (hX : f_X7_soonest M a1 = some r) : Ct l yX7_soonest cX7_soonest 6 ((some .int)) rm_X7_soonest D cy ad ns A [.ref (ad 19 0), .int a1] M r.2 (some (.int r.1)) := by
  refine ct_of (lv := [(0, .ref (ad 19 0)), (1, .int a1)]) (by decide) (Nat.le_of_ble_eq_true rfl) rfl ?_
  intro p e s m args below meth c ls X hl hS
  obtain ⟨hx, hb, hml, hown, hts, hK, hr, hlk, hA, hG⟩ := id X
  obtain ⟨H, hH⟩ : ∃ z, z = s.heap := ⟨_, rfl⟩
  obtain ⟨locs, hlo⟩ : ∃ z : List Loc, z = [] := ⟨_, rfl⟩
  have hS : St D cy ad ns A M s.heap H locs := by rw [hH, hlo]; exact hS
  have hgoal : W p l e rm_X7_soonest s m args below meth c H locs 0 0 (MQ below (QC D cy ad ns A r.2 (some (.int r.1))) args s 0 0 A) (F0 m 0 ls []) := by
    unfold f_X7_soonest at hX
    refine lv_iload_n hx hb dX7_soonest_0 rfl (lv_at hl 1 rfl) ?_
    refine lv_istore_n (lv' := [(2, .int a1), (0, .ref (ad 19 0)), (1, .int a1)]) hx hb dX7_soonest_1 rfl hl (by decide) rfl (fun ls hl => ?_)
    refine lv_iconst (v := nI 1) hx hb dX7_soonest_2 (by decide) ?_
    refine lv_istore_n (lv' := [(3, .int (nI 1)), (2, .int a1), (0, .ref (ad 19 0)), (1, .int a1)]) hx hb dX7_soonest_3 rfl hl (by decide) rfl (fun ls hl => ?_)
    refine lv_iconst (v := nI 0) hx hb dX7_soonest_4 (by decide) ?_
    refine lv_istore (lv' := [(4, .int (nI 0)), (3, .int (nI 1)), (2, .int a1), (0, .ref (ad 19 0)), (1, .int a1)]) hx hb dX7_soonest_5 hl (by decide) rfl (fun ls hl => ?_)
    exact n_X7_soonest_7 X hN _ _ _ _ _ _ hX _ _ _ (lv_sub hl [3, 2, 1, 0] rfl) hS
  rw [hH, hlo] at hgoal
  exact hgoal
theorem mv_X7_soonest : Mv yX7_soonest RX7 cX7_soonest 6 ((some .int)) 1 := ⟨t4_205, t4_203, t4_204, t1_10, ⟨by decide, by decide⟩, by decide +kernel⟩
/-! SewnYear$Walk.leastLate()I -/
def rm_X7_leastLate : Room := { frames := 5, cells := 0, slots := 0, locals := 114 }
def f_X7_leastLate_59 (k_7 : Int32 → Bool → Int32 → Mem → Option (Int32 × Mem)) (v_1 : Int32) (v_2 : Bool) (v_3 : Int32) (M : Mem) : Option (Int32 × Mem) :=
  nm (v_3 + nI 1) fun v1 => k_7 v_1 v_2 v1 M
def f_X7_leastLate_35 (k_7 : Int32 → Bool → Int32 → Mem → Option (Int32 × Mem)) (v_1 : Int32) (v_3 : Int32) (s_0 : Bool) (M : Mem) : Option (Int32 × Mem) :=
  if s_0 = true then (if (gI M 19 3) = (gI M (gR M 19 0) 4) then (bn (f_X7_lateSum M) fun r6 => f_X7_leastLate_59 k_7 r6 s_0 v_3 M) else (f_X7_leastLate_59 k_7 v_1 s_0 v_3 M)) else (f_X7_leastLate_59 k_7 v_1 s_0 v_3 M)
def b_X7_leastLate_7 (rc : Int32 → Bool → Int32 → Mem → Option (Int32 × Mem)) (v_1 : Int32) (v_2 : Bool) (v_3 : Int32) (M : Mem) : Option (Int32 × Mem) :=
  if (nI 1957) ≤ v_3 then (some (v_1, M)) else (bp (f_X7_turn M v_2) fun r10 M9 => if r10 = true then (bn (f_X7_lateSum M9) fun r13 => if v_1 ≤ r13 then (f_X7_leastLate_35 rc v_1 v_3 false M9) else (f_X7_leastLate_35 rc v_1 v_3 true M9)) else (some (v_1, M9)))
def f_X7_leastLate_7 : Nat → (Int32 × Bool × Int32 × Mem) → Option (Int32 × Mem) := lp (fun rc q => b_X7_leastLate_7 (fun x0 x1 x2 x3 => rc (x0, x1, x2, x3)) q.1 q.2.1 q.2.2.1 q.2.2.2)
def f_X7_leastLate (M : Mem) : Option (Int32 × Mem) :=
  f_X7_leastLate_7 FU ((nI 1000000), true, (nI 0), M)
set_option maxRecDepth 100000 in
set_option maxHeartbeats 4000000 in
theorem n_X7_leastLate_59 (X : Cx p s m args meth c D cy ad A RX7 cX7_leastLate 4 ((some .int))) (hN : NsC ns) {k_7 : Int32 → Bool → Int32 → Mem → Option (Int32 × Mem)} {v_1 : Int32} {v_2 : Bool} {v_3 : Int32} {M : Mem} {r : Int32 × Mem} (hX : f_X7_leastLate_59 k_7 v_1 v_2 v_3 M = some r) : (∀ (v_1 : Int32) (v_2 : Bool) (v_3 : Int32) (M : Mem) (r : Int32 × Mem), k_7 v_1 v_2 v_3 M = some r → ∀ (ls : Array Slot) (H : Heap) (locs : List Loc), lv_has ls 4 [(0, .ref (ad 19 0)), (1, .int v_1), (2, .int (b2i v_2)), (3, .int v_3)] → St D cy ad ns A M s.heap H locs → W p l e rm_X7_leastLate s m args below meth c H locs 0 0 (MQ below (QC D cy ad ns A r.2 (some (.int r.1))) args s 0 0 A) (F0 m 7 ls [])) → ∀ (ls : Array Slot) (H : Heap) (locs : List Loc), lv_has ls 4 [(0, .ref (ad 19 0)), (1, .int v_1), (2, .int (b2i v_2)), (3, .int v_3)] → St D cy ad ns A M s.heap H locs → W p l e rm_X7_leastLate s m args below meth c H locs 0 0 (MQ below (QC D cy ad ns A r.2 (some (.int r.1))) args s 0 0 A) (F0 m 59 ls []) := by
  obtain ⟨hx, hb, hml, hown, hts, hK, hr, hlk, hA, hG⟩ := id X
  intro hk_7 ls H locs hl hS
  unfold f_X7_leastLate_59 at hX
  obtain ⟨v1, ev1⟩ : ∃ y : Int32, y = (v_3 + nI 1) := ⟨_, rfl⟩
  have hX := nm_of ev1 hX
  refine lv_iinc (v := v1) (lv' := [(3, .int v1), (0, .ref (ad 19 0)), (1, .int v_1), (2, .int (b2i v_2))]) hx hb dX7_leastLate_59 hl (k := 3) rfl (by rw [ev1]; rfl) (by decide) rfl (fun ls hl => ?_)
  refine lv_goto (tgt := 7) hx hb dX7_leastLate_62 (by decide) ?_
  exact hk_7 _ _ _ _ _ hX _ _ _ (lv_sub hl [1, 2, 3, 0] rfl) hS
set_option maxRecDepth 100000 in
set_option maxHeartbeats 4000000 in
theorem n_X7_leastLate_35 (X : Cx p s m args meth c D cy ad A RX7 cX7_leastLate 4 ((some .int))) (hN : NsC ns) {k_7 : Int32 → Bool → Int32 → Mem → Option (Int32 × Mem)} {v_1 : Int32} {v_3 : Int32} {s_0 : Bool} {M : Mem} {r : Int32 × Mem} (hX : f_X7_leastLate_35 k_7 v_1 v_3 s_0 M = some r) : (∀ (v_1 : Int32) (v_2 : Bool) (v_3 : Int32) (M : Mem) (r : Int32 × Mem), k_7 v_1 v_2 v_3 M = some r → ∀ (ls : Array Slot) (H : Heap) (locs : List Loc), lv_has ls 4 [(0, .ref (ad 19 0)), (1, .int v_1), (2, .int (b2i v_2)), (3, .int v_3)] → St D cy ad ns A M s.heap H locs → W p l e rm_X7_leastLate s m args below meth c H locs 0 0 (MQ below (QC D cy ad ns A r.2 (some (.int r.1))) args s 0 0 A) (F0 m 7 ls [])) → ∀ (ls : Array Slot) (H : Heap) (locs : List Loc), lv_has ls 4 [(0, .ref (ad 19 0)), (1, .int v_1), (3, .int v_3)] → St D cy ad ns A M s.heap H locs → W p l e rm_X7_leastLate s m args below meth c H locs 0 0 (MQ below (QC D cy ad ns A r.2 (some (.int r.1))) args s 0 0 A) (F0 m 35 ls [.int (b2i s_0)]) := by
  obtain ⟨hx, hb, hml, hown, hts, hK, hr, hlk, hA, hG⟩ := id X
  intro hk_7 ls H locs hl hS
  unfold f_X7_leastLate_35 at hX
  refine lv_istore_n (lv' := [(2, .int (b2i s_0)), (0, .ref (ad 19 0)), (1, .int v_1), (3, .int v_3)]) hx hb dX7_leastLate_35 rfl hl (by decide) rfl (fun ls hl => ?_)
  refine lv_iload_n hx hb dX7_leastLate_36 rfl (lv_at hl 0 rfl) ?_
  refine lv_if_eq (tgt := 59) hx hb dX7_leastLate_37 (by decide) (fun c2 => ?_) (fun c2 => ?_)
  · have hX := if_bf c2 hX
    exact n_X7_leastLate_59 X hN hX hk_7 _ _ _ (lv_sub hl [1, 2, 0, 3] rfl) hS
  · have hX := if_bt c2 hX
    refine lv_aload_n hx hb dX7_leastLate_40 rfl (lv_at hl 1 rfl) ?_
    refine fg_X7_38 X hS (o_of hN (o := 19) (c := 7) (by decide) rfl) dX7_leastLate_41 ?_
    refine lv_aload_n hx hb dX7_leastLate_44 rfl (lv_at hl 1 rfl) ?_
    refine fg_X7_12 X hS (o_of hN (o := 19) (c := 7) (by decide) rfl) dX7_leastLate_45 ?_
    have q3 := wr_19 hN hS
    refine fg_X7_47 X hS q3 dX7_leastLate_48 ?_
    refine lv_icmp_ne (tgt := 59) hx hb dX7_leastLate_51 (by decide) (fun c4 => ?_) (fun c4 => ?_)
    · have hX := if_f c4 hX
      exact n_X7_leastLate_59 X hN hX hk_7 _ _ _ (lv_sub hl [1, 2, 0, 3] rfl) hS
    · have hX := if_t c4 hX
      refine lv_aload_n hx hb dX7_leastLate_54 rfl (lv_at hl 1 rfl) ?_
      obtain ⟨r6, h5, hX⟩ := bn_of hX
      refine r_callV1 (v := .int r6) (As := []) (rest := []) X hS (m_X7_lateSum hN h5) mv_X7_lateSum rfl (o_of hN (o := 19) (c := 7) (by decide) rfl) t4_175 ⟨rfl, rfl, Nat.le_of_ble_eq_true rfl, Nat.le_of_ble_eq_true rfl⟩ rfl hl.1 rfl (Nat.le_of_ble_eq_true rfl) ⟨Nat.zero_le _, Nat.zero_le _⟩ dX7_leastLate_55 (fun H locs hS => ?_)
      refine lv_istore_n (lv' := [(1, .int r6), (2, .int (b2i s_0)), (0, .ref (ad 19 0)), (3, .int v_3)]) hx hb dX7_leastLate_58 rfl hl (by decide) rfl (fun ls hl => ?_)
      exact n_X7_leastLate_59 X hN hX hk_7 _ _ _ (lv_sub hl [2, 0, 1, 3] rfl) hS
set_option maxRecDepth 100000 in
set_option maxHeartbeats 4000000 in
theorem n_X7_leastLate_7 (X : Cx p s m args meth c D cy ad A RX7 cX7_leastLate 4 ((some .int))) (hN : NsC ns) : ∀ (n : Nat) (v_1 : Int32) (v_2 : Bool) (v_3 : Int32) (M : Mem) (r : Int32 × Mem), f_X7_leastLate_7 n (v_1, v_2, v_3, M) = some r → ∀ (ls : Array Slot) (H : Heap) (locs : List Loc), lv_has ls 4 [(0, .ref (ad 19 0)), (1, .int v_1), (2, .int (b2i v_2)), (3, .int v_3)] → St D cy ad ns A M s.heap H locs → W p l e rm_X7_leastLate s m args below meth c H locs 0 0 (MQ below (QC D cy ad ns A r.2 (some (.int r.1))) args s 0 0 A) (F0 m 7 ls []) := by
  obtain ⟨hx, hb, hml, hown, hts, hK, hr, hlk, hA, hG⟩ := id X
  intro n
  induction n with
  | zero => intro v_1 v_2 v_3 M r hX; cases (show (none : Option (Int32 × Mem)) = some r from hX)
  | succ n ih =>
    intro v_1 v_2 v_3 M r hX ls H locs hl hS
    have hX : b_X7_leastLate_7 (fun x0 x1 x2 x3 => f_X7_leastLate_7 n (x0, x1, x2, x3)) v_1 v_2 v_3 M = some r := hX
    unfold b_X7_leastLate_7 at hX
    refine lv_iload_n hx hb dX7_leastLate_7 rfl (lv_at hl 3 rfl) ?_
    refine lv_sipush (v := nI 1957) hx hb dX7_leastLate_8 (by decide) ?_
    refine lv_icmp_ge (tgt := 65) hx hb dX7_leastLate_11 (by decide) (fun c7 => ?_) (fun c7 => ?_)
    · have hX := if_t c7 hX
      refine lv_iload_n hx hb dX7_leastLate_65 rfl (lv_at hl 1 rfl) ?_
      obtain rfl := some_of hX
      exact x_I (v := v_1) X hS dX7_leastLate_66
    · have hX := if_f c7 hX
      refine lv_aload_n hx hb dX7_leastLate_14 rfl (lv_at hl 0 rfl) ?_
      refine lv_iload_n hx hb dX7_leastLate_15 rfl (lv_at hl 2 rfl) ?_
      obtain ⟨r10, M9, h8, hX⟩ := bp_of hX
      refine r_callV1 (v := .int (b2i r10)) (As := [.int (b2i v_2)]) (rest := []) X hS (m_X7_turn hN h8) mv_X7_turn rfl (o_of hN (o := 19) (c := 7) (by decide) rfl) t4_188 ⟨rfl, rfl, Nat.le_of_ble_eq_true rfl, Nat.le_of_ble_eq_true rfl⟩ rfl hl.1 rfl (Nat.le_of_ble_eq_true rfl) ⟨Nat.zero_le _, Nat.zero_le _⟩ dX7_leastLate_16 (fun H locs hS => ?_)
      refine lv_if_eq (tgt := 65) hx hb dX7_leastLate_19 (by decide) (fun c11 => ?_) (fun c11 => ?_)
      · have hX := if_bf c11 hX
        refine lv_iload_n hx hb dX7_leastLate_65 rfl (lv_at hl 1 rfl) ?_
        obtain rfl := some_of hX
        exact x_I (v := v_1) X hS dX7_leastLate_66
      · have hX := if_bt c11 hX
        refine lv_aload_n hx hb dX7_leastLate_22 rfl (lv_at hl 0 rfl) ?_
        obtain ⟨r13, h12, hX⟩ := bn_of hX
        refine r_callV1 (v := .int r13) (As := []) (rest := []) X hS (m_X7_lateSum hN h12) mv_X7_lateSum rfl (o_of hN (o := 19) (c := 7) (by decide) rfl) t4_175 ⟨rfl, rfl, Nat.le_of_ble_eq_true rfl, Nat.le_of_ble_eq_true rfl⟩ rfl hl.1 rfl (Nat.le_of_ble_eq_true rfl) ⟨Nat.zero_le _, Nat.zero_le _⟩ dX7_leastLate_23 (fun H locs hS => ?_)
        refine lv_iload_n hx hb dX7_leastLate_26 rfl (lv_at hl 1 rfl) ?_
        refine lv_icmp_ge (tgt := 34) hx hb dX7_leastLate_27 (by decide) (fun c14 => ?_) (fun c14 => ?_)
        · have hX := if_t c14 hX
          refine lv_iconst (v := nI 0) hx hb dX7_leastLate_34 (by decide) ?_
          exact n_X7_leastLate_35 X hN hX (fun z0 z1 z2 z3 r h ls H locs hl hS => ih z0 z1 z2 z3 r h ls H locs hl hS) _ _ _ (lv_sub hl [0, 1, 3] rfl) hS
        · have hX := if_f c14 hX
          refine lv_iconst (v := nI 1) hx hb dX7_leastLate_30 (by decide) ?_
          refine lv_goto (tgt := 35) hx hb dX7_leastLate_31 (by decide) ?_
          exact n_X7_leastLate_35 X hN hX (fun z0 z1 z2 z3 r h ls H locs hl hS => ih z0 z1 z2 z3 r h ls H locs hl hS) _ _ _ (lv_sub hl [0, 1, 3] rfl) hS
set_option maxRecDepth 100000 in
set_option maxHeartbeats 4000000 in
theorem m_X7_leastLate {l : Launch} {D : va_G} {cy : Nat → ClassId} {ad : Nat → Nat → Nat} {ns : List (Nat × Nat)} {A : Nat → Prop} {M : Mem} (hN : NsC ns) {r : Int32 × Mem} (hX : f_X7_leastLate M = some r) : Ct l yX7_leastLate cX7_leastLate 4 ((some .int)) rm_X7_leastLate D cy ad ns A [.ref (ad 19 0)] M r.2 (some (.int r.1)) := by
  refine ct_of (lv := [(0, .ref (ad 19 0))]) (by decide) (Nat.le_of_ble_eq_true rfl) rfl ?_
  intro p e s m args below meth c ls X hl hS
  obtain ⟨hx, hb, hml, hown, hts, hK, hr, hlk, hA, hG⟩ := id X
  obtain ⟨H, hH⟩ : ∃ z, z = s.heap := ⟨_, rfl⟩
  obtain ⟨locs, hlo⟩ : ∃ z : List Loc, z = [] := ⟨_, rfl⟩
  have hS : St D cy ad ns A M s.heap H locs := by rw [hH, hlo]; exact hS
  have hgoal : W p l e rm_X7_leastLate s m args below meth c H locs 0 0 (MQ below (QC D cy ad ns A r.2 (some (.int r.1))) args s 0 0 A) (F0 m 0 ls []) := by
    unfold f_X7_leastLate at hX
    refine lv_ldc hx hb (own := RX7) hown (hts _ t4_210) dX7_leastLate_0 ?_
    refine lv_istore_n (lv' := [(1, .int (nI 1000000)), (0, .ref (ad 19 0))]) hx hb dX7_leastLate_2 rfl hl (by decide) rfl (fun ls hl => ?_)
    refine lv_iconst (v := nI 1) hx hb dX7_leastLate_3 (by decide) ?_
    refine lv_istore_n (lv' := [(2, .int (nI 1)), (1, .int (nI 1000000)), (0, .ref (ad 19 0))]) hx hb dX7_leastLate_4 rfl hl (by decide) rfl (fun ls hl => ?_)
    refine lv_iconst (v := nI 0) hx hb dX7_leastLate_5 (by decide) ?_
    refine lv_istore_n (lv' := [(3, .int (nI 0)), (2, .int (nI 1)), (1, .int (nI 1000000)), (0, .ref (ad 19 0))]) hx hb dX7_leastLate_6 rfl hl (by decide) rfl (fun ls hl => ?_)
    exact n_X7_leastLate_7 X hN _ _ _ _ _ _ hX _ _ _ (lv_sub hl [3, 2, 1, 0] rfl) hS
  rw [hH, hlo] at hgoal
  exact hgoal
theorem mv_X7_leastLate : Mv yX7_leastLate RX7 cX7_leastLate 4 ((some .int)) 0 := ⟨t4_209, t4_207, t4_208, t1_10, ⟨by decide, by decide⟩, by decide +kernel⟩
/-! SewnYear$Walk.lateByDue()I -/
def rm_X7_lateByDue : Room := { frames := 4, cells := 0, slots := 0, locals := 90 }
def f_X7_lateByDue_77 (v_1 : Int32) (k_79 : Int32 → Int32 → Mem → Option (Int32 × Mem)) (v_3 : Int32) (M : Mem) : Option (Int32 × Mem) :=
  k_79 v_3 v_3 M
def f_X7_lateByDue_79 (v_1 : Int32) (k_17 : Int32 → Int32 → Mem → Option (Int32 × Mem)) (v_2 : Int32) (v_3 : Int32) (M : Mem) : Option (Int32 × Mem) :=
  nm (v_3 + nI 1) fun v1 => k_17 v_2 v1 M
def f_X7_lateByDue_44 (v_1 : Int32) (k_17 : Int32 → Int32 → Mem → Option (Int32 × Mem)) (v_2 : Int32) (v_3 : Int32) (s_0 : Bool) (M : Mem) : Option (Int32 × Mem) :=
  if s_0 = true then (if v_2 = (-1) then (f_X7_lateByDue_77 v_1 (fun x0 x1 y => f_X7_lateByDue_79 v_1 k_17 x0 x1 y) v_3 M) else (gin v_3 6 <| gin v_2 6 <| if (gA M (gR M 19 0) 8 (ix v_2)) ≤ (gA M (gR M 19 0) 8 (ix v_3)) then (f_X7_lateByDue_79 v_1 k_17 v_2 v_3 M) else (f_X7_lateByDue_77 v_1 (fun x0 x1 y => f_X7_lateByDue_79 v_1 k_17 x0 x1 y) v_3 M))) else (f_X7_lateByDue_79 v_1 k_17 v_2 v_3 M)
def b_X7_lateByDue_17 (k_2 : Int32 → Mem → Option (Int32 × Mem)) (v_1 : Int32) (rc : Int32 → Int32 → Mem → Option (Int32 × Mem)) (v_2 : Int32) (v_3 : Int32) (M : Mem) : Option (Int32 × Mem) :=
  if (gI M (gR M 19 0) 4) ≤ v_3 then (bp (f_X7_go M v_2) fun r13 M12 => nm (v_1 + nI 1) fun v14 => k_2 v14 M12) else (if (((gI M 19 4) >>> (v_3 &&& 31)) &&& (nI 1)) = (nI 0) then (f_X7_lateByDue_44 v_1 rc v_2 v_3 true M) else (f_X7_lateByDue_44 v_1 rc v_2 v_3 false M))
def f_X7_lateByDue_17 (k_2 : Int32 → Mem → Option (Int32 × Mem)) (v_1 : Int32) : Nat → (Int32 × Int32 × Mem) → Option (Int32 × Mem) := lp (fun rc q => b_X7_lateByDue_17 k_2 v_1 (fun x0 x1 x2 => rc (x0, x1, x2)) q.1 q.2.1 q.2.2)
def b_X7_lateByDue_2 (rc : Int32 → Mem → Option (Int32 × Mem)) (v_1 : Int32) (M : Mem) : Option (Int32 × Mem) :=
  if (gI M (gR M 19 0) 4) ≤ v_1 then (bn (f_X7_lateSum M) fun r19 => some (r19, M)) else (f_X7_lateByDue_17 rc v_1 FU ((-1), (nI 0), M))
def f_X7_lateByDue_2 : Nat → (Int32 × Mem) → Option (Int32 × Mem) := lp (fun rc q => b_X7_lateByDue_2 (fun x0 x1 => rc (x0, x1)) q.1 q.2)
def f_X7_lateByDue (M : Mem) : Option (Int32 × Mem) :=
  f_X7_lateByDue_2 FU ((nI 0), M)
set_option maxRecDepth 100000 in
set_option maxHeartbeats 4000000 in
theorem n_X7_lateByDue_77 {v_1 : Int32} (X : Cx p s m args meth c D cy ad A RX7 cX7_lateByDue 5 ((some .int))) (hN : NsC ns) {k_79 : Int32 → Int32 → Mem → Option (Int32 × Mem)} {v_3 : Int32} {M : Mem} {r : Int32 × Mem} (hX : f_X7_lateByDue_77 v_1 k_79 v_3 M = some r) : (∀ (v_2 : Int32) (v_3 : Int32) (M : Mem) (r : Int32 × Mem), k_79 v_2 v_3 M = some r → ∀ (ls : Array Slot) (H : Heap) (locs : List Loc), lv_has ls 5 [(0, .ref (ad 19 0)), (1, .int v_1), (2, .int v_2), (3, .int v_3)] → St D cy ad ns A M s.heap H locs → W p l e rm_X7_lateByDue s m args below meth c H locs 0 0 (MQ below (QC D cy ad ns A r.2 (some (.int r.1))) args s 0 0 A) (F0 m 79 ls [])) → ∀ (ls : Array Slot) (H : Heap) (locs : List Loc), lv_has ls 5 [(0, .ref (ad 19 0)), (1, .int v_1), (3, .int v_3)] → St D cy ad ns A M s.heap H locs → W p l e rm_X7_lateByDue s m args below meth c H locs 0 0 (MQ below (QC D cy ad ns A r.2 (some (.int r.1))) args s 0 0 A) (F0 m 77 ls []) := by
  obtain ⟨hx, hb, hml, hown, hts, hK, hr, hlk, hA, hG⟩ := id X
  intro hk_79 ls H locs hl hS
  unfold f_X7_lateByDue_77 at hX
  refine lv_iload_n hx hb dX7_lateByDue_77 rfl (lv_at hl 2 rfl) ?_
  refine lv_istore_n (lv' := [(2, .int v_3), (0, .ref (ad 19 0)), (1, .int v_1), (3, .int v_3)]) hx hb dX7_lateByDue_78 rfl hl (by decide) rfl (fun ls hl => ?_)
  exact hk_79 _ _ _ _ hX _ _ _ (lv_sub hl [1, 2, 0, 3] rfl) hS
set_option maxRecDepth 100000 in
set_option maxHeartbeats 4000000 in
theorem n_X7_lateByDue_79 {v_1 : Int32} (X : Cx p s m args meth c D cy ad A RX7 cX7_lateByDue 5 ((some .int))) (hN : NsC ns) {k_17 : Int32 → Int32 → Mem → Option (Int32 × Mem)} {v_2 : Int32} {v_3 : Int32} {M : Mem} {r : Int32 × Mem} (hX : f_X7_lateByDue_79 v_1 k_17 v_2 v_3 M = some r) : (∀ (v_2 : Int32) (v_3 : Int32) (M : Mem) (r : Int32 × Mem), k_17 v_2 v_3 M = some r → ∀ (ls : Array Slot) (H : Heap) (locs : List Loc), lv_has ls 5 [(0, .ref (ad 19 0)), (1, .int v_1), (2, .int v_2), (3, .int v_3)] → St D cy ad ns A M s.heap H locs → W p l e rm_X7_lateByDue s m args below meth c H locs 0 0 (MQ below (QC D cy ad ns A r.2 (some (.int r.1))) args s 0 0 A) (F0 m 17 ls [])) → ∀ (ls : Array Slot) (H : Heap) (locs : List Loc), lv_has ls 5 [(0, .ref (ad 19 0)), (1, .int v_1), (2, .int v_2), (3, .int v_3)] → St D cy ad ns A M s.heap H locs → W p l e rm_X7_lateByDue s m args below meth c H locs 0 0 (MQ below (QC D cy ad ns A r.2 (some (.int r.1))) args s 0 0 A) (F0 m 79 ls []) := by
  obtain ⟨hx, hb, hml, hown, hts, hK, hr, hlk, hA, hG⟩ := id X
  intro hk_17 ls H locs hl hS
  unfold f_X7_lateByDue_79 at hX
  obtain ⟨v1, ev1⟩ : ∃ y : Int32, y = (v_3 + nI 1) := ⟨_, rfl⟩
  have hX := nm_of ev1 hX
  refine lv_iinc (v := v1) (lv' := [(3, .int v1), (0, .ref (ad 19 0)), (1, .int v_1), (2, .int v_2)]) hx hb dX7_lateByDue_79 hl (k := 3) rfl (by rw [ev1]; rfl) (by decide) rfl (fun ls hl => ?_)
  refine lv_goto (tgt := 17) hx hb dX7_lateByDue_82 (by decide) ?_
  exact hk_17 _ _ _ _ hX _ _ _ (lv_sub hl [1, 2, 3, 0] rfl) hS
set_option maxRecDepth 100000 in
set_option maxHeartbeats 4000000 in
theorem n_X7_lateByDue_44 {v_1 : Int32} (X : Cx p s m args meth c D cy ad A RX7 cX7_lateByDue 5 ((some .int))) (hN : NsC ns) {k_17 : Int32 → Int32 → Mem → Option (Int32 × Mem)} {v_2 : Int32} {v_3 : Int32} {s_0 : Bool} {M : Mem} {r : Int32 × Mem} (hX : f_X7_lateByDue_44 v_1 k_17 v_2 v_3 s_0 M = some r) : (∀ (v_2 : Int32) (v_3 : Int32) (M : Mem) (r : Int32 × Mem), k_17 v_2 v_3 M = some r → ∀ (ls : Array Slot) (H : Heap) (locs : List Loc), lv_has ls 5 [(0, .ref (ad 19 0)), (1, .int v_1), (2, .int v_2), (3, .int v_3)] → St D cy ad ns A M s.heap H locs → W p l e rm_X7_lateByDue s m args below meth c H locs 0 0 (MQ below (QC D cy ad ns A r.2 (some (.int r.1))) args s 0 0 A) (F0 m 17 ls [])) → ∀ (ls : Array Slot) (H : Heap) (locs : List Loc), lv_has ls 5 [(0, .ref (ad 19 0)), (1, .int v_1), (2, .int v_2), (3, .int v_3)] → St D cy ad ns A M s.heap H locs → W p l e rm_X7_lateByDue s m args below meth c H locs 0 0 (MQ below (QC D cy ad ns A r.2 (some (.int r.1))) args s 0 0 A) (F0 m 44 ls [.int (b2i s_0)]) := by
  obtain ⟨hx, hb, hml, hown, hts, hK, hr, hlk, hA, hG⟩ := id X
  intro hk_17 ls H locs hl hS
  unfold f_X7_lateByDue_44 at hX
  refine lv_istore (lv' := [(4, .int (b2i s_0)), (0, .ref (ad 19 0)), (1, .int v_1), (2, .int v_2), (3, .int v_3)]) hx hb dX7_lateByDue_44 hl (by decide) rfl (fun ls hl => ?_)
  refine lv_iload hx hb dX7_lateByDue_46 (lv_at hl 0 rfl) ?_
  refine lv_if_eq (tgt := 79) hx hb dX7_lateByDue_48 (by decide) (fun c2 => ?_) (fun c2 => ?_)
  · have hX := if_bf c2 hX
    exact n_X7_lateByDue_79 X hN hX hk_17 _ _ _ (lv_sub hl [1, 2, 3, 4] rfl) hS
  · have hX := if_bt c2 hX
    refine lv_iload_n hx hb dX7_lateByDue_51 rfl (lv_at hl 3 rfl) ?_
    refine lv_iconst (v := (-1)) hx hb dX7_lateByDue_52 (by decide) ?_
    refine lv_icmp_eq (tgt := 77) hx hb dX7_lateByDue_53 (by decide) (fun c3 => ?_) (fun c3 => ?_)
    · have hX := if_t c3 hX
      exact n_X7_lateByDue_77 X hN hX (fun z0 z1 z2 r h ls H locs hl hS => n_X7_lateByDue_79 X hN h hk_17 _ _ _ hl hS) _ _ _ (lv_sub hl [1, 2, 4] rfl) hS
    · have hX := if_f c3 hX
      refine lv_aload_n hx hb dX7_lateByDue_56 rfl (lv_at hl 1 rfl) ?_
      refine fg_X7_12 X hS (o_of hN (o := 19) (c := 7) (by decide) rfl) dX7_lateByDue_57 ?_
      have q4 := wr_19 hN hS
      refine fg_X7_79 X hS q4 dX7_lateByDue_60 ?_
      refine lv_iload_n hx hb dX7_lateByDue_63 rfl (lv_at hl 4 rfl) ?_
      obtain ⟨g5, hX⟩ := gin_of hX
      refine r_iald (ci := 6) (o := (gR M 19 0)) (k := 8) (n := 6) X hS q4 rfl rfl g5 dX7_lateByDue_64 ?_
      refine lv_aload_n hx hb dX7_lateByDue_65 rfl (lv_at hl 1 rfl) ?_
      refine fg_X7_12 X hS (o_of hN (o := 19) (c := 7) (by decide) rfl) dX7_lateByDue_66 ?_
      have q6 := wr_19 hN hS
      refine fg_X7_79 X hS q6 dX7_lateByDue_69 ?_
      refine lv_iload_n hx hb dX7_lateByDue_72 rfl (lv_at hl 3 rfl) ?_
      obtain ⟨g7, hX⟩ := gin_of hX
      refine r_iald (ci := 6) (o := (gR M 19 0)) (k := 8) (n := 6) X hS q6 rfl rfl g7 dX7_lateByDue_73 ?_
      refine lv_icmp_ge (tgt := 79) hx hb dX7_lateByDue_74 (by decide) (fun c8 => ?_) (fun c8 => ?_)
      · have hX := if_t c8 hX
        exact n_X7_lateByDue_79 X hN hX hk_17 _ _ _ (lv_sub hl [1, 2, 3, 4] rfl) hS
      · have hX := if_f c8 hX
        exact n_X7_lateByDue_77 X hN hX (fun z0 z1 z2 r h ls H locs hl hS => n_X7_lateByDue_79 X hN h hk_17 _ _ _ hl hS) _ _ _ (lv_sub hl [1, 2, 4] rfl) hS
set_option maxRecDepth 100000 in
set_option maxHeartbeats 4000000 in
theorem n_X7_lateByDue_17 (X : Cx p s m args meth c D cy ad A RX7 cX7_lateByDue 5 ((some .int))) (hN : NsC ns) {k_2 : Int32 → Mem → Option (Int32 × Mem)} {v_1 : Int32} : ∀ (n : Nat) (v_2 : Int32) (v_3 : Int32) (M : Mem) (r : Int32 × Mem), f_X7_lateByDue_17 k_2 v_1 n (v_2, v_3, M) = some r → (∀ (v_1 : Int32) (M : Mem) (r : Int32 × Mem), k_2 v_1 M = some r → ∀ (ls : Array Slot) (H : Heap) (locs : List Loc), lv_has ls 5 [(0, .ref (ad 19 0)), (1, .int v_1)] → St D cy ad ns A M s.heap H locs → W p l e rm_X7_lateByDue s m args below meth c H locs 0 0 (MQ below (QC D cy ad ns A r.2 (some (.int r.1))) args s 0 0 A) (F0 m 2 ls [])) → ∀ (ls : Array Slot) (H : Heap) (locs : List Loc), lv_has ls 5 [(0, .ref (ad 19 0)), (1, .int v_1), (2, .int v_2), (3, .int v_3)] → St D cy ad ns A M s.heap H locs → W p l e rm_X7_lateByDue s m args below meth c H locs 0 0 (MQ below (QC D cy ad ns A r.2 (some (.int r.1))) args s 0 0 A) (F0 m 17 ls []) := by
  obtain ⟨hx, hb, hml, hown, hts, hK, hr, hlk, hA, hG⟩ := id X
  intro n
  induction n with
  | zero => intro v_2 v_3 M r hX; cases (show (none : Option (Int32 × Mem)) = some r from hX)
  | succ n ih =>
    intro v_2 v_3 M r hX hk_2 ls H locs hl hS
    have hX : b_X7_lateByDue_17 k_2 v_1 (fun x0 x1 x2 => f_X7_lateByDue_17 k_2 v_1 n (x0, x1, x2)) v_2 v_3 M = some r := hX
    unfold b_X7_lateByDue_17 at hX
    refine lv_iload_n hx hb dX7_lateByDue_17 rfl (lv_at hl 3 rfl) ?_
    refine lv_aload_n hx hb dX7_lateByDue_18 rfl (lv_at hl 0 rfl) ?_
    refine fg_X7_12 X hS (o_of hN (o := 19) (c := 7) (by decide) rfl) dX7_lateByDue_19 ?_
    have q9 := wr_19 hN hS
    refine fg_X7_47 X hS q9 dX7_lateByDue_22 ?_
    refine lv_icmp_ge (tgt := 85) hx hb dX7_lateByDue_25 (by decide) (fun c10 => ?_) (fun c10 => ?_)
    · have hX := if_t c10 hX
      refine lv_aload_n hx hb dX7_lateByDue_85 rfl (lv_at hl 0 rfl) ?_
      refine lv_iload_n hx hb dX7_lateByDue_86 rfl (lv_at hl 2 rfl) ?_
      obtain ⟨r13, M12, h11, hX⟩ := bp_of hX
      refine r_callV1 (v := .int (b2i r13)) (As := [.int v_2]) (rest := []) X hS (m_X7_go hN h11) mv_X7_go rfl (o_of hN (o := 19) (c := 7) (by decide) rfl) t4_196 ⟨rfl, rfl, Nat.le_of_ble_eq_true rfl, Nat.le_of_ble_eq_true rfl⟩ rfl hl.1 rfl (Nat.le_of_ble_eq_true rfl) ⟨Nat.zero_le _, Nat.zero_le _⟩ dX7_lateByDue_87 (fun H locs hS => ?_)
      refine lv_pop hx hb dX7_lateByDue_90 rfl ?_
      obtain ⟨v14, ev14⟩ : ∃ y : Int32, y = (v_1 + nI 1) := ⟨_, rfl⟩
      have hX := nm_of ev14 hX
      refine lv_iinc (v := v14) (lv' := [(1, .int v14), (0, .ref (ad 19 0)), (2, .int v_2), (3, .int v_3)]) hx hb dX7_lateByDue_91 hl (k := 1) rfl (by rw [ev14]; rfl) (by decide) rfl (fun ls hl => ?_)
      refine lv_goto (tgt := 2) hx hb dX7_lateByDue_94 (by decide) ?_
      exact hk_2 _ _ _ hX _ _ _ (lv_sub hl [1, 0] rfl) hS
    · have hX := if_f c10 hX
      refine lv_aload_n hx hb dX7_lateByDue_28 rfl (lv_at hl 0 rfl) ?_
      refine fg_X7_41 X hS (o_of hN (o := 19) (c := 7) (by decide) rfl) dX7_lateByDue_29 ?_
      refine lv_iload_n hx hb dX7_lateByDue_32 rfl (lv_at hl 3 rfl) ?_
      refine lv_ishr hx hb dX7_lateByDue_33 ?_
      refine lv_iconst (v := nI 1) hx hb dX7_lateByDue_34 (by decide) ?_
      refine lv_iand hx hb dX7_lateByDue_35 ?_
      refine lv_if_ne (tgt := 43) hx hb dX7_lateByDue_36 (by decide) (fun c15 => ?_) (fun c15 => ?_)
      · have hX := if_f c15 hX
        refine lv_iconst (v := nI 0) hx hb dX7_lateByDue_43 (by decide) ?_
        exact n_X7_lateByDue_44 X hN hX (fun z0 z1 z2 r h ls H locs hl hS => ih z0 z1 z2 r h hk_2 ls H locs hl hS) _ _ _ (lv_sub hl [0, 1, 2, 3] rfl) hS
      · have hX := if_t c15 hX
        refine lv_iconst (v := nI 1) hx hb dX7_lateByDue_39 (by decide) ?_
        refine lv_goto (tgt := 44) hx hb dX7_lateByDue_40 (by decide) ?_
        exact n_X7_lateByDue_44 X hN hX (fun z0 z1 z2 r h ls H locs hl hS => ih z0 z1 z2 r h hk_2 ls H locs hl hS) _ _ _ (lv_sub hl [0, 1, 2, 3] rfl) hS
set_option maxRecDepth 100000 in
set_option maxHeartbeats 4000000 in
theorem n_X7_lateByDue_2 (X : Cx p s m args meth c D cy ad A RX7 cX7_lateByDue 5 ((some .int))) (hN : NsC ns) : ∀ (n : Nat) (v_1 : Int32) (M : Mem) (r : Int32 × Mem), f_X7_lateByDue_2 n (v_1, M) = some r → ∀ (ls : Array Slot) (H : Heap) (locs : List Loc), lv_has ls 5 [(0, .ref (ad 19 0)), (1, .int v_1)] → St D cy ad ns A M s.heap H locs → W p l e rm_X7_lateByDue s m args below meth c H locs 0 0 (MQ below (QC D cy ad ns A r.2 (some (.int r.1))) args s 0 0 A) (F0 m 2 ls []) := by
  obtain ⟨hx, hb, hml, hown, hts, hK, hr, hlk, hA, hG⟩ := id X
  intro n
  induction n with
  | zero => intro v_1 M r hX; cases (show (none : Option (Int32 × Mem)) = some r from hX)
  | succ n ih =>
    intro v_1 M r hX ls H locs hl hS
    have hX : b_X7_lateByDue_2 (fun x0 x1 => f_X7_lateByDue_2 n (x0, x1)) v_1 M = some r := hX
    unfold b_X7_lateByDue_2 at hX
    refine lv_iload_n hx hb dX7_lateByDue_2 rfl (lv_at hl 1 rfl) ?_
    refine lv_aload_n hx hb dX7_lateByDue_3 rfl (lv_at hl 0 rfl) ?_
    refine fg_X7_12 X hS (o_of hN (o := 19) (c := 7) (by decide) rfl) dX7_lateByDue_4 ?_
    have q16 := wr_19 hN hS
    refine fg_X7_47 X hS q16 dX7_lateByDue_7 ?_
    refine lv_icmp_ge (tgt := 97) hx hb dX7_lateByDue_10 (by decide) (fun c17 => ?_) (fun c17 => ?_)
    · have hX := if_t c17 hX
      refine lv_aload_n hx hb dX7_lateByDue_97 rfl (lv_at hl 0 rfl) ?_
      obtain ⟨r19, h18, hX⟩ := bn_of hX
      refine r_callV1 (v := .int r19) (As := []) (rest := []) X hS (m_X7_lateSum hN h18) mv_X7_lateSum rfl (o_of hN (o := 19) (c := 7) (by decide) rfl) t4_175 ⟨rfl, rfl, Nat.le_of_ble_eq_true rfl, Nat.le_of_ble_eq_true rfl⟩ rfl hl.1 rfl (Nat.le_of_ble_eq_true rfl) ⟨Nat.zero_le _, Nat.zero_le _⟩ dX7_lateByDue_98 (fun H locs hS => ?_)
      obtain rfl := some_of hX
      exact x_I (v := r19) X hS dX7_lateByDue_101
    · have hX := if_f c17 hX
      refine lv_iconst (v := (-1)) hx hb dX7_lateByDue_13 (by decide) ?_
      refine lv_istore_n (lv' := [(2, .int (-1)), (0, .ref (ad 19 0)), (1, .int v_1)]) hx hb dX7_lateByDue_14 rfl hl (by decide) rfl (fun ls hl => ?_)
      refine lv_iconst (v := nI 0) hx hb dX7_lateByDue_15 (by decide) ?_
      refine lv_istore_n (lv' := [(3, .int (nI 0)), (2, .int (-1)), (0, .ref (ad 19 0)), (1, .int v_1)]) hx hb dX7_lateByDue_16 rfl hl (by decide) rfl (fun ls hl => ?_)
      exact n_X7_lateByDue_17 X hN _ _ _ _ _ hX (fun z0 z1 r h ls H locs hl hS => ih z0 z1 r h ls H locs hl hS) _ _ _ (lv_sub hl [2, 3, 1, 0] rfl) hS
set_option maxRecDepth 100000 in
set_option maxHeartbeats 4000000 in
theorem m_X7_lateByDue {l : Launch} {D : va_G} {cy : Nat → ClassId} {ad : Nat → Nat → Nat} {ns : List (Nat × Nat)} {A : Nat → Prop} {M : Mem} (hN : NsC ns) {r : Int32 × Mem} (hX : f_X7_lateByDue M = some r) : Ct l yX7_lateByDue cX7_lateByDue 5 ((some .int)) rm_X7_lateByDue D cy ad ns A [.ref (ad 19 0)] M r.2 (some (.int r.1)) := by
  refine ct_of (lv := [(0, .ref (ad 19 0))]) (by decide) (Nat.le_of_ble_eq_true rfl) rfl ?_
  intro p e s m args below meth c ls X hl hS
  obtain ⟨hx, hb, hml, hown, hts, hK, hr, hlk, hA, hG⟩ := id X
  obtain ⟨H, hH⟩ : ∃ z, z = s.heap := ⟨_, rfl⟩
  obtain ⟨locs, hlo⟩ : ∃ z : List Loc, z = [] := ⟨_, rfl⟩
  have hS : St D cy ad ns A M s.heap H locs := by rw [hH, hlo]; exact hS
  have hgoal : W p l e rm_X7_lateByDue s m args below meth c H locs 0 0 (MQ below (QC D cy ad ns A r.2 (some (.int r.1))) args s 0 0 A) (F0 m 0 ls []) := by
    unfold f_X7_lateByDue at hX
    refine lv_iconst (v := nI 0) hx hb dX7_lateByDue_0 (by decide) ?_
    refine lv_istore_n (lv' := [(1, .int (nI 0)), (0, .ref (ad 19 0))]) hx hb dX7_lateByDue_1 rfl hl (by decide) rfl (fun ls hl => ?_)
    exact n_X7_lateByDue_2 X hN _ _ _ _ hX _ _ _ (lv_sub hl [1, 0] rfl) hS
  rw [hH, hlo] at hgoal
  exact hgoal
theorem mv_X7_lateByDue : Mv yX7_lateByDue RX7 cX7_lateByDue 5 ((some .int)) 0 := ⟨t4_214, t4_212, t4_213, t1_10, ⟨by decide, by decide⟩, by decide +kernel⟩
end MT_19_X7
