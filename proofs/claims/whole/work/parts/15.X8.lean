section FR_15_X8
variable {p : Program} {l : Launch} {e : Env} {R : Room} {s : State} {m : MethodId} {args : Array Value} {below : List Frame} {meth : Method} {c : Code} {H : Heap} {locs : List Loc} {cells slots : Nat} {Q : State → Prop} {D : va_G} {cy : Nat → ClassId} {ad : Nat → Nat → Nat} {ns : List (Nat × Nat)} {A : Nat → Prop} {M M' : Mem} {cc : ByteArray} {nL : Nat} {ret : Option FieldType} {pc : Nat} {ls : Array Slot} {rest : List Value}
theorem fg_X8_12 (X : Cx p s m args meth c D cy ad A RX8 cc nL ret) (hS : St D cy ad ns A M s.heap H locs) (ho : Ob ns 8 15) (hdg : decode cc pc = .ok (.getfield 12, 3)) (kk : W p l e R s m args below meth c H locs cells slots Q (F0 m (pc + 3) ls (.ref (ad (gR M 15 0) 0) :: rest))) : W p l e R s m args below meth c H locs cells slots Q (F0 m pc ls (.ref (ad 15 0) :: rest)) := r_get X hS (C := RX8) (T := TX8) (N := 9) (k := 0) tf8 rfl rfl ho (by decide) t2_58 ⟨rfl, rfl, rfl⟩ rfl hdg kk
theorem fp_X8_12 (X : Cx p s m args meth c D cy ad A RX8 cc nL ret) (hS : St D cy ad ns A M s.heap H locs) (ho : Ob ns 8 15) (hN : NsC ns) {u : Nat} (hu : Ob ns 0 u) (hdg : decode cc pc = .ok (.putfield 12, 3)) (kk : ∀ (H1 : Heap) (locs1 : List Loc), St D cy ad ns A (sR M 15 0 u) s.heap H1 locs1 → W p l e R s m args below meth c H1 locs1 cells slots Q (F0 m (pc + 3) ls rest)) : W p l e R s m args below meth c H locs cells slots Q (F0 m pc ls (.ref (ad u 0) :: .ref (ad 15 0) :: rest)) := r_put X hS (C := RX8) (T := TX8) (N := 9) (k := 0) tf8 rfl rfl tyX8 tyX8_ok nmX8 ho (by decide) t2_58 ⟨rfl, rfl, rfl⟩ rfl (ty := (.object "SewnYear$Coat")) (by decide +kernel) rfl rfl (wr_sR15 hN hS.1.2.2 hu) (cel_sR (by decide) rfl) (fun q hq => cel_sR' hq) hdg kk
theorem fg_X8_18 (X : Cx p s m args meth c D cy ad A RX8 cc nL ret) (hS : St D cy ad ns A M s.heap H locs) (ho : Ob ns 8 15) (hdg : decode cc pc = .ok (.getfield 18, 3)) (kk : W p l e R s m args below meth c H locs cells slots Q (F0 m (pc + 3) ls (.ref (ad 15 (7 + 1)) :: rest))) : W p l e R s m args below meth c H locs cells slots Q (F0 m pc ls (.ref (ad 15 0) :: rest)) := r_get X hS (C := RX8) (T := TX8) (N := 9) (k := 7) tf8 rfl rfl ho (by decide) t2_65 ⟨rfl, rfl, rfl⟩ rfl hdg kk
theorem fg_X8_22 (X : Cx p s m args meth c D cy ad A RX8 cc nL ret) (hS : St D cy ad ns A M s.heap H locs) (ho : Ob ns 8 15) (hdg : decode cc pc = .ok (.getfield 22, 3)) (kk : W p l e R s m args below meth c H locs cells slots Q (F0 m (pc + 3) ls (.ref (ad 15 (8 + 1)) :: rest))) : W p l e R s m args below meth c H locs cells slots Q (F0 m pc ls (.ref (ad 15 0) :: rest)) := r_get X hS (C := RX8) (T := TX8) (N := 9) (k := 8) tf8 rfl rfl ho (by decide) t2_66 ⟨rfl, rfl, rfl⟩ rfl hdg kk
theorem fg_X8_25 (X : Cx p s m args meth c D cy ad A RX8 cc nL ret) (hS : St D cy ad ns A M s.heap H locs) (ho : Ob ns 8 15) (hdg : decode cc pc = .ok (.getfield 25, 3)) (kk : W p l e R s m args below meth c H locs cells slots Q (F0 m (pc + 3) ls (.int (gI M 15 1) :: rest))) : W p l e R s m args below meth c H locs cells slots Q (F0 m pc ls (.ref (ad 15 0) :: rest)) := r_get X hS (C := RX8) (T := TX8) (N := 9) (k := 1) tf8 rfl rfl ho (by decide) t2_59 ⟨rfl, rfl, rfl⟩ rfl hdg kk
theorem fp_X8_25 (X : Cx p s m args meth c D cy ad A RX8 cc nL ret) (hS : St D cy ad ns A M s.heap H locs) (ho : Ob ns 8 15) {v : Int32} (hdg : decode cc pc = .ok (.putfield 25, 3)) (kk : ∀ (H1 : Heap) (locs1 : List Loc), St D cy ad ns A (sI M 15 1 v) s.heap H1 locs1 → W p l e R s m args below meth c H1 locs1 cells slots Q (F0 m (pc + 3) ls rest)) : W p l e R s m args below meth c H locs cells slots Q (F0 m pc ls (.int v :: .ref (ad 15 0) :: rest)) := r_put X hS (C := RX8) (T := TX8) (N := 9) (k := 1) tf8 rfl rfl tyX8 tyX8_ok nmX8 ho (by decide) t2_59 ⟨rfl, rfl, rfl⟩ rfl (ty := .int) (by decide +kernel) rfl rfl (wr_sI hS.1.2.2) (cel_sI (by decide) rfl) (fun q hq => cel_sI' hq) hdg kk
theorem fg_X8_29 (X : Cx p s m args meth c D cy ad A RX8 cc nL ret) (hS : St D cy ad ns A M s.heap H locs) {o : Nat} (ho : Ob ns 0 o) (hdg : decode cc pc = .ok (.getfield 29, 3)) (kk : W p l e R s m args below meth c H locs cells slots Q (F0 m (pc + 3) ls (.ref (ad o (6 + 1)) :: rest))) : W p l e R s m args below meth c H locs cells slots Q (F0 m pc ls (.ref (ad o 0) :: rest)) := r_get X hS (C := RX0) (T := TX0) (N := 7) (k := 6) tf0 rfl rfl ho (by decide) t1_64 ⟨rfl, rfl, rfl⟩ (by unfold fv; rw [ho.1]; rfl) hdg kk
theorem fg_X8_32 (X : Cx p s m args meth c D cy ad A RX8 cc nL ret) (hS : St D cy ad ns A M s.heap H locs) (ho : Ob ns 8 15) (hdg : decode cc pc = .ok (.getfield 32, 3)) (kk : W p l e R s m args below meth c H locs cells slots Q (F0 m (pc + 3) ls (.int (gI M 15 2) :: rest))) : W p l e R s m args below meth c H locs cells slots Q (F0 m pc ls (.ref (ad 15 0) :: rest)) := r_get X hS (C := RX8) (T := TX8) (N := 9) (k := 2) tf8 rfl rfl ho (by decide) t2_60 ⟨rfl, rfl, rfl⟩ rfl hdg kk
theorem fp_X8_32 (X : Cx p s m args meth c D cy ad A RX8 cc nL ret) (hS : St D cy ad ns A M s.heap H locs) (ho : Ob ns 8 15) {v : Int32} (hdg : decode cc pc = .ok (.putfield 32, 3)) (kk : ∀ (H1 : Heap) (locs1 : List Loc), St D cy ad ns A (sI M 15 2 v) s.heap H1 locs1 → W p l e R s m args below meth c H1 locs1 cells slots Q (F0 m (pc + 3) ls rest)) : W p l e R s m args below meth c H locs cells slots Q (F0 m pc ls (.int v :: .ref (ad 15 0) :: rest)) := r_put X hS (C := RX8) (T := TX8) (N := 9) (k := 2) tf8 rfl rfl tyX8 tyX8_ok nmX8 ho (by decide) t2_60 ⟨rfl, rfl, rfl⟩ rfl (ty := .int) (by decide +kernel) rfl rfl (wr_sI hS.1.2.2) (cel_sI (by decide) rfl) (fun q hq => cel_sI' hq) hdg kk
theorem fg_X8_35 (X : Cx p s m args meth c D cy ad A RX8 cc nL ret) (hS : St D cy ad ns A M s.heap H locs) (ho : Ob ns 8 15) (hdg : decode cc pc = .ok (.getfield 35, 3)) (kk : W p l e R s m args below meth c H locs cells slots Q (F0 m (pc + 3) ls (.int (gI M 15 3) :: rest))) : W p l e R s m args below meth c H locs cells slots Q (F0 m pc ls (.ref (ad 15 0) :: rest)) := r_get X hS (C := RX8) (T := TX8) (N := 9) (k := 3) tf8 rfl rfl ho (by decide) t2_61 ⟨rfl, rfl, rfl⟩ rfl hdg kk
theorem fp_X8_35 (X : Cx p s m args meth c D cy ad A RX8 cc nL ret) (hS : St D cy ad ns A M s.heap H locs) (ho : Ob ns 8 15) {v : Int32} (hdg : decode cc pc = .ok (.putfield 35, 3)) (kk : ∀ (H1 : Heap) (locs1 : List Loc), St D cy ad ns A (sI M 15 3 v) s.heap H1 locs1 → W p l e R s m args below meth c H1 locs1 cells slots Q (F0 m (pc + 3) ls rest)) : W p l e R s m args below meth c H locs cells slots Q (F0 m pc ls (.int v :: .ref (ad 15 0) :: rest)) := r_put X hS (C := RX8) (T := TX8) (N := 9) (k := 3) tf8 rfl rfl tyX8 tyX8_ok nmX8 ho (by decide) t2_61 ⟨rfl, rfl, rfl⟩ rfl (ty := .int) (by decide +kernel) rfl rfl (wr_sI hS.1.2.2) (cel_sI (by decide) rfl) (fun q hq => cel_sI' hq) hdg kk
theorem fg_X8_38 (X : Cx p s m args meth c D cy ad A RX8 cc nL ret) (hS : St D cy ad ns A M s.heap H locs) (ho : Ob ns 8 15) (hdg : decode cc pc = .ok (.getfield 38, 3)) (kk : W p l e R s m args below meth c H locs cells slots Q (F0 m (pc + 3) ls (.int (gI M 15 4) :: rest))) : W p l e R s m args below meth c H locs cells slots Q (F0 m pc ls (.ref (ad 15 0) :: rest)) := r_get X hS (C := RX8) (T := TX8) (N := 9) (k := 4) tf8 rfl rfl ho (by decide) t2_62 ⟨rfl, rfl, rfl⟩ rfl hdg kk
theorem fp_X8_38 (X : Cx p s m args meth c D cy ad A RX8 cc nL ret) (hS : St D cy ad ns A M s.heap H locs) (ho : Ob ns 8 15) {v : Int32} (hdg : decode cc pc = .ok (.putfield 38, 3)) (kk : ∀ (H1 : Heap) (locs1 : List Loc), St D cy ad ns A (sI M 15 4 v) s.heap H1 locs1 → W p l e R s m args below meth c H1 locs1 cells slots Q (F0 m (pc + 3) ls rest)) : W p l e R s m args below meth c H locs cells slots Q (F0 m pc ls (.int v :: .ref (ad 15 0) :: rest)) := r_put X hS (C := RX8) (T := TX8) (N := 9) (k := 4) tf8 rfl rfl tyX8 tyX8_ok nmX8 ho (by decide) t2_62 ⟨rfl, rfl, rfl⟩ rfl (ty := .int) (by decide +kernel) rfl rfl (wr_sI hS.1.2.2) (cel_sI (by decide) rfl) (fun q hq => cel_sI' hq) hdg kk
theorem fg_X8_41 (X : Cx p s m args meth c D cy ad A RX8 cc nL ret) (hS : St D cy ad ns A M s.heap H locs) (ho : Ob ns 8 15) (hdg : decode cc pc = .ok (.getfield 41, 3)) (kk : W p l e R s m args below meth c H locs cells slots Q (F0 m (pc + 3) ls (.int (gI M 15 5) :: rest))) : W p l e R s m args below meth c H locs cells slots Q (F0 m pc ls (.ref (ad 15 0) :: rest)) := r_get X hS (C := RX8) (T := TX8) (N := 9) (k := 5) tf8 rfl rfl ho (by decide) t2_63 ⟨rfl, rfl, rfl⟩ rfl hdg kk
theorem fp_X8_41 (X : Cx p s m args meth c D cy ad A RX8 cc nL ret) (hS : St D cy ad ns A M s.heap H locs) (ho : Ob ns 8 15) {v : Int32} (hdg : decode cc pc = .ok (.putfield 41, 3)) (kk : ∀ (H1 : Heap) (locs1 : List Loc), St D cy ad ns A (sI M 15 5 v) s.heap H1 locs1 → W p l e R s m args below meth c H1 locs1 cells slots Q (F0 m (pc + 3) ls rest)) : W p l e R s m args below meth c H locs cells slots Q (F0 m pc ls (.int v :: .ref (ad 15 0) :: rest)) := r_put X hS (C := RX8) (T := TX8) (N := 9) (k := 5) tf8 rfl rfl tyX8 tyX8_ok nmX8 ho (by decide) t2_63 ⟨rfl, rfl, rfl⟩ rfl (ty := .int) (by decide +kernel) rfl rfl (wr_sI hS.1.2.2) (cel_sI (by decide) rfl) (fun q hq => cel_sI' hq) hdg kk
theorem fg_X8_54 (X : Cx p s m args meth c D cy ad A RX8 cc nL ret) (hS : St D cy ad ns A M s.heap H locs) {o : Nat} (ho : Ob ns 1 o) (hdg : decode cc pc = .ok (.getfield 54, 3)) (kk : W p l e R s m args below meth c H locs cells slots Q (F0 m (pc + 3) ls (.int (gI M o 0) :: rest))) : W p l e R s m args below meth c H locs cells slots Q (F0 m pc ls (.ref (ad o 0) :: rest)) := r_get X hS (C := RX1) (T := TX1) (N := 3) (k := 0) tf1 rfl rfl ho (by decide) t1_94 ⟨rfl, rfl, rfl⟩ (by unfold fv; rw [ho.1]; rfl) hdg kk
theorem fg_X8_59 (X : Cx p s m args meth c D cy ad A RX8 cc nL ret) (hS : St D cy ad ns A M s.heap H locs) {o : Nat} (ho : Ob ns 1 o) (hdg : decode cc pc = .ok (.getfield 59, 3)) (kk : W p l e R s m args below meth c H locs cells slots Q (F0 m (pc + 3) ls (.ref (ad o (1 + 1)) :: rest))) : W p l e R s m args below meth c H locs cells slots Q (F0 m pc ls (.ref (ad o 0) :: rest)) := r_get X hS (C := RX1) (T := TX1) (N := 3) (k := 1) tf1 rfl rfl ho (by decide) t1_97 ⟨rfl, rfl, rfl⟩ (by unfold fv; rw [ho.1]; rfl) hdg kk
theorem fg_X8_62 (X : Cx p s m args meth c D cy ad A RX8 cc nL ret) (hS : St D cy ad ns A M s.heap H locs) {o : Nat} (ho : Ob ns 1 o) (hdg : decode cc pc = .ok (.getfield 62, 3)) (kk : W p l e R s m args below meth c H locs cells slots Q (F0 m (pc + 3) ls (.ref (ad o (2 + 1)) :: rest))) : W p l e R s m args below meth c H locs cells slots Q (F0 m pc ls (.ref (ad o 0) :: rest)) := r_get X hS (C := RX1) (T := TX1) (N := 3) (k := 2) tf1 rfl rfl ho (by decide) t1_99 ⟨rfl, rfl, rfl⟩ (by unfold fv; rw [ho.1]; rfl) hdg kk
theorem fg_X8_75 (X : Cx p s m args meth c D cy ad A RX8 cc nL ret) (hS : St D cy ad ns A M s.heap H locs) (ho : Ob ns 8 15) (hdg : decode cc pc = .ok (.getfield 75, 3)) (kk : W p l e R s m args below meth c H locs cells slots Q (F0 m (pc + 3) ls (.int (gI M 15 6) :: rest))) : W p l e R s m args below meth c H locs cells slots Q (F0 m pc ls (.ref (ad 15 0) :: rest)) := r_get X hS (C := RX8) (T := TX8) (N := 9) (k := 6) tf8 rfl rfl ho (by decide) t2_64 ⟨rfl, rfl, rfl⟩ rfl hdg kk
theorem fp_X8_75 (X : Cx p s m args meth c D cy ad A RX8 cc nL ret) (hS : St D cy ad ns A M s.heap H locs) (ho : Ob ns 8 15) {v : Int32} (hdg : decode cc pc = .ok (.putfield 75, 3)) (kk : ∀ (H1 : Heap) (locs1 : List Loc), St D cy ad ns A (sI M 15 6 v) s.heap H1 locs1 → W p l e R s m args below meth c H1 locs1 cells slots Q (F0 m (pc + 3) ls rest)) : W p l e R s m args below meth c H locs cells slots Q (F0 m pc ls (.int v :: .ref (ad 15 0) :: rest)) := r_put X hS (C := RX8) (T := TX8) (N := 9) (k := 6) tf8 rfl rfl tyX8 tyX8_ok nmX8 ho (by decide) t2_64 ⟨rfl, rfl, rfl⟩ rfl (ty := .int) (by decide +kernel) rfl rfl (wr_sI hS.1.2.2) (cel_sI (by decide) rfl) (fun q hq => cel_sI' hq) hdg kk
theorem fg_X8_82 (X : Cx p s m args meth c D cy ad A RX8 cc nL ret) (hS : St D cy ad ns A M s.heap H locs) {o : Nat} (ho : Ob ns 0 o) (hdg : decode cc pc = .ok (.getfield 82, 3)) (kk : W p l e R s m args below meth c H locs cells slots Q (F0 m (pc + 3) ls (.int (gI M o 0) :: rest))) : W p l e R s m args below meth c H locs cells slots Q (F0 m pc ls (.ref (ad o 0) :: rest)) := r_get X hS (C := RX0) (T := TX0) (N := 7) (k := 0) tf0 rfl rfl ho (by decide) t1_44 ⟨rfl, rfl, rfl⟩ (by unfold fv; rw [ho.1]; rfl) hdg kk
theorem fg_X8_109 (X : Cx p s m args meth c D cy ad A RX8 cc nL ret) (hS : St D cy ad ns A M s.heap H locs) {o : Nat} (ho : Ob ns 0 o) (hdg : decode cc pc = .ok (.getfield 109, 3)) (kk : W p l e R s m args below meth c H locs cells slots Q (F0 m (pc + 3) ls (.int (gI M o 1) :: rest))) : W p l e R s m args below meth c H locs cells slots Q (F0 m pc ls (.ref (ad o 0) :: rest)) := r_get X hS (C := RX0) (T := TX0) (N := 7) (k := 1) tf0 rfl rfl ho (by decide) t1_48 ⟨rfl, rfl, rfl⟩ (by unfold fv; rw [ho.1]; rfl) hdg kk
theorem fg_X8_112 (X : Cx p s m args meth c D cy ad A RX8 cc nL ret) (hS : St D cy ad ns A M s.heap H locs) {o : Nat} (ho : Ob ns 0 o) (hdg : decode cc pc = .ok (.getfield 112, 3)) (kk : W p l e R s m args below meth c H locs cells slots Q (F0 m (pc + 3) ls (.ref (ad o (5 + 1)) :: rest))) : W p l e R s m args below meth c H locs cells slots Q (F0 m pc ls (.ref (ad o 0) :: rest)) := r_get X hS (C := RX0) (T := TX0) (N := 7) (k := 5) tf0 rfl rfl ho (by decide) t1_62 ⟨rfl, rfl, rfl⟩ (by unfold fv; rw [ho.1]; rfl) hdg kk
theorem fg_X8_123 (X : Cx p s m args meth c D cy ad A RX8 cc nL ret) (hS : St D cy ad ns A M s.heap H locs) {o : Nat} (ho : Ob ns 0 o) (hdg : decode cc pc = .ok (.getfield 123, 3)) (kk : W p l e R s m args below meth c H locs cells slots Q (F0 m (pc + 3) ls (.ref (ad o (4 + 1)) :: rest))) : W p l e R s m args below meth c H locs cells slots Q (F0 m pc ls (.ref (ad o 0) :: rest)) := r_get X hS (C := RX0) (T := TX0) (N := 7) (k := 4) tf0 rfl rfl ho (by decide) t1_57 ⟨rfl, rfl, rfl⟩ (by unfold fv; rw [ho.1]; rfl) hdg kk
theorem fg_X8_126 (X : Cx p s m args meth c D cy ad A RX8 cc nL ret) (hS : St D cy ad ns A M s.heap H locs) {o : Nat} (ho : Ob ns 0 o) (hdg : decode cc pc = .ok (.getfield 126, 3)) (kk : W p l e R s m args below meth c H locs cells slots Q (F0 m (pc + 3) ls (.ref (ad o (2 + 1)) :: rest))) : W p l e R s m args below meth c H locs cells slots Q (F0 m pc ls (.ref (ad o 0) :: rest)) := r_get X hS (C := RX0) (T := TX0) (N := 7) (k := 2) tf0 rfl rfl ho (by decide) t1_52 ⟨rfl, rfl, rfl⟩ (by unfold fv; rw [ho.1]; rfl) hdg kk
end FR_15_X8
section MT_15_X8
variable {p : Program} {l : Launch} {e : Env} {s : State} {m : MethodId} {args : Array Value} {below : List Frame} {meth : Method} {c : Code} {D : va_G} {cy : Nat → ClassId} {ad : Nat → Nat → Nat} {ns : List (Nat × Nat)} {A : Nat → Prop}
/-! SewnYear$Wear.begin(LSewnYear$Coat;)V -/
def rm_X8_begin : Room := { frames := 1, cells := 0, slots := 0, locals := 23 }
def f_X8_begin (M : Mem) (a1 : Nat) : Option (Mem) :=
  nm (sR M 15 0 a1) fun M1 => nm (sI M1 15 1 (nI 0)) fun M2 => gin (nI 0) 100 <| nm (sI M2 15 2 (gA M2 a1 6 (ix (nI 0)))) fun M4 => nm (sI M4 15 3 (nI 0)) fun M5 => nm (sI M5 15 4 (nI 0)) fun M6 => nm (sI M6 15 5 (nI 0)) fun M7 => nm (flA M7 15 7 9 (nI 0)) fun M8 => nm (flA M8 15 8 9 (nI 0)) fun M9 => some M9
set_option maxRecDepth 100000 in
set_option maxHeartbeats 4000000 in
theorem m_X8_begin {l : Launch} {D : va_G} {cy : Nat → ClassId} {ad : Nat → Nat → Nat} {ns : List (Nat × Nat)} {A : Nat → Prop} {M : Mem} (hN : NsC ns) {a1 : Nat} (ha1 : Ob ns 0 a1) {r : Mem} (hX : f_X8_begin M a1 = some r) : Ct l yX8_begin cX8_begin 2 ((none : Option Jvm.ClassFile.FieldType)) rm_X8_begin D cy ad ns A [.ref (ad 15 0), .ref (ad a1 0)] M r none := by
  refine ct_of (lv := [(0, .ref (ad 15 0)), (1, .ref (ad a1 0))]) (by decide) (Nat.le_of_ble_eq_true rfl) rfl ?_
  intro p e s m args below meth c ls X hl hS
  obtain ⟨hx, hb, hml, hown, hts, hK, hr, hlk, hA, hG⟩ := id X
  obtain ⟨H, hH⟩ : ∃ z, z = s.heap := ⟨_, rfl⟩
  obtain ⟨locs, hlo⟩ : ∃ z : List Loc, z = [] := ⟨_, rfl⟩
  have hS : St D cy ad ns A M s.heap H locs := by rw [hH, hlo]; exact hS
  have hgoal : W p l e rm_X8_begin s m args below meth c H locs 0 0 (MQ below (QC D cy ad ns A r none) args s 0 0 A) (F0 m 0 ls []) := by
    unfold f_X8_begin at hX
    refine lv_aload_n hx hb dX8_begin_0 rfl (lv_at hl 0 rfl) ?_
    refine lv_aload_n hx hb dX8_begin_1 rfl (lv_at hl 1 rfl) ?_
    refine fp_X8_12 X hS (o_of hN (o := 15) (c := 8) (by decide) rfl) hN ha1 dX8_begin_2 (fun H locs hS => ?_)
    obtain ⟨M1, eM1, hS, hX⟩ := nm_mem hS hX
    refine lv_aload_n hx hb dX8_begin_5 rfl (lv_at hl 0 rfl) ?_
    refine lv_iconst (v := nI 0) hx hb dX8_begin_6 (by decide) ?_
    refine fp_X8_25 X hS (o_of hN (o := 15) (c := 8) (by decide) rfl) dX8_begin_7 (fun H locs hS => ?_)
    obtain ⟨M2, eM2, hS, hX⟩ := nm_mem hS hX
    refine lv_aload_n hx hb dX8_begin_10 rfl (lv_at hl 0 rfl) ?_
    refine lv_aload_n hx hb dX8_begin_11 rfl (lv_at hl 1 rfl) ?_
    refine fg_X8_29 X hS ha1 dX8_begin_12 ?_
    refine lv_iconst (v := nI 0) hx hb dX8_begin_15 (by decide) ?_
    obtain ⟨g3, hX⟩ := gin_of hX
    refine r_iald (ci := 0) (o := a1) (k := 6) (n := 100) X hS ha1 rfl rfl g3 dX8_begin_16 ?_
    refine fp_X8_32 X hS (o_of hN (o := 15) (c := 8) (by decide) rfl) dX8_begin_17 (fun H locs hS => ?_)
    obtain ⟨M4, eM4, hS, hX⟩ := nm_mem hS hX
    refine lv_aload_n hx hb dX8_begin_20 rfl (lv_at hl 0 rfl) ?_
    refine lv_iconst (v := nI 0) hx hb dX8_begin_21 (by decide) ?_
    refine fp_X8_35 X hS (o_of hN (o := 15) (c := 8) (by decide) rfl) dX8_begin_22 (fun H locs hS => ?_)
    obtain ⟨M5, eM5, hS, hX⟩ := nm_mem hS hX
    refine lv_aload_n hx hb dX8_begin_25 rfl (lv_at hl 0 rfl) ?_
    refine lv_iconst (v := nI 0) hx hb dX8_begin_26 (by decide) ?_
    refine fp_X8_38 X hS (o_of hN (o := 15) (c := 8) (by decide) rfl) dX8_begin_27 (fun H locs hS => ?_)
    obtain ⟨M6, eM6, hS, hX⟩ := nm_mem hS hX
    refine lv_aload_n hx hb dX8_begin_30 rfl (lv_at hl 0 rfl) ?_
    refine lv_iconst (v := nI 0) hx hb dX8_begin_31 (by decide) ?_
    refine fp_X8_41 X hS (o_of hN (o := 15) (c := 8) (by decide) rfl) dX8_begin_32 (fun H locs hS => ?_)
    obtain ⟨M7, eM7, hS, hX⟩ := nm_mem hS hX
    refine lv_aload_n hx hb dX8_begin_35 rfl (lv_at hl 0 rfl) ?_
    refine fg_X8_18 X hS (o_of hN (o := 15) (c := 8) (by decide) rfl) dX8_begin_36 ?_
    refine lv_iconst (v := nI 0) hx hb dX8_begin_39 (by decide) ?_
    refine r_callS0 (As := [.ref (ad 15 (7 + 1)), .int (nI 0)]) (rest := []) X hS (m_fill (o_of hN (o := 15) (c := 8) (by decide) rfl) (k := 7) rfl rfl (by decide)) ms_fill t3_219 ⟨rfl, rfl, Nat.le_of_ble_eq_true rfl, Nat.le_of_ble_eq_true rfl⟩ rfl hl.1 rfl (Nat.le_of_ble_eq_true rfl) ⟨Nat.zero_le _, Nat.zero_le _⟩ dX8_begin_40 (fun H locs hS => ?_)
    obtain ⟨M8, eM8, hS, hX⟩ := nm_mem hS hX
    refine lv_aload_n hx hb dX8_begin_43 rfl (lv_at hl 0 rfl) ?_
    refine fg_X8_22 X hS (o_of hN (o := 15) (c := 8) (by decide) rfl) dX8_begin_44 ?_
    refine lv_iconst (v := nI 0) hx hb dX8_begin_47 (by decide) ?_
    refine r_callS0 (As := [.ref (ad 15 (8 + 1)), .int (nI 0)]) (rest := []) X hS (m_fill (o_of hN (o := 15) (c := 8) (by decide) rfl) (k := 8) rfl rfl (by decide)) ms_fill t3_219 ⟨rfl, rfl, Nat.le_of_ble_eq_true rfl, Nat.le_of_ble_eq_true rfl⟩ rfl hl.1 rfl (Nat.le_of_ble_eq_true rfl) ⟨Nat.zero_le _, Nat.zero_le _⟩ dX8_begin_48 (fun H locs hS => ?_)
    obtain ⟨M9, eM9, hS, hX⟩ := nm_mem hS hX
    obtain rfl := some_of hX
    exact x_V X hS dX8_begin_51
  rw [hH, hlo] at hgoal
  exact hgoal
theorem mv_X8_begin : Mv yX8_begin RX8 cX8_begin 2 ((none : Option Jvm.ClassFile.FieldType)) 1 := ⟨t3_218, t3_216, t3_217, t1_8, ⟨by decide, by decide⟩, by decide +kernel⟩
/-! SewnYear$Wear.isWhole(I)Z -/
def rm_X8_isWhole : Room := { frames := 1, cells := 0, slots := 0, locals := 21 }
def f_X8_isWhole (M : Mem) (a1 : Int32) : Option (Bool) :=
  bn (f_X0_hasSeam M (gR M 15 0) a1) fun r3 => if r3 = true then (gin a1 9 <| gin a1 9 <| if (gA M 15 7 (ix a1)) = (gA M (gR M 15 0) 2 (ix a1)) then (some true) else (some false)) else (some false)
set_option maxRecDepth 100000 in
set_option maxHeartbeats 4000000 in
theorem m_X8_isWhole {l : Launch} {D : va_G} {cy : Nat → ClassId} {ad : Nat → Nat → Nat} {ns : List (Nat × Nat)} {A : Nat → Prop} {M : Mem} (hN : NsC ns) {a1 : Int32} {r : Bool} (hX : f_X8_isWhole M a1 = some r) : Ct l yX8_isWhole cX8_isWhole 2 ((some .boolean)) rm_X8_isWhole D cy ad ns A [.ref (ad 15 0), .int a1] M M (some (.int (b2i r))) := by
  refine ct_of (lv := [(0, .ref (ad 15 0)), (1, .int a1)]) (by decide) (Nat.le_of_ble_eq_true rfl) rfl ?_
  intro p e s m args below meth c ls X hl hS
  obtain ⟨hx, hb, hml, hown, hts, hK, hr, hlk, hA, hG⟩ := id X
  obtain ⟨H, hH⟩ : ∃ z, z = s.heap := ⟨_, rfl⟩
  obtain ⟨locs, hlo⟩ : ∃ z : List Loc, z = [] := ⟨_, rfl⟩
  have hS : St D cy ad ns A M s.heap H locs := by rw [hH, hlo]; exact hS
  have hgoal : W p l e rm_X8_isWhole s m args below meth c H locs 0 0 (MQ below (QC D cy ad ns A M (some (.int (b2i r)))) args s 0 0 A) (F0 m 0 ls []) := by
    unfold f_X8_isWhole at hX
    refine lv_aload_n hx hb dX8_isWhole_0 rfl (lv_at hl 0 rfl) ?_
    refine fg_X8_12 X hS (o_of hN (o := 15) (c := 8) (by decide) rfl) dX8_isWhole_1 ?_
    have q1 := wr_15 hN hS
    refine lv_iload_n hx hb dX8_isWhole_4 rfl (lv_at hl 1 rfl) ?_
    obtain ⟨r3, h2, hX⟩ := bn_of hX
    refine r_callV1 (v := .int (b2i r3)) (As := [.int a1]) (rest := []) X hS (m_X0_hasSeam hN q1 h2) mv_X0_hasSeam rfl q1 t3_228 ⟨rfl, rfl, Nat.le_of_ble_eq_true rfl, Nat.le_of_ble_eq_true rfl⟩ rfl hl.1 rfl (Nat.le_of_ble_eq_true rfl) ⟨Nat.zero_le _, Nat.zero_le _⟩ dX8_isWhole_5 (fun H locs hS => ?_)
    refine lv_if_eq (tgt := 33) hx hb dX8_isWhole_8 (by decide) (fun c4 => ?_) (fun c4 => ?_)
    · have hX := if_bf c4 hX
      refine lv_iconst (v := nI 0) hx hb dX8_isWhole_33 (by decide) ?_
      obtain rfl := some_of hX
      exact x_Z (v := false) X hS dX8_isWhole_34
    · have hX := if_bt c4 hX
      refine lv_aload_n hx hb dX8_isWhole_11 rfl (lv_at hl 0 rfl) ?_
      refine fg_X8_18 X hS (o_of hN (o := 15) (c := 8) (by decide) rfl) dX8_isWhole_12 ?_
      refine lv_iload_n hx hb dX8_isWhole_15 rfl (lv_at hl 1 rfl) ?_
      obtain ⟨g5, hX⟩ := gin_of hX
      refine r_iald (ci := 8) (o := 15) (k := 7) (n := 9) X hS (o_of hN (o := 15) (c := 8) (by decide) rfl) rfl rfl g5 dX8_isWhole_16 ?_
      refine lv_aload_n hx hb dX8_isWhole_17 rfl (lv_at hl 0 rfl) ?_
      refine fg_X8_12 X hS (o_of hN (o := 15) (c := 8) (by decide) rfl) dX8_isWhole_18 ?_
      have q6 := wr_15 hN hS
      refine fg_X8_126 X hS q6 dX8_isWhole_21 ?_
      refine lv_iload_n hx hb dX8_isWhole_24 rfl (lv_at hl 1 rfl) ?_
      obtain ⟨g7, hX⟩ := gin_of hX
      refine r_iald (ci := 0) (o := (gR M 15 0)) (k := 2) (n := 9) X hS q6 rfl rfl g7 dX8_isWhole_25 ?_
      refine lv_icmp_ne (tgt := 33) hx hb dX8_isWhole_26 (by decide) (fun c8 => ?_) (fun c8 => ?_)
      · have hX := if_f c8 hX
        refine lv_iconst (v := nI 0) hx hb dX8_isWhole_33 (by decide) ?_
        obtain rfl := some_of hX
        exact x_Z (v := false) X hS dX8_isWhole_34
      · have hX := if_t c8 hX
        refine lv_iconst (v := nI 1) hx hb dX8_isWhole_29 (by decide) ?_
        refine lv_goto (tgt := 34) hx hb dX8_isWhole_30 (by decide) ?_
        obtain rfl := some_of hX
        exact x_Z (v := true) X hS dX8_isWhole_34
  rw [hH, hlo] at hgoal
  exact hgoal
theorem mv_X8_isWhole : Mv yX8_isWhole RX8 cX8_isWhole 2 ((some .boolean)) 1 := ⟨t3_232, t3_230, t3_231, t1_8, ⟨by decide, by decide⟩, by decide +kernel⟩
/-! SewnYear$Wear.wholeOnes()I -/
def rm_X8_wholeOnes : Room := { frames := 2, cells := 0, slots := 0, locals := 42 }
def f_X8_wholeOnes_29 (M : Mem) (k_4 : Int32 → Int32 → Option (Int32)) (v_1 : Int32) (v_2 : Int32) : Option (Int32) :=
  nm (v_2 + nI 1) fun v1 => k_4 v_1 v1
def b_X8_wholeOnes_4 (M : Mem) (rc : Int32 → Int32 → Option (Int32)) (v_1 : Int32) (v_2 : Int32) : Option (Int32) :=
  if (gI M (gR M 15 0) 0) ≤ v_2 then (some v_1) else (bn (f_X8_isWhole M v_2) fun r5 => if r5 = true then (nm (v_1 ||| ((nI 1) <<< (v_2 &&& 31))) fun v7 => f_X8_wholeOnes_29 M rc v7 v_2) else (f_X8_wholeOnes_29 M rc v_1 v_2))
def f_X8_wholeOnes_4 (M : Mem) : Nat → (Int32 × Int32) → Option (Int32) := lp (fun rc q => b_X8_wholeOnes_4 M (fun x0 x1 => rc (x0, x1)) q.1 q.2)
def f_X8_wholeOnes (M : Mem) : Option (Int32) :=
  f_X8_wholeOnes_4 M FU ((nI 0), (nI 0))
set_option maxRecDepth 100000 in
set_option maxHeartbeats 4000000 in
theorem n_X8_wholeOnes_29 (X : Cx p s m args meth c D cy ad A RX8 cX8_wholeOnes 3 ((some .int))) (hN : NsC ns) {M : Mem} {k_4 : Int32 → Int32 → Option (Int32)} {v_1 : Int32} {v_2 : Int32} {r : Int32} (hX : f_X8_wholeOnes_29 M k_4 v_1 v_2 = some r) : (∀ (v_1 : Int32) (v_2 : Int32) (r : Int32), k_4 v_1 v_2 = some r → ∀ (ls : Array Slot) (H : Heap) (locs : List Loc), lv_has ls 3 [(0, .ref (ad 15 0)), (1, .int v_1), (2, .int v_2)] → St D cy ad ns A M s.heap H locs → W p l e rm_X8_wholeOnes s m args below meth c H locs 0 0 (MQ below (QC D cy ad ns A M (some (.int r))) args s 0 0 A) (F0 m 4 ls [])) → ∀ (ls : Array Slot) (H : Heap) (locs : List Loc), lv_has ls 3 [(0, .ref (ad 15 0)), (1, .int v_1), (2, .int v_2)] → St D cy ad ns A M s.heap H locs → W p l e rm_X8_wholeOnes s m args below meth c H locs 0 0 (MQ below (QC D cy ad ns A M (some (.int r))) args s 0 0 A) (F0 m 29 ls []) := by
  obtain ⟨hx, hb, hml, hown, hts, hK, hr, hlk, hA, hG⟩ := id X
  intro hk_4 ls H locs hl hS
  unfold f_X8_wholeOnes_29 at hX
  obtain ⟨v1, ev1⟩ : ∃ y : Int32, y = (v_2 + nI 1) := ⟨_, rfl⟩
  have hX := nm_of ev1 hX
  refine lv_iinc (v := v1) (lv' := [(2, .int v1), (0, .ref (ad 15 0)), (1, .int v_1)]) hx hb dX8_wholeOnes_29 hl (k := 2) rfl (by rw [ev1]; rfl) (by decide) rfl (fun ls hl => ?_)
  refine lv_goto (tgt := 4) hx hb dX8_wholeOnes_32 (by decide) ?_
  exact hk_4 _ _ _ hX _ _ _ (lv_sub hl [1, 2, 0] rfl) hS
set_option maxRecDepth 100000 in
set_option maxHeartbeats 4000000 in
theorem n_X8_wholeOnes_4 (X : Cx p s m args meth c D cy ad A RX8 cX8_wholeOnes 3 ((some .int))) (hN : NsC ns) {M : Mem} : ∀ (n : Nat) (v_1 : Int32) (v_2 : Int32) (r : Int32), f_X8_wholeOnes_4 M n (v_1, v_2) = some r → ∀ (ls : Array Slot) (H : Heap) (locs : List Loc), lv_has ls 3 [(0, .ref (ad 15 0)), (1, .int v_1), (2, .int v_2)] → St D cy ad ns A M s.heap H locs → W p l e rm_X8_wholeOnes s m args below meth c H locs 0 0 (MQ below (QC D cy ad ns A M (some (.int r))) args s 0 0 A) (F0 m 4 ls []) := by
  obtain ⟨hx, hb, hml, hown, hts, hK, hr, hlk, hA, hG⟩ := id X
  intro n
  induction n with
  | zero => intro v_1 v_2 r hX; cases (show (none : Option (Int32)) = some r from hX)
  | succ n ih =>
    intro v_1 v_2 r hX ls H locs hl hS
    have hX : b_X8_wholeOnes_4 M (fun x0 x1 => f_X8_wholeOnes_4 M n (x0, x1)) v_1 v_2 = some r := hX
    unfold b_X8_wholeOnes_4 at hX
    refine lv_iload_n hx hb dX8_wholeOnes_4 rfl (lv_at hl 2 rfl) ?_
    refine lv_aload_n hx hb dX8_wholeOnes_5 rfl (lv_at hl 0 rfl) ?_
    refine fg_X8_12 X hS (o_of hN (o := 15) (c := 8) (by decide) rfl) dX8_wholeOnes_6 ?_
    have q2 := wr_15 hN hS
    refine fg_X8_82 X hS q2 dX8_wholeOnes_9 ?_
    refine lv_icmp_ge (tgt := 35) hx hb dX8_wholeOnes_12 (by decide) (fun c3 => ?_) (fun c3 => ?_)
    · have hX := if_t c3 hX
      refine lv_iload_n hx hb dX8_wholeOnes_35 rfl (lv_at hl 1 rfl) ?_
      obtain rfl := some_of hX
      exact x_I (v := v_1) X hS dX8_wholeOnes_36
    · have hX := if_f c3 hX
      refine lv_aload_n hx hb dX8_wholeOnes_15 rfl (lv_at hl 0 rfl) ?_
      refine lv_iload_n hx hb dX8_wholeOnes_16 rfl (lv_at hl 2 rfl) ?_
      obtain ⟨r5, h4, hX⟩ := bn_of hX
      refine r_callV1 (v := .int (b2i r5)) (As := [.int v_2]) (rest := []) X hS (m_X8_isWhole hN h4) mv_X8_isWhole rfl (o_of hN (o := 15) (c := 8) (by decide) rfl) t3_229 ⟨rfl, rfl, Nat.le_of_ble_eq_true rfl, Nat.le_of_ble_eq_true rfl⟩ rfl hl.1 rfl (Nat.le_of_ble_eq_true rfl) ⟨Nat.zero_le _, Nat.zero_le _⟩ dX8_wholeOnes_17 (fun H locs hS => ?_)
      refine lv_if_eq (tgt := 29) hx hb dX8_wholeOnes_20 (by decide) (fun c6 => ?_) (fun c6 => ?_)
      · have hX := if_bf c6 hX
        exact n_X8_wholeOnes_29 X hN hX (fun z0 z1 r h ls H locs hl hS => ih z0 z1 r h ls H locs hl hS) _ _ _ (lv_sub hl [0, 1, 2] rfl) hS
      · have hX := if_bt c6 hX
        refine lv_iload_n hx hb dX8_wholeOnes_23 rfl (lv_at hl 1 rfl) ?_
        refine lv_iconst (v := nI 1) hx hb dX8_wholeOnes_24 (by decide) ?_
        refine lv_iload_n hx hb dX8_wholeOnes_25 rfl (lv_at hl 2 rfl) ?_
        refine lv_ishl hx hb dX8_wholeOnes_26 ?_
        refine lv_ior hx hb dX8_wholeOnes_27 ?_
        refine lv_topi (fun v7 ev7 => ?_)
        have hX := nm_of ev7 hX
        refine lv_istore_n (lv' := [(1, .int v7), (0, .ref (ad 15 0)), (2, .int v_2)]) hx hb dX8_wholeOnes_28 rfl hl (by decide) rfl (fun ls hl => ?_)
        exact n_X8_wholeOnes_29 X hN hX (fun z0 z1 r h ls H locs hl hS => ih z0 z1 r h ls H locs hl hS) _ _ _ (lv_sub hl [1, 0, 2] rfl) hS
set_option maxRecDepth 100000 in
set_option maxHeartbeats 4000000 in
theorem m_X8_wholeOnes {l : Launch} {D : va_G} {cy : Nat → ClassId} {ad : Nat → Nat → Nat} {ns : List (Nat × Nat)} {A : Nat → Prop} {M : Mem} (hN : NsC ns) {r : Int32} (hX : f_X8_wholeOnes M = some r) : Ct l yX8_wholeOnes cX8_wholeOnes 3 ((some .int)) rm_X8_wholeOnes D cy ad ns A [.ref (ad 15 0)] M M (some (.int r)) := by
  refine ct_of (lv := [(0, .ref (ad 15 0))]) (by decide) (Nat.le_of_ble_eq_true rfl) rfl ?_
  intro p e s m args below meth c ls X hl hS
  obtain ⟨hx, hb, hml, hown, hts, hK, hr, hlk, hA, hG⟩ := id X
  obtain ⟨H, hH⟩ : ∃ z, z = s.heap := ⟨_, rfl⟩
  obtain ⟨locs, hlo⟩ : ∃ z : List Loc, z = [] := ⟨_, rfl⟩
  have hS : St D cy ad ns A M s.heap H locs := by rw [hH, hlo]; exact hS
  have hgoal : W p l e rm_X8_wholeOnes s m args below meth c H locs 0 0 (MQ below (QC D cy ad ns A M (some (.int r))) args s 0 0 A) (F0 m 0 ls []) := by
    unfold f_X8_wholeOnes at hX
    refine lv_iconst (v := nI 0) hx hb dX8_wholeOnes_0 (by decide) ?_
    refine lv_istore_n (lv' := [(1, .int (nI 0)), (0, .ref (ad 15 0))]) hx hb dX8_wholeOnes_1 rfl hl (by decide) rfl (fun ls hl => ?_)
    refine lv_iconst (v := nI 0) hx hb dX8_wholeOnes_2 (by decide) ?_
    refine lv_istore_n (lv' := [(2, .int (nI 0)), (1, .int (nI 0)), (0, .ref (ad 15 0))]) hx hb dX8_wholeOnes_3 rfl hl (by decide) rfl (fun ls hl => ?_)
    exact n_X8_wholeOnes_4 X hN _ _ _ _ hX _ _ _ (lv_sub hl [2, 1, 0] rfl) hS
  rw [hH, hlo] at hgoal
  exact hgoal
theorem mv_X8_wholeOnes : Mv yX8_wholeOnes RX8 cX8_wholeOnes 3 ((some .int)) 0 := ⟨t3_236, t3_234, t3_235, t1_8, ⟨by decide, by decide⟩, by decide +kernel⟩
/-! SewnYear$Wear.stitch(I)Z -/
def rm_X8_stitch : Room := { frames := 3, cells := 0, slots := 0, locals := 64 }
def f_X8_stitch (M : Mem) (a1 : Int32) : Option (Bool × Mem) :=
  bn (f_X0_hasSeam M (gR M 15 0) a1) fun r3 => if r3 = true then (bn (f_X8_isWhole M a1) fun r6 => if r6 = true then (some (false, M)) else (if (gI M 15 3) < (gI M (gR M 15 0) 1) then (gin a1 9 <| bn (f_X8_wholeOnes M) fun r13 => if ((gA M (gR M 15 0) 5 (ix a1)) &&& (r13 ^^^ (-1))) = (nI 0) then (gin a1 9 <| gin a1 9 <| nm (sA M 15 7 (ix a1) ((gA M 15 7 (ix a1)) + (nI 1))) fun M17 => nm (sI M17 15 3 ((gI M17 15 3) + (nI 1))) fun M18 => bn (f_X8_isWhole M18 a1) fun r20 => if r20 = true then (gin a1 9 <| nm (sA M18 15 8 (ix a1) (gI M18 15 2)) fun M23 => some (true, M23)) else (some (true, M18))) else (some (false, M))) else (some (false, M)))) else (some (false, M))
set_option maxRecDepth 100000 in
set_option maxHeartbeats 4000000 in
theorem m_X8_stitch {l : Launch} {D : va_G} {cy : Nat → ClassId} {ad : Nat → Nat → Nat} {ns : List (Nat × Nat)} {A : Nat → Prop} {M : Mem} (hN : NsC ns) {a1 : Int32} {r : Bool × Mem} (hX : f_X8_stitch M a1 = some r) : Ct l yX8_stitch cX8_stitch 2 ((some .boolean)) rm_X8_stitch D cy ad ns A [.ref (ad 15 0), .int a1] M r.2 (some (.int (b2i r.1))) := by
  refine ct_of (lv := [(0, .ref (ad 15 0)), (1, .int a1)]) (by decide) (Nat.le_of_ble_eq_true rfl) rfl ?_
  intro p e s m args below meth c ls X hl hS
  obtain ⟨hx, hb, hml, hown, hts, hK, hr, hlk, hA, hG⟩ := id X
  obtain ⟨H, hH⟩ : ∃ z, z = s.heap := ⟨_, rfl⟩
  obtain ⟨locs, hlo⟩ : ∃ z : List Loc, z = [] := ⟨_, rfl⟩
  have hS : St D cy ad ns A M s.heap H locs := by rw [hH, hlo]; exact hS
  have hgoal : W p l e rm_X8_stitch s m args below meth c H locs 0 0 (MQ below (QC D cy ad ns A r.2 (some (.int (b2i r.1)))) args s 0 0 A) (F0 m 0 ls []) := by
    unfold f_X8_stitch at hX
    refine lv_aload_n hx hb dX8_stitch_0 rfl (lv_at hl 0 rfl) ?_
    refine fg_X8_12 X hS (o_of hN (o := 15) (c := 8) (by decide) rfl) dX8_stitch_1 ?_
    have q1 := wr_15 hN hS
    refine lv_iload_n hx hb dX8_stitch_4 rfl (lv_at hl 1 rfl) ?_
    obtain ⟨r3, h2, hX⟩ := bn_of hX
    refine r_callV1 (v := .int (b2i r3)) (As := [.int a1]) (rest := []) X hS (m_X0_hasSeam hN q1 h2) mv_X0_hasSeam rfl q1 t3_228 ⟨rfl, rfl, Nat.le_of_ble_eq_true rfl, Nat.le_of_ble_eq_true rfl⟩ rfl hl.1 rfl (Nat.le_of_ble_eq_true rfl) ⟨Nat.zero_le _, Nat.zero_le _⟩ dX8_stitch_5 (fun H locs hS => ?_)
    refine lv_if_eq (tgt := 33) hx hb dX8_stitch_8 (by decide) (fun c4 => ?_) (fun c4 => ?_)
    · have hX := if_bf c4 hX
      refine lv_iconst (v := nI 0) hx hb dX8_stitch_33 (by decide) ?_
      obtain rfl := some_of hX
      exact x_Z (v := false) X hS dX8_stitch_34
    · have hX := if_bt c4 hX
      refine lv_aload_n hx hb dX8_stitch_11 rfl (lv_at hl 0 rfl) ?_
      refine lv_iload_n hx hb dX8_stitch_12 rfl (lv_at hl 1 rfl) ?_
      obtain ⟨r6, h5, hX⟩ := bn_of hX
      refine r_callV1 (v := .int (b2i r6)) (As := [.int a1]) (rest := []) X hS (m_X8_isWhole hN h5) mv_X8_isWhole rfl (o_of hN (o := 15) (c := 8) (by decide) rfl) t3_229 ⟨rfl, rfl, Nat.le_of_ble_eq_true rfl, Nat.le_of_ble_eq_true rfl⟩ rfl hl.1 rfl (Nat.le_of_ble_eq_true rfl) ⟨Nat.zero_le _, Nat.zero_le _⟩ dX8_stitch_13 (fun H locs hS => ?_)
      refine lv_if_ne (tgt := 33) hx hb dX8_stitch_16 (by decide) (fun c7 => ?_) (fun c7 => ?_)
      · have hX := if_bt c7 hX
        refine lv_iconst (v := nI 0) hx hb dX8_stitch_33 (by decide) ?_
        obtain rfl := some_of hX
        exact x_Z (v := false) X hS dX8_stitch_34
      · have hX := if_bf c7 hX
        refine lv_aload_n hx hb dX8_stitch_19 rfl (lv_at hl 0 rfl) ?_
        refine fg_X8_35 X hS (o_of hN (o := 15) (c := 8) (by decide) rfl) dX8_stitch_20 ?_
        refine lv_aload_n hx hb dX8_stitch_23 rfl (lv_at hl 0 rfl) ?_
        refine fg_X8_12 X hS (o_of hN (o := 15) (c := 8) (by decide) rfl) dX8_stitch_24 ?_
        have q8 := wr_15 hN hS
        refine fg_X8_109 X hS q8 dX8_stitch_27 ?_
        refine lv_icmp_lt (tgt := 35) hx hb dX8_stitch_30 (by decide) (fun c9 => ?_) (fun c9 => ?_)
        · have hX := if_t c9 hX
          refine lv_aload_n hx hb dX8_stitch_35 rfl (lv_at hl 0 rfl) ?_
          refine fg_X8_12 X hS (o_of hN (o := 15) (c := 8) (by decide) rfl) dX8_stitch_36 ?_
          have q10 := wr_15 hN hS
          refine fg_X8_112 X hS q10 dX8_stitch_39 ?_
          refine lv_iload_n hx hb dX8_stitch_42 rfl (lv_at hl 1 rfl) ?_
          obtain ⟨g11, hX⟩ := gin_of hX
          refine r_iald (ci := 0) (o := (gR M 15 0)) (k := 5) (n := 9) X hS q10 rfl rfl g11 dX8_stitch_43 ?_
          refine lv_aload_n hx hb dX8_stitch_44 rfl (lv_at hl 0 rfl) ?_
          obtain ⟨r13, h12, hX⟩ := bn_of hX
          refine r_callV1 (v := .int r13) (As := []) (rest := [.int (gA M (gR M 15 0) 5 (ix a1))]) X hS (m_X8_wholeOnes hN h12) mv_X8_wholeOnes rfl (o_of hN (o := 15) (c := 8) (by decide) rfl) t3_233 ⟨rfl, rfl, Nat.le_of_ble_eq_true rfl, Nat.le_of_ble_eq_true rfl⟩ rfl hl.1 rfl (Nat.le_of_ble_eq_true rfl) ⟨Nat.zero_le _, Nat.zero_le _⟩ dX8_stitch_45 (fun H locs hS => ?_)
          refine lv_iconst (v := (-1)) hx hb dX8_stitch_48 (by decide) ?_
          refine lv_ixor hx hb dX8_stitch_49 ?_
          refine lv_iand hx hb dX8_stitch_50 ?_
          refine lv_if_eq (tgt := 56) hx hb dX8_stitch_51 (by decide) (fun c14 => ?_) (fun c14 => ?_)
          · have hX := if_t c14 hX
            refine lv_aload_n hx hb dX8_stitch_56 rfl (lv_at hl 0 rfl) ?_
            refine fg_X8_18 X hS (o_of hN (o := 15) (c := 8) (by decide) rfl) dX8_stitch_57 ?_
            refine lv_iload_n hx hb dX8_stitch_60 rfl (lv_at hl 1 rfl) ?_
            refine lv_dup2_11 hx hb dX8_stitch_61 rfl rfl ?_
            obtain ⟨g15, hX⟩ := gin_of hX
            refine r_iald (ci := 8) (o := 15) (k := 7) (n := 9) X hS (o_of hN (o := 15) (c := 8) (by decide) rfl) rfl rfl g15 dX8_stitch_62 ?_
            refine lv_iconst (v := nI 1) hx hb dX8_stitch_63 (by decide) ?_
            refine lv_iadd hx hb dX8_stitch_64 ?_
            obtain ⟨g16, hX⟩ := gin_of hX
            refine r_iast (ci := 8) (o := 15) (k := 7) (n := 9) X hS (o_of hN (o := 15) (c := 8) (by decide) rfl) rfl rfl g16 dX8_stitch_65 (fun H locs hS => ?_)
            obtain ⟨M17, eM17, hS, hX⟩ := nm_mem hS hX
            refine lv_aload_n hx hb dX8_stitch_66 rfl (lv_at hl 0 rfl) ?_
            refine lv_dup hx hb dX8_stitch_67 rfl ?_
            refine fg_X8_35 X hS (o_of hN (o := 15) (c := 8) (by decide) rfl) dX8_stitch_68 ?_
            refine lv_iconst (v := nI 1) hx hb dX8_stitch_71 (by decide) ?_
            refine lv_iadd hx hb dX8_stitch_72 ?_
            refine fp_X8_35 X hS (o_of hN (o := 15) (c := 8) (by decide) rfl) dX8_stitch_73 (fun H locs hS => ?_)
            obtain ⟨M18, eM18, hS, hX⟩ := nm_mem hS hX
            refine lv_aload_n hx hb dX8_stitch_76 rfl (lv_at hl 0 rfl) ?_
            refine lv_iload_n hx hb dX8_stitch_77 rfl (lv_at hl 1 rfl) ?_
            obtain ⟨r20, h19, hX⟩ := bn_of hX
            refine r_callV1 (v := .int (b2i r20)) (As := [.int a1]) (rest := []) X hS (m_X8_isWhole hN h19) mv_X8_isWhole rfl (o_of hN (o := 15) (c := 8) (by decide) rfl) t3_229 ⟨rfl, rfl, Nat.le_of_ble_eq_true rfl, Nat.le_of_ble_eq_true rfl⟩ rfl hl.1 rfl (Nat.le_of_ble_eq_true rfl) ⟨Nat.zero_le _, Nat.zero_le _⟩ dX8_stitch_78 (fun H locs hS => ?_)
            refine lv_if_eq (tgt := 94) hx hb dX8_stitch_81 (by decide) (fun c21 => ?_) (fun c21 => ?_)
            · have hX := if_bf c21 hX
              refine lv_iconst (v := nI 1) hx hb dX8_stitch_94 (by decide) ?_
              obtain rfl := some_of hX
              exact x_Z (v := true) X hS dX8_stitch_95
            · have hX := if_bt c21 hX
              refine lv_aload_n hx hb dX8_stitch_84 rfl (lv_at hl 0 rfl) ?_
              refine fg_X8_22 X hS (o_of hN (o := 15) (c := 8) (by decide) rfl) dX8_stitch_85 ?_
              refine lv_iload_n hx hb dX8_stitch_88 rfl (lv_at hl 1 rfl) ?_
              refine lv_aload_n hx hb dX8_stitch_89 rfl (lv_at hl 0 rfl) ?_
              refine fg_X8_32 X hS (o_of hN (o := 15) (c := 8) (by decide) rfl) dX8_stitch_90 ?_
              obtain ⟨g22, hX⟩ := gin_of hX
              refine r_iast (ci := 8) (o := 15) (k := 8) (n := 9) X hS (o_of hN (o := 15) (c := 8) (by decide) rfl) rfl rfl g22 dX8_stitch_93 (fun H locs hS => ?_)
              obtain ⟨M23, eM23, hS, hX⟩ := nm_mem hS hX
              refine lv_iconst (v := nI 1) hx hb dX8_stitch_94 (by decide) ?_
              obtain rfl := some_of hX
              exact x_Z (v := true) X hS dX8_stitch_95
          · have hX := if_f c14 hX
            refine lv_iconst (v := nI 0) hx hb dX8_stitch_54 (by decide) ?_
            obtain rfl := some_of hX
            exact x_Z (v := false) X hS dX8_stitch_55
        · have hX := if_f c9 hX
          refine lv_iconst (v := nI 0) hx hb dX8_stitch_33 (by decide) ?_
          obtain rfl := some_of hX
          exact x_Z (v := false) X hS dX8_stitch_34
  rw [hH, hlo] at hgoal
  exact hgoal
theorem mv_X8_stitch : Mv yX8_stitch RX8 cX8_stitch 2 ((some .boolean)) 1 := ⟨t3_227, t3_225, t3_226, t1_8, ⟨by decide, by decide⟩, by decide +kernel⟩
/-! SewnYear$Wear.lose(II)V -/
def rm_X8_lose : Room := { frames := 1, cells := 0, slots := 0, locals := 21 }
def f_X8_lose (M : Mem) (a1 : Int32) (a2 : Int32) : Option (Mem) :=
  bn (f_X0_hasSeam M (gR M 15 0) a1) fun r3 => if r3 = true then (gin a1 9 <| gin a1 9 <| nm (sA M 15 7 (ix a1) ((gA M 15 7 (ix a1)) - a2)) fun M7 => nm (sI M7 15 5 ((gI M7 15 5) + a2)) fun M8 => some M8) else (some M)
set_option maxRecDepth 100000 in
set_option maxHeartbeats 4000000 in
theorem m_X8_lose {l : Launch} {D : va_G} {cy : Nat → ClassId} {ad : Nat → Nat → Nat} {ns : List (Nat × Nat)} {A : Nat → Prop} {M : Mem} (hN : NsC ns) {a1 : Int32} {a2 : Int32} {r : Mem} (hX : f_X8_lose M a1 a2 = some r) : Ct l yX8_lose cX8_lose 3 ((none : Option Jvm.ClassFile.FieldType)) rm_X8_lose D cy ad ns A [.ref (ad 15 0), .int a1, .int a2] M r none := by
  refine ct_of (lv := [(0, .ref (ad 15 0)), (1, .int a1), (2, .int a2)]) (by decide) (Nat.le_of_ble_eq_true rfl) rfl ?_
  intro p e s m args below meth c ls X hl hS
  obtain ⟨hx, hb, hml, hown, hts, hK, hr, hlk, hA, hG⟩ := id X
  obtain ⟨H, hH⟩ : ∃ z, z = s.heap := ⟨_, rfl⟩
  obtain ⟨locs, hlo⟩ : ∃ z : List Loc, z = [] := ⟨_, rfl⟩
  have hS : St D cy ad ns A M s.heap H locs := by rw [hH, hlo]; exact hS
  have hgoal : W p l e rm_X8_lose s m args below meth c H locs 0 0 (MQ below (QC D cy ad ns A r none) args s 0 0 A) (F0 m 0 ls []) := by
    unfold f_X8_lose at hX
    refine lv_aload_n hx hb dX8_lose_0 rfl (lv_at hl 0 rfl) ?_
    refine fg_X8_12 X hS (o_of hN (o := 15) (c := 8) (by decide) rfl) dX8_lose_1 ?_
    have q1 := wr_15 hN hS
    refine lv_iload_n hx hb dX8_lose_4 rfl (lv_at hl 1 rfl) ?_
    obtain ⟨r3, h2, hX⟩ := bn_of hX
    refine r_callV1 (v := .int (b2i r3)) (As := [.int a1]) (rest := []) X hS (m_X0_hasSeam hN q1 h2) mv_X0_hasSeam rfl q1 t3_228 ⟨rfl, rfl, Nat.le_of_ble_eq_true rfl, Nat.le_of_ble_eq_true rfl⟩ rfl hl.1 rfl (Nat.le_of_ble_eq_true rfl) ⟨Nat.zero_le _, Nat.zero_le _⟩ dX8_lose_5 (fun H locs hS => ?_)
    refine lv_if_eq (tgt := 31) hx hb dX8_lose_8 (by decide) (fun c4 => ?_) (fun c4 => ?_)
    · have hX := if_bf c4 hX
      obtain rfl := some_of hX
      exact x_V X hS dX8_lose_31
    · have hX := if_bt c4 hX
      refine lv_aload_n hx hb dX8_lose_11 rfl (lv_at hl 0 rfl) ?_
      refine fg_X8_18 X hS (o_of hN (o := 15) (c := 8) (by decide) rfl) dX8_lose_12 ?_
      refine lv_iload_n hx hb dX8_lose_15 rfl (lv_at hl 1 rfl) ?_
      refine lv_dup2_11 hx hb dX8_lose_16 rfl rfl ?_
      obtain ⟨g5, hX⟩ := gin_of hX
      refine r_iald (ci := 8) (o := 15) (k := 7) (n := 9) X hS (o_of hN (o := 15) (c := 8) (by decide) rfl) rfl rfl g5 dX8_lose_17 ?_
      refine lv_iload_n hx hb dX8_lose_18 rfl (lv_at hl 2 rfl) ?_
      refine lv_isub hx hb dX8_lose_19 ?_
      obtain ⟨g6, hX⟩ := gin_of hX
      refine r_iast (ci := 8) (o := 15) (k := 7) (n := 9) X hS (o_of hN (o := 15) (c := 8) (by decide) rfl) rfl rfl g6 dX8_lose_20 (fun H locs hS => ?_)
      obtain ⟨M7, eM7, hS, hX⟩ := nm_mem hS hX
      refine lv_aload_n hx hb dX8_lose_21 rfl (lv_at hl 0 rfl) ?_
      refine lv_dup hx hb dX8_lose_22 rfl ?_
      refine fg_X8_41 X hS (o_of hN (o := 15) (c := 8) (by decide) rfl) dX8_lose_23 ?_
      refine lv_iload_n hx hb dX8_lose_26 rfl (lv_at hl 2 rfl) ?_
      refine lv_iadd hx hb dX8_lose_27 ?_
      refine fp_X8_41 X hS (o_of hN (o := 15) (c := 8) (by decide) rfl) dX8_lose_28 (fun H locs hS => ?_)
      obtain ⟨M8, eM8, hS, hX⟩ := nm_mem hS hX
      obtain rfl := some_of hX
      exact x_V X hS dX8_lose_31
  rw [hH, hlo] at hgoal
  exact hgoal
theorem mv_X8_lose : Mv yX8_lose RX8 cX8_lose 3 ((none : Option Jvm.ClassFile.FieldType)) 2 := ⟨t4_5, t4_3, t4_4, t1_8, ⟨by decide, by decide⟩, by decide +kernel⟩
/-! SewnYear$Wear.unpick(I)Z -/
def rm_X8_unpick : Room := { frames := 2, cells := 0, slots := 0, locals := 43 }
def f_X8_unpick_63 (a1 : Int32) (k_24 : Int32 → Mem → Option (Bool × Mem)) (v_2 : Int32) (M : Mem) : Option (Bool × Mem) :=
  nm (v_2 + nI 1) fun v1 => k_24 v1 M
def b_X8_unpick_24 (a1 : Int32) (rc : Int32 → Mem → Option (Bool × Mem)) (v_2 : Int32) (M : Mem) : Option (Bool × Mem) :=
  if (gI M (gR M 15 0) 0) ≤ v_2 then (gin a1 9 <| nm (mnI (nI 2) (gA M 15 7 (ix a1))) fun v5 => bn (f_X8_lose M a1 v5) fun M7 => some (true, M7)) else (gin v_2 9 <| if (((gA M (gR M 15 0) 5 (ix v_2)) >>> (a1 &&& 31)) &&& (nI 1)) = (nI 1) then (gin v_2 9 <| if (gA M 15 7 (ix v_2)) ≤ (nI 0) then (f_X8_unpick_63 a1 rc v_2 M) else (some (false, M))) else (f_X8_unpick_63 a1 rc v_2 M))
def f_X8_unpick_24 (a1 : Int32) : Nat → (Int32 × Mem) → Option (Bool × Mem) := lp (fun rc q => b_X8_unpick_24 a1 (fun x0 x1 => rc (x0, x1)) q.1 q.2)
def f_X8_unpick (M : Mem) (a1 : Int32) : Option (Bool × Mem) :=
  bn (f_X0_hasSeam M (gR M 15 0) a1) fun r15 => if r15 = true then (gin a1 9 <| if (gA M 15 7 (ix a1)) = (nI 0) then (some (false, M)) else (f_X8_unpick_24 a1 FU ((nI 0), M))) else (some (false, M))
set_option maxRecDepth 100000 in
set_option maxHeartbeats 4000000 in
theorem n_X8_unpick_63 {a1 : Int32} (X : Cx p s m args meth c D cy ad A RX8 cX8_unpick 3 ((some .boolean))) (hN : NsC ns) {k_24 : Int32 → Mem → Option (Bool × Mem)} {v_2 : Int32} {M : Mem} {r : Bool × Mem} (hX : f_X8_unpick_63 a1 k_24 v_2 M = some r) : (∀ (v_2 : Int32) (M : Mem) (r : Bool × Mem), k_24 v_2 M = some r → ∀ (ls : Array Slot) (H : Heap) (locs : List Loc), lv_has ls 3 [(0, .ref (ad 15 0)), (1, .int a1), (2, .int v_2)] → St D cy ad ns A M s.heap H locs → W p l e rm_X8_unpick s m args below meth c H locs 0 0 (MQ below (QC D cy ad ns A r.2 (some (.int (b2i r.1)))) args s 0 0 A) (F0 m 24 ls [])) → ∀ (ls : Array Slot) (H : Heap) (locs : List Loc), lv_has ls 3 [(0, .ref (ad 15 0)), (1, .int a1), (2, .int v_2)] → St D cy ad ns A M s.heap H locs → W p l e rm_X8_unpick s m args below meth c H locs 0 0 (MQ below (QC D cy ad ns A r.2 (some (.int (b2i r.1)))) args s 0 0 A) (F0 m 63 ls []) := by
  obtain ⟨hx, hb, hml, hown, hts, hK, hr, hlk, hA, hG⟩ := id X
  intro hk_24 ls H locs hl hS
  unfold f_X8_unpick_63 at hX
  obtain ⟨v1, ev1⟩ : ∃ y : Int32, y = (v_2 + nI 1) := ⟨_, rfl⟩
  have hX := nm_of ev1 hX
  refine lv_iinc (v := v1) (lv' := [(2, .int v1), (0, .ref (ad 15 0)), (1, .int a1)]) hx hb dX8_unpick_63 hl (k := 2) rfl (by rw [ev1]; rfl) (by decide) rfl (fun ls hl => ?_)
  refine lv_goto (tgt := 24) hx hb dX8_unpick_66 (by decide) ?_
  exact hk_24 _ _ _ hX _ _ _ (lv_sub hl [1, 2, 0] rfl) hS
set_option maxRecDepth 100000 in
set_option maxHeartbeats 4000000 in
theorem n_X8_unpick_24 {a1 : Int32} (X : Cx p s m args meth c D cy ad A RX8 cX8_unpick 3 ((some .boolean))) (hN : NsC ns) : ∀ (n : Nat) (v_2 : Int32) (M : Mem) (r : Bool × Mem), f_X8_unpick_24 a1 n (v_2, M) = some r → ∀ (ls : Array Slot) (H : Heap) (locs : List Loc), lv_has ls 3 [(0, .ref (ad 15 0)), (1, .int a1), (2, .int v_2)] → St D cy ad ns A M s.heap H locs → W p l e rm_X8_unpick s m args below meth c H locs 0 0 (MQ below (QC D cy ad ns A r.2 (some (.int (b2i r.1)))) args s 0 0 A) (F0 m 24 ls []) := by
  obtain ⟨hx, hb, hml, hown, hts, hK, hr, hlk, hA, hG⟩ := id X
  intro n
  induction n with
  | zero => intro v_2 M r hX; cases (show (none : Option (Bool × Mem)) = some r from hX)
  | succ n ih =>
    intro v_2 M r hX ls H locs hl hS
    have hX : b_X8_unpick_24 a1 (fun x0 x1 => f_X8_unpick_24 a1 n (x0, x1)) v_2 M = some r := hX
    unfold b_X8_unpick_24 at hX
    refine lv_iload_n hx hb dX8_unpick_24 rfl (lv_at hl 2 rfl) ?_
    refine lv_aload_n hx hb dX8_unpick_25 rfl (lv_at hl 0 rfl) ?_
    refine fg_X8_12 X hS (o_of hN (o := 15) (c := 8) (by decide) rfl) dX8_unpick_26 ?_
    have q2 := wr_15 hN hS
    refine fg_X8_82 X hS q2 dX8_unpick_29 ?_
    refine lv_icmp_ge (tgt := 69) hx hb dX8_unpick_32 (by decide) (fun c3 => ?_) (fun c3 => ?_)
    · have hX := if_t c3 hX
      refine lv_aload_n hx hb dX8_unpick_69 rfl (lv_at hl 0 rfl) ?_
      refine lv_iload_n hx hb dX8_unpick_70 rfl (lv_at hl 1 rfl) ?_
      refine lv_iconst (v := nI 2) hx hb dX8_unpick_71 (by decide) ?_
      refine lv_aload_n hx hb dX8_unpick_72 rfl (lv_at hl 0 rfl) ?_
      refine fg_X8_18 X hS (o_of hN (o := 15) (c := 8) (by decide) rfl) dX8_unpick_73 ?_
      refine lv_iload_n hx hb dX8_unpick_76 rfl (lv_at hl 1 rfl) ?_
      obtain ⟨g4, hX⟩ := gin_of hX
      refine r_iald (ci := 8) (o := 15) (k := 7) (n := 9) X hS (o_of hN (o := 15) (c := 8) (by decide) rfl) rfl rfl g4 dX8_unpick_77 ?_
      refine va_mmin hx hb (hml.trans hl.1.symm) (own := RX8) hown (hts _ t4_1) (hts _ jm_min.1) (hts _ jm_min.2.1) (hts _ jm_min.2.2) (Nat.le_of_ble_eq_true rfl) (Nat.le_of_ble_eq_true rfl) (Nat.zero_le _) (Nat.zero_le _) dX8_unpick_78 ?_
      refine lv_topi (fun v5 ev5 => ?_)
      have hX := nm_of ev5 hX
      obtain ⟨M7, h6, hX⟩ := bn_of hX
      refine r_callV0 (As := [.int a1, .int v5]) (rest := []) X hS (m_X8_lose hN h6) mv_X8_lose rfl (o_of hN (o := 15) (c := 8) (by decide) rfl) t4_2 ⟨rfl, rfl, Nat.le_of_ble_eq_true rfl, Nat.le_of_ble_eq_true rfl⟩ rfl hl.1 rfl (Nat.le_of_ble_eq_true rfl) ⟨Nat.zero_le _, Nat.zero_le _⟩ dX8_unpick_81 (fun H locs hS => ?_)
      refine lv_iconst (v := nI 1) hx hb dX8_unpick_84 (by decide) ?_
      obtain rfl := some_of hX
      exact x_Z (v := true) X hS dX8_unpick_85
    · have hX := if_f c3 hX
      refine lv_aload_n hx hb dX8_unpick_35 rfl (lv_at hl 0 rfl) ?_
      refine fg_X8_12 X hS (o_of hN (o := 15) (c := 8) (by decide) rfl) dX8_unpick_36 ?_
      have q8 := wr_15 hN hS
      refine fg_X8_112 X hS q8 dX8_unpick_39 ?_
      refine lv_iload_n hx hb dX8_unpick_42 rfl (lv_at hl 2 rfl) ?_
      obtain ⟨g9, hX⟩ := gin_of hX
      refine r_iald (ci := 0) (o := (gR M 15 0)) (k := 5) (n := 9) X hS q8 rfl rfl g9 dX8_unpick_43 ?_
      refine lv_iload_n hx hb dX8_unpick_44 rfl (lv_at hl 1 rfl) ?_
      refine lv_ishr hx hb dX8_unpick_45 ?_
      refine lv_iconst (v := nI 1) hx hb dX8_unpick_46 (by decide) ?_
      refine lv_iand hx hb dX8_unpick_47 ?_
      refine lv_iconst (v := nI 1) hx hb dX8_unpick_48 (by decide) ?_
      refine lv_icmp_ne (tgt := 63) hx hb dX8_unpick_49 (by decide) (fun c10 => ?_) (fun c10 => ?_)
      · have hX := if_f c10 hX
        exact n_X8_unpick_63 X hN hX (fun z0 z1 r h ls H locs hl hS => ih z0 z1 r h ls H locs hl hS) _ _ _ (lv_sub hl [0, 1, 2] rfl) hS
      · have hX := if_t c10 hX
        refine lv_aload_n hx hb dX8_unpick_52 rfl (lv_at hl 0 rfl) ?_
        refine fg_X8_18 X hS (o_of hN (o := 15) (c := 8) (by decide) rfl) dX8_unpick_53 ?_
        refine lv_iload_n hx hb dX8_unpick_56 rfl (lv_at hl 2 rfl) ?_
        obtain ⟨g11, hX⟩ := gin_of hX
        refine r_iald (ci := 8) (o := 15) (k := 7) (n := 9) X hS (o_of hN (o := 15) (c := 8) (by decide) rfl) rfl rfl g11 dX8_unpick_57 ?_
        refine lv_if_le (tgt := 63) hx hb dX8_unpick_58 (by decide) (fun c12 => ?_) (fun c12 => ?_)
        · have hX := if_t c12 hX
          exact n_X8_unpick_63 X hN hX (fun z0 z1 r h ls H locs hl hS => ih z0 z1 r h ls H locs hl hS) _ _ _ (lv_sub hl [0, 1, 2] rfl) hS
        · have hX := if_f c12 hX
          refine lv_iconst (v := nI 0) hx hb dX8_unpick_61 (by decide) ?_
          obtain rfl := some_of hX
          exact x_Z (v := false) X hS dX8_unpick_62
set_option maxRecDepth 100000 in
set_option maxHeartbeats 4000000 in
theorem m_X8_unpick {l : Launch} {D : va_G} {cy : Nat → ClassId} {ad : Nat → Nat → Nat} {ns : List (Nat × Nat)} {A : Nat → Prop} {M : Mem} (hN : NsC ns) {a1 : Int32} {r : Bool × Mem} (hX : f_X8_unpick M a1 = some r) : Ct l yX8_unpick cX8_unpick 3 ((some .boolean)) rm_X8_unpick D cy ad ns A [.ref (ad 15 0), .int a1] M r.2 (some (.int (b2i r.1))) := by
  refine ct_of (lv := [(0, .ref (ad 15 0)), (1, .int a1)]) (by decide) (Nat.le_of_ble_eq_true rfl) rfl ?_
  intro p e s m args below meth c ls X hl hS
  obtain ⟨hx, hb, hml, hown, hts, hK, hr, hlk, hA, hG⟩ := id X
  obtain ⟨H, hH⟩ : ∃ z, z = s.heap := ⟨_, rfl⟩
  obtain ⟨locs, hlo⟩ : ∃ z : List Loc, z = [] := ⟨_, rfl⟩
  have hS : St D cy ad ns A M s.heap H locs := by rw [hH, hlo]; exact hS
  have hgoal : W p l e rm_X8_unpick s m args below meth c H locs 0 0 (MQ below (QC D cy ad ns A r.2 (some (.int (b2i r.1)))) args s 0 0 A) (F0 m 0 ls []) := by
    unfold f_X8_unpick at hX
    refine lv_aload_n hx hb dX8_unpick_0 rfl (lv_at hl 0 rfl) ?_
    refine fg_X8_12 X hS (o_of hN (o := 15) (c := 8) (by decide) rfl) dX8_unpick_1 ?_
    have q13 := wr_15 hN hS
    refine lv_iload_n hx hb dX8_unpick_4 rfl (lv_at hl 1 rfl) ?_
    obtain ⟨r15, h14, hX⟩ := bn_of hX
    refine r_callV1 (v := .int (b2i r15)) (As := [.int a1]) (rest := []) X hS (m_X0_hasSeam hN q13 h14) mv_X0_hasSeam rfl q13 t3_228 ⟨rfl, rfl, Nat.le_of_ble_eq_true rfl, Nat.le_of_ble_eq_true rfl⟩ rfl hl.1 rfl (Nat.le_of_ble_eq_true rfl) ⟨Nat.zero_le _, Nat.zero_le _⟩ dX8_unpick_5 (fun H locs hS => ?_)
    refine lv_if_eq (tgt := 20) hx hb dX8_unpick_8 (by decide) (fun c16 => ?_) (fun c16 => ?_)
    · have hX := if_bf c16 hX
      refine lv_iconst (v := nI 0) hx hb dX8_unpick_20 (by decide) ?_
      obtain rfl := some_of hX
      exact x_Z (v := false) X hS dX8_unpick_21
    · have hX := if_bt c16 hX
      refine lv_aload_n hx hb dX8_unpick_11 rfl (lv_at hl 0 rfl) ?_
      refine fg_X8_18 X hS (o_of hN (o := 15) (c := 8) (by decide) rfl) dX8_unpick_12 ?_
      refine lv_iload_n hx hb dX8_unpick_15 rfl (lv_at hl 1 rfl) ?_
      obtain ⟨g17, hX⟩ := gin_of hX
      refine r_iald (ci := 8) (o := 15) (k := 7) (n := 9) X hS (o_of hN (o := 15) (c := 8) (by decide) rfl) rfl rfl g17 dX8_unpick_16 ?_
      refine lv_if_ne (tgt := 22) hx hb dX8_unpick_17 (by decide) (fun c18 => ?_) (fun c18 => ?_)
      · have hX := if_f c18 hX
        refine lv_iconst (v := nI 0) hx hb dX8_unpick_22 (by decide) ?_
        refine lv_istore_n (lv' := [(2, .int (nI 0)), (0, .ref (ad 15 0)), (1, .int a1)]) hx hb dX8_unpick_23 rfl hl (by decide) rfl (fun ls hl => ?_)
        exact n_X8_unpick_24 X hN _ _ _ _ hX _ _ _ (lv_sub hl [1, 2, 0] rfl) hS
      · have hX := if_t c18 hX
        refine lv_iconst (v := nI 0) hx hb dX8_unpick_20 (by decide) ?_
        obtain rfl := some_of hX
        exact x_Z (v := false) X hS dX8_unpick_21
  rw [hH, hlo] at hgoal
  exact hgoal
theorem mv_X8_unpick : Mv yX8_unpick RX8 cX8_unpick 3 ((some .boolean)) 1 := ⟨t4_0, t3_238, t3_239, t1_8, ⟨by decide, by decide⟩, by decide +kernel⟩
/-! SewnYear$Wear.tear(I)Z -/
def rm_X8_tear : Room := { frames := 2, cells := 0, slots := 0, locals := 43 }
def f_X8_tear (M : Mem) (a1 : Int32) : Option (Bool × Mem) :=
  bn (f_X0_hasSeam M (gR M 15 0) a1) fun r3 => if r3 = true then (gin a1 9 <| if (gA M 15 7 (ix a1)) = (nI 0) then (some (false, M)) else (gin a1 9 <| bn (f_X8_lose M a1 (gA M 15 7 (ix a1))) fun M9 => some (true, M9))) else (some (false, M))
set_option maxRecDepth 100000 in
set_option maxHeartbeats 4000000 in
theorem m_X8_tear {l : Launch} {D : va_G} {cy : Nat → ClassId} {ad : Nat → Nat → Nat} {ns : List (Nat × Nat)} {A : Nat → Prop} {M : Mem} (hN : NsC ns) {a1 : Int32} {r : Bool × Mem} (hX : f_X8_tear M a1 = some r) : Ct l yX8_tear cX8_tear 2 ((some .boolean)) rm_X8_tear D cy ad ns A [.ref (ad 15 0), .int a1] M r.2 (some (.int (b2i r.1))) := by
  refine ct_of (lv := [(0, .ref (ad 15 0)), (1, .int a1)]) (by decide) (Nat.le_of_ble_eq_true rfl) rfl ?_
  intro p e s m args below meth c ls X hl hS
  obtain ⟨hx, hb, hml, hown, hts, hK, hr, hlk, hA, hG⟩ := id X
  obtain ⟨H, hH⟩ : ∃ z, z = s.heap := ⟨_, rfl⟩
  obtain ⟨locs, hlo⟩ : ∃ z : List Loc, z = [] := ⟨_, rfl⟩
  have hS : St D cy ad ns A M s.heap H locs := by rw [hH, hlo]; exact hS
  have hgoal : W p l e rm_X8_tear s m args below meth c H locs 0 0 (MQ below (QC D cy ad ns A r.2 (some (.int (b2i r.1)))) args s 0 0 A) (F0 m 0 ls []) := by
    unfold f_X8_tear at hX
    refine lv_aload_n hx hb dX8_tear_0 rfl (lv_at hl 0 rfl) ?_
    refine fg_X8_12 X hS (o_of hN (o := 15) (c := 8) (by decide) rfl) dX8_tear_1 ?_
    have q1 := wr_15 hN hS
    refine lv_iload_n hx hb dX8_tear_4 rfl (lv_at hl 1 rfl) ?_
    obtain ⟨r3, h2, hX⟩ := bn_of hX
    refine r_callV1 (v := .int (b2i r3)) (As := [.int a1]) (rest := []) X hS (m_X0_hasSeam hN q1 h2) mv_X0_hasSeam rfl q1 t3_228 ⟨rfl, rfl, Nat.le_of_ble_eq_true rfl, Nat.le_of_ble_eq_true rfl⟩ rfl hl.1 rfl (Nat.le_of_ble_eq_true rfl) ⟨Nat.zero_le _, Nat.zero_le _⟩ dX8_tear_5 (fun H locs hS => ?_)
    refine lv_if_eq (tgt := 20) hx hb dX8_tear_8 (by decide) (fun c4 => ?_) (fun c4 => ?_)
    · have hX := if_bf c4 hX
      refine lv_iconst (v := nI 0) hx hb dX8_tear_20 (by decide) ?_
      obtain rfl := some_of hX
      exact x_Z (v := false) X hS dX8_tear_21
    · have hX := if_bt c4 hX
      refine lv_aload_n hx hb dX8_tear_11 rfl (lv_at hl 0 rfl) ?_
      refine fg_X8_18 X hS (o_of hN (o := 15) (c := 8) (by decide) rfl) dX8_tear_12 ?_
      refine lv_iload_n hx hb dX8_tear_15 rfl (lv_at hl 1 rfl) ?_
      obtain ⟨g5, hX⟩ := gin_of hX
      refine r_iald (ci := 8) (o := 15) (k := 7) (n := 9) X hS (o_of hN (o := 15) (c := 8) (by decide) rfl) rfl rfl g5 dX8_tear_16 ?_
      refine lv_if_ne (tgt := 22) hx hb dX8_tear_17 (by decide) (fun c6 => ?_) (fun c6 => ?_)
      · have hX := if_f c6 hX
        refine lv_aload_n hx hb dX8_tear_22 rfl (lv_at hl 0 rfl) ?_
        refine lv_iload_n hx hb dX8_tear_23 rfl (lv_at hl 1 rfl) ?_
        refine lv_aload_n hx hb dX8_tear_24 rfl (lv_at hl 0 rfl) ?_
        refine fg_X8_18 X hS (o_of hN (o := 15) (c := 8) (by decide) rfl) dX8_tear_25 ?_
        refine lv_iload_n hx hb dX8_tear_28 rfl (lv_at hl 1 rfl) ?_
        obtain ⟨g7, hX⟩ := gin_of hX
        refine r_iald (ci := 8) (o := 15) (k := 7) (n := 9) X hS (o_of hN (o := 15) (c := 8) (by decide) rfl) rfl rfl g7 dX8_tear_29 ?_
        obtain ⟨M9, h8, hX⟩ := bn_of hX
        refine r_callV0 (As := [.int a1, .int (gA M 15 7 (ix a1))]) (rest := []) X hS (m_X8_lose hN h8) mv_X8_lose rfl (o_of hN (o := 15) (c := 8) (by decide) rfl) t4_2 ⟨rfl, rfl, Nat.le_of_ble_eq_true rfl, Nat.le_of_ble_eq_true rfl⟩ rfl hl.1 rfl (Nat.le_of_ble_eq_true rfl) ⟨Nat.zero_le _, Nat.zero_le _⟩ dX8_tear_30 (fun H locs hS => ?_)
        refine lv_iconst (v := nI 1) hx hb dX8_tear_33 (by decide) ?_
        obtain rfl := some_of hX
        exact x_Z (v := true) X hS dX8_tear_34
      · have hX := if_t c6 hX
        refine lv_iconst (v := nI 0) hx hb dX8_tear_20 (by decide) ?_
        obtain rfl := some_of hX
        exact x_Z (v := false) X hS dX8_tear_21
  rw [hH, hlo] at hgoal
  exact hgoal
theorem mv_X8_tear : Mv yX8_tear RX8 cX8_tear 2 ((some .boolean)) 1 := ⟨t4_9, t4_7, t4_8, t1_8, ⟨by decide, by decide⟩, by decide +kernel⟩
/-! SewnYear$Wear.widen(I)Z -/
def rm_X8_widen : Room := { frames := 2, cells := 0, slots := 0, locals := 43 }
def f_X8_widen_75 (a1 : Int32) (k_12 : Int32 → Mem → Option (Bool × Mem)) (v_2 : Int32) (M : Mem) : Option (Bool × Mem) :=
  nm (v_2 + nI 1) fun v1 => k_12 v1 M
def b_X8_widen_12 (a1 : Int32) (rc : Int32 → Mem → Option (Bool × Mem)) (v_2 : Int32) (M : Mem) : Option (Bool × Mem) :=
  if (gI M (gR M 15 0) 0) ≤ v_2 then (some (true, M)) else (bn (f_X8_isWhole M v_2) fun r5 => if r5 = true then (gin v_2 9 <| gin v_2 9 <| if ((gI M 15 2) - (gA M 15 8 (ix v_2))) ≤ (gA M (gR M 15 0) 4 (ix v_2)) then (f_X8_widen_75 a1 rc v_2 M) else (gin v_2 9 <| bn (f_X8_lose M v_2 (gA M 15 7 (ix v_2))) fun M13 => nm (sI M13 15 4 ((gI M13 15 4) + (nI 1))) fun M14 => f_X8_widen_75 a1 rc v_2 M14)) else (f_X8_widen_75 a1 rc v_2 M))
def f_X8_widen_12 (a1 : Int32) : Nat → (Int32 × Mem) → Option (Bool × Mem) := lp (fun rc q => b_X8_widen_12 a1 (fun x0 x1 => rc (x0, x1)) q.1 q.2)
def f_X8_widen (M : Mem) (a1 : Int32) : Option (Bool × Mem) :=
  nm (sI M 15 2 ((gI M 15 2) + a1)) fun M15 => f_X8_widen_12 a1 FU ((nI 0), M15)
set_option maxRecDepth 100000 in
set_option maxHeartbeats 4000000 in
theorem n_X8_widen_75 {a1 : Int32} (X : Cx p s m args meth c D cy ad A RX8 cX8_widen 3 ((some .boolean))) (hN : NsC ns) {k_12 : Int32 → Mem → Option (Bool × Mem)} {v_2 : Int32} {M : Mem} {r : Bool × Mem} (hX : f_X8_widen_75 a1 k_12 v_2 M = some r) : (∀ (v_2 : Int32) (M : Mem) (r : Bool × Mem), k_12 v_2 M = some r → ∀ (ls : Array Slot) (H : Heap) (locs : List Loc), lv_has ls 3 [(0, .ref (ad 15 0)), (2, .int v_2)] → St D cy ad ns A M s.heap H locs → W p l e rm_X8_widen s m args below meth c H locs 0 0 (MQ below (QC D cy ad ns A r.2 (some (.int (b2i r.1)))) args s 0 0 A) (F0 m 12 ls [])) → ∀ (ls : Array Slot) (H : Heap) (locs : List Loc), lv_has ls 3 [(0, .ref (ad 15 0)), (2, .int v_2)] → St D cy ad ns A M s.heap H locs → W p l e rm_X8_widen s m args below meth c H locs 0 0 (MQ below (QC D cy ad ns A r.2 (some (.int (b2i r.1)))) args s 0 0 A) (F0 m 75 ls []) := by
  obtain ⟨hx, hb, hml, hown, hts, hK, hr, hlk, hA, hG⟩ := id X
  intro hk_12 ls H locs hl hS
  unfold f_X8_widen_75 at hX
  obtain ⟨v1, ev1⟩ : ∃ y : Int32, y = (v_2 + nI 1) := ⟨_, rfl⟩
  have hX := nm_of ev1 hX
  refine lv_iinc (v := v1) (lv' := [(2, .int v1), (0, .ref (ad 15 0))]) hx hb dX8_widen_75 hl (k := 1) rfl (by rw [ev1]; rfl) (by decide) rfl (fun ls hl => ?_)
  refine lv_goto (tgt := 12) hx hb dX8_widen_78 (by decide) ?_
  exact hk_12 _ _ _ hX _ _ _ (lv_sub hl [1, 0] rfl) hS
set_option maxRecDepth 100000 in
set_option maxHeartbeats 4000000 in
theorem n_X8_widen_12 {a1 : Int32} (X : Cx p s m args meth c D cy ad A RX8 cX8_widen 3 ((some .boolean))) (hN : NsC ns) : ∀ (n : Nat) (v_2 : Int32) (M : Mem) (r : Bool × Mem), f_X8_widen_12 a1 n (v_2, M) = some r → ∀ (ls : Array Slot) (H : Heap) (locs : List Loc), lv_has ls 3 [(0, .ref (ad 15 0)), (2, .int v_2)] → St D cy ad ns A M s.heap H locs → W p l e rm_X8_widen s m args below meth c H locs 0 0 (MQ below (QC D cy ad ns A r.2 (some (.int (b2i r.1)))) args s 0 0 A) (F0 m 12 ls []) := by
  obtain ⟨hx, hb, hml, hown, hts, hK, hr, hlk, hA, hG⟩ := id X
  intro n
  induction n with
  | zero => intro v_2 M r hX; cases (show (none : Option (Bool × Mem)) = some r from hX)
  | succ n ih =>
    intro v_2 M r hX ls H locs hl hS
    have hX : b_X8_widen_12 a1 (fun x0 x1 => f_X8_widen_12 a1 n (x0, x1)) v_2 M = some r := hX
    unfold b_X8_widen_12 at hX
    refine lv_iload_n hx hb dX8_widen_12 rfl (lv_at hl 1 rfl) ?_
    refine lv_aload_n hx hb dX8_widen_13 rfl (lv_at hl 0 rfl) ?_
    refine fg_X8_12 X hS (o_of hN (o := 15) (c := 8) (by decide) rfl) dX8_widen_14 ?_
    have q2 := wr_15 hN hS
    refine fg_X8_82 X hS q2 dX8_widen_17 ?_
    refine lv_icmp_ge (tgt := 81) hx hb dX8_widen_20 (by decide) (fun c3 => ?_) (fun c3 => ?_)
    · have hX := if_t c3 hX
      refine lv_iconst (v := nI 1) hx hb dX8_widen_81 (by decide) ?_
      obtain rfl := some_of hX
      exact x_Z (v := true) X hS dX8_widen_82
    · have hX := if_f c3 hX
      refine lv_aload_n hx hb dX8_widen_23 rfl (lv_at hl 0 rfl) ?_
      refine lv_iload_n hx hb dX8_widen_24 rfl (lv_at hl 1 rfl) ?_
      obtain ⟨r5, h4, hX⟩ := bn_of hX
      refine r_callV1 (v := .int (b2i r5)) (As := [.int v_2]) (rest := []) X hS (m_X8_isWhole hN h4) mv_X8_isWhole rfl (o_of hN (o := 15) (c := 8) (by decide) rfl) t3_229 ⟨rfl, rfl, Nat.le_of_ble_eq_true rfl, Nat.le_of_ble_eq_true rfl⟩ rfl hl.1 rfl (Nat.le_of_ble_eq_true rfl) ⟨Nat.zero_le _, Nat.zero_le _⟩ dX8_widen_25 (fun H locs hS => ?_)
      refine lv_if_eq (tgt := 75) hx hb dX8_widen_28 (by decide) (fun c6 => ?_) (fun c6 => ?_)
      · have hX := if_bf c6 hX
        exact n_X8_widen_75 X hN hX (fun z0 z1 r h ls H locs hl hS => ih z0 z1 r h ls H locs hl hS) _ _ _ (lv_sub hl [0, 1] rfl) hS
      · have hX := if_bt c6 hX
        refine lv_aload_n hx hb dX8_widen_31 rfl (lv_at hl 0 rfl) ?_
        refine fg_X8_32 X hS (o_of hN (o := 15) (c := 8) (by decide) rfl) dX8_widen_32 ?_
        refine lv_aload_n hx hb dX8_widen_35 rfl (lv_at hl 0 rfl) ?_
        refine fg_X8_22 X hS (o_of hN (o := 15) (c := 8) (by decide) rfl) dX8_widen_36 ?_
        refine lv_iload_n hx hb dX8_widen_39 rfl (lv_at hl 1 rfl) ?_
        obtain ⟨g7, hX⟩ := gin_of hX
        refine r_iald (ci := 8) (o := 15) (k := 8) (n := 9) X hS (o_of hN (o := 15) (c := 8) (by decide) rfl) rfl rfl g7 dX8_widen_40 ?_
        refine lv_isub hx hb dX8_widen_41 ?_
        refine lv_aload_n hx hb dX8_widen_42 rfl (lv_at hl 0 rfl) ?_
        refine fg_X8_12 X hS (o_of hN (o := 15) (c := 8) (by decide) rfl) dX8_widen_43 ?_
        have q8 := wr_15 hN hS
        refine fg_X8_123 X hS q8 dX8_widen_46 ?_
        refine lv_iload_n hx hb dX8_widen_49 rfl (lv_at hl 1 rfl) ?_
        obtain ⟨g9, hX⟩ := gin_of hX
        refine r_iald (ci := 0) (o := (gR M 15 0)) (k := 4) (n := 9) X hS q8 rfl rfl g9 dX8_widen_50 ?_
        refine lv_icmp_le (tgt := 75) hx hb dX8_widen_51 (by decide) (fun c10 => ?_) (fun c10 => ?_)
        · have hX := if_t c10 hX
          exact n_X8_widen_75 X hN hX (fun z0 z1 r h ls H locs hl hS => ih z0 z1 r h ls H locs hl hS) _ _ _ (lv_sub hl [0, 1] rfl) hS
        · have hX := if_f c10 hX
          refine lv_aload_n hx hb dX8_widen_54 rfl (lv_at hl 0 rfl) ?_
          refine lv_iload_n hx hb dX8_widen_55 rfl (lv_at hl 1 rfl) ?_
          refine lv_aload_n hx hb dX8_widen_56 rfl (lv_at hl 0 rfl) ?_
          refine fg_X8_18 X hS (o_of hN (o := 15) (c := 8) (by decide) rfl) dX8_widen_57 ?_
          refine lv_iload_n hx hb dX8_widen_60 rfl (lv_at hl 1 rfl) ?_
          obtain ⟨g11, hX⟩ := gin_of hX
          refine r_iald (ci := 8) (o := 15) (k := 7) (n := 9) X hS (o_of hN (o := 15) (c := 8) (by decide) rfl) rfl rfl g11 dX8_widen_61 ?_
          obtain ⟨M13, h12, hX⟩ := bn_of hX
          refine r_callV0 (As := [.int v_2, .int (gA M 15 7 (ix v_2))]) (rest := []) X hS (m_X8_lose hN h12) mv_X8_lose rfl (o_of hN (o := 15) (c := 8) (by decide) rfl) t4_2 ⟨rfl, rfl, Nat.le_of_ble_eq_true rfl, Nat.le_of_ble_eq_true rfl⟩ rfl hl.1 rfl (Nat.le_of_ble_eq_true rfl) ⟨Nat.zero_le _, Nat.zero_le _⟩ dX8_widen_62 (fun H locs hS => ?_)
          refine lv_aload_n hx hb dX8_widen_65 rfl (lv_at hl 0 rfl) ?_
          refine lv_dup hx hb dX8_widen_66 rfl ?_
          refine fg_X8_38 X hS (o_of hN (o := 15) (c := 8) (by decide) rfl) dX8_widen_67 ?_
          refine lv_iconst (v := nI 1) hx hb dX8_widen_70 (by decide) ?_
          refine lv_iadd hx hb dX8_widen_71 ?_
          refine fp_X8_38 X hS (o_of hN (o := 15) (c := 8) (by decide) rfl) dX8_widen_72 (fun H locs hS => ?_)
          obtain ⟨M14, eM14, hS, hX⟩ := nm_mem hS hX
          exact n_X8_widen_75 X hN hX (fun z0 z1 r h ls H locs hl hS => ih z0 z1 r h ls H locs hl hS) _ _ _ (lv_sub hl [0, 1] rfl) hS
set_option maxRecDepth 100000 in
set_option maxHeartbeats 4000000 in
theorem m_X8_widen {l : Launch} {D : va_G} {cy : Nat → ClassId} {ad : Nat → Nat → Nat} {ns : List (Nat × Nat)} {A : Nat → Prop} {M : Mem} (hN : NsC ns) {a1 : Int32} {r : Bool × Mem} (hX : f_X8_widen M a1 = some r) : Ct l yX8_widen cX8_widen 3 ((some .boolean)) rm_X8_widen D cy ad ns A [.ref (ad 15 0), .int a1] M r.2 (some (.int (b2i r.1))) := by
  refine ct_of (lv := [(0, .ref (ad 15 0)), (1, .int a1)]) (by decide) (Nat.le_of_ble_eq_true rfl) rfl ?_
  intro p e s m args below meth c ls X hl hS
  obtain ⟨hx, hb, hml, hown, hts, hK, hr, hlk, hA, hG⟩ := id X
  obtain ⟨H, hH⟩ : ∃ z, z = s.heap := ⟨_, rfl⟩
  obtain ⟨locs, hlo⟩ : ∃ z : List Loc, z = [] := ⟨_, rfl⟩
  have hS : St D cy ad ns A M s.heap H locs := by rw [hH, hlo]; exact hS
  have hgoal : W p l e rm_X8_widen s m args below meth c H locs 0 0 (MQ below (QC D cy ad ns A r.2 (some (.int (b2i r.1)))) args s 0 0 A) (F0 m 0 ls []) := by
    unfold f_X8_widen at hX
    refine lv_aload_n hx hb dX8_widen_0 rfl (lv_at hl 0 rfl) ?_
    refine lv_dup hx hb dX8_widen_1 rfl ?_
    refine fg_X8_32 X hS (o_of hN (o := 15) (c := 8) (by decide) rfl) dX8_widen_2 ?_
    refine lv_iload_n hx hb dX8_widen_5 rfl (lv_at hl 1 rfl) ?_
    refine lv_iadd hx hb dX8_widen_6 ?_
    refine fp_X8_32 X hS (o_of hN (o := 15) (c := 8) (by decide) rfl) dX8_widen_7 (fun H locs hS => ?_)
    obtain ⟨M15, eM15, hS, hX⟩ := nm_mem hS hX
    refine lv_iconst (v := nI 0) hx hb dX8_widen_10 (by decide) ?_
    refine lv_istore_n (lv' := [(2, .int (nI 0)), (0, .ref (ad 15 0)), (1, .int a1)]) hx hb dX8_widen_11 rfl hl (by decide) rfl (fun ls hl => ?_)
    exact n_X8_widen_12 X hN _ _ _ _ hX _ _ _ (lv_sub hl [1, 0] rfl) hS
  rw [hH, hlo] at hgoal
  exact hgoal
theorem mv_X8_widen : Mv yX8_widen RX8 cX8_widen 3 ((some .boolean)) 1 := ⟨t4_13, t4_11, t4_12, t1_8, ⟨by decide, by decide⟩, by decide +kernel⟩
/-! SewnYear$Wear.sleep()Z -/
def rm_X8_sleep : Room := { frames := 3, cells := 0, slots := 0, locals := 65 }
def f_X8_sleep (M : Mem) : Option (Bool × Mem) :=
  if ((gI M 15 1) + (nI 1)) < (nI 100) then (nm (sI M 15 1 ((gI M 15 1) + (nI 1))) fun M2 => nm (sI M2 15 3 (nI 0)) fun M3 => gin (gI M3 15 1) 100 <| bp (f_X8_widen M3 (gA M3 (gR M3 15 0) 6 (ix (gI M3 15 1)))) fun r8 M7 => some (r8, M7)) else (some (false, M))
set_option maxRecDepth 100000 in
set_option maxHeartbeats 4000000 in
theorem m_X8_sleep {l : Launch} {D : va_G} {cy : Nat → ClassId} {ad : Nat → Nat → Nat} {ns : List (Nat × Nat)} {A : Nat → Prop} {M : Mem} (hN : NsC ns) {r : Bool × Mem} (hX : f_X8_sleep M = some r) : Ct l yX8_sleep cX8_sleep 1 ((some .boolean)) rm_X8_sleep D cy ad ns A [.ref (ad 15 0)] M r.2 (some (.int (b2i r.1))) := by
  refine ct_of (lv := [(0, .ref (ad 15 0))]) (by decide) (Nat.le_of_ble_eq_true rfl) rfl ?_
  intro p e s m args below meth c ls X hl hS
  obtain ⟨hx, hb, hml, hown, hts, hK, hr, hlk, hA, hG⟩ := id X
  obtain ⟨H, hH⟩ : ∃ z, z = s.heap := ⟨_, rfl⟩
  obtain ⟨locs, hlo⟩ : ∃ z : List Loc, z = [] := ⟨_, rfl⟩
  have hS : St D cy ad ns A M s.heap H locs := by rw [hH, hlo]; exact hS
  have hgoal : W p l e rm_X8_sleep s m args below meth c H locs 0 0 (MQ below (QC D cy ad ns A r.2 (some (.int (b2i r.1)))) args s 0 0 A) (F0 m 0 ls []) := by
    unfold f_X8_sleep at hX
    refine lv_aload_n hx hb dX8_sleep_0 rfl (lv_at hl 0 rfl) ?_
    refine fg_X8_25 X hS (o_of hN (o := 15) (c := 8) (by decide) rfl) dX8_sleep_1 ?_
    refine lv_iconst (v := nI 1) hx hb dX8_sleep_4 (by decide) ?_
    refine lv_iadd hx hb dX8_sleep_5 ?_
    refine lv_bipush (v := nI 100) hx hb dX8_sleep_6 (by decide) ?_
    refine lv_icmp_lt (tgt := 13) hx hb dX8_sleep_8 (by decide) (fun c1 => ?_) (fun c1 => ?_)
    · have hX := if_t c1 hX
      refine lv_aload_n hx hb dX8_sleep_13 rfl (lv_at hl 0 rfl) ?_
      refine lv_dup hx hb dX8_sleep_14 rfl ?_
      refine fg_X8_25 X hS (o_of hN (o := 15) (c := 8) (by decide) rfl) dX8_sleep_15 ?_
      refine lv_iconst (v := nI 1) hx hb dX8_sleep_18 (by decide) ?_
      refine lv_iadd hx hb dX8_sleep_19 ?_
      refine fp_X8_25 X hS (o_of hN (o := 15) (c := 8) (by decide) rfl) dX8_sleep_20 (fun H locs hS => ?_)
      obtain ⟨M2, eM2, hS, hX⟩ := nm_mem hS hX
      refine lv_aload_n hx hb dX8_sleep_23 rfl (lv_at hl 0 rfl) ?_
      refine lv_iconst (v := nI 0) hx hb dX8_sleep_24 (by decide) ?_
      refine fp_X8_35 X hS (o_of hN (o := 15) (c := 8) (by decide) rfl) dX8_sleep_25 (fun H locs hS => ?_)
      obtain ⟨M3, eM3, hS, hX⟩ := nm_mem hS hX
      refine lv_aload_n hx hb dX8_sleep_28 rfl (lv_at hl 0 rfl) ?_
      refine lv_aload_n hx hb dX8_sleep_29 rfl (lv_at hl 0 rfl) ?_
      refine fg_X8_12 X hS (o_of hN (o := 15) (c := 8) (by decide) rfl) dX8_sleep_30 ?_
      have q4 := wr_15 hN hS
      refine fg_X8_29 X hS q4 dX8_sleep_33 ?_
      refine lv_aload_n hx hb dX8_sleep_36 rfl (lv_at hl 0 rfl) ?_
      refine fg_X8_25 X hS (o_of hN (o := 15) (c := 8) (by decide) rfl) dX8_sleep_37 ?_
      obtain ⟨g5, hX⟩ := gin_of hX
      refine r_iald (ci := 0) (o := (gR M3 15 0)) (k := 6) (n := 100) X hS q4 rfl rfl g5 dX8_sleep_40 ?_
      obtain ⟨r8, M7, h6, hX⟩ := bp_of hX
      refine r_callV1 (v := .int (b2i r8)) (As := [.int (gA M3 (gR M3 15 0) 6 (ix (gI M3 15 1)))]) (rest := []) X hS (m_X8_widen hN h6) mv_X8_widen rfl (o_of hN (o := 15) (c := 8) (by decide) rfl) t4_10 ⟨rfl, rfl, Nat.le_of_ble_eq_true rfl, Nat.le_of_ble_eq_true rfl⟩ rfl hl.1 rfl (Nat.le_of_ble_eq_true rfl) ⟨Nat.zero_le _, Nat.zero_le _⟩ dX8_sleep_41 (fun H locs hS => ?_)
      obtain rfl := some_of hX
      exact x_Z (v := r8) X hS dX8_sleep_44
    · have hX := if_f c1 hX
      refine lv_iconst (v := nI 0) hx hb dX8_sleep_11 (by decide) ?_
      obtain rfl := some_of hX
      exact x_Z (v := false) X hS dX8_sleep_12
  rw [hH, hlo] at hgoal
  exact hgoal
theorem mv_X8_sleep : Mv yX8_sleep RX8 cX8_sleep 1 ((some .boolean)) 0 := ⟨t4_17, t4_15, t4_16, t1_8, ⟨by decide, by decide⟩, by decide +kernel⟩
/-! SewnYear$Wear.act(II)Z -/
def rm_X8_act : Room := { frames := 4, cells := 0, slots := 0, locals := 85 }
def f_X8_act (M : Mem) (a1 : Int32) (a2 : Int32) : Option (Bool × Mem) :=
  if a1 = nI 0 then (bp (f_X8_stitch M a2) fun r4 M3 => some (r4, M3)) else if a1 = nI 1 then (bp (f_X8_unpick M a2) fun r8 M7 => some (r8, M7)) else if a1 = nI 2 then (bp (f_X8_tear M a2) fun r12 M11 => some (r12, M11)) else if a1 = nI 3 then (bp (f_X8_widen M a2) fun r16 M15 => some (r16, M15)) else if a1 = nI 4 then (bp (f_X8_widen M (-a2)) fun r20 M19 => some (r20, M19)) else if a1 = nI 5 then (bp (f_X8_sleep M) fun r24 M23 => some (r24, M23)) else (some (false, M))
set_option maxRecDepth 100000 in
set_option maxHeartbeats 4000000 in
theorem m_X8_act {l : Launch} {D : va_G} {cy : Nat → ClassId} {ad : Nat → Nat → Nat} {ns : List (Nat × Nat)} {A : Nat → Prop} {M : Mem} (hN : NsC ns) {a1 : Int32} {a2 : Int32} {r : Bool × Mem} (hX : f_X8_act M a1 a2 = some r) : Ct l yX8_act cX8_act 3 ((some .boolean)) rm_X8_act D cy ad ns A [.ref (ad 15 0), .int a1, .int a2] M r.2 (some (.int (b2i r.1))) := by
  refine ct_of (lv := [(0, .ref (ad 15 0)), (1, .int a1), (2, .int a2)]) (by decide) (Nat.le_of_ble_eq_true rfl) rfl ?_
  intro p e s m args below meth c ls X hl hS
  obtain ⟨hx, hb, hml, hown, hts, hK, hr, hlk, hA, hG⟩ := id X
  obtain ⟨H, hH⟩ : ∃ z, z = s.heap := ⟨_, rfl⟩
  obtain ⟨locs, hlo⟩ : ∃ z : List Loc, z = [] := ⟨_, rfl⟩
  have hS : St D cy ad ns A M s.heap H locs := by rw [hH, hlo]; exact hS
  have hgoal : W p l e rm_X8_act s m args below meth c H locs 0 0 (MQ below (QC D cy ad ns A r.2 (some (.int (b2i r.1)))) args s 0 0 A) (F0 m 0 ls []) := by
    unfold f_X8_act at hX
    refine lv_iload_n hx hb dX8_act_0 rfl (lv_at hl 1 rfl) ?_
    by_cases c1 : a1 = nI 0
    · have hX := if_t c1 hX
      refine r_tabIn c1 (off := 39) (tgt := 40) hx hb dX8_act_1 (by decide) (by decide) (by decide) (by decide) ?_
      refine lv_aload_n hx hb dX8_act_40 rfl (lv_at hl 0 rfl) ?_
      refine lv_iload_n hx hb dX8_act_41 rfl (lv_at hl 2 rfl) ?_
      obtain ⟨r4, M3, h2, hX⟩ := bp_of hX
      refine r_callV1 (v := .int (b2i r4)) (As := [.int a2]) (rest := []) X hS (m_X8_stitch hN h2) mv_X8_stitch rfl (o_of hN (o := 15) (c := 8) (by decide) rfl) t3_224 ⟨rfl, rfl, Nat.le_of_ble_eq_true rfl, Nat.le_of_ble_eq_true rfl⟩ rfl hl.1 rfl (Nat.le_of_ble_eq_true rfl) ⟨Nat.zero_le _, Nat.zero_le _⟩ dX8_act_42 (fun H locs hS => ?_)
      obtain rfl := some_of hX
      exact x_Z (v := r4) X hS dX8_act_45
    have hX := if_f c1 hX
    by_cases c5 : a1 = nI 1
    · have hX := if_t c5 hX
      refine r_tabIn c5 (off := 45) (tgt := 46) hx hb dX8_act_1 (by decide) (by decide) (by decide) (by decide) ?_
      refine lv_aload_n hx hb dX8_act_46 rfl (lv_at hl 0 rfl) ?_
      refine lv_iload_n hx hb dX8_act_47 rfl (lv_at hl 2 rfl) ?_
      obtain ⟨r8, M7, h6, hX⟩ := bp_of hX
      refine r_callV1 (v := .int (b2i r8)) (As := [.int a2]) (rest := []) X hS (m_X8_unpick hN h6) mv_X8_unpick rfl (o_of hN (o := 15) (c := 8) (by decide) rfl) t3_237 ⟨rfl, rfl, Nat.le_of_ble_eq_true rfl, Nat.le_of_ble_eq_true rfl⟩ rfl hl.1 rfl (Nat.le_of_ble_eq_true rfl) ⟨Nat.zero_le _, Nat.zero_le _⟩ dX8_act_48 (fun H locs hS => ?_)
      obtain rfl := some_of hX
      exact x_Z (v := r8) X hS dX8_act_51
    have hX := if_f c5 hX
    by_cases c9 : a1 = nI 2
    · have hX := if_t c9 hX
      refine r_tabIn c9 (off := 51) (tgt := 52) hx hb dX8_act_1 (by decide) (by decide) (by decide) (by decide) ?_
      refine lv_aload_n hx hb dX8_act_52 rfl (lv_at hl 0 rfl) ?_
      refine lv_iload_n hx hb dX8_act_53 rfl (lv_at hl 2 rfl) ?_
      obtain ⟨r12, M11, h10, hX⟩ := bp_of hX
      refine r_callV1 (v := .int (b2i r12)) (As := [.int a2]) (rest := []) X hS (m_X8_tear hN h10) mv_X8_tear rfl (o_of hN (o := 15) (c := 8) (by decide) rfl) t4_6 ⟨rfl, rfl, Nat.le_of_ble_eq_true rfl, Nat.le_of_ble_eq_true rfl⟩ rfl hl.1 rfl (Nat.le_of_ble_eq_true rfl) ⟨Nat.zero_le _, Nat.zero_le _⟩ dX8_act_54 (fun H locs hS => ?_)
      obtain rfl := some_of hX
      exact x_Z (v := r12) X hS dX8_act_57
    have hX := if_f c9 hX
    by_cases c13 : a1 = nI 3
    · have hX := if_t c13 hX
      refine r_tabIn c13 (off := 57) (tgt := 58) hx hb dX8_act_1 (by decide) (by decide) (by decide) (by decide) ?_
      refine lv_aload_n hx hb dX8_act_58 rfl (lv_at hl 0 rfl) ?_
      refine lv_iload_n hx hb dX8_act_59 rfl (lv_at hl 2 rfl) ?_
      obtain ⟨r16, M15, h14, hX⟩ := bp_of hX
      refine r_callV1 (v := .int (b2i r16)) (As := [.int a2]) (rest := []) X hS (m_X8_widen hN h14) mv_X8_widen rfl (o_of hN (o := 15) (c := 8) (by decide) rfl) t4_10 ⟨rfl, rfl, Nat.le_of_ble_eq_true rfl, Nat.le_of_ble_eq_true rfl⟩ rfl hl.1 rfl (Nat.le_of_ble_eq_true rfl) ⟨Nat.zero_le _, Nat.zero_le _⟩ dX8_act_60 (fun H locs hS => ?_)
      obtain rfl := some_of hX
      exact x_Z (v := r16) X hS dX8_act_63
    have hX := if_f c13 hX
    by_cases c17 : a1 = nI 4
    · have hX := if_t c17 hX
      refine r_tabIn c17 (off := 63) (tgt := 64) hx hb dX8_act_1 (by decide) (by decide) (by decide) (by decide) ?_
      refine lv_aload_n hx hb dX8_act_64 rfl (lv_at hl 0 rfl) ?_
      refine lv_iload_n hx hb dX8_act_65 rfl (lv_at hl 2 rfl) ?_
      refine lv_ineg hx hb dX8_act_66 ?_
      obtain ⟨r20, M19, h18, hX⟩ := bp_of hX
      refine r_callV1 (v := .int (b2i r20)) (As := [.int (-a2)]) (rest := []) X hS (m_X8_widen hN h18) mv_X8_widen rfl (o_of hN (o := 15) (c := 8) (by decide) rfl) t4_10 ⟨rfl, rfl, Nat.le_of_ble_eq_true rfl, Nat.le_of_ble_eq_true rfl⟩ rfl hl.1 rfl (Nat.le_of_ble_eq_true rfl) ⟨Nat.zero_le _, Nat.zero_le _⟩ dX8_act_67 (fun H locs hS => ?_)
      obtain rfl := some_of hX
      exact x_Z (v := r20) X hS dX8_act_70
    have hX := if_f c17 hX
    by_cases c21 : a1 = nI 5
    · have hX := if_t c21 hX
      refine r_tabIn c21 (off := 70) (tgt := 71) hx hb dX8_act_1 (by decide) (by decide) (by decide) (by decide) ?_
      refine lv_aload_n hx hb dX8_act_71 rfl (lv_at hl 0 rfl) ?_
      obtain ⟨r24, M23, h22, hX⟩ := bp_of hX
      refine r_callV1 (v := .int (b2i r24)) (As := []) (rest := []) X hS (m_X8_sleep hN h22) mv_X8_sleep rfl (o_of hN (o := 15) (c := 8) (by decide) rfl) t4_14 ⟨rfl, rfl, Nat.le_of_ble_eq_true rfl, Nat.le_of_ble_eq_true rfl⟩ rfl hl.1 rfl (Nat.le_of_ble_eq_true rfl) ⟨Nat.zero_le _, Nat.zero_le _⟩ dX8_act_72 (fun H locs hS => ?_)
      obtain rfl := some_of hX
      exact x_Z (v := r24) X hS dX8_act_75
    have hX := if_f c21 hX
    have ic1 : ¬ a1.toInt = 0 := lv_neT c1 rfl
    have ic5 : ¬ a1.toInt = 1 := lv_neT c5 rfl
    have ic9 : ¬ a1.toInt = 2 := lv_neT c9 rfl
    have ic13 : ¬ a1.toInt = 3 := lv_neT c13 rfl
    have ic17 : ¬ a1.toInt = 4 := lv_neT c17 rfl
    have ic21 : ¬ a1.toInt = 5 := lv_neT c21 rfl
    refine lv_tableOut (tgt := 76) hx hb dX8_act_1 (by omega) (by decide) ?_
    refine lv_iconst (v := nI 0) hx hb dX8_act_76 (by decide) ?_
    obtain rfl := some_of hX
    exact x_Z (v := false) X hS dX8_act_77
  rw [hH, hlo] at hgoal
  exact hgoal
theorem mv_X8_act : Mv yX8_act RX8 cX8_act 3 ((some .boolean)) 2 := ⟨t3_223, t3_221, t3_222, t1_8, ⟨by decide, by decide⟩, by decide +kernel⟩
/-! SewnYear$Wear.lead(LSewnYear$Coat;LSewnYear$Life;I)I -/
def rm_X8_lead : Room := { frames := 5, cells := 0, slots := 0, locals := 107 }
def f_X8_lead_53 (a1 : Nat) (a2 : Nat) (a3 : Int32) (M : Mem) : Option (Int32 × Mem) :=
  nm (mnI a3 (gI M a2 0)) fun v1 => some (v1, M)
def b_X8_lead_8 (a1 : Nat) (a2 : Nat) (a3 : Int32) (rc : Int32 → Mem → Option (Int32 × Mem)) (v_4 : Int32) (M : Mem) : Option (Int32 × Mem) :=
  if a3 ≤ v_4 then (f_X8_lead_53 a1 a2 a3 M) else (if (gI M a2 0) ≤ v_4 then (f_X8_lead_53 a1 a2 a3 M) else (gin v_4 40 <| gin v_4 40 <| bp (f_X8_act M (gA M a2 1 (ix v_4)) (gA M a2 2 (ix v_4))) fun r8 M7 => if r8 = true then (nm (v_4 + nI 1) fun v10 => rc v10 M7) else (some (v_4, M7))))
def f_X8_lead_8 (a1 : Nat) (a2 : Nat) (a3 : Int32) : Nat → (Int32 × Mem) → Option (Int32 × Mem) := lp (fun rc q => b_X8_lead_8 a1 a2 a3 (fun x0 x1 => rc (x0, x1)) q.1 q.2)
def f_X8_lead (M : Mem) (a1 : Nat) (a2 : Nat) (a3 : Int32) : Option (Int32 × Mem) :=
  bn (f_X8_begin M a1) fun M12 => f_X8_lead_8 a1 a2 a3 FU ((nI 0), M12)
set_option maxRecDepth 100000 in
set_option maxHeartbeats 4000000 in
theorem n_X8_lead_53 {a1 : Nat} {a2 : Nat} {a3 : Int32} (X : Cx p s m args meth c D cy ad A RX8 cX8_lead 5 ((some .int))) (hN : NsC ns) (ha1 : Ob ns 0 a1) (ha2 : Ob ns 1 a2) {M : Mem} {r : Int32 × Mem} (hX : f_X8_lead_53 a1 a2 a3 M = some r) : ∀ (ls : Array Slot) (H : Heap) (locs : List Loc), lv_has ls 5 [(2, .ref (ad a2 0)), (3, .int a3)] → St D cy ad ns A M s.heap H locs → W p l e rm_X8_lead s m args below meth c H locs 0 0 (MQ below (QC D cy ad ns A r.2 (some (.int r.1))) args s 0 0 A) (F0 m 53 ls []) := by
  obtain ⟨hx, hb, hml, hown, hts, hK, hr, hlk, hA, hG⟩ := id X
  intro ls H locs hl hS
  unfold f_X8_lead_53 at hX
  refine lv_iload_n hx hb dX8_lead_53 rfl (lv_at hl 1 rfl) ?_
  refine lv_aload_n hx hb dX8_lead_54 rfl (lv_at hl 0 rfl) ?_
  refine fg_X8_54 X hS ha2 dX8_lead_55 ?_
  refine va_mmin hx hb (hml.trans hl.1.symm) (own := RX8) hown (hts _ t4_1) (hts _ jm_min.1) (hts _ jm_min.2.1) (hts _ jm_min.2.2) (Nat.le_of_ble_eq_true rfl) (Nat.le_of_ble_eq_true rfl) (Nat.zero_le _) (Nat.zero_le _) dX8_lead_58 ?_
  refine lv_topi (fun v1 ev1 => ?_)
  have hX := nm_of ev1 hX
  obtain rfl := some_of hX
  exact x_I (v := v1) X hS dX8_lead_61
set_option maxRecDepth 100000 in
set_option maxHeartbeats 4000000 in
theorem n_X8_lead_8 {a1 : Nat} {a2 : Nat} {a3 : Int32} (X : Cx p s m args meth c D cy ad A RX8 cX8_lead 5 ((some .int))) (hN : NsC ns) (ha1 : Ob ns 0 a1) (ha2 : Ob ns 1 a2) : ∀ (n : Nat) (v_4 : Int32) (M : Mem) (r : Int32 × Mem), f_X8_lead_8 a1 a2 a3 n (v_4, M) = some r → ∀ (ls : Array Slot) (H : Heap) (locs : List Loc), lv_has ls 5 [(0, .ref (ad 15 0)), (2, .ref (ad a2 0)), (3, .int a3), (4, .int v_4)] → St D cy ad ns A M s.heap H locs → W p l e rm_X8_lead s m args below meth c H locs 0 0 (MQ below (QC D cy ad ns A r.2 (some (.int r.1))) args s 0 0 A) (F0 m 8 ls []) := by
  obtain ⟨hx, hb, hml, hown, hts, hK, hr, hlk, hA, hG⟩ := id X
  intro n
  induction n with
  | zero => intro v_4 M r hX; cases (show (none : Option (Int32 × Mem)) = some r from hX)
  | succ n ih =>
    intro v_4 M r hX ls H locs hl hS
    have hX : b_X8_lead_8 a1 a2 a3 (fun x0 x1 => f_X8_lead_8 a1 a2 a3 n (x0, x1)) v_4 M = some r := hX
    unfold b_X8_lead_8 at hX
    refine lv_iload hx hb dX8_lead_8 (lv_at hl 3 rfl) ?_
    refine lv_iload_n hx hb dX8_lead_10 rfl (lv_at hl 2 rfl) ?_
    refine lv_icmp_ge (tgt := 53) hx hb dX8_lead_11 (by decide) (fun c2 => ?_) (fun c2 => ?_)
    · have hX := if_t c2 hX
      exact n_X8_lead_53 X hN ha1 ha2 hX _ _ _ (lv_sub hl [1, 2] rfl) hS
    · have hX := if_f c2 hX
      refine lv_iload hx hb dX8_lead_14 (lv_at hl 3 rfl) ?_
      refine lv_aload_n hx hb dX8_lead_16 rfl (lv_at hl 1 rfl) ?_
      refine fg_X8_54 X hS ha2 dX8_lead_17 ?_
      refine lv_icmp_ge (tgt := 53) hx hb dX8_lead_20 (by decide) (fun c3 => ?_) (fun c3 => ?_)
      · have hX := if_t c3 hX
        exact n_X8_lead_53 X hN ha1 ha2 hX _ _ _ (lv_sub hl [1, 2] rfl) hS
      · have hX := if_f c3 hX
        refine lv_aload_n hx hb dX8_lead_23 rfl (lv_at hl 0 rfl) ?_
        refine lv_aload_n hx hb dX8_lead_24 rfl (lv_at hl 1 rfl) ?_
        refine fg_X8_59 X hS ha2 dX8_lead_25 ?_
        refine lv_iload hx hb dX8_lead_28 (lv_at hl 3 rfl) ?_
        obtain ⟨g4, hX⟩ := gin_of hX
        refine r_iald (ci := 1) (o := a2) (k := 1) (n := 40) X hS ha2 rfl rfl g4 dX8_lead_30 ?_
        refine lv_aload_n hx hb dX8_lead_31 rfl (lv_at hl 1 rfl) ?_
        refine fg_X8_62 X hS ha2 dX8_lead_32 ?_
        refine lv_iload hx hb dX8_lead_35 (lv_at hl 3 rfl) ?_
        obtain ⟨g5, hX⟩ := gin_of hX
        refine r_iald (ci := 1) (o := a2) (k := 2) (n := 40) X hS ha2 rfl rfl g5 dX8_lead_37 ?_
        obtain ⟨r8, M7, h6, hX⟩ := bp_of hX
        refine r_callV1 (v := .int (b2i r8)) (As := [.int (gA M a2 1 (ix v_4)), .int (gA M a2 2 (ix v_4))]) (rest := []) X hS (m_X8_act hN h6) mv_X8_act rfl (o_of hN (o := 15) (c := 8) (by decide) rfl) t3_220 ⟨rfl, rfl, Nat.le_of_ble_eq_true rfl, Nat.le_of_ble_eq_true rfl⟩ rfl hl.1 rfl (Nat.le_of_ble_eq_true rfl) ⟨Nat.zero_le _, Nat.zero_le _⟩ dX8_lead_38 (fun H locs hS => ?_)
        refine lv_if_ne (tgt := 47) hx hb dX8_lead_41 (by decide) (fun c9 => ?_) (fun c9 => ?_)
        · have hX := if_bt c9 hX
          obtain ⟨v10, ev10⟩ : ∃ y : Int32, y = (v_4 + nI 1) := ⟨_, rfl⟩
          have hX := nm_of ev10 hX
          refine lv_iinc (v := v10) (lv' := [(4, .int v10), (0, .ref (ad 15 0)), (2, .ref (ad a2 0)), (3, .int a3)]) hx hb dX8_lead_47 hl (k := 3) rfl (by rw [ev10]; rfl) (by decide) rfl (fun ls hl => ?_)
          refine lv_goto (tgt := 8) hx hb dX8_lead_50 (by decide) ?_
          exact ih _ _ _ hX _ _ _ (lv_sub hl [1, 2, 3, 0] rfl) hS
        · have hX := if_bf c9 hX
          refine lv_iload hx hb dX8_lead_44 (lv_at hl 3 rfl) ?_
          obtain rfl := some_of hX
          exact x_I (v := v_4) X hS dX8_lead_46
set_option maxRecDepth 100000 in
set_option maxHeartbeats 4000000 in
theorem m_X8_lead {l : Launch} {D : va_G} {cy : Nat → ClassId} {ad : Nat → Nat → Nat} {ns : List (Nat × Nat)} {A : Nat → Prop} {M : Mem} (hN : NsC ns) {a1 : Nat} {a2 : Nat} {a3 : Int32} (ha1 : Ob ns 0 a1) (ha2 : Ob ns 1 a2) {r : Int32 × Mem} (hX : f_X8_lead M a1 a2 a3 = some r) : Ct l yX8_lead cX8_lead 5 ((some .int)) rm_X8_lead D cy ad ns A [.ref (ad 15 0), .ref (ad a1 0), .ref (ad a2 0), .int a3] M r.2 (some (.int r.1)) := by
  refine ct_of (lv := [(0, .ref (ad 15 0)), (1, .ref (ad a1 0)), (2, .ref (ad a2 0)), (3, .int a3)]) (by decide) (Nat.le_of_ble_eq_true rfl) rfl ?_
  intro p e s m args below meth c ls X hl hS
  obtain ⟨hx, hb, hml, hown, hts, hK, hr, hlk, hA, hG⟩ := id X
  obtain ⟨H, hH⟩ : ∃ z, z = s.heap := ⟨_, rfl⟩
  obtain ⟨locs, hlo⟩ : ∃ z : List Loc, z = [] := ⟨_, rfl⟩
  have hS : St D cy ad ns A M s.heap H locs := by rw [hH, hlo]; exact hS
  have hgoal : W p l e rm_X8_lead s m args below meth c H locs 0 0 (MQ below (QC D cy ad ns A r.2 (some (.int r.1))) args s 0 0 A) (F0 m 0 ls []) := by
    unfold f_X8_lead at hX
    refine lv_aload_n hx hb dX8_lead_0 rfl (lv_at hl 0 rfl) ?_
    refine lv_aload_n hx hb dX8_lead_1 rfl (lv_at hl 1 rfl) ?_
    obtain ⟨M12, h11, hX⟩ := bn_of hX
    refine r_callV0 (As := [.ref (ad a1 0)]) (rest := []) X hS (m_X8_begin hN ha1 h11) mv_X8_begin rfl (o_of hN (o := 15) (c := 8) (by decide) rfl) t3_215 ⟨rfl, rfl, Nat.le_of_ble_eq_true rfl, Nat.le_of_ble_eq_true rfl⟩ rfl hl.1 rfl (Nat.le_of_ble_eq_true rfl) ⟨Nat.zero_le _, Nat.zero_le _⟩ dX8_lead_2 (fun H locs hS => ?_)
    refine lv_iconst (v := nI 0) hx hb dX8_lead_5 (by decide) ?_
    refine lv_istore (lv' := [(4, .int (nI 0)), (0, .ref (ad 15 0)), (1, .ref (ad a1 0)), (2, .ref (ad a2 0)), (3, .int a3)]) hx hb dX8_lead_6 hl (by decide) rfl (fun ls hl => ?_)
    exact n_X8_lead_8 X hN ha1 ha2 _ _ _ _ hX _ _ _ (lv_sub hl [1, 3, 4, 0] rfl) hS
  rw [hH, hlo] at hgoal
  exact hgoal
theorem mv_X8_lead : Mv yX8_lead RX8 cX8_lead 5 ((some .int)) 3 := ⟨t3_214, t3_212, t3_213, t1_8, ⟨by decide, by decide⟩, by decide +kernel⟩
/-! SewnYear$Wear.next(I)I -/
def rm_X8_next : Room := { frames := 0, cells := 0, slots := 0, locals := 0 }
def f_X8_next (M : Mem) (a1 : Int32) : Option (Int32 × Mem) :=
  nm (sI M 15 6 (((gI M 15 6) * (nI 1103515245)) + (nI 12345))) fun M1 => if (nI 1) ≤ a1 then (gnz a1 <| some (((ushr (gI M1 15 6) (nI 16)) - (ushr (gI M1 15 6) (nI 16)) / a1 * a1), M1)) else (some ((nI 0), M1))
set_option maxRecDepth 100000 in
set_option maxHeartbeats 4000000 in
theorem m_X8_next {l : Launch} {D : va_G} {cy : Nat → ClassId} {ad : Nat → Nat → Nat} {ns : List (Nat × Nat)} {A : Nat → Prop} {M : Mem} (hN : NsC ns) {a1 : Int32} {r : Int32 × Mem} (hX : f_X8_next M a1 = some r) : Ct l yX8_next cX8_next 2 ((some .int)) rm_X8_next D cy ad ns A [.ref (ad 15 0), .int a1] M r.2 (some (.int r.1)) := by
  refine ct_of (lv := [(0, .ref (ad 15 0)), (1, .int a1)]) (by decide) (Nat.le_of_ble_eq_true rfl) rfl ?_
  intro p e s m args below meth c ls X hl hS
  obtain ⟨hx, hb, hml, hown, hts, hK, hr, hlk, hA, hG⟩ := id X
  obtain ⟨H, hH⟩ : ∃ z, z = s.heap := ⟨_, rfl⟩
  obtain ⟨locs, hlo⟩ : ∃ z : List Loc, z = [] := ⟨_, rfl⟩
  have hS : St D cy ad ns A M s.heap H locs := by rw [hH, hlo]; exact hS
  have hgoal : W p l e rm_X8_next s m args below meth c H locs 0 0 (MQ below (QC D cy ad ns A r.2 (some (.int r.1))) args s 0 0 A) (F0 m 0 ls []) := by
    unfold f_X8_next at hX
    refine lv_aload_n hx hb dX8_next_0 rfl (lv_at hl 0 rfl) ?_
    refine lv_aload_n hx hb dX8_next_1 rfl (lv_at hl 0 rfl) ?_
    refine fg_X8_75 X hS (o_of hN (o := 15) (c := 8) (by decide) rfl) dX8_next_2 ?_
    refine lv_ldc hx hb (own := RX8) hown (hts _ t5_55) dX8_next_5 ?_
    refine lv_imul hx hb dX8_next_7 ?_
    refine lv_sipush (v := nI 12345) hx hb dX8_next_8 (by decide) ?_
    refine lv_iadd hx hb dX8_next_11 ?_
    refine fp_X8_75 X hS (o_of hN (o := 15) (c := 8) (by decide) rfl) dX8_next_12 (fun H locs hS => ?_)
    obtain ⟨M1, eM1, hS, hX⟩ := nm_mem hS hX
    refine lv_iload_n hx hb dX8_next_15 rfl (lv_at hl 1 rfl) ?_
    refine lv_iconst (v := nI 1) hx hb dX8_next_16 (by decide) ?_
    refine lv_icmp_ge (tgt := 24) hx hb dX8_next_17 (by decide) (fun c2 => ?_) (fun c2 => ?_)
    · have hX := if_t c2 hX
      refine lv_aload_n hx hb dX8_next_24 rfl (lv_at hl 0 rfl) ?_
      refine fg_X8_75 X hS (o_of hN (o := 15) (c := 8) (by decide) rfl) dX8_next_25 ?_
      refine lv_bipush (v := nI 16) hx hb dX8_next_28 (by decide) ?_
      refine lv_iushr (v := (ushr (gI M1 15 6) (nI 16))) hx hb dX8_next_30 rfl ?_
      refine lv_iload_n hx hb dX8_next_31 rfl (lv_at hl 1 rfl) ?_
      obtain ⟨g3, hX⟩ := gnz_of hX
      refine lv_irem hx hb dX8_next_32 g3 ?_
      obtain rfl := some_of hX
      exact x_I (v := ((ushr (gI M1 15 6) (nI 16)) - (ushr (gI M1 15 6) (nI 16)) / a1 * a1)) X hS dX8_next_33
    · have hX := if_f c2 hX
      refine lv_iconst (v := nI 0) hx hb dX8_next_20 (by decide) ?_
      refine lv_goto (tgt := 33) hx hb dX8_next_21 (by decide) ?_
      obtain rfl := some_of hX
      exact x_I (v := (nI 0)) X hS dX8_next_33
  rw [hH, hlo] at hgoal
  exact hgoal
theorem mv_X8_next : Mv yX8_next RX8 cX8_next 2 ((some .int)) 1 := ⟨t5_54, t5_52, t5_53, t1_8, ⟨by decide, by decide⟩, by decide +kernel⟩
/-! SewnYear$Wear.draw(LSewnYear$Coat;II)V -/
def rm_X8_draw : Room := { frames := 5, cells := 0, slots := 0, locals := 107 }
def f_X8_draw_54 (a1 : Nat) (a2 : Int32) (a3 : Int32) (k_99 : Int32 → Mem → Option (Mem)) (v_4 : Int32) (s_1 : Bool) (M : Mem) : Option (Mem) :=
  bp (f_X8_next M (gI M a1 0)) fun r3 M2 => bp (f_X8_act M2 (b2i s_1) r3) fun r6 M5 => k_99 v_4 M5
def f_X8_draw_99 (a1 : Nat) (a2 : Int32) (a3 : Int32) (k_13 : Int32 → Mem → Option (Mem)) (v_4 : Int32) (M : Mem) : Option (Mem) :=
  nm (v_4 + nI 1) fun v7 => k_13 v7 M
def b_X8_draw_13 (a1 : Nat) (a2 : Int32) (a3 : Int32) (rc : Int32 → Mem → Option (Mem)) (v_4 : Int32) (M : Mem) : Option (Mem) :=
  if a3 ≤ v_4 then (some M) else (bp (f_X8_next M (nI 10)) fun r11 M10 => if (nI 6) < r11 then (if r11 = (nI 7) then (bp (f_X8_next M10 (nI 3)) fun r19 M18 => bp (f_X8_act M18 (nI 3) ((nI 1) + r19)) fun r22 M21 => f_X8_draw_99 a1 a2 a3 rc v_4 M21) else (bp (f_X8_act M10 (nI 5) (-1)) fun r16 M15 => f_X8_draw_99 a1 a2 a3 rc v_4 M15)) else (if (gI M10 a1 0) ≤ (nI 0) then (f_X8_draw_99 a1 a2 a3 rc v_4 M10) else (if r11 = (nI 6) then (f_X8_draw_54 a1 a2 a3 (fun x0 y => f_X8_draw_99 a1 a2 a3 rc x0 y) v_4 true M10) else (f_X8_draw_54 a1 a2 a3 (fun x0 y => f_X8_draw_99 a1 a2 a3 rc x0 y) v_4 false M10))))
def f_X8_draw_13 (a1 : Nat) (a2 : Int32) (a3 : Int32) : Nat → (Int32 × Mem) → Option (Mem) := lp (fun rc q => b_X8_draw_13 a1 a2 a3 (fun x0 x1 => rc (x0, x1)) q.1 q.2)
def f_X8_draw (M : Mem) (a1 : Nat) (a2 : Int32) (a3 : Int32) : Option (Mem) :=
  bn (f_X8_begin M a1) fun M26 => nm (sI M26 15 6 a2) fun M27 => f_X8_draw_13 a1 a2 a3 FU ((nI 0), M27)
set_option maxRecDepth 100000 in
set_option maxHeartbeats 4000000 in
theorem n_X8_draw_54 {a1 : Nat} {a2 : Int32} {a3 : Int32} (X : Cx p s m args meth c D cy ad A RX8 cX8_draw 6 ((none : Option Jvm.ClassFile.FieldType))) (hN : NsC ns) (ha1 : Ob ns 0 a1) {k_99 : Int32 → Mem → Option (Mem)} {v_4 : Int32} {s_1 : Bool} {M : Mem} {r : Mem} (hX : f_X8_draw_54 a1 a2 a3 k_99 v_4 s_1 M = some r) : (∀ (v_4 : Int32) (M : Mem) (r : Mem), k_99 v_4 M = some r → ∀ (ls : Array Slot) (H : Heap) (locs : List Loc), lv_has ls 6 [(0, .ref (ad 15 0)), (1, .ref (ad a1 0)), (3, .int a3), (4, .int v_4)] → St D cy ad ns A M s.heap H locs → W p l e rm_X8_draw s m args below meth c H locs 0 0 (MQ below (QC D cy ad ns A r none) args s 0 0 A) (F0 m 99 ls [])) → ∀ (ls : Array Slot) (H : Heap) (locs : List Loc), lv_has ls 6 [(0, .ref (ad 15 0)), (1, .ref (ad a1 0)), (3, .int a3), (4, .int v_4)] → St D cy ad ns A M s.heap H locs → W p l e rm_X8_draw s m args below meth c H locs 0 0 (MQ below (QC D cy ad ns A r none) args s 0 0 A) (F0 m 54 ls [.int (b2i s_1), .ref (ad 15 0)]) := by
  obtain ⟨hx, hb, hml, hown, hts, hK, hr, hlk, hA, hG⟩ := id X
  intro hk_99 ls H locs hl hS
  unfold f_X8_draw_54 at hX
  refine lv_aload_n hx hb dX8_draw_54 rfl (lv_at hl 0 rfl) ?_
  refine lv_aload_n hx hb dX8_draw_55 rfl (lv_at hl 1 rfl) ?_
  refine fg_X8_82 X hS ha1 dX8_draw_56 ?_
  obtain ⟨r3, M2, h1, hX⟩ := bp_of hX
  refine r_callV1 (v := .int r3) (As := [.int (gI M a1 0)]) (rest := [.int (b2i s_1), .ref (ad 15 0)]) X hS (m_X8_next hN h1) mv_X8_next rfl (o_of hN (o := 15) (c := 8) (by decide) rfl) t5_51 ⟨rfl, rfl, Nat.le_of_ble_eq_true rfl, Nat.le_of_ble_eq_true rfl⟩ rfl hl.1 rfl (Nat.le_of_ble_eq_true rfl) ⟨Nat.zero_le _, Nat.zero_le _⟩ dX8_draw_59 (fun H locs hS => ?_)
  obtain ⟨r6, M5, h4, hX⟩ := bp_of hX
  refine r_callV1 (v := .int (b2i r6)) (As := [.int (b2i s_1), .int r3]) (rest := []) X hS (m_X8_act hN h4) mv_X8_act rfl (o_of hN (o := 15) (c := 8) (by decide) rfl) t3_220 ⟨rfl, rfl, Nat.le_of_ble_eq_true rfl, Nat.le_of_ble_eq_true rfl⟩ rfl hl.1 rfl (Nat.le_of_ble_eq_true rfl) ⟨Nat.zero_le _, Nat.zero_le _⟩ dX8_draw_62 (fun H locs hS => ?_)
  refine lv_pop hx hb dX8_draw_65 rfl ?_
  refine lv_goto (tgt := 99) hx hb dX8_draw_66 (by decide) ?_
  exact hk_99 _ _ _ hX _ _ _ (lv_sub hl [0, 1, 2, 3] rfl) hS
set_option maxRecDepth 100000 in
set_option maxHeartbeats 4000000 in
theorem n_X8_draw_99 {a1 : Nat} {a2 : Int32} {a3 : Int32} (X : Cx p s m args meth c D cy ad A RX8 cX8_draw 6 ((none : Option Jvm.ClassFile.FieldType))) (hN : NsC ns) (ha1 : Ob ns 0 a1) {k_13 : Int32 → Mem → Option (Mem)} {v_4 : Int32} {M : Mem} {r : Mem} (hX : f_X8_draw_99 a1 a2 a3 k_13 v_4 M = some r) : (∀ (v_4 : Int32) (M : Mem) (r : Mem), k_13 v_4 M = some r → ∀ (ls : Array Slot) (H : Heap) (locs : List Loc), lv_has ls 6 [(0, .ref (ad 15 0)), (1, .ref (ad a1 0)), (3, .int a3), (4, .int v_4)] → St D cy ad ns A M s.heap H locs → W p l e rm_X8_draw s m args below meth c H locs 0 0 (MQ below (QC D cy ad ns A r none) args s 0 0 A) (F0 m 13 ls [])) → ∀ (ls : Array Slot) (H : Heap) (locs : List Loc), lv_has ls 6 [(0, .ref (ad 15 0)), (1, .ref (ad a1 0)), (3, .int a3), (4, .int v_4)] → St D cy ad ns A M s.heap H locs → W p l e rm_X8_draw s m args below meth c H locs 0 0 (MQ below (QC D cy ad ns A r none) args s 0 0 A) (F0 m 99 ls []) := by
  obtain ⟨hx, hb, hml, hown, hts, hK, hr, hlk, hA, hG⟩ := id X
  intro hk_13 ls H locs hl hS
  unfold f_X8_draw_99 at hX
  obtain ⟨v7, ev7⟩ : ∃ y : Int32, y = (v_4 + nI 1) := ⟨_, rfl⟩
  have hX := nm_of ev7 hX
  refine lv_iinc (v := v7) (lv' := [(4, .int v7), (0, .ref (ad 15 0)), (1, .ref (ad a1 0)), (3, .int a3)]) hx hb dX8_draw_99 hl (k := 3) rfl (by rw [ev7]; rfl) (by decide) rfl (fun ls hl => ?_)
  refine lv_goto (tgt := 13) hx hb dX8_draw_102 (by decide) ?_
  exact hk_13 _ _ _ hX _ _ _ (lv_sub hl [1, 2, 3, 0] rfl) hS
set_option maxRecDepth 100000 in
set_option maxHeartbeats 4000000 in
theorem n_X8_draw_13 {a1 : Nat} {a2 : Int32} {a3 : Int32} (X : Cx p s m args meth c D cy ad A RX8 cX8_draw 6 ((none : Option Jvm.ClassFile.FieldType))) (hN : NsC ns) (ha1 : Ob ns 0 a1) : ∀ (n : Nat) (v_4 : Int32) (M : Mem) (r : Mem), f_X8_draw_13 a1 a2 a3 n (v_4, M) = some r → ∀ (ls : Array Slot) (H : Heap) (locs : List Loc), lv_has ls 6 [(0, .ref (ad 15 0)), (1, .ref (ad a1 0)), (3, .int a3), (4, .int v_4)] → St D cy ad ns A M s.heap H locs → W p l e rm_X8_draw s m args below meth c H locs 0 0 (MQ below (QC D cy ad ns A r none) args s 0 0 A) (F0 m 13 ls []) := by
  obtain ⟨hx, hb, hml, hown, hts, hK, hr, hlk, hA, hG⟩ := id X
  intro n
  induction n with
  | zero => intro v_4 M r hX; cases (show (none : Option (Mem)) = some r from hX)
  | succ n ih =>
    intro v_4 M r hX ls H locs hl hS
    have hX : b_X8_draw_13 a1 a2 a3 (fun x0 x1 => f_X8_draw_13 a1 a2 a3 n (x0, x1)) v_4 M = some r := hX
    unfold b_X8_draw_13 at hX
    refine lv_iload hx hb dX8_draw_13 (lv_at hl 3 rfl) ?_
    refine lv_iload_n hx hb dX8_draw_15 rfl (lv_at hl 2 rfl) ?_
    refine lv_icmp_ge (tgt := 105) hx hb dX8_draw_16 (by decide) (fun c8 => ?_) (fun c8 => ?_)
    · have hX := if_t c8 hX
      obtain rfl := some_of hX
      exact x_V X hS dX8_draw_105
    · have hX := if_f c8 hX
      refine lv_aload_n hx hb dX8_draw_19 rfl (lv_at hl 0 rfl) ?_
      refine lv_bipush (v := nI 10) hx hb dX8_draw_20 (by decide) ?_
      obtain ⟨r11, M10, h9, hX⟩ := bp_of hX
      refine r_callV1 (v := .int r11) (As := [.int (nI 10)]) (rest := []) X hS (m_X8_next hN h9) mv_X8_next rfl (o_of hN (o := 15) (c := 8) (by decide) rfl) t5_51 ⟨rfl, rfl, Nat.le_of_ble_eq_true rfl, Nat.le_of_ble_eq_true rfl⟩ rfl hl.1 rfl (Nat.le_of_ble_eq_true rfl) ⟨Nat.zero_le _, Nat.zero_le _⟩ dX8_draw_22 (fun H locs hS => ?_)
      refine lv_istore (lv' := [(5, .int r11), (0, .ref (ad 15 0)), (1, .ref (ad a1 0)), (3, .int a3), (4, .int v_4)]) hx hb dX8_draw_25 hl (by decide) rfl (fun ls hl => ?_)
      refine lv_iload hx hb dX8_draw_27 (lv_at hl 0 rfl) ?_
      refine lv_bipush (v := nI 6) hx hb dX8_draw_29 (by decide) ?_
      refine lv_icmp_gt (tgt := 69) hx hb dX8_draw_31 (by decide) (fun c12 => ?_) (fun c12 => ?_)
      · have hX := if_t c12 hX
        refine lv_iload hx hb dX8_draw_69 (lv_at hl 0 rfl) ?_
        refine lv_bipush (v := nI 7) hx hb dX8_draw_71 (by decide) ?_
        refine lv_icmp_ne (tgt := 92) hx hb dX8_draw_73 (by decide) (fun c13 => ?_) (fun c13 => ?_)
        · have hX := if_f c13 hX
          refine lv_aload_n hx hb dX8_draw_92 rfl (lv_at hl 1 rfl) ?_
          refine lv_iconst (v := nI 5) hx hb dX8_draw_93 (by decide) ?_
          refine lv_iconst (v := (-1)) hx hb dX8_draw_94 (by decide) ?_
          obtain ⟨r16, M15, h14, hX⟩ := bp_of hX
          refine r_callV1 (v := .int (b2i r16)) (As := [.int (nI 5), .int (-1)]) (rest := []) X hS (m_X8_act hN h14) mv_X8_act rfl (o_of hN (o := 15) (c := 8) (by decide) rfl) t3_220 ⟨rfl, rfl, Nat.le_of_ble_eq_true rfl, Nat.le_of_ble_eq_true rfl⟩ rfl hl.1 rfl (Nat.le_of_ble_eq_true rfl) ⟨Nat.zero_le _, Nat.zero_le _⟩ dX8_draw_95 (fun H locs hS => ?_)
          refine lv_pop hx hb dX8_draw_98 rfl ?_
          exact n_X8_draw_99 X hN ha1 hX (fun z0 z1 r h ls H locs hl hS => ih z0 z1 r h ls H locs hl hS) _ _ _ (lv_sub hl [1, 2, 3, 4] rfl) hS
        · have hX := if_t c13 hX
          refine lv_aload_n hx hb dX8_draw_76 rfl (lv_at hl 1 rfl) ?_
          refine lv_iconst (v := nI 3) hx hb dX8_draw_77 (by decide) ?_
          refine lv_iconst (v := nI 1) hx hb dX8_draw_78 (by decide) ?_
          refine lv_aload_n hx hb dX8_draw_79 rfl (lv_at hl 1 rfl) ?_
          refine lv_iconst (v := nI 3) hx hb dX8_draw_80 (by decide) ?_
          obtain ⟨r19, M18, h17, hX⟩ := bp_of hX
          refine r_callV1 (v := .int r19) (As := [.int (nI 3)]) (rest := [.int (nI 1), .int (nI 3), .ref (ad 15 0)]) X hS (m_X8_next hN h17) mv_X8_next rfl (o_of hN (o := 15) (c := 8) (by decide) rfl) t5_51 ⟨rfl, rfl, Nat.le_of_ble_eq_true rfl, Nat.le_of_ble_eq_true rfl⟩ rfl hl.1 rfl (Nat.le_of_ble_eq_true rfl) ⟨Nat.zero_le _, Nat.zero_le _⟩ dX8_draw_81 (fun H locs hS => ?_)
          refine lv_iadd hx hb dX8_draw_84 ?_
          obtain ⟨r22, M21, h20, hX⟩ := bp_of hX
          refine r_callV1 (v := .int (b2i r22)) (As := [.int (nI 3), .int ((nI 1) + r19)]) (rest := []) X hS (m_X8_act hN h20) mv_X8_act rfl (o_of hN (o := 15) (c := 8) (by decide) rfl) t3_220 ⟨rfl, rfl, Nat.le_of_ble_eq_true rfl, Nat.le_of_ble_eq_true rfl⟩ rfl hl.1 rfl (Nat.le_of_ble_eq_true rfl) ⟨Nat.zero_le _, Nat.zero_le _⟩ dX8_draw_85 (fun H locs hS => ?_)
          refine lv_pop hx hb dX8_draw_88 rfl ?_
          refine lv_goto (tgt := 99) hx hb dX8_draw_89 (by decide) ?_
          exact n_X8_draw_99 X hN ha1 hX (fun z0 z1 r h ls H locs hl hS => ih z0 z1 r h ls H locs hl hS) _ _ _ (lv_sub hl [1, 2, 3, 4] rfl) hS
      · have hX := if_f c12 hX
        refine lv_aload_n hx hb dX8_draw_34 rfl (lv_at hl 2 rfl) ?_
        refine fg_X8_82 X hS ha1 dX8_draw_35 ?_
        refine lv_if_le (tgt := 99) hx hb dX8_draw_38 (by decide) (fun c23 => ?_) (fun c23 => ?_)
        · have hX := if_t c23 hX
          exact n_X8_draw_99 X hN ha1 hX (fun z0 z1 r h ls H locs hl hS => ih z0 z1 r h ls H locs hl hS) _ _ _ (lv_sub hl [1, 2, 3, 4] rfl) hS
        · have hX := if_f c23 hX
          refine lv_aload_n hx hb dX8_draw_41 rfl (lv_at hl 1 rfl) ?_
          refine lv_iload hx hb dX8_draw_42 (lv_at hl 0 rfl) ?_
          refine lv_bipush (v := nI 6) hx hb dX8_draw_44 (by decide) ?_
          refine lv_icmp_ne (tgt := 53) hx hb dX8_draw_46 (by decide) (fun c24 => ?_) (fun c24 => ?_)
          · have hX := if_f c24 hX
            refine lv_iconst (v := nI 0) hx hb dX8_draw_53 (by decide) ?_
            exact n_X8_draw_54 X hN ha1 hX (fun z0 z1 r h ls H locs hl hS => n_X8_draw_99 X hN ha1 h (fun z0 z1 r h ls H locs hl hS => ih z0 z1 r h ls H locs hl hS) _ _ _ hl hS) _ _ _ (lv_sub hl [1, 2, 3, 4] rfl) hS
          · have hX := if_t c24 hX
            refine lv_iconst (v := nI 1) hx hb dX8_draw_49 (by decide) ?_
            refine lv_goto (tgt := 54) hx hb dX8_draw_50 (by decide) ?_
            exact n_X8_draw_54 X hN ha1 hX (fun z0 z1 r h ls H locs hl hS => n_X8_draw_99 X hN ha1 h (fun z0 z1 r h ls H locs hl hS => ih z0 z1 r h ls H locs hl hS) _ _ _ hl hS) _ _ _ (lv_sub hl [1, 2, 3, 4] rfl) hS
set_option maxRecDepth 100000 in
set_option maxHeartbeats 4000000 in
theorem m_X8_draw {l : Launch} {D : va_G} {cy : Nat → ClassId} {ad : Nat → Nat → Nat} {ns : List (Nat × Nat)} {A : Nat → Prop} {M : Mem} (hN : NsC ns) {a1 : Nat} {a2 : Int32} {a3 : Int32} (ha1 : Ob ns 0 a1) {r : Mem} (hX : f_X8_draw M a1 a2 a3 = some r) : Ct l yX8_draw cX8_draw 6 ((none : Option Jvm.ClassFile.FieldType)) rm_X8_draw D cy ad ns A [.ref (ad 15 0), .ref (ad a1 0), .int a2, .int a3] M r none := by
  refine ct_of (lv := [(0, .ref (ad 15 0)), (1, .ref (ad a1 0)), (2, .int a2), (3, .int a3)]) (by decide) (Nat.le_of_ble_eq_true rfl) rfl ?_
  intro p e s m args below meth c ls X hl hS
  obtain ⟨hx, hb, hml, hown, hts, hK, hr, hlk, hA, hG⟩ := id X
  obtain ⟨H, hH⟩ : ∃ z, z = s.heap := ⟨_, rfl⟩
  obtain ⟨locs, hlo⟩ : ∃ z : List Loc, z = [] := ⟨_, rfl⟩
  have hS : St D cy ad ns A M s.heap H locs := by rw [hH, hlo]; exact hS
  have hgoal : W p l e rm_X8_draw s m args below meth c H locs 0 0 (MQ below (QC D cy ad ns A r none) args s 0 0 A) (F0 m 0 ls []) := by
    unfold f_X8_draw at hX
    refine lv_aload_n hx hb dX8_draw_0 rfl (lv_at hl 0 rfl) ?_
    refine lv_aload_n hx hb dX8_draw_1 rfl (lv_at hl 1 rfl) ?_
    obtain ⟨M26, h25, hX⟩ := bn_of hX
    refine r_callV0 (As := [.ref (ad a1 0)]) (rest := []) X hS (m_X8_begin hN ha1 h25) mv_X8_begin rfl (o_of hN (o := 15) (c := 8) (by decide) rfl) t3_215 ⟨rfl, rfl, Nat.le_of_ble_eq_true rfl, Nat.le_of_ble_eq_true rfl⟩ rfl hl.1 rfl (Nat.le_of_ble_eq_true rfl) ⟨Nat.zero_le _, Nat.zero_le _⟩ dX8_draw_2 (fun H locs hS => ?_)
    refine lv_aload_n hx hb dX8_draw_5 rfl (lv_at hl 0 rfl) ?_
    refine lv_iload_n hx hb dX8_draw_6 rfl (lv_at hl 2 rfl) ?_
    refine fp_X8_75 X hS (o_of hN (o := 15) (c := 8) (by decide) rfl) dX8_draw_7 (fun H locs hS => ?_)
    obtain ⟨M27, eM27, hS, hX⟩ := nm_mem hS hX
    refine lv_iconst (v := nI 0) hx hb dX8_draw_10 (by decide) ?_
    refine lv_istore (lv' := [(4, .int (nI 0)), (0, .ref (ad 15 0)), (1, .ref (ad a1 0)), (2, .int a2), (3, .int a3)]) hx hb dX8_draw_11 hl (by decide) rfl (fun ls hl => ?_)
    exact n_X8_draw_13 X hN ha1 _ _ _ _ hX _ _ _ (lv_sub hl [1, 2, 4, 0] rfl) hS
  rw [hH, hlo] at hgoal
  exact hgoal
theorem mv_X8_draw : Mv yX8_draw RX8 cX8_draw 6 ((none : Option Jvm.ClassFile.FieldType)) 3 := ⟨t5_50, t5_48, t5_49, t1_8, ⟨by decide, by decide⟩, by decide +kernel⟩
/-! SewnYear$Wear.tell(I)I -/
def rm_X8_tell : Room := { frames := 3, cells := 0, slots := 0, locals := 64 }
def f_X8_tell_105 (M : Mem) (a1 : Int32) (v_2 : Int32) : Option (Int32) :=
  if a1 < (nI 20) then (some (-1000)) else (if (nI 30) ≤ a1 then (some (-1000)) else (bn (f_X8_isWhole M v_2) fun r4 => if r4 = true then (gin v_2 9 <| some (gA M 15 8 (ix v_2))) else (some (-1000))))
def f_X8_tell (M : Mem) (a1 : Int32) : Option (Int32) :=
  if a1 = nI 0 then (some (gI M 15 1)) else if a1 = nI 1 then (some (gI M 15 2)) else if a1 = nI 2 then (some (gI M 15 3)) else if a1 = nI 3 then (some (gI M 15 4)) else if a1 = nI 4 then (some (gI M 15 5)) else if a1 = nI 5 then (bn (f_X8_wholeOnes M) fun r14 => some r14) else (gnz (nI 10) <| nm (a1 - a1 / (nI 10) * (nI 10)) fun v16 => if a1 < (nI 10) then (f_X8_tell_105 M a1 v16) else (if (nI 20) ≤ a1 then (f_X8_tell_105 M a1 v16) else (bn (f_X0_hasSeam M (gR M 15 0) v16) fun r21 => if r21 = true then (gin v16 9 <| some (gA M 15 7 (ix v16))) else (f_X8_tell_105 M a1 v16))))
set_option maxRecDepth 100000 in
set_option maxHeartbeats 4000000 in
theorem n_X8_tell_105 {a1 : Int32} (X : Cx p s m args meth c D cy ad A RX8 cX8_tell 3 ((some .int))) (hN : NsC ns) {M : Mem} {v_2 : Int32} {r : Int32} (hX : f_X8_tell_105 M a1 v_2 = some r) : ∀ (ls : Array Slot) (H : Heap) (locs : List Loc), lv_has ls 3 [(0, .ref (ad 15 0)), (1, .int a1), (2, .int v_2)] → St D cy ad ns A M s.heap H locs → W p l e rm_X8_tell s m args below meth c H locs 0 0 (MQ below (QC D cy ad ns A M (some (.int r))) args s 0 0 A) (F0 m 105 ls []) := by
  obtain ⟨hx, hb, hml, hown, hts, hK, hr, hlk, hA, hG⟩ := id X
  intro ls H locs hl hS
  unfold f_X8_tell_105 at hX
  refine lv_iload_n hx hb dX8_tell_105 rfl (lv_at hl 1 rfl) ?_
  refine lv_bipush (v := nI 20) hx hb dX8_tell_106 (by decide) ?_
  refine lv_icmp_lt (tgt := 134) hx hb dX8_tell_108 (by decide) (fun c1 => ?_) (fun c1 => ?_)
  · have hX := if_t c1 hX
    refine lv_sipush (v := (-1000)) hx hb dX8_tell_134 (by decide) ?_
    obtain rfl := some_of hX
    exact x_I (v := (-1000)) X hS dX8_tell_137
  · have hX := if_f c1 hX
    refine lv_iload_n hx hb dX8_tell_111 rfl (lv_at hl 1 rfl) ?_
    refine lv_bipush (v := nI 30) hx hb dX8_tell_112 (by decide) ?_
    refine lv_icmp_ge (tgt := 134) hx hb dX8_tell_114 (by decide) (fun c2 => ?_) (fun c2 => ?_)
    · have hX := if_t c2 hX
      refine lv_sipush (v := (-1000)) hx hb dX8_tell_134 (by decide) ?_
      obtain rfl := some_of hX
      exact x_I (v := (-1000)) X hS dX8_tell_137
    · have hX := if_f c2 hX
      refine lv_aload_n hx hb dX8_tell_117 rfl (lv_at hl 0 rfl) ?_
      refine lv_iload_n hx hb dX8_tell_118 rfl (lv_at hl 2 rfl) ?_
      obtain ⟨r4, h3, hX⟩ := bn_of hX
      refine r_callV1 (v := .int (b2i r4)) (As := [.int v_2]) (rest := []) X hS (m_X8_isWhole hN h3) mv_X8_isWhole rfl (o_of hN (o := 15) (c := 8) (by decide) rfl) t3_229 ⟨rfl, rfl, Nat.le_of_ble_eq_true rfl, Nat.le_of_ble_eq_true rfl⟩ rfl hl.1 rfl (Nat.le_of_ble_eq_true rfl) ⟨Nat.zero_le _, Nat.zero_le _⟩ dX8_tell_119 (fun H locs hS => ?_)
      refine lv_if_eq (tgt := 134) hx hb dX8_tell_122 (by decide) (fun c5 => ?_) (fun c5 => ?_)
      · have hX := if_bf c5 hX
        refine lv_sipush (v := (-1000)) hx hb dX8_tell_134 (by decide) ?_
        obtain rfl := some_of hX
        exact x_I (v := (-1000)) X hS dX8_tell_137
      · have hX := if_bt c5 hX
        refine lv_aload_n hx hb dX8_tell_125 rfl (lv_at hl 0 rfl) ?_
        refine fg_X8_22 X hS (o_of hN (o := 15) (c := 8) (by decide) rfl) dX8_tell_126 ?_
        refine lv_iload_n hx hb dX8_tell_129 rfl (lv_at hl 2 rfl) ?_
        obtain ⟨g6, hX⟩ := gin_of hX
        refine r_iald (ci := 8) (o := 15) (k := 8) (n := 9) X hS (o_of hN (o := 15) (c := 8) (by decide) rfl) rfl rfl g6 dX8_tell_130 ?_
        refine lv_goto (tgt := 137) hx hb dX8_tell_131 (by decide) ?_
        obtain rfl := some_of hX
        exact x_I (v := (gA M 15 8 (ix v_2))) X hS dX8_tell_137
set_option maxRecDepth 100000 in
set_option maxHeartbeats 4000000 in
theorem m_X8_tell {l : Launch} {D : va_G} {cy : Nat → ClassId} {ad : Nat → Nat → Nat} {ns : List (Nat × Nat)} {A : Nat → Prop} {M : Mem} (hN : NsC ns) {a1 : Int32} {r : Int32} (hX : f_X8_tell M a1 = some r) : Ct l yX8_tell cX8_tell 3 ((some .int)) rm_X8_tell D cy ad ns A [.ref (ad 15 0), .int a1] M M (some (.int r)) := by
  refine ct_of (lv := [(0, .ref (ad 15 0)), (1, .int a1)]) (by decide) (Nat.le_of_ble_eq_true rfl) rfl ?_
  intro p e s m args below meth c ls X hl hS
  obtain ⟨hx, hb, hml, hown, hts, hK, hr, hlk, hA, hG⟩ := id X
  obtain ⟨H, hH⟩ : ∃ z, z = s.heap := ⟨_, rfl⟩
  obtain ⟨locs, hlo⟩ : ∃ z : List Loc, z = [] := ⟨_, rfl⟩
  have hS : St D cy ad ns A M s.heap H locs := by rw [hH, hlo]; exact hS
  have hgoal : W p l e rm_X8_tell s m args below meth c H locs 0 0 (MQ below (QC D cy ad ns A M (some (.int r))) args s 0 0 A) (F0 m 0 ls []) := by
    unfold f_X8_tell at hX
    refine lv_iload_n hx hb dX8_tell_0 rfl (lv_at hl 1 rfl) ?_
    by_cases c7 : a1 = nI 0
    · have hX := if_t c7 hX
      refine r_tabIn c7 (off := 39) (tgt := 40) hx hb dX8_tell_1 (by decide) (by decide) (by decide) (by decide) ?_
      refine lv_aload_n hx hb dX8_tell_40 rfl (lv_at hl 0 rfl) ?_
      refine fg_X8_25 X hS (o_of hN (o := 15) (c := 8) (by decide) rfl) dX8_tell_41 ?_
      obtain rfl := some_of hX
      exact x_I (v := (gI M 15 1)) X hS dX8_tell_44
    have hX := if_f c7 hX
    by_cases c8 : a1 = nI 1
    · have hX := if_t c8 hX
      refine r_tabIn c8 (off := 44) (tgt := 45) hx hb dX8_tell_1 (by decide) (by decide) (by decide) (by decide) ?_
      refine lv_aload_n hx hb dX8_tell_45 rfl (lv_at hl 0 rfl) ?_
      refine fg_X8_32 X hS (o_of hN (o := 15) (c := 8) (by decide) rfl) dX8_tell_46 ?_
      obtain rfl := some_of hX
      exact x_I (v := (gI M 15 2)) X hS dX8_tell_49
    have hX := if_f c8 hX
    by_cases c9 : a1 = nI 2
    · have hX := if_t c9 hX
      refine r_tabIn c9 (off := 49) (tgt := 50) hx hb dX8_tell_1 (by decide) (by decide) (by decide) (by decide) ?_
      refine lv_aload_n hx hb dX8_tell_50 rfl (lv_at hl 0 rfl) ?_
      refine fg_X8_35 X hS (o_of hN (o := 15) (c := 8) (by decide) rfl) dX8_tell_51 ?_
      obtain rfl := some_of hX
      exact x_I (v := (gI M 15 3)) X hS dX8_tell_54
    have hX := if_f c9 hX
    by_cases c10 : a1 = nI 3
    · have hX := if_t c10 hX
      refine r_tabIn c10 (off := 54) (tgt := 55) hx hb dX8_tell_1 (by decide) (by decide) (by decide) (by decide) ?_
      refine lv_aload_n hx hb dX8_tell_55 rfl (lv_at hl 0 rfl) ?_
      refine fg_X8_38 X hS (o_of hN (o := 15) (c := 8) (by decide) rfl) dX8_tell_56 ?_
      obtain rfl := some_of hX
      exact x_I (v := (gI M 15 4)) X hS dX8_tell_59
    have hX := if_f c10 hX
    by_cases c11 : a1 = nI 4
    · have hX := if_t c11 hX
      refine r_tabIn c11 (off := 59) (tgt := 60) hx hb dX8_tell_1 (by decide) (by decide) (by decide) (by decide) ?_
      refine lv_aload_n hx hb dX8_tell_60 rfl (lv_at hl 0 rfl) ?_
      refine fg_X8_41 X hS (o_of hN (o := 15) (c := 8) (by decide) rfl) dX8_tell_61 ?_
      obtain rfl := some_of hX
      exact x_I (v := (gI M 15 5)) X hS dX8_tell_64
    have hX := if_f c11 hX
    by_cases c12 : a1 = nI 5
    · have hX := if_t c12 hX
      refine r_tabIn c12 (off := 64) (tgt := 65) hx hb dX8_tell_1 (by decide) (by decide) (by decide) (by decide) ?_
      refine lv_aload_n hx hb dX8_tell_65 rfl (lv_at hl 0 rfl) ?_
      obtain ⟨r14, h13, hX⟩ := bn_of hX
      refine r_callV1 (v := .int r14) (As := []) (rest := []) X hS (m_X8_wholeOnes hN h13) mv_X8_wholeOnes rfl (o_of hN (o := 15) (c := 8) (by decide) rfl) t3_233 ⟨rfl, rfl, Nat.le_of_ble_eq_true rfl, Nat.le_of_ble_eq_true rfl⟩ rfl hl.1 rfl (Nat.le_of_ble_eq_true rfl) ⟨Nat.zero_le _, Nat.zero_le _⟩ dX8_tell_66 (fun H locs hS => ?_)
      obtain rfl := some_of hX
      exact x_I (v := r14) X hS dX8_tell_69
    have hX := if_f c12 hX
    have ic7 : ¬ a1.toInt = 0 := lv_neT c7 rfl
    have ic8 : ¬ a1.toInt = 1 := lv_neT c8 rfl
    have ic9 : ¬ a1.toInt = 2 := lv_neT c9 rfl
    have ic10 : ¬ a1.toInt = 3 := lv_neT c10 rfl
    have ic11 : ¬ a1.toInt = 4 := lv_neT c11 rfl
    have ic12 : ¬ a1.toInt = 5 := lv_neT c12 rfl
    refine lv_tableOut (tgt := 70) hx hb dX8_tell_1 (by omega) (by decide) ?_
    refine lv_iload_n hx hb dX8_tell_70 rfl (lv_at hl 1 rfl) ?_
    refine lv_bipush (v := nI 10) hx hb dX8_tell_71 (by decide) ?_
    obtain ⟨g15, hX⟩ := gnz_of hX
    refine lv_irem hx hb dX8_tell_73 g15 ?_
    refine lv_topi (fun v16 ev16 => ?_)
    have hX := nm_of ev16 hX
    refine lv_istore_n (lv' := [(2, .int v16), (0, .ref (ad 15 0)), (1, .int a1)]) hx hb dX8_tell_74 rfl hl (by decide) rfl (fun ls hl => ?_)
    refine lv_iload_n hx hb dX8_tell_75 rfl (lv_at hl 2 rfl) ?_
    refine lv_bipush (v := nI 10) hx hb dX8_tell_76 (by decide) ?_
    refine lv_icmp_lt (tgt := 105) hx hb dX8_tell_78 (by decide) (fun c17 => ?_) (fun c17 => ?_)
    · have hX := if_t c17 hX
      exact n_X8_tell_105 X hN hX _ _ _ (lv_sub hl [1, 2, 0] rfl) hS
    · have hX := if_f c17 hX
      refine lv_iload_n hx hb dX8_tell_81 rfl (lv_at hl 2 rfl) ?_
      refine lv_bipush (v := nI 20) hx hb dX8_tell_82 (by decide) ?_
      refine lv_icmp_ge (tgt := 105) hx hb dX8_tell_84 (by decide) (fun c18 => ?_) (fun c18 => ?_)
      · have hX := if_t c18 hX
        exact n_X8_tell_105 X hN hX _ _ _ (lv_sub hl [1, 2, 0] rfl) hS
      · have hX := if_f c18 hX
        refine lv_aload_n hx hb dX8_tell_87 rfl (lv_at hl 1 rfl) ?_
        refine fg_X8_12 X hS (o_of hN (o := 15) (c := 8) (by decide) rfl) dX8_tell_88 ?_
        have q19 := wr_15 hN hS
        refine lv_iload_n hx hb dX8_tell_91 rfl (lv_at hl 0 rfl) ?_
        obtain ⟨r21, h20, hX⟩ := bn_of hX
        refine r_callV1 (v := .int (b2i r21)) (As := [.int v16]) (rest := []) X hS (m_X0_hasSeam hN q19 h20) mv_X0_hasSeam rfl q19 t3_228 ⟨rfl, rfl, Nat.le_of_ble_eq_true rfl, Nat.le_of_ble_eq_true rfl⟩ rfl hl.1 rfl (Nat.le_of_ble_eq_true rfl) ⟨Nat.zero_le _, Nat.zero_le _⟩ dX8_tell_92 (fun H locs hS => ?_)
        refine lv_if_eq (tgt := 105) hx hb dX8_tell_95 (by decide) (fun c22 => ?_) (fun c22 => ?_)
        · have hX := if_bf c22 hX
          exact n_X8_tell_105 X hN hX _ _ _ (lv_sub hl [1, 2, 0] rfl) hS
        · have hX := if_bt c22 hX
          refine lv_aload_n hx hb dX8_tell_98 rfl (lv_at hl 1 rfl) ?_
          refine fg_X8_18 X hS (o_of hN (o := 15) (c := 8) (by decide) rfl) dX8_tell_99 ?_
          refine lv_iload_n hx hb dX8_tell_102 rfl (lv_at hl 0 rfl) ?_
          obtain ⟨g23, hX⟩ := gin_of hX
          refine r_iald (ci := 8) (o := 15) (k := 7) (n := 9) X hS (o_of hN (o := 15) (c := 8) (by decide) rfl) rfl rfl g23 dX8_tell_103 ?_
          obtain rfl := some_of hX
          exact x_I (v := (gA M 15 7 (ix v16))) X hS dX8_tell_104
  rw [hH, hlo] at hgoal
  exact hgoal
theorem mv_X8_tell : Mv yX8_tell RX8 cX8_tell 3 ((some .int)) 1 := ⟨t4_25, t4_23, t4_24, t1_8, ⟨by decide, by decide⟩, by decide +kernel⟩
end MT_15_X8
