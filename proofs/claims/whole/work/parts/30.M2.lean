section FR_30_M2
variable {p : Program} {l : Launch} {e : Env} {R : Room} {s : State} {m : MethodId} {args : Array Value} {below : List Frame} {meth : Method} {c : Code} {H : Heap} {locs : List Loc} {cells slots : Nat} {Q : State → Prop} {D : va_G} {cy : Nat → ClassId} {ad : Nat → Nat → Nat} {ns : List (Nat × Nat)} {A : Nat → Prop} {M M' : Mem} {cc : ByteArray} {nL : Nat} {ret : Option FieldType} {pc : Nat} {ls : Array Slot} {rest : List Value}
theorem fg_X10_63 (X : Cx p s m args meth c D cy ad A RX10 cc nL ret) (hS : St D cy ad ns A M s.heap H locs) (ho : Ob ns 10 100) (hdg : decode cc pc = .ok (.getfield 63, 3)) (kk : W p l e R s m args below meth c H locs cells slots Q (F0 m (pc + 3) ls (.ref (ad 100 (43 + 1)) :: rest))) : W p l e R s m args below meth c H locs cells slots Q (F0 m pc ls (.ref (ad 100 0) :: rest)) := r_get X hS (C := RX10) (T := TX10) (N := 58) (k := 43) tf10 rfl rfl ho (by decide) t5_175 ⟨rfl, rfl, rfl⟩ rfl hdg kk
theorem fg_X10_66 (X : Cx p s m args meth c D cy ad A RX10 cc nL ret) (hS : St D cy ad ns A M s.heap H locs) (ho : Ob ns 10 100) (hdg : decode cc pc = .ok (.getfield 66, 3)) (kk : W p l e R s m args below meth c H locs cells slots Q (F0 m (pc + 3) ls (.ref (ad 100 (44 + 1)) :: rest))) : W p l e R s m args below meth c H locs cells slots Q (F0 m pc ls (.ref (ad 100 0) :: rest)) := r_get X hS (C := RX10) (T := TX10) (N := 58) (k := 44) tf10 rfl rfl ho (by decide) t5_176 ⟨rfl, rfl, rfl⟩ rfl hdg kk
theorem fg_X10_69 (X : Cx p s m args meth c D cy ad A RX10 cc nL ret) (hS : St D cy ad ns A M s.heap H locs) (ho : Ob ns 10 100) (hdg : decode cc pc = .ok (.getfield 69, 3)) (kk : W p l e R s m args below meth c H locs cells slots Q (F0 m (pc + 3) ls (.ref (ad 100 (48 + 1)) :: rest))) : W p l e R s m args below meth c H locs cells slots Q (F0 m pc ls (.ref (ad 100 0) :: rest)) := r_get X hS (C := RX10) (T := TX10) (N := 58) (k := 48) tf10 rfl rfl ho (by decide) t5_180 ⟨rfl, rfl, rfl⟩ rfl hdg kk
theorem fg_X10_72 (X : Cx p s m args meth c D cy ad A RX10 cc nL ret) (hS : St D cy ad ns A M s.heap H locs) (ho : Ob ns 10 100) (hdg : decode cc pc = .ok (.getfield 72, 3)) (kk : W p l e R s m args below meth c H locs cells slots Q (F0 m (pc + 3) ls (.ref (ad 100 (49 + 1)) :: rest))) : W p l e R s m args below meth c H locs cells slots Q (F0 m pc ls (.ref (ad 100 0) :: rest)) := r_get X hS (C := RX10) (T := TX10) (N := 58) (k := 49) tf10 rfl rfl ho (by decide) t5_181 ⟨rfl, rfl, rfl⟩ rfl hdg kk
theorem fg_X10_75 (X : Cx p s m args meth c D cy ad A RX10 cc nL ret) (hS : St D cy ad ns A M s.heap H locs) (ho : Ob ns 10 100) (hdg : decode cc pc = .ok (.getfield 75, 3)) (kk : W p l e R s m args below meth c H locs cells slots Q (F0 m (pc + 3) ls (.ref (ad 100 (51 + 1)) :: rest))) : W p l e R s m args below meth c H locs cells slots Q (F0 m pc ls (.ref (ad 100 0) :: rest)) := r_get X hS (C := RX10) (T := TX10) (N := 58) (k := 51) tf10 rfl rfl ho (by decide) t5_183 ⟨rfl, rfl, rfl⟩ rfl hdg kk
theorem fg_X10_78 (X : Cx p s m args meth c D cy ad A RX10 cc nL ret) (hS : St D cy ad ns A M s.heap H locs) (ho : Ob ns 10 100) (hdg : decode cc pc = .ok (.getfield 78, 3)) (kk : W p l e R s m args below meth c H locs cells slots Q (F0 m (pc + 3) ls (.ref (ad 100 (52 + 1)) :: rest))) : W p l e R s m args below meth c H locs cells slots Q (F0 m pc ls (.ref (ad 100 0) :: rest)) := r_get X hS (C := RX10) (T := TX10) (N := 58) (k := 52) tf10 rfl rfl ho (by decide) t5_184 ⟨rfl, rfl, rfl⟩ rfl hdg kk
theorem fg_X10_423 (X : Cx p s m args meth c D cy ad A RX10 cc nL ret) (hS : St D cy ad ns A M s.heap H locs) (ho : Ob ns 10 100) (hdg : decode cc pc = .ok (.getfield 423, 3)) (kk : W p l e R s m args below meth c H locs cells slots Q (F0 m (pc + 3) ls (.int (gI M 100 39) :: rest))) : W p l e R s m args below meth c H locs cells slots Q (F0 m pc ls (.ref (ad 100 0) :: rest)) := r_get X hS (C := RX10) (T := TX10) (N := 58) (k := 39) tf10 rfl rfl ho (by decide) t5_171 ⟨rfl, rfl, rfl⟩ rfl hdg kk
theorem fp_X10_423 (X : Cx p s m args meth c D cy ad A RX10 cc nL ret) (hS : St D cy ad ns A M s.heap H locs) (ho : Ob ns 10 100) {v : Int32} (hdg : decode cc pc = .ok (.putfield 423, 3)) (kk : ∀ (H1 : Heap) (locs1 : List Loc), St D cy ad ns A (sI M 100 39 v) s.heap H1 locs1 → W p l e R s m args below meth c H1 locs1 cells slots Q (F0 m (pc + 3) ls rest)) : W p l e R s m args below meth c H locs cells slots Q (F0 m pc ls (.int v :: .ref (ad 100 0) :: rest)) := r_put X hS (C := RX10) (T := TX10) (N := 58) (k := 39) tf10 rfl rfl tyX10 tyX10_ok nmX10 ho (by decide) t5_171 ⟨rfl, rfl, rfl⟩ rfl (ty := .int) (by decide +kernel) rfl rfl (wr_sI hS.1.2.2) (cel_sI (by decide) rfl) (fun q hq => cel_sI' hq) hdg kk
theorem fg_X10_429 (X : Cx p s m args meth c D cy ad A RX10 cc nL ret) (hS : St D cy ad ns A M s.heap H locs) (ho : Ob ns 10 100) (hdg : decode cc pc = .ok (.getfield 429, 3)) (kk : W p l e R s m args below meth c H locs cells slots Q (F0 m (pc + 3) ls (.int (gI M 100 40) :: rest))) : W p l e R s m args below meth c H locs cells slots Q (F0 m pc ls (.ref (ad 100 0) :: rest)) := r_get X hS (C := RX10) (T := TX10) (N := 58) (k := 40) tf10 rfl rfl ho (by decide) t5_172 ⟨rfl, rfl, rfl⟩ rfl hdg kk
theorem fp_X10_429 (X : Cx p s m args meth c D cy ad A RX10 cc nL ret) (hS : St D cy ad ns A M s.heap H locs) (ho : Ob ns 10 100) {v : Int32} (hdg : decode cc pc = .ok (.putfield 429, 3)) (kk : ∀ (H1 : Heap) (locs1 : List Loc), St D cy ad ns A (sI M 100 40 v) s.heap H1 locs1 → W p l e R s m args below meth c H1 locs1 cells slots Q (F0 m (pc + 3) ls rest)) : W p l e R s m args below meth c H locs cells slots Q (F0 m pc ls (.int v :: .ref (ad 100 0) :: rest)) := r_put X hS (C := RX10) (T := TX10) (N := 58) (k := 40) tf10 rfl rfl tyX10 tyX10_ok nmX10 ho (by decide) t5_172 ⟨rfl, rfl, rfl⟩ rfl (ty := .int) (by decide +kernel) rfl rfl (wr_sI hS.1.2.2) (cel_sI (by decide) rfl) (fun q hq => cel_sI' hq) hdg kk
theorem fg_X10_432 (X : Cx p s m args meth c D cy ad A RX10 cc nL ret) (hS : St D cy ad ns A M s.heap H locs) (ho : Ob ns 10 100) (hdg : decode cc pc = .ok (.getfield 432, 3)) (kk : W p l e R s m args below meth c H locs cells slots Q (F0 m (pc + 3) ls (.int (gI M 100 41) :: rest))) : W p l e R s m args below meth c H locs cells slots Q (F0 m pc ls (.ref (ad 100 0) :: rest)) := r_get X hS (C := RX10) (T := TX10) (N := 58) (k := 41) tf10 rfl rfl ho (by decide) t5_173 ⟨rfl, rfl, rfl⟩ rfl hdg kk
theorem fp_X10_432 (X : Cx p s m args meth c D cy ad A RX10 cc nL ret) (hS : St D cy ad ns A M s.heap H locs) (ho : Ob ns 10 100) {v : Int32} (hdg : decode cc pc = .ok (.putfield 432, 3)) (kk : ∀ (H1 : Heap) (locs1 : List Loc), St D cy ad ns A (sI M 100 41 v) s.heap H1 locs1 → W p l e R s m args below meth c H1 locs1 cells slots Q (F0 m (pc + 3) ls rest)) : W p l e R s m args below meth c H locs cells slots Q (F0 m pc ls (.int v :: .ref (ad 100 0) :: rest)) := r_put X hS (C := RX10) (T := TX10) (N := 58) (k := 41) tf10 rfl rfl tyX10 tyX10_ok nmX10 ho (by decide) t5_173 ⟨rfl, rfl, rfl⟩ rfl (ty := .int) (by decide +kernel) rfl rfl (wr_sI hS.1.2.2) (cel_sI (by decide) rfl) (fun q hq => cel_sI' hq) hdg kk
theorem fg_X10_435 (X : Cx p s m args meth c D cy ad A RX10 cc nL ret) (hS : St D cy ad ns A M s.heap H locs) (ho : Ob ns 10 100) (hdg : decode cc pc = .ok (.getfield 435, 3)) (kk : W p l e R s m args below meth c H locs cells slots Q (F0 m (pc + 3) ls (.int (gI M 100 42) :: rest))) : W p l e R s m args below meth c H locs cells slots Q (F0 m pc ls (.ref (ad 100 0) :: rest)) := r_get X hS (C := RX10) (T := TX10) (N := 58) (k := 42) tf10 rfl rfl ho (by decide) t5_174 ⟨rfl, rfl, rfl⟩ rfl hdg kk
theorem fp_X10_435 (X : Cx p s m args meth c D cy ad A RX10 cc nL ret) (hS : St D cy ad ns A M s.heap H locs) (ho : Ob ns 10 100) {v : Int32} (hdg : decode cc pc = .ok (.putfield 435, 3)) (kk : ∀ (H1 : Heap) (locs1 : List Loc), St D cy ad ns A (sI M 100 42 v) s.heap H1 locs1 → W p l e R s m args below meth c H1 locs1 cells slots Q (F0 m (pc + 3) ls rest)) : W p l e R s m args below meth c H locs cells slots Q (F0 m pc ls (.int v :: .ref (ad 100 0) :: rest)) := r_put X hS (C := RX10) (T := TX10) (N := 58) (k := 42) tf10 rfl rfl tyX10 tyX10_ok nmX10 ho (by decide) t5_174 ⟨rfl, rfl, rfl⟩ rfl (ty := .int) (by decide +kernel) rfl rfl (wr_sI hS.1.2.2) (cel_sI (by decide) rfl) (fun q hq => cel_sI' hq) hdg kk
theorem fg_X10_460 (X : Cx p s m args meth c D cy ad A RX10 cc nL ret) (hS : St D cy ad ns A M s.heap H locs) (ho : Ob ns 10 100) (hdg : decode cc pc = .ok (.getfield 460, 3)) (kk : W p l e R s m args below meth c H locs cells slots Q (F0 m (pc + 3) ls (.int (gI M 100 45) :: rest))) : W p l e R s m args below meth c H locs cells slots Q (F0 m pc ls (.ref (ad 100 0) :: rest)) := r_get X hS (C := RX10) (T := TX10) (N := 58) (k := 45) tf10 rfl rfl ho (by decide) t5_177 ⟨rfl, rfl, rfl⟩ rfl hdg kk
theorem fp_X10_460 (X : Cx p s m args meth c D cy ad A RX10 cc nL ret) (hS : St D cy ad ns A M s.heap H locs) (ho : Ob ns 10 100) {v : Int32} (hdg : decode cc pc = .ok (.putfield 460, 3)) (kk : ∀ (H1 : Heap) (locs1 : List Loc), St D cy ad ns A (sI M 100 45 v) s.heap H1 locs1 → W p l e R s m args below meth c H1 locs1 cells slots Q (F0 m (pc + 3) ls rest)) : W p l e R s m args below meth c H locs cells slots Q (F0 m pc ls (.int v :: .ref (ad 100 0) :: rest)) := r_put X hS (C := RX10) (T := TX10) (N := 58) (k := 45) tf10 rfl rfl tyX10 tyX10_ok nmX10 ho (by decide) t5_177 ⟨rfl, rfl, rfl⟩ rfl (ty := .int) (by decide +kernel) rfl rfl (wr_sI hS.1.2.2) (cel_sI (by decide) rfl) (fun q hq => cel_sI' hq) hdg kk
theorem fg_X10_463 (X : Cx p s m args meth c D cy ad A RX10 cc nL ret) (hS : St D cy ad ns A M s.heap H locs) (ho : Ob ns 10 100) (hdg : decode cc pc = .ok (.getfield 463, 3)) (kk : W p l e R s m args below meth c H locs cells slots Q (F0 m (pc + 3) ls (.int (gI M 100 46) :: rest))) : W p l e R s m args below meth c H locs cells slots Q (F0 m pc ls (.ref (ad 100 0) :: rest)) := r_get X hS (C := RX10) (T := TX10) (N := 58) (k := 46) tf10 rfl rfl ho (by decide) t5_178 ⟨rfl, rfl, rfl⟩ rfl hdg kk
theorem fp_X10_463 (X : Cx p s m args meth c D cy ad A RX10 cc nL ret) (hS : St D cy ad ns A M s.heap H locs) (ho : Ob ns 10 100) {v : Int32} (hdg : decode cc pc = .ok (.putfield 463, 3)) (kk : ∀ (H1 : Heap) (locs1 : List Loc), St D cy ad ns A (sI M 100 46 v) s.heap H1 locs1 → W p l e R s m args below meth c H1 locs1 cells slots Q (F0 m (pc + 3) ls rest)) : W p l e R s m args below meth c H locs cells slots Q (F0 m pc ls (.int v :: .ref (ad 100 0) :: rest)) := r_put X hS (C := RX10) (T := TX10) (N := 58) (k := 46) tf10 rfl rfl tyX10 tyX10_ok nmX10 ho (by decide) t5_178 ⟨rfl, rfl, rfl⟩ rfl (ty := .int) (by decide +kernel) rfl rfl (wr_sI hS.1.2.2) (cel_sI (by decide) rfl) (fun q hq => cel_sI' hq) hdg kk
theorem fg_X10_466 (X : Cx p s m args meth c D cy ad A RX10 cc nL ret) (hS : St D cy ad ns A M s.heap H locs) (ho : Ob ns 10 100) (hdg : decode cc pc = .ok (.getfield 466, 3)) (kk : W p l e R s m args below meth c H locs cells slots Q (F0 m (pc + 3) ls (.int (gI M 100 47) :: rest))) : W p l e R s m args below meth c H locs cells slots Q (F0 m pc ls (.ref (ad 100 0) :: rest)) := r_get X hS (C := RX10) (T := TX10) (N := 58) (k := 47) tf10 rfl rfl ho (by decide) t5_179 ⟨rfl, rfl, rfl⟩ rfl hdg kk
theorem fp_X10_466 (X : Cx p s m args meth c D cy ad A RX10 cc nL ret) (hS : St D cy ad ns A M s.heap H locs) (ho : Ob ns 10 100) {v : Int32} (hdg : decode cc pc = .ok (.putfield 466, 3)) (kk : ∀ (H1 : Heap) (locs1 : List Loc), St D cy ad ns A (sI M 100 47 v) s.heap H1 locs1 → W p l e R s m args below meth c H1 locs1 cells slots Q (F0 m (pc + 3) ls rest)) : W p l e R s m args below meth c H locs cells slots Q (F0 m pc ls (.int v :: .ref (ad 100 0) :: rest)) := r_put X hS (C := RX10) (T := TX10) (N := 58) (k := 47) tf10 rfl rfl tyX10 tyX10_ok nmX10 ho (by decide) t5_179 ⟨rfl, rfl, rfl⟩ rfl (ty := .int) (by decide +kernel) rfl rfl (wr_sI hS.1.2.2) (cel_sI (by decide) rfl) (fun q hq => cel_sI' hq) hdg kk
theorem fg_X10_505 (X : Cx p s m args meth c D cy ad A RX10 cc nL ret) (hS : St D cy ad ns A M s.heap H locs) (ho : Ob ns 10 100) (hdg : decode cc pc = .ok (.getfield 505, 3)) (kk : W p l e R s m args below meth c H locs cells slots Q (F0 m (pc + 3) ls (.int (gI M 100 50) :: rest))) : W p l e R s m args below meth c H locs cells slots Q (F0 m pc ls (.ref (ad 100 0) :: rest)) := r_get X hS (C := RX10) (T := TX10) (N := 58) (k := 50) tf10 rfl rfl ho (by decide) t5_182 ⟨rfl, rfl, rfl⟩ rfl hdg kk
theorem fp_X10_505 (X : Cx p s m args meth c D cy ad A RX10 cc nL ret) (hS : St D cy ad ns A M s.heap H locs) (ho : Ob ns 10 100) {v : Int32} (hdg : decode cc pc = .ok (.putfield 505, 3)) (kk : ∀ (H1 : Heap) (locs1 : List Loc), St D cy ad ns A (sI M 100 50 v) s.heap H1 locs1 → W p l e R s m args below meth c H1 locs1 cells slots Q (F0 m (pc + 3) ls rest)) : W p l e R s m args below meth c H locs cells slots Q (F0 m pc ls (.int v :: .ref (ad 100 0) :: rest)) := r_put X hS (C := RX10) (T := TX10) (N := 58) (k := 50) tf10 rfl rfl tyX10 tyX10_ok nmX10 ho (by decide) t5_182 ⟨rfl, rfl, rfl⟩ rfl (ty := .int) (by decide +kernel) rfl rfl (wr_sI hS.1.2.2) (cel_sI (by decide) rfl) (fun q hq => cel_sI' hq) hdg kk
end FR_30_M2
section MT_30_M2
variable {p : Program} {l : Launch} {e : Env} {s : State} {m : MethodId} {args : Array Value} {below : List Frame} {meth : Method} {c : Code} {D : va_G} {cy : Nat → ClassId} {ad : Nat → Nat → Nat} {ns : List (Nat × Nat)} {A : Nat → Prop}
/-! SewnYearModel.crossing(I)I -/
def rm_X10_crossing : Room := { frames := 1, cells := 0, slots := 0, locals := 21 }
def f_X10_crossing_84 (M : Mem) (a1 : Int32) (v_3 : Int32) (k_85 : Int32 → Int32 → Bool → Option (Int32)) (v_4 : Int32) (s_0 : Int32) : Option (Int32) :=
  k_85 v_4 s_0 false
def f_X10_crossing_85 (M : Mem) (a1 : Int32) (v_3 : Int32) (k_15 : Int32 → Int32 → Option (Int32)) (v_4 : Int32) (s_0 : Int32) (s_1 : Bool) : Option (Int32) :=
  nm (s_0 + (b2i s_1)) fun v1 => nm (v_4 + nI 1) fun v2 => k_15 v1 v2
def f_X10_crossing_53 (M : Mem) (a1 : Int32) (v_3 : Int32) (k_58 : Int32 → Int32 → Bool → Option (Int32)) (v_2 : Int32) (v_4 : Int32) : Option (Int32) :=
  k_58 v_2 v_4 true
def f_X10_crossing_58 (M : Mem) (a1 : Int32) (v_3 : Int32) (k_15 : Int32 → Int32 → Option (Int32)) (v_2 : Int32) (v_4 : Int32) (s_0 : Bool) : Option (Int32) :=
  if s_0 = true then (bn (f_X10_has a1 v_3) fun r5 => bn (f_X10_has a1 v_4) fun r7 => if (b2i r5) = (b2i r7) then (f_X10_crossing_84 M a1 v_3 (fun x0 x1 x2 => f_X10_crossing_85 M a1 v_3 k_15 x0 x1 x2) v_4 v_2) else (f_X10_crossing_85 M a1 v_3 k_15 v_4 v_2 true)) else (f_X10_crossing_84 M a1 v_3 (fun x0 x1 x2 => f_X10_crossing_85 M a1 v_3 k_15 x0 x1 x2) v_4 v_2)
def b_X10_crossing_15 (M : Mem) (a1 : Int32) (k_4 : Int32 → Int32 → Option (Int32)) (v_3 : Int32) (rc : Int32 → Int32 → Option (Int32)) (v_2 : Int32) (v_4 : Int32) : Option (Int32) :=
  if v_3 ≤ v_4 then (nm (v_3 + nI 1) fun v10 => k_4 v_2 v10) else (bn (f_X10_of M ((nI 29) + v_3)) fun r12 => bn (f_X10_has r12 v_4) fun r14 => if r14 = true then (f_X10_crossing_53 M a1 v_3 (fun x0 x1 x2 => f_X10_crossing_58 M a1 v_3 rc x0 x1 x2) v_2 v_4) else (bn (f_X10_of M ((nI 29) + v_4)) fun r17 => bn (f_X10_has r17 v_3) fun r19 => if r19 = true then (f_X10_crossing_53 M a1 v_3 (fun x0 x1 x2 => f_X10_crossing_58 M a1 v_3 rc x0 x1 x2) v_2 v_4) else (f_X10_crossing_58 M a1 v_3 rc v_2 v_4 false)))
def f_X10_crossing_15 (M : Mem) (a1 : Int32) (k_4 : Int32 → Int32 → Option (Int32)) (v_3 : Int32) : Nat → (Int32 × Int32) → Option (Int32) := lp (fun rc q => b_X10_crossing_15 M a1 k_4 v_3 (fun x0 x1 => rc (x0, x1)) q.1 q.2)
def b_X10_crossing_4 (M : Mem) (a1 : Int32) (rc : Int32 → Int32 → Option (Int32)) (v_2 : Int32) (v_3 : Int32) : Option (Int32) :=
  if (gI M 100 24) ≤ v_3 then (some v_2) else (f_X10_crossing_15 M a1 rc v_3 FU (v_2, (nI 0)))
def f_X10_crossing_4 (M : Mem) (a1 : Int32) : Nat → (Int32 × Int32) → Option (Int32) := lp (fun rc q => b_X10_crossing_4 M a1 (fun x0 x1 => rc (x0, x1)) q.1 q.2)
def f_X10_crossing (M : Mem) (a1 : Int32) : Option (Int32) :=
  f_X10_crossing_4 M a1 FU ((nI 0), (nI 0))
set_option maxRecDepth 100000 in
set_option maxHeartbeats 4000000 in
theorem n_X10_crossing_84 {a1 : Int32} {v_3 : Int32} (X : Cx p s m args meth c D cy ad A RX10 cX10_crossing 6 ((some .int))) (hN : Ob ns 10 100) {M : Mem} {k_85 : Int32 → Int32 → Bool → Option (Int32)} {v_4 : Int32} {s_0 : Int32} {r : Int32} (hX : f_X10_crossing_84 M a1 v_3 k_85 v_4 s_0 = some r) : (∀ (v_4 : Int32) (s_0 : Int32) (s_1 : Bool) (r : Int32), k_85 v_4 s_0 s_1 = some r → ∀ (ls : Array Slot) (H : Heap) (locs : List Loc), lv_has ls 6 [(0, .ref (ad 100 0)), (1, .int a1), (3, .int v_3), (4, .int v_4)] → St D cy ad ns A M s.heap H locs → W p l e rm_X10_crossing s m args below meth c H locs 0 0 (MQ below (QC D cy ad ns A M (some (.int r))) args s 0 0 A) (F0 m 85 ls [.int (b2i s_1), .int s_0])) → ∀ (ls : Array Slot) (H : Heap) (locs : List Loc), lv_has ls 6 [(0, .ref (ad 100 0)), (1, .int a1), (3, .int v_3), (4, .int v_4)] → St D cy ad ns A M s.heap H locs → W p l e rm_X10_crossing s m args below meth c H locs 0 0 (MQ below (QC D cy ad ns A M (some (.int r))) args s 0 0 A) (F0 m 84 ls [.int s_0]) := by
  obtain ⟨hx, hb, hml, hown, hts, hK, hr, hlk, hA, hG⟩ := id X
  intro hk_85 ls H locs hl hS
  unfold f_X10_crossing_84 at hX
  refine lv_iconst (v := nI 0) hx hb dX10_crossing_84 (by decide) ?_
  exact hk_85 _ _ _ _ hX _ _ _ (lv_sub hl [0, 1, 2, 3] rfl) hS
set_option maxRecDepth 100000 in
set_option maxHeartbeats 4000000 in
theorem n_X10_crossing_85 {a1 : Int32} {v_3 : Int32} (X : Cx p s m args meth c D cy ad A RX10 cX10_crossing 6 ((some .int))) (hN : Ob ns 10 100) {M : Mem} {k_15 : Int32 → Int32 → Option (Int32)} {v_4 : Int32} {s_0 : Int32} {s_1 : Bool} {r : Int32} (hX : f_X10_crossing_85 M a1 v_3 k_15 v_4 s_0 s_1 = some r) : (∀ (v_2 : Int32) (v_4 : Int32) (r : Int32), k_15 v_2 v_4 = some r → ∀ (ls : Array Slot) (H : Heap) (locs : List Loc), lv_has ls 6 [(0, .ref (ad 100 0)), (1, .int a1), (2, .int v_2), (3, .int v_3), (4, .int v_4)] → St D cy ad ns A M s.heap H locs → W p l e rm_X10_crossing s m args below meth c H locs 0 0 (MQ below (QC D cy ad ns A M (some (.int r))) args s 0 0 A) (F0 m 15 ls [])) → ∀ (ls : Array Slot) (H : Heap) (locs : List Loc), lv_has ls 6 [(0, .ref (ad 100 0)), (1, .int a1), (3, .int v_3), (4, .int v_4)] → St D cy ad ns A M s.heap H locs → W p l e rm_X10_crossing s m args below meth c H locs 0 0 (MQ below (QC D cy ad ns A M (some (.int r))) args s 0 0 A) (F0 m 85 ls [.int (b2i s_1), .int s_0]) := by
  obtain ⟨hx, hb, hml, hown, hts, hK, hr, hlk, hA, hG⟩ := id X
  intro hk_15 ls H locs hl hS
  unfold f_X10_crossing_85 at hX
  refine lv_iadd hx hb dX10_crossing_85 ?_
  refine lv_topi (fun v1 ev1 => ?_)
  have hX := nm_of ev1 hX
  refine lv_istore_n (lv' := [(2, .int v1), (0, .ref (ad 100 0)), (1, .int a1), (3, .int v_3), (4, .int v_4)]) hx hb dX10_crossing_86 rfl hl (by decide) rfl (fun ls hl => ?_)
  obtain ⟨v2, ev2⟩ : ∃ y : Int32, y = (v_4 + nI 1) := ⟨_, rfl⟩
  have hX := nm_of ev2 hX
  refine lv_iinc (v := v2) (lv' := [(4, .int v2), (2, .int v1), (0, .ref (ad 100 0)), (1, .int a1), (3, .int v_3)]) hx hb dX10_crossing_87 hl (k := 4) rfl (by rw [ev2]; rfl) (by decide) rfl (fun ls hl => ?_)
  refine lv_goto (tgt := 15) hx hb dX10_crossing_90 (by decide) ?_
  exact hk_15 _ _ _ hX _ _ _ (lv_sub hl [2, 3, 1, 4, 0] rfl) hS
set_option maxRecDepth 100000 in
set_option maxHeartbeats 4000000 in
theorem n_X10_crossing_53 {a1 : Int32} {v_3 : Int32} (X : Cx p s m args meth c D cy ad A RX10 cX10_crossing 6 ((some .int))) (hN : Ob ns 10 100) {M : Mem} {k_58 : Int32 → Int32 → Bool → Option (Int32)} {v_2 : Int32} {v_4 : Int32} {r : Int32} (hX : f_X10_crossing_53 M a1 v_3 k_58 v_2 v_4 = some r) : (∀ (v_2 : Int32) (v_4 : Int32) (s_0 : Bool) (r : Int32), k_58 v_2 v_4 s_0 = some r → ∀ (ls : Array Slot) (H : Heap) (locs : List Loc), lv_has ls 6 [(0, .ref (ad 100 0)), (1, .int a1), (2, .int v_2), (3, .int v_3), (4, .int v_4)] → St D cy ad ns A M s.heap H locs → W p l e rm_X10_crossing s m args below meth c H locs 0 0 (MQ below (QC D cy ad ns A M (some (.int r))) args s 0 0 A) (F0 m 58 ls [.int (b2i s_0)])) → ∀ (ls : Array Slot) (H : Heap) (locs : List Loc), lv_has ls 6 [(0, .ref (ad 100 0)), (1, .int a1), (2, .int v_2), (3, .int v_3), (4, .int v_4)] → St D cy ad ns A M s.heap H locs → W p l e rm_X10_crossing s m args below meth c H locs 0 0 (MQ below (QC D cy ad ns A M (some (.int r))) args s 0 0 A) (F0 m 53 ls []) := by
  obtain ⟨hx, hb, hml, hown, hts, hK, hr, hlk, hA, hG⟩ := id X
  intro hk_58 ls H locs hl hS
  unfold f_X10_crossing_53 at hX
  refine lv_iconst (v := nI 1) hx hb dX10_crossing_53 (by decide) ?_
  refine lv_goto (tgt := 58) hx hb dX10_crossing_54 (by decide) ?_
  exact hk_58 _ _ _ _ hX _ _ _ (lv_sub hl [0, 1, 2, 3, 4] rfl) hS
set_option maxRecDepth 100000 in
set_option maxHeartbeats 4000000 in
theorem n_X10_crossing_58 {a1 : Int32} {v_3 : Int32} (X : Cx p s m args meth c D cy ad A RX10 cX10_crossing 6 ((some .int))) (hN : Ob ns 10 100) {M : Mem} {k_15 : Int32 → Int32 → Option (Int32)} {v_2 : Int32} {v_4 : Int32} {s_0 : Bool} {r : Int32} (hX : f_X10_crossing_58 M a1 v_3 k_15 v_2 v_4 s_0 = some r) : (∀ (v_2 : Int32) (v_4 : Int32) (r : Int32), k_15 v_2 v_4 = some r → ∀ (ls : Array Slot) (H : Heap) (locs : List Loc), lv_has ls 6 [(0, .ref (ad 100 0)), (1, .int a1), (2, .int v_2), (3, .int v_3), (4, .int v_4)] → St D cy ad ns A M s.heap H locs → W p l e rm_X10_crossing s m args below meth c H locs 0 0 (MQ below (QC D cy ad ns A M (some (.int r))) args s 0 0 A) (F0 m 15 ls [])) → ∀ (ls : Array Slot) (H : Heap) (locs : List Loc), lv_has ls 6 [(0, .ref (ad 100 0)), (1, .int a1), (2, .int v_2), (3, .int v_3), (4, .int v_4)] → St D cy ad ns A M s.heap H locs → W p l e rm_X10_crossing s m args below meth c H locs 0 0 (MQ below (QC D cy ad ns A M (some (.int r))) args s 0 0 A) (F0 m 58 ls [.int (b2i s_0)]) := by
  obtain ⟨hx, hb, hml, hown, hts, hK, hr, hlk, hA, hG⟩ := id X
  intro hk_15 ls H locs hl hS
  unfold f_X10_crossing_58 at hX
  refine lv_istore (lv' := [(5, .int (b2i s_0)), (0, .ref (ad 100 0)), (1, .int a1), (2, .int v_2), (3, .int v_3), (4, .int v_4)]) hx hb dX10_crossing_58 hl (by decide) rfl (fun ls hl => ?_)
  refine lv_iload_n hx hb dX10_crossing_60 rfl (lv_at hl 3 rfl) ?_
  refine lv_iload hx hb dX10_crossing_61 (lv_at hl 0 rfl) ?_
  refine lv_if_eq (tgt := 84) hx hb dX10_crossing_63 (by decide) (fun c3 => ?_) (fun c3 => ?_)
  · have hX := if_bf c3 hX
    exact n_X10_crossing_84 X hN hX (fun z0 z1 z2 r h ls H locs hl hS => n_X10_crossing_85 X hN h hk_15 _ _ _ hl hS) _ _ _ (lv_sub hl [1, 2, 4, 5] rfl) hS
  · have hX := if_bt c3 hX
    refine lv_iload_n hx hb dX10_crossing_66 rfl (lv_at hl 2 rfl) ?_
    refine lv_iload_n hx hb dX10_crossing_67 rfl (lv_at hl 4 rfl) ?_
    obtain ⟨r5, h4, hX⟩ := bn_of hX
    refine r_callS1 (v := .int (b2i r5)) (As := [.int a1, .int v_3]) (rest := [.int v_2]) X hS (m_X10_has (M := M) hN h4) ms_X10_has t7_36 ⟨rfl, rfl, Nat.le_of_ble_eq_true rfl, Nat.le_of_ble_eq_true rfl⟩ rfl hl.1 rfl (Nat.le_of_ble_eq_true rfl) ⟨Nat.zero_le _, Nat.zero_le _⟩ dX10_crossing_68 (fun H locs hS => ?_)
    refine lv_iload_n hx hb dX10_crossing_71 rfl (lv_at hl 2 rfl) ?_
    refine lv_iload hx hb dX10_crossing_72 (lv_at hl 5 rfl) ?_
    obtain ⟨r7, h6, hX⟩ := bn_of hX
    refine r_callS1 (v := .int (b2i r7)) (As := [.int a1, .int v_4]) (rest := [.int (b2i r5), .int v_2]) X hS (m_X10_has (M := M) hN h6) ms_X10_has t7_36 ⟨rfl, rfl, Nat.le_of_ble_eq_true rfl, Nat.le_of_ble_eq_true rfl⟩ rfl hl.1 rfl (Nat.le_of_ble_eq_true rfl) ⟨Nat.zero_le _, Nat.zero_le _⟩ dX10_crossing_74 (fun H locs hS => ?_)
    refine lv_icmp_eq (tgt := 84) hx hb dX10_crossing_77 (by decide) (fun c8 => ?_) (fun c8 => ?_)
    · have hX := if_t c8 hX
      exact n_X10_crossing_84 X hN hX (fun z0 z1 z2 r h ls H locs hl hS => n_X10_crossing_85 X hN h hk_15 _ _ _ hl hS) _ _ _ (lv_sub hl [1, 2, 4, 5] rfl) hS
    · have hX := if_f c8 hX
      refine lv_iconst (v := nI 1) hx hb dX10_crossing_80 (by decide) ?_
      refine lv_goto (tgt := 85) hx hb dX10_crossing_81 (by decide) ?_
      exact n_X10_crossing_85 X hN hX hk_15 _ _ _ (lv_sub hl [1, 2, 4, 5] rfl) hS
set_option maxRecDepth 100000 in
set_option maxHeartbeats 4000000 in
theorem n_X10_crossing_15 {a1 : Int32} (X : Cx p s m args meth c D cy ad A RX10 cX10_crossing 6 ((some .int))) (hN : Ob ns 10 100) {M : Mem} {k_4 : Int32 → Int32 → Option (Int32)} {v_3 : Int32} : ∀ (n : Nat) (v_2 : Int32) (v_4 : Int32) (r : Int32), f_X10_crossing_15 M a1 k_4 v_3 n (v_2, v_4) = some r → (∀ (v_2 : Int32) (v_3 : Int32) (r : Int32), k_4 v_2 v_3 = some r → ∀ (ls : Array Slot) (H : Heap) (locs : List Loc), lv_has ls 6 [(0, .ref (ad 100 0)), (1, .int a1), (2, .int v_2), (3, .int v_3)] → St D cy ad ns A M s.heap H locs → W p l e rm_X10_crossing s m args below meth c H locs 0 0 (MQ below (QC D cy ad ns A M (some (.int r))) args s 0 0 A) (F0 m 4 ls [])) → ∀ (ls : Array Slot) (H : Heap) (locs : List Loc), lv_has ls 6 [(0, .ref (ad 100 0)), (1, .int a1), (2, .int v_2), (3, .int v_3), (4, .int v_4)] → St D cy ad ns A M s.heap H locs → W p l e rm_X10_crossing s m args below meth c H locs 0 0 (MQ below (QC D cy ad ns A M (some (.int r))) args s 0 0 A) (F0 m 15 ls []) := by
  obtain ⟨hx, hb, hml, hown, hts, hK, hr, hlk, hA, hG⟩ := id X
  intro n
  induction n with
  | zero => intro v_2 v_4 r hX; cases (show (none : Option (Int32)) = some r from hX)
  | succ n ih =>
    intro v_2 v_4 r hX hk_4 ls H locs hl hS
    have hX : b_X10_crossing_15 M a1 k_4 v_3 (fun x0 x1 => f_X10_crossing_15 M a1 k_4 v_3 n (x0, x1)) v_2 v_4 = some r := hX
    unfold b_X10_crossing_15 at hX
    refine lv_iload hx hb dX10_crossing_15 (lv_at hl 4 rfl) ?_
    refine lv_iload_n hx hb dX10_crossing_17 rfl (lv_at hl 3 rfl) ?_
    refine lv_icmp_ge (tgt := 93) hx hb dX10_crossing_18 (by decide) (fun c9 => ?_) (fun c9 => ?_)
    · have hX := if_t c9 hX
      obtain ⟨v10, ev10⟩ : ∃ y : Int32, y = (v_3 + nI 1) := ⟨_, rfl⟩
      have hX := nm_of ev10 hX
      refine lv_iinc (v := v10) (lv' := [(3, .int v10), (0, .ref (ad 100 0)), (1, .int a1), (2, .int v_2), (4, .int v_4)]) hx hb dX10_crossing_93 hl (k := 3) rfl (by rw [ev10]; rfl) (by decide) rfl (fun ls hl => ?_)
      refine lv_goto (tgt := 4) hx hb dX10_crossing_96 (by decide) ?_
      exact hk_4 _ _ _ hX _ _ _ (lv_sub hl [1, 2, 3, 0] rfl) hS
    · have hX := if_f c9 hX
      refine lv_aload_n hx hb dX10_crossing_21 rfl (lv_at hl 0 rfl) ?_
      refine lv_bipush (v := nI 29) hx hb dX10_crossing_22 (by decide) ?_
      refine lv_iload_n hx hb dX10_crossing_24 rfl (lv_at hl 3 rfl) ?_
      refine lv_iadd hx hb dX10_crossing_25 ?_
      obtain ⟨r12, h11, hX⟩ := bn_of hX
      refine r_callV1 (v := .int r12) (As := [.int ((nI 29) + v_3)]) (rest := []) X hS (m_X10_of hN h11) mv_X10_of rfl (hN) t6_220 ⟨rfl, rfl, Nat.le_of_ble_eq_true rfl, Nat.le_of_ble_eq_true rfl⟩ rfl hl.1 rfl (Nat.le_of_ble_eq_true rfl) ⟨Nat.zero_le _, Nat.zero_le _⟩ dX10_crossing_26 (fun H locs hS => ?_)
      refine lv_iload hx hb dX10_crossing_29 (lv_at hl 4 rfl) ?_
      obtain ⟨r14, h13, hX⟩ := bn_of hX
      refine r_callS1 (v := .int (b2i r14)) (As := [.int r12, .int v_4]) (rest := []) X hS (m_X10_has (M := M) hN h13) ms_X10_has t7_36 ⟨rfl, rfl, Nat.le_of_ble_eq_true rfl, Nat.le_of_ble_eq_true rfl⟩ rfl hl.1 rfl (Nat.le_of_ble_eq_true rfl) ⟨Nat.zero_le _, Nat.zero_le _⟩ dX10_crossing_31 (fun H locs hS => ?_)
      refine lv_if_ne (tgt := 53) hx hb dX10_crossing_34 (by decide) (fun c15 => ?_) (fun c15 => ?_)
      · have hX := if_bt c15 hX
        exact n_X10_crossing_53 X hN hX (fun z0 z1 z2 r h ls H locs hl hS => n_X10_crossing_58 X hN h (fun z0 z1 r h ls H locs hl hS => ih z0 z1 r h hk_4 ls H locs hl hS) _ _ _ hl hS) _ _ _ (lv_sub hl [0, 1, 2, 3, 4] rfl) hS
      · have hX := if_bf c15 hX
        refine lv_aload_n hx hb dX10_crossing_37 rfl (lv_at hl 0 rfl) ?_
        refine lv_bipush (v := nI 29) hx hb dX10_crossing_38 (by decide) ?_
        refine lv_iload hx hb dX10_crossing_40 (lv_at hl 4 rfl) ?_
        refine lv_iadd hx hb dX10_crossing_42 ?_
        obtain ⟨r17, h16, hX⟩ := bn_of hX
        refine r_callV1 (v := .int r17) (As := [.int ((nI 29) + v_4)]) (rest := []) X hS (m_X10_of hN h16) mv_X10_of rfl (hN) t6_220 ⟨rfl, rfl, Nat.le_of_ble_eq_true rfl, Nat.le_of_ble_eq_true rfl⟩ rfl hl.1 rfl (Nat.le_of_ble_eq_true rfl) ⟨Nat.zero_le _, Nat.zero_le _⟩ dX10_crossing_43 (fun H locs hS => ?_)
        refine lv_iload_n hx hb dX10_crossing_46 rfl (lv_at hl 3 rfl) ?_
        obtain ⟨r19, h18, hX⟩ := bn_of hX
        refine r_callS1 (v := .int (b2i r19)) (As := [.int r17, .int v_3]) (rest := []) X hS (m_X10_has (M := M) hN h18) ms_X10_has t7_36 ⟨rfl, rfl, Nat.le_of_ble_eq_true rfl, Nat.le_of_ble_eq_true rfl⟩ rfl hl.1 rfl (Nat.le_of_ble_eq_true rfl) ⟨Nat.zero_le _, Nat.zero_le _⟩ dX10_crossing_47 (fun H locs hS => ?_)
        refine lv_if_eq (tgt := 57) hx hb dX10_crossing_50 (by decide) (fun c20 => ?_) (fun c20 => ?_)
        · have hX := if_bf c20 hX
          refine lv_iconst (v := nI 0) hx hb dX10_crossing_57 (by decide) ?_
          exact n_X10_crossing_58 X hN hX (fun z0 z1 r h ls H locs hl hS => ih z0 z1 r h hk_4 ls H locs hl hS) _ _ _ (lv_sub hl [0, 1, 2, 3, 4] rfl) hS
        · have hX := if_bt c20 hX
          exact n_X10_crossing_53 X hN hX (fun z0 z1 z2 r h ls H locs hl hS => n_X10_crossing_58 X hN h (fun z0 z1 r h ls H locs hl hS => ih z0 z1 r h hk_4 ls H locs hl hS) _ _ _ hl hS) _ _ _ (lv_sub hl [0, 1, 2, 3, 4] rfl) hS
set_option maxRecDepth 100000 in
set_option maxHeartbeats 4000000 in
theorem n_X10_crossing_4 {a1 : Int32} (X : Cx p s m args meth c D cy ad A RX10 cX10_crossing 6 ((some .int))) (hN : Ob ns 10 100) {M : Mem} : ∀ (n : Nat) (v_2 : Int32) (v_3 : Int32) (r : Int32), f_X10_crossing_4 M a1 n (v_2, v_3) = some r → ∀ (ls : Array Slot) (H : Heap) (locs : List Loc), lv_has ls 6 [(0, .ref (ad 100 0)), (1, .int a1), (2, .int v_2), (3, .int v_3)] → St D cy ad ns A M s.heap H locs → W p l e rm_X10_crossing s m args below meth c H locs 0 0 (MQ below (QC D cy ad ns A M (some (.int r))) args s 0 0 A) (F0 m 4 ls []) := by
  obtain ⟨hx, hb, hml, hown, hts, hK, hr, hlk, hA, hG⟩ := id X
  intro n
  induction n with
  | zero => intro v_2 v_3 r hX; cases (show (none : Option (Int32)) = some r from hX)
  | succ n ih =>
    intro v_2 v_3 r hX ls H locs hl hS
    have hX : b_X10_crossing_4 M a1 (fun x0 x1 => f_X10_crossing_4 M a1 n (x0, x1)) v_2 v_3 = some r := hX
    unfold b_X10_crossing_4 at hX
    refine lv_iload_n hx hb dX10_crossing_4 rfl (lv_at hl 3 rfl) ?_
    refine lv_aload_n hx hb dX10_crossing_5 rfl (lv_at hl 0 rfl) ?_
    refine fg_X10_281 X hS (hN) dX10_crossing_6 ?_
    refine lv_icmp_ge (tgt := 99) hx hb dX10_crossing_9 (by decide) (fun c21 => ?_) (fun c21 => ?_)
    · have hX := if_t c21 hX
      refine lv_iload_n hx hb dX10_crossing_99 rfl (lv_at hl 2 rfl) ?_
      obtain rfl := some_of hX
      exact x_I (v := v_2) X hS dX10_crossing_100
    · have hX := if_f c21 hX
      refine lv_iconst (v := nI 0) hx hb dX10_crossing_12 (by decide) ?_
      refine lv_istore (lv' := [(4, .int (nI 0)), (0, .ref (ad 100 0)), (1, .int a1), (2, .int v_2), (3, .int v_3)]) hx hb dX10_crossing_13 hl (by decide) rfl (fun ls hl => ?_)
      exact n_X10_crossing_15 X hN _ _ _ _ hX (fun z0 z1 r h ls H locs hl hS => ih z0 z1 r h ls H locs hl hS) _ _ _ (lv_sub hl [1, 2, 3, 4, 0] rfl) hS
set_option maxRecDepth 100000 in
set_option maxHeartbeats 4000000 in
theorem m_X10_crossing {l : Launch} {D : va_G} {cy : Nat → ClassId} {ad : Nat → Nat → Nat} {ns : List (Nat × Nat)} {A : Nat → Prop} {M : Mem} (hN : Ob ns 10 100) {a1 : Int32} {r : Int32} (hX : f_X10_crossing M a1 = some r) : Ct l yX10_crossing cX10_crossing 6 ((some .int)) rm_X10_crossing D cy ad ns A [.ref (ad 100 0), .int a1] M M (some (.int r)) := by
  refine ct_of (lv := [(0, .ref (ad 100 0)), (1, .int a1)]) (by decide) (Nat.le_of_ble_eq_true rfl) rfl ?_
  intro p e s m args below meth c ls X hl hS
  obtain ⟨hx, hb, hml, hown, hts, hK, hr, hlk, hA, hG⟩ := id X
  obtain ⟨H, hH⟩ : ∃ z, z = s.heap := ⟨_, rfl⟩
  obtain ⟨locs, hlo⟩ : ∃ z : List Loc, z = [] := ⟨_, rfl⟩
  have hS : St D cy ad ns A M s.heap H locs := by rw [hH, hlo]; exact hS
  have hgoal : W p l e rm_X10_crossing s m args below meth c H locs 0 0 (MQ below (QC D cy ad ns A M (some (.int r))) args s 0 0 A) (F0 m 0 ls []) := by
    unfold f_X10_crossing at hX
    refine lv_iconst (v := nI 0) hx hb dX10_crossing_0 (by decide) ?_
    refine lv_istore_n (lv' := [(2, .int (nI 0)), (0, .ref (ad 100 0)), (1, .int a1)]) hx hb dX10_crossing_1 rfl hl (by decide) rfl (fun ls hl => ?_)
    refine lv_iconst (v := nI 0) hx hb dX10_crossing_2 (by decide) ?_
    refine lv_istore_n (lv' := [(3, .int (nI 0)), (2, .int (nI 0)), (0, .ref (ad 100 0)), (1, .int a1)]) hx hb dX10_crossing_3 rfl hl (by decide) rfl (fun ls hl => ?_)
    exact n_X10_crossing_4 X hN _ _ _ _ hX _ _ _ (lv_sub hl [2, 3, 1, 0] rfl) hS
  rw [hH, hlo] at hgoal
  exact hgoal
theorem mv_X10_crossing : Mv yX10_crossing RX10 cX10_crossing 6 ((some .int)) 1 := ⟨t7_157, t7_156, ts_65, t1_11, ⟨by decide, by decide⟩, by decide +kernel⟩
/-! SewnYearModel.parted(IIIZ)I -/
def rm_X10_parted : Room := { frames := 3, cells := 0, slots := 0, locals := 65 }
def f_X10_parted_104 (a1 : Int32) (a2 : Int32) (a3 : Int32) (a4 : Bool) (k_111 : Int32 → Int32 → Mem → Option (Int32 × Mem)) (v_6 : Int32) (M : Mem) : Option (Int32 × Mem) :=
  k_111 v_6 v_6 M
def f_X10_parted_109 (a1 : Int32) (a2 : Int32) (a3 : Int32) (a4 : Bool) (k_111 : Int32 → Int32 → Mem → Option (Int32 × Mem)) (v_5 : Int32) (v_6 : Int32) (M : Mem) : Option (Int32 × Mem) :=
  k_111 v_6 v_5 M
def f_X10_parted_111 (a1 : Int32) (a2 : Int32) (a3 : Int32) (a4 : Bool) (k_42 : Int32 → Int32 → Mem → Option (Int32 × Mem)) (v_6 : Int32) (s_0 : Int32) (M : Mem) : Option (Int32 × Mem) :=
  nm (v_6 + nI 1) fun v1 => k_42 s_0 v1 M
def f_X10_parted_75 (a1 : Int32) (a2 : Int32) (a3 : Int32) (a4 : Bool) (k_76 : Int32 → Int32 → Bool → Mem → Option (Int32 × Mem)) (v_5 : Int32) (v_6 : Int32) (M : Mem) : Option (Int32 × Mem) :=
  k_76 v_5 v_6 false M
def f_X10_parted_76 (a1 : Int32) (a2 : Int32) (a3 : Int32) (a4 : Bool) (k_42 : Int32 → Int32 → Mem → Option (Int32 × Mem)) (v_5 : Int32) (v_6 : Int32) (s_0 : Bool) (M : Mem) : Option (Int32 × Mem) :=
  if s_0 = true then (if v_5 = (-1) then (f_X10_parted_104 a1 a2 a3 a4 (fun x0 x1 y => f_X10_parted_111 a1 a2 a3 a4 k_42 x0 x1 y) v_6 M) else (bn (f_X10_crossing M v_6) fun r5 => bn (f_X10_crossing M v_5) fun r7 => if r7 ≤ r5 then (f_X10_parted_109 a1 a2 a3 a4 (fun x0 x1 y => f_X10_parted_111 a1 a2 a3 a4 k_42 x0 x1 y) v_5 v_6 M) else (f_X10_parted_104 a1 a2 a3 a4 (fun x0 x1 y => f_X10_parted_111 a1 a2 a3 a4 k_42 x0 x1 y) v_6 M))) else (f_X10_parted_109 a1 a2 a3 a4 (fun x0 x1 y => f_X10_parted_111 a1 a2 a3 a4 k_42 x0 x1 y) v_5 v_6 M)
def b_X10_parted_42 (a1 : Int32) (a2 : Int32) (a3 : Int32) (a4 : Bool) (rc : Int32 → Int32 → Mem → Option (Int32 × Mem)) (v_5 : Int32) (v_6 : Int32) (M : Mem) : Option (Int32 × Mem) :=
  if ((nI 1) <<< ((gI M 100 24) &&& 31)) ≤ v_6 then (if a4 = true then (some (v_5, M)) else (bn (f_X10_crossing M v_5) fun r12 => some (r12, M))) else (bn (f_X10_has v_6 a2) fun r14 => if r14 = true then (bn (f_X10_has v_6 a3) fun r17 => if r17 = true then (f_X10_parted_75 a1 a2 a3 a4 (fun x0 x1 x2 y => f_X10_parted_76 a1 a2 a3 a4 rc x0 x1 x2 y) v_5 v_6 M) else (f_X10_parted_76 a1 a2 a3 a4 rc v_5 v_6 true M)) else (f_X10_parted_75 a1 a2 a3 a4 (fun x0 x1 x2 y => f_X10_parted_76 a1 a2 a3 a4 rc x0 x1 x2 y) v_5 v_6 M))
def f_X10_parted_42 (a1 : Int32) (a2 : Int32) (a3 : Int32) (a4 : Bool) : Nat → (Int32 × Int32 × Mem) → Option (Int32 × Mem) := lp (fun rc q => b_X10_parted_42 a1 a2 a3 a4 (fun x0 x1 x2 => rc (x0, x1, x2)) q.1 q.2.1 q.2.2)
def f_X10_parted (M : Mem) (a1 : Int32) (a2 : Int32) (a3 : Int32) (a4 : Bool) : Option (Int32 × Mem) :=
  nm (sI M 100 0 (nI 0)) fun M19 => bp (f_X10_hand M19 a1) fun r22 M21 => if r22 = true then (bn (f_X10_isSeam M21 a2) fun r25 => if r25 = true then (bn (f_X10_isSeam M21 a3) fun r28 => if r28 = true then (if a2 = a3 then (some ((-1), M21)) else (f_X10_parted_42 a1 a2 a3 a4 FU ((-1), (nI 0), M21))) else (some ((-1), M21))) else (some ((-1), M21))) else (some ((-1), M21))
set_option maxRecDepth 100000 in
set_option maxHeartbeats 4000000 in
theorem n_X10_parted_104 {a1 : Int32} {a2 : Int32} {a3 : Int32} {a4 : Bool} (X : Cx p s m args meth c D cy ad A RX10 cX10_parted 8 ((some .int))) (hN : Ob ns 10 100) {k_111 : Int32 → Int32 → Mem → Option (Int32 × Mem)} {v_6 : Int32} {M : Mem} {r : Int32 × Mem} (hX : f_X10_parted_104 a1 a2 a3 a4 k_111 v_6 M = some r) : (∀ (v_6 : Int32) (s_0 : Int32) (M : Mem) (r : Int32 × Mem), k_111 v_6 s_0 M = some r → ∀ (ls : Array Slot) (H : Heap) (locs : List Loc), lv_has ls 8 [(0, .ref (ad 100 0)), (2, .int a2), (3, .int a3), (4, .int (b2i a4)), (6, .int v_6)] → St D cy ad ns A M s.heap H locs → W p l e rm_X10_parted s m args below meth c H locs 0 0 (MQ below (QC D cy ad ns A r.2 (some (.int r.1))) args s 0 0 A) (F0 m 111 ls [.int s_0])) → ∀ (ls : Array Slot) (H : Heap) (locs : List Loc), lv_has ls 8 [(0, .ref (ad 100 0)), (2, .int a2), (3, .int a3), (4, .int (b2i a4)), (6, .int v_6)] → St D cy ad ns A M s.heap H locs → W p l e rm_X10_parted s m args below meth c H locs 0 0 (MQ below (QC D cy ad ns A r.2 (some (.int r.1))) args s 0 0 A) (F0 m 104 ls []) := by
  obtain ⟨hx, hb, hml, hown, hts, hK, hr, hlk, hA, hG⟩ := id X
  intro hk_111 ls H locs hl hS
  unfold f_X10_parted_104 at hX
  refine lv_iload hx hb dX10_parted_104 (lv_at hl 4 rfl) ?_
  refine lv_goto (tgt := 111) hx hb dX10_parted_106 (by decide) ?_
  exact hk_111 _ _ _ _ hX _ _ _ (lv_sub hl [0, 1, 2, 3, 4] rfl) hS
set_option maxRecDepth 100000 in
set_option maxHeartbeats 4000000 in
theorem n_X10_parted_109 {a1 : Int32} {a2 : Int32} {a3 : Int32} {a4 : Bool} (X : Cx p s m args meth c D cy ad A RX10 cX10_parted 8 ((some .int))) (hN : Ob ns 10 100) {k_111 : Int32 → Int32 → Mem → Option (Int32 × Mem)} {v_5 : Int32} {v_6 : Int32} {M : Mem} {r : Int32 × Mem} (hX : f_X10_parted_109 a1 a2 a3 a4 k_111 v_5 v_6 M = some r) : (∀ (v_6 : Int32) (s_0 : Int32) (M : Mem) (r : Int32 × Mem), k_111 v_6 s_0 M = some r → ∀ (ls : Array Slot) (H : Heap) (locs : List Loc), lv_has ls 8 [(0, .ref (ad 100 0)), (2, .int a2), (3, .int a3), (4, .int (b2i a4)), (6, .int v_6)] → St D cy ad ns A M s.heap H locs → W p l e rm_X10_parted s m args below meth c H locs 0 0 (MQ below (QC D cy ad ns A r.2 (some (.int r.1))) args s 0 0 A) (F0 m 111 ls [.int s_0])) → ∀ (ls : Array Slot) (H : Heap) (locs : List Loc), lv_has ls 8 [(0, .ref (ad 100 0)), (2, .int a2), (3, .int a3), (4, .int (b2i a4)), (5, .int v_5), (6, .int v_6)] → St D cy ad ns A M s.heap H locs → W p l e rm_X10_parted s m args below meth c H locs 0 0 (MQ below (QC D cy ad ns A r.2 (some (.int r.1))) args s 0 0 A) (F0 m 109 ls []) := by
  obtain ⟨hx, hb, hml, hown, hts, hK, hr, hlk, hA, hG⟩ := id X
  intro hk_111 ls H locs hl hS
  unfold f_X10_parted_109 at hX
  refine lv_iload hx hb dX10_parted_109 (lv_at hl 4 rfl) ?_
  exact hk_111 _ _ _ _ hX _ _ _ (lv_sub hl [0, 1, 2, 3, 5] rfl) hS
set_option maxRecDepth 100000 in
set_option maxHeartbeats 4000000 in
theorem n_X10_parted_111 {a1 : Int32} {a2 : Int32} {a3 : Int32} {a4 : Bool} (X : Cx p s m args meth c D cy ad A RX10 cX10_parted 8 ((some .int))) (hN : Ob ns 10 100) {k_42 : Int32 → Int32 → Mem → Option (Int32 × Mem)} {v_6 : Int32} {s_0 : Int32} {M : Mem} {r : Int32 × Mem} (hX : f_X10_parted_111 a1 a2 a3 a4 k_42 v_6 s_0 M = some r) : (∀ (v_5 : Int32) (v_6 : Int32) (M : Mem) (r : Int32 × Mem), k_42 v_5 v_6 M = some r → ∀ (ls : Array Slot) (H : Heap) (locs : List Loc), lv_has ls 8 [(0, .ref (ad 100 0)), (2, .int a2), (3, .int a3), (4, .int (b2i a4)), (5, .int v_5), (6, .int v_6)] → St D cy ad ns A M s.heap H locs → W p l e rm_X10_parted s m args below meth c H locs 0 0 (MQ below (QC D cy ad ns A r.2 (some (.int r.1))) args s 0 0 A) (F0 m 42 ls [])) → ∀ (ls : Array Slot) (H : Heap) (locs : List Loc), lv_has ls 8 [(0, .ref (ad 100 0)), (2, .int a2), (3, .int a3), (4, .int (b2i a4)), (6, .int v_6)] → St D cy ad ns A M s.heap H locs → W p l e rm_X10_parted s m args below meth c H locs 0 0 (MQ below (QC D cy ad ns A r.2 (some (.int r.1))) args s 0 0 A) (F0 m 111 ls [.int s_0]) := by
  obtain ⟨hx, hb, hml, hown, hts, hK, hr, hlk, hA, hG⟩ := id X
  intro hk_42 ls H locs hl hS
  unfold f_X10_parted_111 at hX
  refine lv_istore (lv' := [(5, .int s_0), (0, .ref (ad 100 0)), (2, .int a2), (3, .int a3), (4, .int (b2i a4)), (6, .int v_6)]) hx hb dX10_parted_111 hl (by decide) rfl (fun ls hl => ?_)
  obtain ⟨v1, ev1⟩ : ∃ y : Int32, y = (v_6 + nI 1) := ⟨_, rfl⟩
  have hX := nm_of ev1 hX
  refine lv_iinc (v := v1) (lv' := [(6, .int v1), (5, .int s_0), (0, .ref (ad 100 0)), (2, .int a2), (3, .int a3), (4, .int (b2i a4))]) hx hb dX10_parted_113 hl (k := 5) rfl (by rw [ev1]; rfl) (by decide) rfl (fun ls hl => ?_)
  refine lv_goto (tgt := 42) hx hb dX10_parted_116 (by decide) ?_
  exact hk_42 _ _ _ _ hX _ _ _ (lv_sub hl [2, 3, 4, 5, 1, 0] rfl) hS
set_option maxRecDepth 100000 in
set_option maxHeartbeats 4000000 in
theorem n_X10_parted_75 {a1 : Int32} {a2 : Int32} {a3 : Int32} {a4 : Bool} (X : Cx p s m args meth c D cy ad A RX10 cX10_parted 8 ((some .int))) (hN : Ob ns 10 100) {k_76 : Int32 → Int32 → Bool → Mem → Option (Int32 × Mem)} {v_5 : Int32} {v_6 : Int32} {M : Mem} {r : Int32 × Mem} (hX : f_X10_parted_75 a1 a2 a3 a4 k_76 v_5 v_6 M = some r) : (∀ (v_5 : Int32) (v_6 : Int32) (s_0 : Bool) (M : Mem) (r : Int32 × Mem), k_76 v_5 v_6 s_0 M = some r → ∀ (ls : Array Slot) (H : Heap) (locs : List Loc), lv_has ls 8 [(0, .ref (ad 100 0)), (2, .int a2), (3, .int a3), (4, .int (b2i a4)), (5, .int v_5), (6, .int v_6)] → St D cy ad ns A M s.heap H locs → W p l e rm_X10_parted s m args below meth c H locs 0 0 (MQ below (QC D cy ad ns A r.2 (some (.int r.1))) args s 0 0 A) (F0 m 76 ls [.int (b2i s_0)])) → ∀ (ls : Array Slot) (H : Heap) (locs : List Loc), lv_has ls 8 [(0, .ref (ad 100 0)), (2, .int a2), (3, .int a3), (4, .int (b2i a4)), (5, .int v_5), (6, .int v_6)] → St D cy ad ns A M s.heap H locs → W p l e rm_X10_parted s m args below meth c H locs 0 0 (MQ below (QC D cy ad ns A r.2 (some (.int r.1))) args s 0 0 A) (F0 m 75 ls []) := by
  obtain ⟨hx, hb, hml, hown, hts, hK, hr, hlk, hA, hG⟩ := id X
  intro hk_76 ls H locs hl hS
  unfold f_X10_parted_75 at hX
  refine lv_iconst (v := nI 0) hx hb dX10_parted_75 (by decide) ?_
  exact hk_76 _ _ _ _ _ hX _ _ _ (lv_sub hl [0, 1, 2, 3, 4, 5] rfl) hS
set_option maxRecDepth 100000 in
set_option maxHeartbeats 4000000 in
theorem n_X10_parted_76 {a1 : Int32} {a2 : Int32} {a3 : Int32} {a4 : Bool} (X : Cx p s m args meth c D cy ad A RX10 cX10_parted 8 ((some .int))) (hN : Ob ns 10 100) {k_42 : Int32 → Int32 → Mem → Option (Int32 × Mem)} {v_5 : Int32} {v_6 : Int32} {s_0 : Bool} {M : Mem} {r : Int32 × Mem} (hX : f_X10_parted_76 a1 a2 a3 a4 k_42 v_5 v_6 s_0 M = some r) : (∀ (v_5 : Int32) (v_6 : Int32) (M : Mem) (r : Int32 × Mem), k_42 v_5 v_6 M = some r → ∀ (ls : Array Slot) (H : Heap) (locs : List Loc), lv_has ls 8 [(0, .ref (ad 100 0)), (2, .int a2), (3, .int a3), (4, .int (b2i a4)), (5, .int v_5), (6, .int v_6)] → St D cy ad ns A M s.heap H locs → W p l e rm_X10_parted s m args below meth c H locs 0 0 (MQ below (QC D cy ad ns A r.2 (some (.int r.1))) args s 0 0 A) (F0 m 42 ls [])) → ∀ (ls : Array Slot) (H : Heap) (locs : List Loc), lv_has ls 8 [(0, .ref (ad 100 0)), (2, .int a2), (3, .int a3), (4, .int (b2i a4)), (5, .int v_5), (6, .int v_6)] → St D cy ad ns A M s.heap H locs → W p l e rm_X10_parted s m args below meth c H locs 0 0 (MQ below (QC D cy ad ns A r.2 (some (.int r.1))) args s 0 0 A) (F0 m 76 ls [.int (b2i s_0)]) := by
  obtain ⟨hx, hb, hml, hown, hts, hK, hr, hlk, hA, hG⟩ := id X
  intro hk_42 ls H locs hl hS
  unfold f_X10_parted_76 at hX
  refine lv_istore (lv' := [(7, .int (b2i s_0)), (0, .ref (ad 100 0)), (2, .int a2), (3, .int a3), (4, .int (b2i a4)), (5, .int v_5), (6, .int v_6)]) hx hb dX10_parted_76 hl (by decide) rfl (fun ls hl => ?_)
  refine lv_iload hx hb dX10_parted_78 (lv_at hl 0 rfl) ?_
  refine lv_if_eq (tgt := 109) hx hb dX10_parted_80 (by decide) (fun c2 => ?_) (fun c2 => ?_)
  · have hX := if_bf c2 hX
    exact n_X10_parted_109 X hN hX (fun z0 z1 z2 r h ls H locs hl hS => n_X10_parted_111 X hN h hk_42 _ _ _ hl hS) _ _ _ (lv_sub hl [1, 2, 3, 4, 5, 6] rfl) hS
  · have hX := if_bt c2 hX
    refine lv_iload hx hb dX10_parted_83 (lv_at hl 5 rfl) ?_
    refine lv_iconst (v := (-1)) hx hb dX10_parted_85 (by decide) ?_
    refine lv_icmp_eq (tgt := 104) hx hb dX10_parted_86 (by decide) (fun c3 => ?_) (fun c3 => ?_)
    · have hX := if_t c3 hX
      exact n_X10_parted_104 X hN hX (fun z0 z1 z2 r h ls H locs hl hS => n_X10_parted_111 X hN h hk_42 _ _ _ hl hS) _ _ _ (lv_sub hl [1, 2, 3, 4, 6] rfl) hS
    · have hX := if_f c3 hX
      refine lv_aload_n hx hb dX10_parted_89 rfl (lv_at hl 1 rfl) ?_
      refine lv_iload hx hb dX10_parted_90 (lv_at hl 6 rfl) ?_
      obtain ⟨r5, h4, hX⟩ := bn_of hX
      refine r_callV1 (v := .int r5) (As := [.int v_6]) (rest := []) X hS (m_X10_crossing hN h4) mv_X10_crossing rfl (hN) t7_154 ⟨rfl, rfl, Nat.le_of_ble_eq_true rfl, Nat.le_of_ble_eq_true rfl⟩ rfl hl.1 rfl (Nat.le_of_ble_eq_true rfl) ⟨Nat.zero_le _, Nat.zero_le _⟩ dX10_parted_92 (fun H locs hS => ?_)
      refine lv_aload_n hx hb dX10_parted_95 rfl (lv_at hl 1 rfl) ?_
      refine lv_iload hx hb dX10_parted_96 (lv_at hl 5 rfl) ?_
      obtain ⟨r7, h6, hX⟩ := bn_of hX
      refine r_callV1 (v := .int r7) (As := [.int v_5]) (rest := [.int r5]) X hS (m_X10_crossing hN h6) mv_X10_crossing rfl (hN) t7_154 ⟨rfl, rfl, Nat.le_of_ble_eq_true rfl, Nat.le_of_ble_eq_true rfl⟩ rfl hl.1 rfl (Nat.le_of_ble_eq_true rfl) ⟨Nat.zero_le _, Nat.zero_le _⟩ dX10_parted_98 (fun H locs hS => ?_)
      refine lv_icmp_ge (tgt := 109) hx hb dX10_parted_101 (by decide) (fun c8 => ?_) (fun c8 => ?_)
      · have hX := if_t c8 hX
        exact n_X10_parted_109 X hN hX (fun z0 z1 z2 r h ls H locs hl hS => n_X10_parted_111 X hN h hk_42 _ _ _ hl hS) _ _ _ (lv_sub hl [1, 2, 3, 4, 5, 6] rfl) hS
      · have hX := if_f c8 hX
        exact n_X10_parted_104 X hN hX (fun z0 z1 z2 r h ls H locs hl hS => n_X10_parted_111 X hN h hk_42 _ _ _ hl hS) _ _ _ (lv_sub hl [1, 2, 3, 4, 6] rfl) hS
set_option maxRecDepth 100000 in
set_option maxHeartbeats 4000000 in
theorem n_X10_parted_42 {a1 : Int32} {a2 : Int32} {a3 : Int32} {a4 : Bool} (X : Cx p s m args meth c D cy ad A RX10 cX10_parted 8 ((some .int))) (hN : Ob ns 10 100) : ∀ (n : Nat) (v_5 : Int32) (v_6 : Int32) (M : Mem) (r : Int32 × Mem), f_X10_parted_42 a1 a2 a3 a4 n (v_5, v_6, M) = some r → ∀ (ls : Array Slot) (H : Heap) (locs : List Loc), lv_has ls 8 [(0, .ref (ad 100 0)), (2, .int a2), (3, .int a3), (4, .int (b2i a4)), (5, .int v_5), (6, .int v_6)] → St D cy ad ns A M s.heap H locs → W p l e rm_X10_parted s m args below meth c H locs 0 0 (MQ below (QC D cy ad ns A r.2 (some (.int r.1))) args s 0 0 A) (F0 m 42 ls []) := by
  obtain ⟨hx, hb, hml, hown, hts, hK, hr, hlk, hA, hG⟩ := id X
  intro n
  induction n with
  | zero => intro v_5 v_6 M r hX; cases (show (none : Option (Int32 × Mem)) = some r from hX)
  | succ n ih =>
    intro v_5 v_6 M r hX ls H locs hl hS
    have hX : b_X10_parted_42 a1 a2 a3 a4 (fun x0 x1 x2 => f_X10_parted_42 a1 a2 a3 a4 n (x0, x1, x2)) v_5 v_6 M = some r := hX
    unfold b_X10_parted_42 at hX
    refine lv_iload hx hb dX10_parted_42 (lv_at hl 5 rfl) ?_
    refine lv_iconst (v := nI 1) hx hb dX10_parted_44 (by decide) ?_
    refine lv_aload_n hx hb dX10_parted_45 rfl (lv_at hl 0 rfl) ?_
    refine fg_X10_281 X hS (hN) dX10_parted_46 ?_
    refine lv_ishl hx hb dX10_parted_49 ?_
    refine lv_icmp_ge (tgt := 119) hx hb dX10_parted_50 (by decide) (fun c9 => ?_) (fun c9 => ?_)
    · have hX := if_t c9 hX
      refine lv_iload hx hb dX10_parted_119 (lv_at hl 3 rfl) ?_
      refine lv_if_eq (tgt := 129) hx hb dX10_parted_121 (by decide) (fun c10 => ?_) (fun c10 => ?_)
      · have hX := if_bf c10 hX
        refine lv_aload_n hx hb dX10_parted_129 rfl (lv_at hl 0 rfl) ?_
        refine lv_iload hx hb dX10_parted_130 (lv_at hl 4 rfl) ?_
        obtain ⟨r12, h11, hX⟩ := bn_of hX
        refine r_callV1 (v := .int r12) (As := [.int v_5]) (rest := []) X hS (m_X10_crossing hN h11) mv_X10_crossing rfl (hN) t7_154 ⟨rfl, rfl, Nat.le_of_ble_eq_true rfl, Nat.le_of_ble_eq_true rfl⟩ rfl hl.1 rfl (Nat.le_of_ble_eq_true rfl) ⟨Nat.zero_le _, Nat.zero_le _⟩ dX10_parted_132 (fun H locs hS => ?_)
        obtain rfl := some_of hX
        exact x_I (v := r12) X hS dX10_parted_135
      · have hX := if_bt c10 hX
        refine lv_iload hx hb dX10_parted_124 (lv_at hl 4 rfl) ?_
        refine lv_goto (tgt := 135) hx hb dX10_parted_126 (by decide) ?_
        obtain rfl := some_of hX
        exact x_I (v := v_5) X hS dX10_parted_135
    · have hX := if_f c9 hX
      refine lv_iload hx hb dX10_parted_53 (lv_at hl 5 rfl) ?_
      refine lv_iload_n hx hb dX10_parted_55 rfl (lv_at hl 1 rfl) ?_
      obtain ⟨r14, h13, hX⟩ := bn_of hX
      refine r_callS1 (v := .int (b2i r14)) (As := [.int v_6, .int a2]) (rest := []) X hS (m_X10_has (M := M) hN h13) ms_X10_has t7_36 ⟨rfl, rfl, Nat.le_of_ble_eq_true rfl, Nat.le_of_ble_eq_true rfl⟩ rfl hl.1 rfl (Nat.le_of_ble_eq_true rfl) ⟨Nat.zero_le _, Nat.zero_le _⟩ dX10_parted_56 (fun H locs hS => ?_)
      refine lv_if_eq (tgt := 75) hx hb dX10_parted_59 (by decide) (fun c15 => ?_) (fun c15 => ?_)
      · have hX := if_bf c15 hX
        exact n_X10_parted_75 X hN hX (fun z0 z1 z2 z3 r h ls H locs hl hS => n_X10_parted_76 X hN h (fun z0 z1 z2 r h ls H locs hl hS => ih z0 z1 z2 r h ls H locs hl hS) _ _ _ hl hS) _ _ _ (lv_sub hl [0, 1, 2, 3, 4, 5] rfl) hS
      · have hX := if_bt c15 hX
        refine lv_iload hx hb dX10_parted_62 (lv_at hl 5 rfl) ?_
        refine lv_iload_n hx hb dX10_parted_64 rfl (lv_at hl 2 rfl) ?_
        obtain ⟨r17, h16, hX⟩ := bn_of hX
        refine r_callS1 (v := .int (b2i r17)) (As := [.int v_6, .int a3]) (rest := []) X hS (m_X10_has (M := M) hN h16) ms_X10_has t7_36 ⟨rfl, rfl, Nat.le_of_ble_eq_true rfl, Nat.le_of_ble_eq_true rfl⟩ rfl hl.1 rfl (Nat.le_of_ble_eq_true rfl) ⟨Nat.zero_le _, Nat.zero_le _⟩ dX10_parted_65 (fun H locs hS => ?_)
        refine lv_if_ne (tgt := 75) hx hb dX10_parted_68 (by decide) (fun c18 => ?_) (fun c18 => ?_)
        · have hX := if_bt c18 hX
          exact n_X10_parted_75 X hN hX (fun z0 z1 z2 z3 r h ls H locs hl hS => n_X10_parted_76 X hN h (fun z0 z1 z2 r h ls H locs hl hS => ih z0 z1 z2 r h ls H locs hl hS) _ _ _ hl hS) _ _ _ (lv_sub hl [0, 1, 2, 3, 4, 5] rfl) hS
        · have hX := if_bf c18 hX
          refine lv_iconst (v := nI 1) hx hb dX10_parted_71 (by decide) ?_
          refine lv_goto (tgt := 76) hx hb dX10_parted_72 (by decide) ?_
          exact n_X10_parted_76 X hN hX (fun z0 z1 z2 r h ls H locs hl hS => ih z0 z1 z2 r h ls H locs hl hS) _ _ _ (lv_sub hl [0, 1, 2, 3, 4, 5] rfl) hS
set_option maxRecDepth 100000 in
set_option maxHeartbeats 4000000 in
theorem m_X10_parted {l : Launch} {D : va_G} {cy : Nat → ClassId} {ad : Nat → Nat → Nat} {ns : List (Nat × Nat)} {A : Nat → Prop} {M : Mem} (hN : Ob ns 10 100) {a1 : Int32} {a2 : Int32} {a3 : Int32} {a4 : Bool} {r : Int32 × Mem} (hX : f_X10_parted M a1 a2 a3 a4 = some r) : Ct l yX10_parted cX10_parted 8 ((some .int)) rm_X10_parted D cy ad ns A [.ref (ad 100 0), .int a1, .int a2, .int a3, .int (b2i a4)] M r.2 (some (.int r.1)) := by
  refine ct_of (lv := [(0, .ref (ad 100 0)), (1, .int a1), (2, .int a2), (3, .int a3), (4, .int (b2i a4))]) (by decide) (Nat.le_of_ble_eq_true rfl) rfl ?_
  intro p e s m args below meth c ls X hl hS
  obtain ⟨hx, hb, hml, hown, hts, hK, hr, hlk, hA, hG⟩ := id X
  obtain ⟨H, hH⟩ : ∃ z, z = s.heap := ⟨_, rfl⟩
  obtain ⟨locs, hlo⟩ : ∃ z : List Loc, z = [] := ⟨_, rfl⟩
  have hS : St D cy ad ns A M s.heap H locs := by rw [hH, hlo]; exact hS
  have hgoal : W p l e rm_X10_parted s m args below meth c H locs 0 0 (MQ below (QC D cy ad ns A r.2 (some (.int r.1))) args s 0 0 A) (F0 m 0 ls []) := by
    unfold f_X10_parted at hX
    refine lv_aload_n hx hb dX10_parted_0 rfl (lv_at hl 0 rfl) ?_
    refine lv_iconst (v := nI 0) hx hb dX10_parted_1 (by decide) ?_
    refine fp_X10_94 X hS (hN) dX10_parted_2 (fun H locs hS => ?_)
    obtain ⟨M19, eM19, hS, hX⟩ := nm_mem hS hX
    refine lv_aload_n hx hb dX10_parted_5 rfl (lv_at hl 0 rfl) ?_
    refine lv_iload_n hx hb dX10_parted_6 rfl (lv_at hl 1 rfl) ?_
    obtain ⟨r22, M21, h20, hX⟩ := bp_of hX
    refine r_callV1 (v := .int (b2i r22)) (As := [.int a1]) (rest := []) X hS (m_X10_hand hN h20) mv_X10_hand rfl (hN) t6_216 ⟨rfl, rfl, Nat.le_of_ble_eq_true rfl, Nat.le_of_ble_eq_true rfl⟩ rfl hl.1 rfl (Nat.le_of_ble_eq_true rfl) ⟨Nat.zero_le _, Nat.zero_le _⟩ dX10_parted_7 (fun H locs hS => ?_)
    refine lv_if_eq (tgt := 34) hx hb dX10_parted_10 (by decide) (fun c23 => ?_) (fun c23 => ?_)
    · have hX := if_bf c23 hX
      refine lv_iconst (v := (-1)) hx hb dX10_parted_34 (by decide) ?_
      obtain rfl := some_of hX
      exact x_I (v := (-1)) X hS dX10_parted_35
    · have hX := if_bt c23 hX
      refine lv_aload_n hx hb dX10_parted_13 rfl (lv_at hl 0 rfl) ?_
      refine lv_iload_n hx hb dX10_parted_14 rfl (lv_at hl 2 rfl) ?_
      obtain ⟨r25, h24, hX⟩ := bn_of hX
      refine r_callV1 (v := .int (b2i r25)) (As := [.int a2]) (rest := []) X hS (m_X10_isSeam hN h24) mv_X10_isSeam rfl (hN) t6_224 ⟨rfl, rfl, Nat.le_of_ble_eq_true rfl, Nat.le_of_ble_eq_true rfl⟩ rfl hl.1 rfl (Nat.le_of_ble_eq_true rfl) ⟨Nat.zero_le _, Nat.zero_le _⟩ dX10_parted_15 (fun H locs hS => ?_)
      refine lv_if_eq (tgt := 34) hx hb dX10_parted_18 (by decide) (fun c26 => ?_) (fun c26 => ?_)
      · have hX := if_bf c26 hX
        refine lv_iconst (v := (-1)) hx hb dX10_parted_34 (by decide) ?_
        obtain rfl := some_of hX
        exact x_I (v := (-1)) X hS dX10_parted_35
      · have hX := if_bt c26 hX
        refine lv_aload_n hx hb dX10_parted_21 rfl (lv_at hl 0 rfl) ?_
        refine lv_iload_n hx hb dX10_parted_22 rfl (lv_at hl 3 rfl) ?_
        obtain ⟨r28, h27, hX⟩ := bn_of hX
        refine r_callV1 (v := .int (b2i r28)) (As := [.int a3]) (rest := []) X hS (m_X10_isSeam hN h27) mv_X10_isSeam rfl (hN) t6_224 ⟨rfl, rfl, Nat.le_of_ble_eq_true rfl, Nat.le_of_ble_eq_true rfl⟩ rfl hl.1 rfl (Nat.le_of_ble_eq_true rfl) ⟨Nat.zero_le _, Nat.zero_le _⟩ dX10_parted_23 (fun H locs hS => ?_)
        refine lv_if_eq (tgt := 34) hx hb dX10_parted_26 (by decide) (fun c29 => ?_) (fun c29 => ?_)
        · have hX := if_bf c29 hX
          refine lv_iconst (v := (-1)) hx hb dX10_parted_34 (by decide) ?_
          obtain rfl := some_of hX
          exact x_I (v := (-1)) X hS dX10_parted_35
        · have hX := if_bt c29 hX
          refine lv_iload_n hx hb dX10_parted_29 rfl (lv_at hl 2 rfl) ?_
          refine lv_iload_n hx hb dX10_parted_30 rfl (lv_at hl 3 rfl) ?_
          refine lv_icmp_ne (tgt := 36) hx hb dX10_parted_31 (by decide) (fun c30 => ?_) (fun c30 => ?_)
          · have hX := if_f c30 hX
            refine lv_iconst (v := (-1)) hx hb dX10_parted_36 (by decide) ?_
            refine lv_istore (lv' := [(5, .int (-1)), (0, .ref (ad 100 0)), (1, .int a1), (2, .int a2), (3, .int a3), (4, .int (b2i a4))]) hx hb dX10_parted_37 hl (by decide) rfl (fun ls hl => ?_)
            refine lv_iconst (v := nI 0) hx hb dX10_parted_39 (by decide) ?_
            refine lv_istore (lv' := [(6, .int (nI 0)), (5, .int (-1)), (0, .ref (ad 100 0)), (1, .int a1), (2, .int a2), (3, .int a3), (4, .int (b2i a4))]) hx hb dX10_parted_40 hl (by decide) rfl (fun ls hl => ?_)
            exact n_X10_parted_42 X hN _ _ _ _ _ hX _ _ _ (lv_sub hl [2, 4, 5, 6, 1, 0] rfl) hS
          · have hX := if_t c30 hX
            refine lv_iconst (v := (-1)) hx hb dX10_parted_34 (by decide) ?_
            obtain rfl := some_of hX
            exact x_I (v := (-1)) X hS dX10_parted_35
  rw [hH, hlo] at hgoal
  exact hgoal
theorem mv_X10_parted : Mv yX10_parted RX10 cX10_parted 8 ((some .int)) 4 := ⟨t7_153, t7_151, t7_152, t1_11, ⟨by decide, by decide⟩, by decide +kernel⟩
/-! SewnYearModel.townOf(I)I -/
def rm_X10_townOf : Room := { frames := 0, cells := 0, slots := 0, locals := 0 }
def f_X10_townOf (M : Mem) (a1 : Int32) : Option (Int32) :=
  gin (((nI 41) * (gI M 100 39)) + a1) 328 <| some (gA M 100 8 (ix (((nI 41) * (gI M 100 39)) + a1)))
set_option maxRecDepth 100000 in
set_option maxHeartbeats 4000000 in
theorem m_X10_townOf {l : Launch} {D : va_G} {cy : Nat → ClassId} {ad : Nat → Nat → Nat} {ns : List (Nat × Nat)} {A : Nat → Prop} {M : Mem} (hN : Ob ns 10 100) {a1 : Int32} {r : Int32} (hX : f_X10_townOf M a1 = some r) : Ct l yX10_townOf cX10_townOf 2 ((some .int)) rm_X10_townOf D cy ad ns A [.ref (ad 100 0), .int a1] M M (some (.int r)) := by
  refine ct_of (lv := [(0, .ref (ad 100 0)), (1, .int a1)]) (by decide) (Nat.le_of_ble_eq_true rfl) rfl ?_
  intro p e s m args below meth c ls X hl hS
  obtain ⟨hx, hb, hml, hown, hts, hK, hr, hlk, hA, hG⟩ := id X
  obtain ⟨H, hH⟩ : ∃ z, z = s.heap := ⟨_, rfl⟩
  obtain ⟨locs, hlo⟩ : ∃ z : List Loc, z = [] := ⟨_, rfl⟩
  have hS : St D cy ad ns A M s.heap H locs := by rw [hH, hlo]; exact hS
  have hgoal : W p l e rm_X10_townOf s m args below meth c H locs 0 0 (MQ below (QC D cy ad ns A M (some (.int r))) args s 0 0 A) (F0 m 0 ls []) := by
    unfold f_X10_townOf at hX
    refine lv_aload_n hx hb dX10_townOf_0 rfl (lv_at hl 0 rfl) ?_
    refine fg_X10_32 X hS (hN) dX10_townOf_1 ?_
    refine lv_bipush (v := nI 41) hx hb dX10_townOf_4 (by decide) ?_
    refine lv_aload_n hx hb dX10_townOf_6 rfl (lv_at hl 0 rfl) ?_
    refine fg_X10_423 X hS (hN) dX10_townOf_7 ?_
    refine lv_imul hx hb dX10_townOf_10 ?_
    refine lv_iload_n hx hb dX10_townOf_11 rfl (lv_at hl 1 rfl) ?_
    refine lv_iadd hx hb dX10_townOf_12 ?_
    obtain ⟨g1, hX⟩ := gin_of hX
    refine r_iald (ci := 10) (o := 100) (k := 8) (n := 328) X hS (hN) rfl rfl g1 dX10_townOf_13 ?_
    obtain rfl := some_of hX
    exact x_I (v := (gA M 100 8 (ix (((nI 41) * (gI M 100 39)) + a1)))) X hS dX10_townOf_14
  rw [hH, hlo] at hgoal
  exact hgoal
theorem mv_X10_townOf : Mv yX10_townOf RX10 cX10_townOf 2 ((some .int)) 1 := ⟨t7_169, t7_168, ts_67, t1_11, ⟨by decide, by decide⟩, by decide +kernel⟩
/-! SewnYearModel.layTown(I)Z -/
def rm_X10_layTown : Room := { frames := 2, cells := 0, slots := 0, locals := 44 }
def f_X10_layTown (M : Mem) (a1 : Int32) : Option (Bool × Mem) :=
  nm (sI M 100 39 a1) fun M1 => bn (f_X10_is M1 (nI 2) a1) fun r3 => if r3 = true then (bn (f_X10_townOf M1 (nI 0)) fun r6 => nm (sI M1 100 40 r6) fun M7 => bn (f_X10_townOf M7 (nI 3)) fun r9 => nm (sI M7 100 41 r9) fun M10 => bn (f_X10_townOf M10 (nI 4)) fun r12 => nm (sI M10 100 42 r12) fun M13 => some (true, M13)) else (some (false, M1))
set_option maxRecDepth 100000 in
set_option maxHeartbeats 4000000 in
theorem m_X10_layTown {l : Launch} {D : va_G} {cy : Nat → ClassId} {ad : Nat → Nat → Nat} {ns : List (Nat × Nat)} {A : Nat → Prop} {M : Mem} (hN : Ob ns 10 100) {a1 : Int32} {r : Bool × Mem} (hX : f_X10_layTown M a1 = some r) : Ct l yX10_layTown cX10_layTown 2 ((some .boolean)) rm_X10_layTown D cy ad ns A [.ref (ad 100 0), .int a1] M r.2 (some (.int (b2i r.1))) := by
  refine ct_of (lv := [(0, .ref (ad 100 0)), (1, .int a1)]) (by decide) (Nat.le_of_ble_eq_true rfl) rfl ?_
  intro p e s m args below meth c ls X hl hS
  obtain ⟨hx, hb, hml, hown, hts, hK, hr, hlk, hA, hG⟩ := id X
  obtain ⟨H, hH⟩ : ∃ z, z = s.heap := ⟨_, rfl⟩
  obtain ⟨locs, hlo⟩ : ∃ z : List Loc, z = [] := ⟨_, rfl⟩
  have hS : St D cy ad ns A M s.heap H locs := by rw [hH, hlo]; exact hS
  have hgoal : W p l e rm_X10_layTown s m args below meth c H locs 0 0 (MQ below (QC D cy ad ns A r.2 (some (.int (b2i r.1)))) args s 0 0 A) (F0 m 0 ls []) := by
    unfold f_X10_layTown at hX
    refine lv_aload_n hx hb dX10_layTown_0 rfl (lv_at hl 0 rfl) ?_
    refine lv_iload_n hx hb dX10_layTown_1 rfl (lv_at hl 1 rfl) ?_
    refine fp_X10_423 X hS (hN) dX10_layTown_2 (fun H locs hS => ?_)
    obtain ⟨M1, eM1, hS, hX⟩ := nm_mem hS hX
    refine lv_aload_n hx hb dX10_layTown_5 rfl (lv_at hl 0 rfl) ?_
    refine lv_iconst (v := nI 2) hx hb dX10_layTown_6 (by decide) ?_
    refine lv_iload_n hx hb dX10_layTown_7 rfl (lv_at hl 1 rfl) ?_
    obtain ⟨r3, h2, hX⟩ := bn_of hX
    refine r_callV1 (v := .int (b2i r3)) (As := [.int (nI 2), .int a1]) (rest := []) X hS (m_X10_is hN h2) mv_X10_is rfl (hN) t6_88 ⟨rfl, rfl, Nat.le_of_ble_eq_true rfl, Nat.le_of_ble_eq_true rfl⟩ rfl hl.1 rfl (Nat.le_of_ble_eq_true rfl) ⟨Nat.zero_le _, Nat.zero_le _⟩ dX10_layTown_8 (fun H locs hS => ?_)
    refine lv_if_ne (tgt := 16) hx hb dX10_layTown_11 (by decide) (fun c4 => ?_) (fun c4 => ?_)
    · have hX := if_bt c4 hX
      refine lv_aload_n hx hb dX10_layTown_16 rfl (lv_at hl 0 rfl) ?_
      refine lv_aload_n hx hb dX10_layTown_17 rfl (lv_at hl 0 rfl) ?_
      refine lv_iconst (v := nI 0) hx hb dX10_layTown_18 (by decide) ?_
      obtain ⟨r6, h5, hX⟩ := bn_of hX
      refine r_callV1 (v := .int r6) (As := [.int (nI 0)]) (rest := [.ref (ad 100 0)]) X hS (m_X10_townOf hN h5) mv_X10_townOf rfl (hN) t7_166 ⟨rfl, rfl, Nat.le_of_ble_eq_true rfl, Nat.le_of_ble_eq_true rfl⟩ rfl hl.1 rfl (Nat.le_of_ble_eq_true rfl) ⟨Nat.zero_le _, Nat.zero_le _⟩ dX10_layTown_19 (fun H locs hS => ?_)
      refine fp_X10_429 X hS (hN) dX10_layTown_22 (fun H locs hS => ?_)
      obtain ⟨M7, eM7, hS, hX⟩ := nm_mem hS hX
      refine lv_aload_n hx hb dX10_layTown_25 rfl (lv_at hl 0 rfl) ?_
      refine lv_aload_n hx hb dX10_layTown_26 rfl (lv_at hl 0 rfl) ?_
      refine lv_iconst (v := nI 3) hx hb dX10_layTown_27 (by decide) ?_
      obtain ⟨r9, h8, hX⟩ := bn_of hX
      refine r_callV1 (v := .int r9) (As := [.int (nI 3)]) (rest := [.ref (ad 100 0)]) X hS (m_X10_townOf hN h8) mv_X10_townOf rfl (hN) t7_166 ⟨rfl, rfl, Nat.le_of_ble_eq_true rfl, Nat.le_of_ble_eq_true rfl⟩ rfl hl.1 rfl (Nat.le_of_ble_eq_true rfl) ⟨Nat.zero_le _, Nat.zero_le _⟩ dX10_layTown_28 (fun H locs hS => ?_)
      refine fp_X10_432 X hS (hN) dX10_layTown_31 (fun H locs hS => ?_)
      obtain ⟨M10, eM10, hS, hX⟩ := nm_mem hS hX
      refine lv_aload_n hx hb dX10_layTown_34 rfl (lv_at hl 0 rfl) ?_
      refine lv_aload_n hx hb dX10_layTown_35 rfl (lv_at hl 0 rfl) ?_
      refine lv_iconst (v := nI 4) hx hb dX10_layTown_36 (by decide) ?_
      obtain ⟨r12, h11, hX⟩ := bn_of hX
      refine r_callV1 (v := .int r12) (As := [.int (nI 4)]) (rest := [.ref (ad 100 0)]) X hS (m_X10_townOf hN h11) mv_X10_townOf rfl (hN) t7_166 ⟨rfl, rfl, Nat.le_of_ble_eq_true rfl, Nat.le_of_ble_eq_true rfl⟩ rfl hl.1 rfl (Nat.le_of_ble_eq_true rfl) ⟨Nat.zero_le _, Nat.zero_le _⟩ dX10_layTown_37 (fun H locs hS => ?_)
      refine fp_X10_435 X hS (hN) dX10_layTown_40 (fun H locs hS => ?_)
      obtain ⟨M13, eM13, hS, hX⟩ := nm_mem hS hX
      refine lv_iconst (v := nI 1) hx hb dX10_layTown_43 (by decide) ?_
      obtain rfl := some_of hX
      exact x_Z (v := true) X hS dX10_layTown_44
    · have hX := if_bf c4 hX
      refine lv_iconst (v := nI 0) hx hb dX10_layTown_14 (by decide) ?_
      obtain rfl := some_of hX
      exact x_Z (v := false) X hS dX10_layTown_15
  rw [hH, hlo] at hgoal
  exact hgoal
theorem mv_X10_layTown : Mv yX10_layTown RX10 cX10_layTown 2 ((some .boolean)) 1 := ⟨t7_165, t7_164, ts_66, t1_11, ⟨by decide, by decide⟩, by decide +kernel⟩
/-! SewnYearModel.isWearer(I)Z -/
def rm_X10_isWearer : Room := { frames := 1, cells := 0, slots := 0, locals := 22 }
def f_X10_isWearer (M : Mem) (a1 : Int32) : Option (Bool) :=
  bn (f_X10_in a1 (nI 0) ((gI M 100 40) - (nI 1))) fun r2 => some r2
set_option maxRecDepth 100000 in
set_option maxHeartbeats 4000000 in
theorem m_X10_isWearer {l : Launch} {D : va_G} {cy : Nat → ClassId} {ad : Nat → Nat → Nat} {ns : List (Nat × Nat)} {A : Nat → Prop} {M : Mem} (hN : Ob ns 10 100) {a1 : Int32} {r : Bool} (hX : f_X10_isWearer M a1 = some r) : Ct l yX10_isWearer cX10_isWearer 2 ((some .boolean)) rm_X10_isWearer D cy ad ns A [.ref (ad 100 0), .int a1] M M (some (.int (b2i r))) := by
  refine ct_of (lv := [(0, .ref (ad 100 0)), (1, .int a1)]) (by decide) (Nat.le_of_ble_eq_true rfl) rfl ?_
  intro p e s m args below meth c ls X hl hS
  obtain ⟨hx, hb, hml, hown, hts, hK, hr, hlk, hA, hG⟩ := id X
  obtain ⟨H, hH⟩ : ∃ z, z = s.heap := ⟨_, rfl⟩
  obtain ⟨locs, hlo⟩ : ∃ z : List Loc, z = [] := ⟨_, rfl⟩
  have hS : St D cy ad ns A M s.heap H locs := by rw [hH, hlo]; exact hS
  have hgoal : W p l e rm_X10_isWearer s m args below meth c H locs 0 0 (MQ below (QC D cy ad ns A M (some (.int (b2i r)))) args s 0 0 A) (F0 m 0 ls []) := by
    unfold f_X10_isWearer at hX
    refine lv_iload_n hx hb dX10_isWearer_0 rfl (lv_at hl 1 rfl) ?_
    refine lv_iconst (v := nI 0) hx hb dX10_isWearer_1 (by decide) ?_
    refine lv_aload_n hx hb dX10_isWearer_2 rfl (lv_at hl 0 rfl) ?_
    refine fg_X10_429 X hS (hN) dX10_isWearer_3 ?_
    refine lv_iconst (v := nI 1) hx hb dX10_isWearer_6 (by decide) ?_
    refine lv_isub hx hb dX10_isWearer_7 ?_
    obtain ⟨r2, h1, hX⟩ := bn_of hX
    refine r_callS1 (v := .int (b2i r2)) (As := [.int a1, .int (nI 0), .int ((gI M 100 40) - (nI 1))]) (rest := []) X hS (m_X10_in (M := M) hN h1) ms_X10_in t6_81 ⟨rfl, rfl, Nat.le_of_ble_eq_true rfl, Nat.le_of_ble_eq_true rfl⟩ rfl hl.1 rfl (Nat.le_of_ble_eq_true rfl) ⟨Nat.zero_le _, Nat.zero_le _⟩ dX10_isWearer_8 (fun H locs hS => ?_)
    obtain rfl := some_of hX
    exact x_Z (v := r2) X hS dX10_isWearer_11
  rw [hH, hlo] at hgoal
  exact hgoal
theorem mv_X10_isWearer : Mv yX10_isWearer RX10 cX10_isWearer 2 ((some .boolean)) 1 := ⟨t7_173, t7_172, ts_68, t1_11, ⟨by decide, by decide⟩, by decide +kernel⟩
/-! SewnYearModel.town(II)I -/
def rm_X10_town : Room := { frames := 3, cells := 0, slots := 0, locals := 65 }
def f_X10_town (M : Mem) (a1 : Int32) (a2 : Int32) : Option (Int32 × Mem) :=
  nm (sI M 100 0 (nI 0)) fun M1 => bp (f_X10_layTown M1 a1) fun r4 M3 => if r4 = true then (bn (f_X10_in a2 (nI 10) (nI 69)) fun r7 => if r7 = true then (gnz (nI 10) <| bn (f_X10_isWearer M3 (a2 - a2 / (nI 10) * (nI 10))) fun r16 => if r16 = true then (gnz (nI 10) <| gnz (nI 10) <| bn (f_X10_townOf M3 (((nI 5) + ((nI 6) * ((a2 / (nI 10)) - (nI 1)))) + (a2 - a2 / (nI 10) * (nI 10)))) fun r21 => some (r21, M3)) else (some ((-2), M3))) else (bn (f_X10_in a2 (nI 0) (nI 4)) fun r10 => if r10 = true then (bn (f_X10_townOf M3 a2) fun r13 => some (r13, M3)) else (some ((-2), M3)))) else (some ((-2), M3))
set_option maxRecDepth 100000 in
set_option maxHeartbeats 4000000 in
theorem m_X10_town {l : Launch} {D : va_G} {cy : Nat → ClassId} {ad : Nat → Nat → Nat} {ns : List (Nat × Nat)} {A : Nat → Prop} {M : Mem} (hN : Ob ns 10 100) {a1 : Int32} {a2 : Int32} {r : Int32 × Mem} (hX : f_X10_town M a1 a2 = some r) : Ct l yX10_town cX10_town 3 ((some .int)) rm_X10_town D cy ad ns A [.ref (ad 100 0), .int a1, .int a2] M r.2 (some (.int r.1)) := by
  refine ct_of (lv := [(0, .ref (ad 100 0)), (1, .int a1), (2, .int a2)]) (by decide) (Nat.le_of_ble_eq_true rfl) rfl ?_
  intro p e s m args below meth c ls X hl hS
  obtain ⟨hx, hb, hml, hown, hts, hK, hr, hlk, hA, hG⟩ := id X
  obtain ⟨H, hH⟩ : ∃ z, z = s.heap := ⟨_, rfl⟩
  obtain ⟨locs, hlo⟩ : ∃ z : List Loc, z = [] := ⟨_, rfl⟩
  have hS : St D cy ad ns A M s.heap H locs := by rw [hH, hlo]; exact hS
  have hgoal : W p l e rm_X10_town s m args below meth c H locs 0 0 (MQ below (QC D cy ad ns A r.2 (some (.int r.1))) args s 0 0 A) (F0 m 0 ls []) := by
    unfold f_X10_town at hX
    refine lv_aload_n hx hb dX10_town_0 rfl (lv_at hl 0 rfl) ?_
    refine lv_iconst (v := nI 0) hx hb dX10_town_1 (by decide) ?_
    refine fp_X10_94 X hS (hN) dX10_town_2 (fun H locs hS => ?_)
    obtain ⟨M1, eM1, hS, hX⟩ := nm_mem hS hX
    refine lv_aload_n hx hb dX10_town_5 rfl (lv_at hl 0 rfl) ?_
    refine lv_iload_n hx hb dX10_town_6 rfl (lv_at hl 1 rfl) ?_
    obtain ⟨r4, M3, h2, hX⟩ := bp_of hX
    refine r_callV1 (v := .int (b2i r4)) (As := [.int a1]) (rest := []) X hS (m_X10_layTown hN h2) mv_X10_layTown rfl (hN) t7_162 ⟨rfl, rfl, Nat.le_of_ble_eq_true rfl, Nat.le_of_ble_eq_true rfl⟩ rfl hl.1 rfl (Nat.le_of_ble_eq_true rfl) ⟨Nat.zero_le _, Nat.zero_le _⟩ dX10_town_7 (fun H locs hS => ?_)
    refine lv_if_ne (tgt := 16) hx hb dX10_town_10 (by decide) (fun c5 => ?_) (fun c5 => ?_)
    · have hX := if_bt c5 hX
      refine lv_iload_n hx hb dX10_town_16 rfl (lv_at hl 2 rfl) ?_
      refine lv_bipush (v := nI 10) hx hb dX10_town_17 (by decide) ?_
      refine lv_bipush (v := nI 69) hx hb dX10_town_19 (by decide) ?_
      obtain ⟨r7, h6, hX⟩ := bn_of hX
      refine r_callS1 (v := .int (b2i r7)) (As := [.int a2, .int (nI 10), .int (nI 69)]) (rest := []) X hS (m_X10_in (M := M3) hN h6) ms_X10_in t6_81 ⟨rfl, rfl, Nat.le_of_ble_eq_true rfl, Nat.le_of_ble_eq_true rfl⟩ rfl hl.1 rfl (Nat.le_of_ble_eq_true rfl) ⟨Nat.zero_le _, Nat.zero_le _⟩ dX10_town_21 (fun H locs hS => ?_)
      refine lv_if_eq (tgt := 64) hx hb dX10_town_24 (by decide) (fun c8 => ?_) (fun c8 => ?_)
      · have hX := if_bf c8 hX
        refine lv_iload_n hx hb dX10_town_64 rfl (lv_at hl 2 rfl) ?_
        refine lv_iconst (v := nI 0) hx hb dX10_town_65 (by decide) ?_
        refine lv_iconst (v := nI 4) hx hb dX10_town_66 (by decide) ?_
        obtain ⟨r10, h9, hX⟩ := bn_of hX
        refine r_callS1 (v := .int (b2i r10)) (As := [.int a2, .int (nI 0), .int (nI 4)]) (rest := []) X hS (m_X10_in (M := M3) hN h9) ms_X10_in t6_81 ⟨rfl, rfl, Nat.le_of_ble_eq_true rfl, Nat.le_of_ble_eq_true rfl⟩ rfl hl.1 rfl (Nat.le_of_ble_eq_true rfl) ⟨Nat.zero_le _, Nat.zero_le _⟩ dX10_town_67 (fun H locs hS => ?_)
        refine lv_if_eq (tgt := 81) hx hb dX10_town_70 (by decide) (fun c11 => ?_) (fun c11 => ?_)
        · have hX := if_bf c11 hX
          refine lv_bipush (v := (-2)) hx hb dX10_town_81 (by decide) ?_
          obtain rfl := some_of hX
          exact x_I (v := (-2)) X hS dX10_town_83
        · have hX := if_bt c11 hX
          refine lv_aload_n hx hb dX10_town_73 rfl (lv_at hl 0 rfl) ?_
          refine lv_iload_n hx hb dX10_town_74 rfl (lv_at hl 2 rfl) ?_
          obtain ⟨r13, h12, hX⟩ := bn_of hX
          refine r_callV1 (v := .int r13) (As := [.int a2]) (rest := []) X hS (m_X10_townOf hN h12) mv_X10_townOf rfl (hN) t7_166 ⟨rfl, rfl, Nat.le_of_ble_eq_true rfl, Nat.le_of_ble_eq_true rfl⟩ rfl hl.1 rfl (Nat.le_of_ble_eq_true rfl) ⟨Nat.zero_le _, Nat.zero_le _⟩ dX10_town_75 (fun H locs hS => ?_)
          refine lv_goto (tgt := 83) hx hb dX10_town_78 (by decide) ?_
          obtain rfl := some_of hX
          exact x_I (v := r13) X hS dX10_town_83
      · have hX := if_bt c8 hX
        refine lv_aload_n hx hb dX10_town_27 rfl (lv_at hl 0 rfl) ?_
        refine lv_iload_n hx hb dX10_town_28 rfl (lv_at hl 2 rfl) ?_
        refine lv_bipush (v := nI 10) hx hb dX10_town_29 (by decide) ?_
        obtain ⟨g14, hX⟩ := gnz_of hX
        refine lv_irem hx hb dX10_town_31 g14 ?_
        obtain ⟨r16, h15, hX⟩ := bn_of hX
        refine r_callV1 (v := .int (b2i r16)) (As := [.int (a2 - a2 / (nI 10) * (nI 10))]) (rest := []) X hS (m_X10_isWearer hN h15) mv_X10_isWearer rfl (hN) t7_170 ⟨rfl, rfl, Nat.le_of_ble_eq_true rfl, Nat.le_of_ble_eq_true rfl⟩ rfl hl.1 rfl (Nat.le_of_ble_eq_true rfl) ⟨Nat.zero_le _, Nat.zero_le _⟩ dX10_town_32 (fun H locs hS => ?_)
        refine lv_if_eq (tgt := 61) hx hb dX10_town_35 (by decide) (fun c17 => ?_) (fun c17 => ?_)
        · have hX := if_bf c17 hX
          refine lv_bipush (v := (-2)) hx hb dX10_town_61 (by decide) ?_
          obtain rfl := some_of hX
          exact x_I (v := (-2)) X hS dX10_town_63
        · have hX := if_bt c17 hX
          refine lv_aload_n hx hb dX10_town_38 rfl (lv_at hl 0 rfl) ?_
          refine lv_iconst (v := nI 5) hx hb dX10_town_39 (by decide) ?_
          refine lv_bipush (v := nI 6) hx hb dX10_town_40 (by decide) ?_
          refine lv_iload_n hx hb dX10_town_42 rfl (lv_at hl 2 rfl) ?_
          refine lv_bipush (v := nI 10) hx hb dX10_town_43 (by decide) ?_
          obtain ⟨g18, hX⟩ := gnz_of hX
          refine lv_idiv hx hb dX10_town_45 g18 ?_
          refine lv_iconst (v := nI 1) hx hb dX10_town_46 (by decide) ?_
          refine lv_isub hx hb dX10_town_47 ?_
          refine lv_imul hx hb dX10_town_48 ?_
          refine lv_iadd hx hb dX10_town_49 ?_
          refine lv_iload_n hx hb dX10_town_50 rfl (lv_at hl 2 rfl) ?_
          refine lv_bipush (v := nI 10) hx hb dX10_town_51 (by decide) ?_
          obtain ⟨g19, hX⟩ := gnz_of hX
          refine lv_irem hx hb dX10_town_53 g19 ?_
          refine lv_iadd hx hb dX10_town_54 ?_
          obtain ⟨r21, h20, hX⟩ := bn_of hX
          refine r_callV1 (v := .int r21) (As := [.int (((nI 5) + ((nI 6) * ((a2 / (nI 10)) - (nI 1)))) + (a2 - a2 / (nI 10) * (nI 10)))]) (rest := []) X hS (m_X10_townOf hN h20) mv_X10_townOf rfl (hN) t7_166 ⟨rfl, rfl, Nat.le_of_ble_eq_true rfl, Nat.le_of_ble_eq_true rfl⟩ rfl hl.1 rfl (Nat.le_of_ble_eq_true rfl) ⟨Nat.zero_le _, Nat.zero_le _⟩ dX10_town_55 (fun H locs hS => ?_)
          refine lv_goto (tgt := 63) hx hb dX10_town_58 (by decide) ?_
          obtain rfl := some_of hX
          exact x_I (v := r21) X hS dX10_town_63
    · have hX := if_bf c5 hX
      refine lv_bipush (v := (-2)) hx hb dX10_town_13 (by decide) ?_
      obtain rfl := some_of hX
      exact x_I (v := (-2)) X hS dX10_town_15
  rw [hH, hlo] at hgoal
  exact hgoal
theorem mv_X10_town : Mv yX10_town RX10 cX10_town 3 ((some .int)) 2 := ⟨t7_161, t7_159, t7_160, t1_11, ⟨by decide, by decide⟩, by decide +kernel⟩
/-! SewnYearModel.ways(III)I -/
def rm_X10_ways : Room := { frames := 1, cells := 0, slots := 0, locals := 21 }
def f_X10_ways_49 (M : Mem) (a1 : Int32) (a2 : Int32) (a3 : Int32) (s_0 : Int32) (s_1 : Int32) : Option (Int32) :=
  nm (s_0 + s_1) fun v1 => bn (f_X10_townOf M (nI 2)) fun r3 => bn (f_X10_upwards v1 r3) fun r5 => some r5
def f_X10_ways_36 (M : Mem) (a1 : Int32) (a2 : Int32) (a3 : Int32) (v_5 : Int32) (s_0 : Int32) : Option (Int32) :=
  if (nI 0) ≤ v_5 then (f_X10_ways_49 M a1 a2 a3 s_0 v_5) else (f_X10_ways_49 M a1 a2 a3 s_0 (-v_5))
def f_X10_ways (M : Mem) (a1 : Int32) (a2 : Int32) (a3 : Int32) : Option (Int32) :=
  bn (f_X10_townOf M ((nI 5) + a3)) fun r8 => nm (a1 - r8) fun v9 => bn (f_X10_townOf M ((nI 11) + a3)) fun r11 => nm (a2 - r11) fun v12 => if (nI 0) ≤ v9 then (f_X10_ways_36 M a1 a2 a3 v12 v9) else (f_X10_ways_36 M a1 a2 a3 v12 (-v9))
set_option maxRecDepth 100000 in
set_option maxHeartbeats 4000000 in
theorem n_X10_ways_49 {a1 : Int32} {a2 : Int32} {a3 : Int32} (X : Cx p s m args meth c D cy ad A RX10 cX10_ways 7 ((some .int))) (hN : Ob ns 10 100) {M : Mem} {s_0 : Int32} {s_1 : Int32} {r : Int32} (hX : f_X10_ways_49 M a1 a2 a3 s_0 s_1 = some r) : ∀ (ls : Array Slot) (H : Heap) (locs : List Loc), lv_has ls 7 [(0, .ref (ad 100 0))] → St D cy ad ns A M s.heap H locs → W p l e rm_X10_ways s m args below meth c H locs 0 0 (MQ below (QC D cy ad ns A M (some (.int r))) args s 0 0 A) (F0 m 49 ls [.int s_1, .int s_0]) := by
  obtain ⟨hx, hb, hml, hown, hts, hK, hr, hlk, hA, hG⟩ := id X
  intro ls H locs hl hS
  unfold f_X10_ways_49 at hX
  refine lv_iadd hx hb dX10_ways_49 ?_
  refine lv_topi (fun v1 ev1 => ?_)
  have hX := nm_of ev1 hX
  refine lv_istore (lv' := [(6, .int v1), (0, .ref (ad 100 0))]) hx hb dX10_ways_50 hl (by decide) rfl (fun ls hl => ?_)
  refine lv_iload hx hb dX10_ways_52 (lv_at hl 0 rfl) ?_
  refine lv_aload_n hx hb dX10_ways_54 rfl (lv_at hl 1 rfl) ?_
  refine lv_iconst (v := nI 2) hx hb dX10_ways_55 (by decide) ?_
  obtain ⟨r3, h2, hX⟩ := bn_of hX
  refine r_callV1 (v := .int r3) (As := [.int (nI 2)]) (rest := [.int v1]) X hS (m_X10_townOf hN h2) mv_X10_townOf rfl (hN) t7_166 ⟨rfl, rfl, Nat.le_of_ble_eq_true rfl, Nat.le_of_ble_eq_true rfl⟩ rfl hl.1 rfl (Nat.le_of_ble_eq_true rfl) ⟨Nat.zero_le _, Nat.zero_le _⟩ dX10_ways_56 (fun H locs hS => ?_)
  obtain ⟨r5, h4, hX⟩ := bn_of hX
  refine r_callS1 (v := .int r5) (As := [.int v1, .int r3]) (rest := []) X hS (m_X10_upwards (M := M) hN h4) ms_X10_upwards t7_147 ⟨rfl, rfl, Nat.le_of_ble_eq_true rfl, Nat.le_of_ble_eq_true rfl⟩ rfl hl.1 rfl (Nat.le_of_ble_eq_true rfl) ⟨Nat.zero_le _, Nat.zero_le _⟩ dX10_ways_59 (fun H locs hS => ?_)
  obtain rfl := some_of hX
  exact x_I (v := r5) X hS dX10_ways_62
set_option maxRecDepth 100000 in
set_option maxHeartbeats 4000000 in
theorem n_X10_ways_36 {a1 : Int32} {a2 : Int32} {a3 : Int32} (X : Cx p s m args meth c D cy ad A RX10 cX10_ways 7 ((some .int))) (hN : Ob ns 10 100) {M : Mem} {v_5 : Int32} {s_0 : Int32} {r : Int32} (hX : f_X10_ways_36 M a1 a2 a3 v_5 s_0 = some r) : ∀ (ls : Array Slot) (H : Heap) (locs : List Loc), lv_has ls 7 [(0, .ref (ad 100 0)), (5, .int v_5)] → St D cy ad ns A M s.heap H locs → W p l e rm_X10_ways s m args below meth c H locs 0 0 (MQ below (QC D cy ad ns A M (some (.int r))) args s 0 0 A) (F0 m 36 ls [.int s_0]) := by
  obtain ⟨hx, hb, hml, hown, hts, hK, hr, hlk, hA, hG⟩ := id X
  intro ls H locs hl hS
  unfold f_X10_ways_36 at hX
  refine lv_iload hx hb dX10_ways_36 (lv_at hl 1 rfl) ?_
  refine lv_if_ge (tgt := 47) hx hb dX10_ways_38 (by decide) (fun c6 => ?_) (fun c6 => ?_)
  · have hX := if_t c6 hX
    refine lv_iload hx hb dX10_ways_47 (lv_at hl 1 rfl) ?_
    exact n_X10_ways_49 X hN hX _ _ _ (lv_sub hl [0] rfl) hS
  · have hX := if_f c6 hX
    refine lv_iload hx hb dX10_ways_41 (lv_at hl 1 rfl) ?_
    refine lv_ineg hx hb dX10_ways_43 ?_
    refine lv_goto (tgt := 49) hx hb dX10_ways_44 (by decide) ?_
    exact n_X10_ways_49 X hN hX _ _ _ (lv_sub hl [0] rfl) hS
set_option maxRecDepth 100000 in
set_option maxHeartbeats 4000000 in
theorem m_X10_ways {l : Launch} {D : va_G} {cy : Nat → ClassId} {ad : Nat → Nat → Nat} {ns : List (Nat × Nat)} {A : Nat → Prop} {M : Mem} (hN : Ob ns 10 100) {a1 : Int32} {a2 : Int32} {a3 : Int32} {r : Int32} (hX : f_X10_ways M a1 a2 a3 = some r) : Ct l yX10_ways cX10_ways 7 ((some .int)) rm_X10_ways D cy ad ns A [.ref (ad 100 0), .int a1, .int a2, .int a3] M M (some (.int r)) := by
  refine ct_of (lv := [(0, .ref (ad 100 0)), (1, .int a1), (2, .int a2), (3, .int a3)]) (by decide) (Nat.le_of_ble_eq_true rfl) rfl ?_
  intro p e s m args below meth c ls X hl hS
  obtain ⟨hx, hb, hml, hown, hts, hK, hr, hlk, hA, hG⟩ := id X
  obtain ⟨H, hH⟩ : ∃ z, z = s.heap := ⟨_, rfl⟩
  obtain ⟨locs, hlo⟩ : ∃ z : List Loc, z = [] := ⟨_, rfl⟩
  have hS : St D cy ad ns A M s.heap H locs := by rw [hH, hlo]; exact hS
  have hgoal : W p l e rm_X10_ways s m args below meth c H locs 0 0 (MQ below (QC D cy ad ns A M (some (.int r))) args s 0 0 A) (F0 m 0 ls []) := by
    unfold f_X10_ways at hX
    refine lv_iload_n hx hb dX10_ways_0 rfl (lv_at hl 1 rfl) ?_
    refine lv_aload_n hx hb dX10_ways_1 rfl (lv_at hl 0 rfl) ?_
    refine lv_iconst (v := nI 5) hx hb dX10_ways_2 (by decide) ?_
    refine lv_iload_n hx hb dX10_ways_3 rfl (lv_at hl 3 rfl) ?_
    refine lv_iadd hx hb dX10_ways_4 ?_
    obtain ⟨r8, h7, hX⟩ := bn_of hX
    refine r_callV1 (v := .int r8) (As := [.int ((nI 5) + a3)]) (rest := [.int a1]) X hS (m_X10_townOf hN h7) mv_X10_townOf rfl (hN) t7_166 ⟨rfl, rfl, Nat.le_of_ble_eq_true rfl, Nat.le_of_ble_eq_true rfl⟩ rfl hl.1 rfl (Nat.le_of_ble_eq_true rfl) ⟨Nat.zero_le _, Nat.zero_le _⟩ dX10_ways_5 (fun H locs hS => ?_)
    refine lv_isub hx hb dX10_ways_8 ?_
    refine lv_topi (fun v9 ev9 => ?_)
    have hX := nm_of ev9 hX
    refine lv_istore (lv' := [(4, .int v9), (0, .ref (ad 100 0)), (1, .int a1), (2, .int a2), (3, .int a3)]) hx hb dX10_ways_9 hl (by decide) rfl (fun ls hl => ?_)
    refine lv_iload_n hx hb dX10_ways_11 rfl (lv_at hl 3 rfl) ?_
    refine lv_aload_n hx hb dX10_ways_12 rfl (lv_at hl 1 rfl) ?_
    refine lv_bipush (v := nI 11) hx hb dX10_ways_13 (by decide) ?_
    refine lv_iload_n hx hb dX10_ways_15 rfl (lv_at hl 4 rfl) ?_
    refine lv_iadd hx hb dX10_ways_16 ?_
    obtain ⟨r11, h10, hX⟩ := bn_of hX
    refine r_callV1 (v := .int r11) (As := [.int ((nI 11) + a3)]) (rest := [.int a2]) X hS (m_X10_townOf hN h10) mv_X10_townOf rfl (hN) t7_166 ⟨rfl, rfl, Nat.le_of_ble_eq_true rfl, Nat.le_of_ble_eq_true rfl⟩ rfl hl.1 rfl (Nat.le_of_ble_eq_true rfl) ⟨Nat.zero_le _, Nat.zero_le _⟩ dX10_ways_17 (fun H locs hS => ?_)
    refine lv_isub hx hb dX10_ways_20 ?_
    refine lv_topi (fun v12 ev12 => ?_)
    have hX := nm_of ev12 hX
    refine lv_istore (lv' := [(5, .int v12), (4, .int v9), (0, .ref (ad 100 0)), (1, .int a1), (2, .int a2), (3, .int a3)]) hx hb dX10_ways_21 hl (by decide) rfl (fun ls hl => ?_)
    refine lv_iload hx hb dX10_ways_23 (lv_at hl 1 rfl) ?_
    refine lv_if_ge (tgt := 34) hx hb dX10_ways_25 (by decide) (fun c13 => ?_) (fun c13 => ?_)
    · have hX := if_t c13 hX
      refine lv_iload hx hb dX10_ways_34 (lv_at hl 1 rfl) ?_
      exact n_X10_ways_36 X hN hX _ _ _ (lv_sub hl [2, 0] rfl) hS
    · have hX := if_f c13 hX
      refine lv_iload hx hb dX10_ways_28 (lv_at hl 1 rfl) ?_
      refine lv_ineg hx hb dX10_ways_30 ?_
      refine lv_goto (tgt := 36) hx hb dX10_ways_31 (by decide) ?_
      exact n_X10_ways_36 X hN hX _ _ _ (lv_sub hl [2, 0] rfl) hS
  rw [hH, hlo] at hgoal
  exact hgoal
theorem mv_X10_ways : Mv yX10_ways RX10 cX10_ways 7 ((some .int)) 3 := ⟨t7_185, t7_184, ts_70, t1_11, ⟨by decide, by decide⟩, by decide +kernel⟩
/-! SewnYearModel.between(II)I -/
def rm_X10_between : Room := { frames := 2, cells := 0, slots := 0, locals := 47 }
def f_X10_between (M : Mem) (a1 : Int32) (a2 : Int32) : Option (Int32) :=
  bn (f_X10_townOf M ((nI 5) + a1)) fun r2 => bn (f_X10_townOf M ((nI 11) + a1)) fun r4 => bn (f_X10_ways M r2 r4 a2) fun r6 => some r6
set_option maxRecDepth 100000 in
set_option maxHeartbeats 4000000 in
theorem m_X10_between {l : Launch} {D : va_G} {cy : Nat → ClassId} {ad : Nat → Nat → Nat} {ns : List (Nat × Nat)} {A : Nat → Prop} {M : Mem} (hN : Ob ns 10 100) {a1 : Int32} {a2 : Int32} {r : Int32} (hX : f_X10_between M a1 a2 = some r) : Ct l yX10_between cX10_between 3 ((some .int)) rm_X10_between D cy ad ns A [.ref (ad 100 0), .int a1, .int a2] M M (some (.int r)) := by
  refine ct_of (lv := [(0, .ref (ad 100 0)), (1, .int a1), (2, .int a2)]) (by decide) (Nat.le_of_ble_eq_true rfl) rfl ?_
  intro p e s m args below meth c ls X hl hS
  obtain ⟨hx, hb, hml, hown, hts, hK, hr, hlk, hA, hG⟩ := id X
  obtain ⟨H, hH⟩ : ∃ z, z = s.heap := ⟨_, rfl⟩
  obtain ⟨locs, hlo⟩ : ∃ z : List Loc, z = [] := ⟨_, rfl⟩
  have hS : St D cy ad ns A M s.heap H locs := by rw [hH, hlo]; exact hS
  have hgoal : W p l e rm_X10_between s m args below meth c H locs 0 0 (MQ below (QC D cy ad ns A M (some (.int r))) args s 0 0 A) (F0 m 0 ls []) := by
    unfold f_X10_between at hX
    refine lv_aload_n hx hb dX10_between_0 rfl (lv_at hl 0 rfl) ?_
    refine lv_aload_n hx hb dX10_between_1 rfl (lv_at hl 0 rfl) ?_
    refine lv_iconst (v := nI 5) hx hb dX10_between_2 (by decide) ?_
    refine lv_iload_n hx hb dX10_between_3 rfl (lv_at hl 1 rfl) ?_
    refine lv_iadd hx hb dX10_between_4 ?_
    obtain ⟨r2, h1, hX⟩ := bn_of hX
    refine r_callV1 (v := .int r2) (As := [.int ((nI 5) + a1)]) (rest := [.ref (ad 100 0)]) X hS (m_X10_townOf hN h1) mv_X10_townOf rfl (hN) t7_166 ⟨rfl, rfl, Nat.le_of_ble_eq_true rfl, Nat.le_of_ble_eq_true rfl⟩ rfl hl.1 rfl (Nat.le_of_ble_eq_true rfl) ⟨Nat.zero_le _, Nat.zero_le _⟩ dX10_between_5 (fun H locs hS => ?_)
    refine lv_aload_n hx hb dX10_between_8 rfl (lv_at hl 0 rfl) ?_
    refine lv_bipush (v := nI 11) hx hb dX10_between_9 (by decide) ?_
    refine lv_iload_n hx hb dX10_between_11 rfl (lv_at hl 1 rfl) ?_
    refine lv_iadd hx hb dX10_between_12 ?_
    obtain ⟨r4, h3, hX⟩ := bn_of hX
    refine r_callV1 (v := .int r4) (As := [.int ((nI 11) + a1)]) (rest := [.int r2, .ref (ad 100 0)]) X hS (m_X10_townOf hN h3) mv_X10_townOf rfl (hN) t7_166 ⟨rfl, rfl, Nat.le_of_ble_eq_true rfl, Nat.le_of_ble_eq_true rfl⟩ rfl hl.1 rfl (Nat.le_of_ble_eq_true rfl) ⟨Nat.zero_le _, Nat.zero_le _⟩ dX10_between_13 (fun H locs hS => ?_)
    refine lv_iload_n hx hb dX10_between_16 rfl (lv_at hl 2 rfl) ?_
    obtain ⟨r6, h5, hX⟩ := bn_of hX
    refine r_callV1 (v := .int r6) (As := [.int r2, .int r4, .int a2]) (rest := []) X hS (m_X10_ways hN h5) mv_X10_ways rfl (hN) t7_182 ⟨rfl, rfl, Nat.le_of_ble_eq_true rfl, Nat.le_of_ble_eq_true rfl⟩ rfl hl.1 rfl (Nat.le_of_ble_eq_true rfl) ⟨Nat.zero_le _, Nat.zero_le _⟩ dX10_between_17 (fun H locs hS => ?_)
    obtain rfl := some_of hX
    exact x_I (v := r6) X hS dX10_between_20
  rw [hH, hlo] at hgoal
  exact hgoal
theorem mv_X10_between : Mv yX10_between RX10 cX10_between 3 ((some .int)) 2 := ⟨t7_189, t7_188, ts_71, t1_11, ⟨by decide, by decide⟩, by decide +kernel⟩
/-! SewnYearModel.doneAt(II)I -/
def rm_X10_doneAt : Room := { frames := 1, cells := 0, slots := 0, locals := 21 }
def f_X10_doneAt_61 (M : Mem) (a1 : Int32) (a2 : Int32) (k_62 : Int32 → Bool → Option (Int32)) (v_3 : Int32) : Option (Int32) :=
  k_62 v_3 false
def f_X10_doneAt_62 (M : Mem) (a1 : Int32) (a2 : Int32) (v_3 : Int32) (s_0 : Bool) : Option (Int32) :=
  if s_0 = true then (bn (f_X10_townOf M ((nI 35) + a1)) fun r3 => some (((r3 + (nI 1)) + v_3) - (nI 1))) else (some ((a2 + v_3) - (nI 1)))
def f_X10_doneAt (M : Mem) (a1 : Int32) (a2 : Int32) : Option (Int32) :=
  bn (f_X10_townOf M ((nI 17) + a1)) fun r5 => bn (f_X10_townOf M (nI 1)) fun r7 => bn (f_X10_upwards r5 r7) fun r9 => bn (f_X10_townOf M ((nI 29) + a1)) fun r11 => if r11 = (-1) then (f_X10_doneAt_61 M a1 a2 (fun x0 x1 => f_X10_doneAt_62 M a1 a2 x0 x1) r9) else (bn (f_X10_townOf M ((nI 35) + a1)) fun r14 => if r14 < a2 then (f_X10_doneAt_61 M a1 a2 (fun x0 x1 => f_X10_doneAt_62 M a1 a2 x0 x1) r9) else (bn (f_X10_townOf M ((nI 29) + a1)) fun r17 => if ((a2 + r9) - (nI 1)) < r17 then (f_X10_doneAt_61 M a1 a2 (fun x0 x1 => f_X10_doneAt_62 M a1 a2 x0 x1) r9) else (f_X10_doneAt_62 M a1 a2 r9 true)))
set_option maxRecDepth 100000 in
set_option maxHeartbeats 4000000 in
theorem n_X10_doneAt_61 {a1 : Int32} {a2 : Int32} (X : Cx p s m args meth c D cy ad A RX10 cX10_doneAt 5 ((some .int))) (hN : Ob ns 10 100) {M : Mem} {k_62 : Int32 → Bool → Option (Int32)} {v_3 : Int32} {r : Int32} (hX : f_X10_doneAt_61 M a1 a2 k_62 v_3 = some r) : (∀ (v_3 : Int32) (s_0 : Bool) (r : Int32), k_62 v_3 s_0 = some r → ∀ (ls : Array Slot) (H : Heap) (locs : List Loc), lv_has ls 5 [(0, .ref (ad 100 0)), (1, .int a1), (2, .int a2), (3, .int v_3)] → St D cy ad ns A M s.heap H locs → W p l e rm_X10_doneAt s m args below meth c H locs 0 0 (MQ below (QC D cy ad ns A M (some (.int r))) args s 0 0 A) (F0 m 62 ls [.int (b2i s_0)])) → ∀ (ls : Array Slot) (H : Heap) (locs : List Loc), lv_has ls 5 [(0, .ref (ad 100 0)), (1, .int a1), (2, .int a2), (3, .int v_3)] → St D cy ad ns A M s.heap H locs → W p l e rm_X10_doneAt s m args below meth c H locs 0 0 (MQ below (QC D cy ad ns A M (some (.int r))) args s 0 0 A) (F0 m 61 ls []) := by
  obtain ⟨hx, hb, hml, hown, hts, hK, hr, hlk, hA, hG⟩ := id X
  intro hk_62 ls H locs hl hS
  unfold f_X10_doneAt_61 at hX
  refine lv_iconst (v := nI 0) hx hb dX10_doneAt_61 (by decide) ?_
  exact hk_62 _ _ _ hX _ _ _ (lv_sub hl [0, 1, 2, 3] rfl) hS
set_option maxRecDepth 100000 in
set_option maxHeartbeats 4000000 in
theorem n_X10_doneAt_62 {a1 : Int32} {a2 : Int32} (X : Cx p s m args meth c D cy ad A RX10 cX10_doneAt 5 ((some .int))) (hN : Ob ns 10 100) {M : Mem} {v_3 : Int32} {s_0 : Bool} {r : Int32} (hX : f_X10_doneAt_62 M a1 a2 v_3 s_0 = some r) : ∀ (ls : Array Slot) (H : Heap) (locs : List Loc), lv_has ls 5 [(0, .ref (ad 100 0)), (1, .int a1), (2, .int a2), (3, .int v_3)] → St D cy ad ns A M s.heap H locs → W p l e rm_X10_doneAt s m args below meth c H locs 0 0 (MQ below (QC D cy ad ns A M (some (.int r))) args s 0 0 A) (F0 m 62 ls [.int (b2i s_0)]) := by
  obtain ⟨hx, hb, hml, hown, hts, hK, hr, hlk, hA, hG⟩ := id X
  intro ls H locs hl hS
  unfold f_X10_doneAt_62 at hX
  refine lv_istore (lv' := [(4, .int (b2i s_0)), (0, .ref (ad 100 0)), (1, .int a1), (2, .int a2), (3, .int v_3)]) hx hb dX10_doneAt_62 hl (by decide) rfl (fun ls hl => ?_)
  refine lv_iload hx hb dX10_doneAt_64 (lv_at hl 0 rfl) ?_
  refine lv_if_eq (tgt := 82) hx hb dX10_doneAt_66 (by decide) (fun c1 => ?_) (fun c1 => ?_)
  · have hX := if_bf c1 hX
    refine lv_iload_n hx hb dX10_doneAt_82 rfl (lv_at hl 3 rfl) ?_
    refine lv_iload_n hx hb dX10_doneAt_83 rfl (lv_at hl 4 rfl) ?_
    refine lv_iadd hx hb dX10_doneAt_84 ?_
    refine lv_iconst (v := nI 1) hx hb dX10_doneAt_85 (by decide) ?_
    refine lv_isub hx hb dX10_doneAt_86 ?_
    obtain rfl := some_of hX
    exact x_I (v := ((a2 + v_3) - (nI 1))) X hS dX10_doneAt_87
  · have hX := if_bt c1 hX
    refine lv_aload_n hx hb dX10_doneAt_69 rfl (lv_at hl 1 rfl) ?_
    refine lv_bipush (v := nI 35) hx hb dX10_doneAt_70 (by decide) ?_
    refine lv_iload_n hx hb dX10_doneAt_72 rfl (lv_at hl 2 rfl) ?_
    refine lv_iadd hx hb dX10_doneAt_73 ?_
    obtain ⟨r3, h2, hX⟩ := bn_of hX
    refine r_callV1 (v := .int r3) (As := [.int ((nI 35) + a1)]) (rest := []) X hS (m_X10_townOf hN h2) mv_X10_townOf rfl (hN) t7_166 ⟨rfl, rfl, Nat.le_of_ble_eq_true rfl, Nat.le_of_ble_eq_true rfl⟩ rfl hl.1 rfl (Nat.le_of_ble_eq_true rfl) ⟨Nat.zero_le _, Nat.zero_le _⟩ dX10_doneAt_74 (fun H locs hS => ?_)
    refine lv_iconst (v := nI 1) hx hb dX10_doneAt_77 (by decide) ?_
    refine lv_iadd hx hb dX10_doneAt_78 ?_
    refine lv_goto (tgt := 83) hx hb dX10_doneAt_79 (by decide) ?_
    refine lv_iload_n hx hb dX10_doneAt_83 rfl (lv_at hl 4 rfl) ?_
    refine lv_iadd hx hb dX10_doneAt_84 ?_
    refine lv_iconst (v := nI 1) hx hb dX10_doneAt_85 (by decide) ?_
    refine lv_isub hx hb dX10_doneAt_86 ?_
    obtain rfl := some_of hX
    exact x_I (v := (((r3 + (nI 1)) + v_3) - (nI 1))) X hS dX10_doneAt_87
set_option maxRecDepth 100000 in
set_option maxHeartbeats 4000000 in
theorem m_X10_doneAt {l : Launch} {D : va_G} {cy : Nat → ClassId} {ad : Nat → Nat → Nat} {ns : List (Nat × Nat)} {A : Nat → Prop} {M : Mem} (hN : Ob ns 10 100) {a1 : Int32} {a2 : Int32} {r : Int32} (hX : f_X10_doneAt M a1 a2 = some r) : Ct l yX10_doneAt cX10_doneAt 5 ((some .int)) rm_X10_doneAt D cy ad ns A [.ref (ad 100 0), .int a1, .int a2] M M (some (.int r)) := by
  refine ct_of (lv := [(0, .ref (ad 100 0)), (1, .int a1), (2, .int a2)]) (by decide) (Nat.le_of_ble_eq_true rfl) rfl ?_
  intro p e s m args below meth c ls X hl hS
  obtain ⟨hx, hb, hml, hown, hts, hK, hr, hlk, hA, hG⟩ := id X
  obtain ⟨H, hH⟩ : ∃ z, z = s.heap := ⟨_, rfl⟩
  obtain ⟨locs, hlo⟩ : ∃ z : List Loc, z = [] := ⟨_, rfl⟩
  have hS : St D cy ad ns A M s.heap H locs := by rw [hH, hlo]; exact hS
  have hgoal : W p l e rm_X10_doneAt s m args below meth c H locs 0 0 (MQ below (QC D cy ad ns A M (some (.int r))) args s 0 0 A) (F0 m 0 ls []) := by
    unfold f_X10_doneAt at hX
    refine lv_aload_n hx hb dX10_doneAt_0 rfl (lv_at hl 0 rfl) ?_
    refine lv_bipush (v := nI 17) hx hb dX10_doneAt_1 (by decide) ?_
    refine lv_iload_n hx hb dX10_doneAt_3 rfl (lv_at hl 1 rfl) ?_
    refine lv_iadd hx hb dX10_doneAt_4 ?_
    obtain ⟨r5, h4, hX⟩ := bn_of hX
    refine r_callV1 (v := .int r5) (As := [.int ((nI 17) + a1)]) (rest := []) X hS (m_X10_townOf hN h4) mv_X10_townOf rfl (hN) t7_166 ⟨rfl, rfl, Nat.le_of_ble_eq_true rfl, Nat.le_of_ble_eq_true rfl⟩ rfl hl.1 rfl (Nat.le_of_ble_eq_true rfl) ⟨Nat.zero_le _, Nat.zero_le _⟩ dX10_doneAt_5 (fun H locs hS => ?_)
    refine lv_aload_n hx hb dX10_doneAt_8 rfl (lv_at hl 0 rfl) ?_
    refine lv_iconst (v := nI 1) hx hb dX10_doneAt_9 (by decide) ?_
    obtain ⟨r7, h6, hX⟩ := bn_of hX
    refine r_callV1 (v := .int r7) (As := [.int (nI 1)]) (rest := [.int r5]) X hS (m_X10_townOf hN h6) mv_X10_townOf rfl (hN) t7_166 ⟨rfl, rfl, Nat.le_of_ble_eq_true rfl, Nat.le_of_ble_eq_true rfl⟩ rfl hl.1 rfl (Nat.le_of_ble_eq_true rfl) ⟨Nat.zero_le _, Nat.zero_le _⟩ dX10_doneAt_10 (fun H locs hS => ?_)
    obtain ⟨r9, h8, hX⟩ := bn_of hX
    refine r_callS1 (v := .int r9) (As := [.int r5, .int r7]) (rest := []) X hS (m_X10_upwards (M := M) hN h8) ms_X10_upwards t7_147 ⟨rfl, rfl, Nat.le_of_ble_eq_true rfl, Nat.le_of_ble_eq_true rfl⟩ rfl hl.1 rfl (Nat.le_of_ble_eq_true rfl) ⟨Nat.zero_le _, Nat.zero_le _⟩ dX10_doneAt_13 (fun H locs hS => ?_)
    refine lv_istore_n (lv' := [(3, .int r9), (0, .ref (ad 100 0)), (1, .int a1), (2, .int a2)]) hx hb dX10_doneAt_16 rfl hl (by decide) rfl (fun ls hl => ?_)
    refine lv_aload_n hx hb dX10_doneAt_17 rfl (lv_at hl 1 rfl) ?_
    refine lv_bipush (v := nI 29) hx hb dX10_doneAt_18 (by decide) ?_
    refine lv_iload_n hx hb dX10_doneAt_20 rfl (lv_at hl 2 rfl) ?_
    refine lv_iadd hx hb dX10_doneAt_21 ?_
    obtain ⟨r11, h10, hX⟩ := bn_of hX
    refine r_callV1 (v := .int r11) (As := [.int ((nI 29) + a1)]) (rest := []) X hS (m_X10_townOf hN h10) mv_X10_townOf rfl (hN) t7_166 ⟨rfl, rfl, Nat.le_of_ble_eq_true rfl, Nat.le_of_ble_eq_true rfl⟩ rfl hl.1 rfl (Nat.le_of_ble_eq_true rfl) ⟨Nat.zero_le _, Nat.zero_le _⟩ dX10_doneAt_22 (fun H locs hS => ?_)
    refine lv_iconst (v := (-1)) hx hb dX10_doneAt_25 (by decide) ?_
    refine lv_icmp_eq (tgt := 61) hx hb dX10_doneAt_26 (by decide) (fun c12 => ?_) (fun c12 => ?_)
    · have hX := if_t c12 hX
      exact n_X10_doneAt_61 X hN hX (fun z0 z1 r h ls H locs hl hS => n_X10_doneAt_62 X hN h _ _ _ hl hS) _ _ _ (lv_sub hl [1, 2, 3, 0] rfl) hS
    · have hX := if_f c12 hX
      refine lv_iload_n hx hb dX10_doneAt_29 rfl (lv_at hl 3 rfl) ?_
      refine lv_aload_n hx hb dX10_doneAt_30 rfl (lv_at hl 1 rfl) ?_
      refine lv_bipush (v := nI 35) hx hb dX10_doneAt_31 (by decide) ?_
      refine lv_iload_n hx hb dX10_doneAt_33 rfl (lv_at hl 2 rfl) ?_
      refine lv_iadd hx hb dX10_doneAt_34 ?_
      obtain ⟨r14, h13, hX⟩ := bn_of hX
      refine r_callV1 (v := .int r14) (As := [.int ((nI 35) + a1)]) (rest := [.int a2]) X hS (m_X10_townOf hN h13) mv_X10_townOf rfl (hN) t7_166 ⟨rfl, rfl, Nat.le_of_ble_eq_true rfl, Nat.le_of_ble_eq_true rfl⟩ rfl hl.1 rfl (Nat.le_of_ble_eq_true rfl) ⟨Nat.zero_le _, Nat.zero_le _⟩ dX10_doneAt_35 (fun H locs hS => ?_)
      refine lv_icmp_gt (tgt := 61) hx hb dX10_doneAt_38 (by decide) (fun c15 => ?_) (fun c15 => ?_)
      · have hX := if_t c15 hX
        exact n_X10_doneAt_61 X hN hX (fun z0 z1 r h ls H locs hl hS => n_X10_doneAt_62 X hN h _ _ _ hl hS) _ _ _ (lv_sub hl [1, 2, 3, 0] rfl) hS
      · have hX := if_f c15 hX
        refine lv_iload_n hx hb dX10_doneAt_41 rfl (lv_at hl 3 rfl) ?_
        refine lv_iload_n hx hb dX10_doneAt_42 rfl (lv_at hl 0 rfl) ?_
        refine lv_iadd hx hb dX10_doneAt_43 ?_
        refine lv_iconst (v := nI 1) hx hb dX10_doneAt_44 (by decide) ?_
        refine lv_isub hx hb dX10_doneAt_45 ?_
        refine lv_aload_n hx hb dX10_doneAt_46 rfl (lv_at hl 1 rfl) ?_
        refine lv_bipush (v := nI 29) hx hb dX10_doneAt_47 (by decide) ?_
        refine lv_iload_n hx hb dX10_doneAt_49 rfl (lv_at hl 2 rfl) ?_
        refine lv_iadd hx hb dX10_doneAt_50 ?_
        obtain ⟨r17, h16, hX⟩ := bn_of hX
        refine r_callV1 (v := .int r17) (As := [.int ((nI 29) + a1)]) (rest := [.int ((a2 + r9) - (nI 1))]) X hS (m_X10_townOf hN h16) mv_X10_townOf rfl (hN) t7_166 ⟨rfl, rfl, Nat.le_of_ble_eq_true rfl, Nat.le_of_ble_eq_true rfl⟩ rfl hl.1 rfl (Nat.le_of_ble_eq_true rfl) ⟨Nat.zero_le _, Nat.zero_le _⟩ dX10_doneAt_51 (fun H locs hS => ?_)
        refine lv_icmp_lt (tgt := 61) hx hb dX10_doneAt_54 (by decide) (fun c18 => ?_) (fun c18 => ?_)
        · have hX := if_t c18 hX
          exact n_X10_doneAt_61 X hN hX (fun z0 z1 r h ls H locs hl hS => n_X10_doneAt_62 X hN h _ _ _ hl hS) _ _ _ (lv_sub hl [1, 2, 3, 0] rfl) hS
        · have hX := if_f c18 hX
          refine lv_iconst (v := nI 1) hx hb dX10_doneAt_57 (by decide) ?_
          refine lv_goto (tgt := 62) hx hb dX10_doneAt_58 (by decide) ?_
          exact n_X10_doneAt_62 X hN hX _ _ _ (lv_sub hl [1, 2, 3, 0] rfl) hS
  rw [hH, hlo] at hgoal
  exact hgoal
theorem mv_X10_doneAt : Mv yX10_doneAt RX10 cX10_doneAt 5 ((some .int)) 2 := ⟨t7_193, t7_192, ts_72, t1_11, ⟨by decide, by decide⟩, by decide +kernel⟩
/-! SewnYearModel.walk(I)V -/
def rm_X10_walk : Room := { frames := 3, cells := 0, slots := 0, locals := 69 }
def f_X10_walk_61 (a1 : Int32) (k_2 : Int32 → Mem → Option (Mem)) (v_2 : Int32) (s_0 : Int32) (M : Mem) : Option (Mem) :=
  gin v_2 6 <| bn (f_X10_doneAt M (gA M 100 43 (ix v_2)) s_0) fun r3 => gin v_2 6 <| nm (sA M 100 44 (ix v_2) r3) fun M5 => nm (v_2 + nI 1) fun v6 => k_2 v6 M5
def b_X10_walk_2 (a1 : Int32) (rc : Int32 → Mem → Option (Mem)) (v_2 : Int32) (M : Mem) : Option (Mem) :=
  if a1 ≤ v_2 then (some M) else (if v_2 = (nI 0) then (gin (nI 0) 6 <| bn (f_X10_ways M (gI M 100 41) (gI M 100 42) (gA M 100 43 (ix (nI 0)))) fun r16 => f_X10_walk_61 a1 rc v_2 r16 M) else (gin (v_2 - (nI 1)) 6 <| gin (v_2 - (nI 1)) 6 <| gin v_2 6 <| bn (f_X10_between M (gA M 100 43 (ix (v_2 - (nI 1)))) (gA M 100 43 (ix v_2))) fun r13 => f_X10_walk_61 a1 rc v_2 (((gA M 100 44 (ix (v_2 - (nI 1)))) + (nI 1)) + r13) M))
def f_X10_walk_2 (a1 : Int32) : Nat → (Int32 × Mem) → Option (Mem) := lp (fun rc q => b_X10_walk_2 a1 (fun x0 x1 => rc (x0, x1)) q.1 q.2)
def f_X10_walk (M : Mem) (a1 : Int32) : Option (Mem) :=
  f_X10_walk_2 a1 FU ((nI 0), M)
set_option maxRecDepth 100000 in
set_option maxHeartbeats 4000000 in
theorem n_X10_walk_61 {a1 : Int32} (X : Cx p s m args meth c D cy ad A RX10 cX10_walk 4 ((none : Option Jvm.ClassFile.FieldType))) (hN : Ob ns 10 100) {k_2 : Int32 → Mem → Option (Mem)} {v_2 : Int32} {s_0 : Int32} {M : Mem} {r : Mem} (hX : f_X10_walk_61 a1 k_2 v_2 s_0 M = some r) : (∀ (v_2 : Int32) (M : Mem) (r : Mem), k_2 v_2 M = some r → ∀ (ls : Array Slot) (H : Heap) (locs : List Loc), lv_has ls 4 [(0, .ref (ad 100 0)), (1, .int a1), (2, .int v_2)] → St D cy ad ns A M s.heap H locs → W p l e rm_X10_walk s m args below meth c H locs 0 0 (MQ below (QC D cy ad ns A r none) args s 0 0 A) (F0 m 2 ls [])) → ∀ (ls : Array Slot) (H : Heap) (locs : List Loc), lv_has ls 4 [(0, .ref (ad 100 0)), (1, .int a1), (2, .int v_2)] → St D cy ad ns A M s.heap H locs → W p l e rm_X10_walk s m args below meth c H locs 0 0 (MQ below (QC D cy ad ns A r none) args s 0 0 A) (F0 m 61 ls [.int s_0]) := by
  obtain ⟨hx, hb, hml, hown, hts, hK, hr, hlk, hA, hG⟩ := id X
  intro hk_2 ls H locs hl hS
  unfold f_X10_walk_61 at hX
  refine lv_istore_n (lv' := [(3, .int s_0), (0, .ref (ad 100 0)), (1, .int a1), (2, .int v_2)]) hx hb dX10_walk_61 rfl hl (by decide) rfl (fun ls hl => ?_)
  refine lv_aload_n hx hb dX10_walk_62 rfl (lv_at hl 1 rfl) ?_
  refine fg_X10_66 X hS (hN) dX10_walk_63 ?_
  refine lv_iload_n hx hb dX10_walk_66 rfl (lv_at hl 3 rfl) ?_
  refine lv_aload_n hx hb dX10_walk_67 rfl (lv_at hl 1 rfl) ?_
  refine lv_aload_n hx hb dX10_walk_68 rfl (lv_at hl 1 rfl) ?_
  refine fg_X10_63 X hS (hN) dX10_walk_69 ?_
  refine lv_iload_n hx hb dX10_walk_72 rfl (lv_at hl 3 rfl) ?_
  obtain ⟨g1, hX⟩ := gin_of hX
  refine r_iald (ci := 10) (o := 100) (k := 43) (n := 6) X hS (hN) rfl rfl g1 dX10_walk_73 ?_
  refine lv_iload_n hx hb dX10_walk_74 rfl (lv_at hl 0 rfl) ?_
  obtain ⟨r3, h2, hX⟩ := bn_of hX
  refine r_callV1 (v := .int r3) (As := [.int (gA M 100 43 (ix v_2)), .int s_0]) (rest := [.int v_2, .ref (ad 100 (44 + 1))]) X hS (m_X10_doneAt hN h2) mv_X10_doneAt rfl (hN) t7_190 ⟨rfl, rfl, Nat.le_of_ble_eq_true rfl, Nat.le_of_ble_eq_true rfl⟩ rfl hl.1 rfl (Nat.le_of_ble_eq_true rfl) ⟨Nat.zero_le _, Nat.zero_le _⟩ dX10_walk_75 (fun H locs hS => ?_)
  obtain ⟨g4, hX⟩ := gin_of hX
  refine r_iast (ci := 10) (o := 100) (k := 44) (n := 6) X hS (hN) rfl rfl g4 dX10_walk_78 (fun H locs hS => ?_)
  obtain ⟨M5, eM5, hS, hX⟩ := nm_mem hS hX
  obtain ⟨v6, ev6⟩ : ∃ y : Int32, y = (v_2 + nI 1) := ⟨_, rfl⟩
  have hX := nm_of ev6 hX
  refine lv_iinc (v := v6) (lv' := [(2, .int v6), (3, .int s_0), (0, .ref (ad 100 0)), (1, .int a1)]) hx hb dX10_walk_79 hl (k := 3) rfl (by rw [ev6]; rfl) (by decide) rfl (fun ls hl => ?_)
  refine lv_goto (tgt := 2) hx hb dX10_walk_82 (by decide) ?_
  exact hk_2 _ _ _ hX _ _ _ (lv_sub hl [2, 3, 0] rfl) hS
set_option maxRecDepth 100000 in
set_option maxHeartbeats 4000000 in
theorem n_X10_walk_2 {a1 : Int32} (X : Cx p s m args meth c D cy ad A RX10 cX10_walk 4 ((none : Option Jvm.ClassFile.FieldType))) (hN : Ob ns 10 100) : ∀ (n : Nat) (v_2 : Int32) (M : Mem) (r : Mem), f_X10_walk_2 a1 n (v_2, M) = some r → ∀ (ls : Array Slot) (H : Heap) (locs : List Loc), lv_has ls 4 [(0, .ref (ad 100 0)), (1, .int a1), (2, .int v_2)] → St D cy ad ns A M s.heap H locs → W p l e rm_X10_walk s m args below meth c H locs 0 0 (MQ below (QC D cy ad ns A r none) args s 0 0 A) (F0 m 2 ls []) := by
  obtain ⟨hx, hb, hml, hown, hts, hK, hr, hlk, hA, hG⟩ := id X
  intro n
  induction n with
  | zero => intro v_2 M r hX; cases (show (none : Option (Mem)) = some r from hX)
  | succ n ih =>
    intro v_2 M r hX ls H locs hl hS
    have hX : b_X10_walk_2 a1 (fun x0 x1 => f_X10_walk_2 a1 n (x0, x1)) v_2 M = some r := hX
    unfold b_X10_walk_2 at hX
    refine lv_iload_n hx hb dX10_walk_2 rfl (lv_at hl 2 rfl) ?_
    refine lv_iload_n hx hb dX10_walk_3 rfl (lv_at hl 1 rfl) ?_
    refine lv_icmp_ge (tgt := 85) hx hb dX10_walk_4 (by decide) (fun c7 => ?_) (fun c7 => ?_)
    · have hX := if_t c7 hX
      obtain rfl := some_of hX
      exact x_V X hS dX10_walk_85
    · have hX := if_f c7 hX
      refine lv_iload_n hx hb dX10_walk_7 rfl (lv_at hl 2 rfl) ?_
      refine lv_if_ne (tgt := 32) hx hb dX10_walk_8 (by decide) (fun c8 => ?_) (fun c8 => ?_)
      · have hX := if_f c8 hX
        refine lv_aload_n hx hb dX10_walk_32 rfl (lv_at hl 0 rfl) ?_
        refine fg_X10_66 X hS (hN) dX10_walk_33 ?_
        refine lv_iload_n hx hb dX10_walk_36 rfl (lv_at hl 2 rfl) ?_
        refine lv_iconst (v := nI 1) hx hb dX10_walk_37 (by decide) ?_
        refine lv_isub hx hb dX10_walk_38 ?_
        obtain ⟨g9, hX⟩ := gin_of hX
        refine r_iald (ci := 10) (o := 100) (k := 44) (n := 6) X hS (hN) rfl rfl g9 dX10_walk_39 ?_
        refine lv_iconst (v := nI 1) hx hb dX10_walk_40 (by decide) ?_
        refine lv_iadd hx hb dX10_walk_41 ?_
        refine lv_aload_n hx hb dX10_walk_42 rfl (lv_at hl 0 rfl) ?_
        refine lv_aload_n hx hb dX10_walk_43 rfl (lv_at hl 0 rfl) ?_
        refine fg_X10_63 X hS (hN) dX10_walk_44 ?_
        refine lv_iload_n hx hb dX10_walk_47 rfl (lv_at hl 2 rfl) ?_
        refine lv_iconst (v := nI 1) hx hb dX10_walk_48 (by decide) ?_
        refine lv_isub hx hb dX10_walk_49 ?_
        obtain ⟨g10, hX⟩ := gin_of hX
        refine r_iald (ci := 10) (o := 100) (k := 43) (n := 6) X hS (hN) rfl rfl g10 dX10_walk_50 ?_
        refine lv_aload_n hx hb dX10_walk_51 rfl (lv_at hl 0 rfl) ?_
        refine fg_X10_63 X hS (hN) dX10_walk_52 ?_
        refine lv_iload_n hx hb dX10_walk_55 rfl (lv_at hl 2 rfl) ?_
        obtain ⟨g11, hX⟩ := gin_of hX
        refine r_iald (ci := 10) (o := 100) (k := 43) (n := 6) X hS (hN) rfl rfl g11 dX10_walk_56 ?_
        obtain ⟨r13, h12, hX⟩ := bn_of hX
        refine r_callV1 (v := .int r13) (As := [.int (gA M 100 43 (ix (v_2 - (nI 1)))), .int (gA M 100 43 (ix v_2))]) (rest := [.int ((gA M 100 44 (ix (v_2 - (nI 1)))) + (nI 1))]) X hS (m_X10_between hN h12) mv_X10_between rfl (hN) t7_186 ⟨rfl, rfl, Nat.le_of_ble_eq_true rfl, Nat.le_of_ble_eq_true rfl⟩ rfl hl.1 rfl (Nat.le_of_ble_eq_true rfl) ⟨Nat.zero_le _, Nat.zero_le _⟩ dX10_walk_57 (fun H locs hS => ?_)
        refine lv_iadd hx hb dX10_walk_60 ?_
        exact n_X10_walk_61 X hN hX (fun z0 z1 r h ls H locs hl hS => ih z0 z1 r h ls H locs hl hS) _ _ _ (lv_sub hl [0, 1, 2] rfl) hS
      · have hX := if_t c8 hX
        refine lv_aload_n hx hb dX10_walk_11 rfl (lv_at hl 0 rfl) ?_
        refine lv_aload_n hx hb dX10_walk_12 rfl (lv_at hl 0 rfl) ?_
        refine fg_X10_432 X hS (hN) dX10_walk_13 ?_
        refine lv_aload_n hx hb dX10_walk_16 rfl (lv_at hl 0 rfl) ?_
        refine fg_X10_435 X hS (hN) dX10_walk_17 ?_
        refine lv_aload_n hx hb dX10_walk_20 rfl (lv_at hl 0 rfl) ?_
        refine fg_X10_63 X hS (hN) dX10_walk_21 ?_
        refine lv_iconst (v := nI 0) hx hb dX10_walk_24 (by decide) ?_
        obtain ⟨g14, hX⟩ := gin_of hX
        refine r_iald (ci := 10) (o := 100) (k := 43) (n := 6) X hS (hN) rfl rfl g14 dX10_walk_25 ?_
        obtain ⟨r16, h15, hX⟩ := bn_of hX
        refine r_callV1 (v := .int r16) (As := [.int (gI M 100 41), .int (gI M 100 42), .int (gA M 100 43 (ix (nI 0)))]) (rest := []) X hS (m_X10_ways hN h15) mv_X10_ways rfl (hN) t7_182 ⟨rfl, rfl, Nat.le_of_ble_eq_true rfl, Nat.le_of_ble_eq_true rfl⟩ rfl hl.1 rfl (Nat.le_of_ble_eq_true rfl) ⟨Nat.zero_le _, Nat.zero_le _⟩ dX10_walk_26 (fun H locs hS => ?_)
        refine lv_goto (tgt := 61) hx hb dX10_walk_29 (by decide) ?_
        exact n_X10_walk_61 X hN hX (fun z0 z1 r h ls H locs hl hS => ih z0 z1 r h ls H locs hl hS) _ _ _ (lv_sub hl [0, 1, 2] rfl) hS
set_option maxRecDepth 100000 in
set_option maxHeartbeats 4000000 in
theorem m_X10_walk {l : Launch} {D : va_G} {cy : Nat → ClassId} {ad : Nat → Nat → Nat} {ns : List (Nat × Nat)} {A : Nat → Prop} {M : Mem} (hN : Ob ns 10 100) {a1 : Int32} {r : Mem} (hX : f_X10_walk M a1 = some r) : Ct l yX10_walk cX10_walk 4 ((none : Option Jvm.ClassFile.FieldType)) rm_X10_walk D cy ad ns A [.ref (ad 100 0), .int a1] M r none := by
  refine ct_of (lv := [(0, .ref (ad 100 0)), (1, .int a1)]) (by decide) (Nat.le_of_ble_eq_true rfl) rfl ?_
  intro p e s m args below meth c ls X hl hS
  obtain ⟨hx, hb, hml, hown, hts, hK, hr, hlk, hA, hG⟩ := id X
  obtain ⟨H, hH⟩ : ∃ z, z = s.heap := ⟨_, rfl⟩
  obtain ⟨locs, hlo⟩ : ∃ z : List Loc, z = [] := ⟨_, rfl⟩
  have hS : St D cy ad ns A M s.heap H locs := by rw [hH, hlo]; exact hS
  have hgoal : W p l e rm_X10_walk s m args below meth c H locs 0 0 (MQ below (QC D cy ad ns A r none) args s 0 0 A) (F0 m 0 ls []) := by
    unfold f_X10_walk at hX
    refine lv_iconst (v := nI 0) hx hb dX10_walk_0 (by decide) ?_
    refine lv_istore_n (lv' := [(2, .int (nI 0)), (0, .ref (ad 100 0)), (1, .int a1)]) hx hb dX10_walk_1 rfl hl (by decide) rfl (fun ls hl => ?_)
    exact n_X10_walk_2 X hN _ _ _ _ hX _ _ _ (lv_sub hl [1, 2, 0] rfl) hS
  rw [hH, hlo] at hgoal
  exact hgoal
theorem mv_X10_walk : Mv yX10_walk RX10 cX10_walk 4 ((none : Option Jvm.ClassFile.FieldType)) 1 := ⟨t7_181, t7_180, ts_69, t1_11, ⟨by decide, by decide⟩, by decide +kernel⟩
/-! SewnYearModel.done(IIII)I -/
def rm_X10_done : Room := { frames := 4, cells := 0, slots := 0, locals := 92 }
def b_X10_done_52 (a1 : Int32) (a2 : Int32) (a3 : Int32) (a4 : Int32) (rc : Int32 → Int32 → Int32 → Mem → Option (Int32 × Mem)) (v_5 : Int32) (v_6 : Int32) (v_7 : Int32) (M : Mem) : Option (Int32 × Mem) :=
  if v_7 < (nI 0) then (if v_5 ≤ (nI 0) then (bn (f_X10_walk M a3) fun M4 => gin a4 6 <| some ((gA M4 100 44 (ix a4)), M4)) else (some ((-1), M))) else (gnz (nI 6) <| gin v_7 6 <| nm (sA M 100 43 (ix v_7) (v_5 - v_5 / (nI 6) * (nI 6))) fun M8 => gnz (nI 6) <| nm (v_5 / (nI 6)) fun v10 => gin v_7 6 <| bn (f_X10_isWearer M8 (gA M8 100 43 (ix v_7))) fun r13 => if r13 = true then (gin v_7 6 <| bn (f_X10_has v_6 (gA M8 100 43 (ix v_7))) fun r17 => if r17 = true then (some ((-1), M8)) else (gin v_7 6 <| nm (v_6 ||| ((nI 1) <<< ((gA M8 100 43 (ix v_7)) &&& 31))) fun v20 => nm (v_7 + (-1)) fun v21 => rc v10 v20 v21 M8)) else (some ((-1), M8)))
def f_X10_done_52 (a1 : Int32) (a2 : Int32) (a3 : Int32) (a4 : Int32) : Nat → (Int32 × Int32 × Int32 × Mem) → Option (Int32 × Mem) := lp (fun rc q => b_X10_done_52 a1 a2 a3 a4 (fun x0 x1 x2 x3 => rc (x0, x1, x2, x3)) q.1 q.2.1 q.2.2.1 q.2.2.2)
def f_X10_done (M : Mem) (a1 : Int32) (a2 : Int32) (a3 : Int32) (a4 : Int32) : Option (Int32 × Mem) :=
  nm (sI M 100 0 (nI 0)) fun M22 => bp (f_X10_layTown M22 a1) fun r25 M24 => if r25 = true then (bn (f_X10_in a3 (nI 1) (nI 6)) fun r28 => if r28 = true then (bn (f_X10_in a4 (nI 0) (a3 - (nI 1))) fun r31 => if r31 = true then (if (nI 0) ≤ a2 then (nm (a3 - (nI 1)) fun v34 => f_X10_done_52 a1 a2 a3 a4 FU (a2, (nI 0), v34, M24)) else (some ((-1), M24))) else (some ((-1), M24))) else (some ((-1), M24))) else (some ((-1), M24))
set_option maxRecDepth 100000 in
set_option maxHeartbeats 4000000 in
theorem n_X10_done_52 {a1 : Int32} {a2 : Int32} {a3 : Int32} {a4 : Int32} (X : Cx p s m args meth c D cy ad A RX10 cX10_done 8 ((some .int))) (hN : Ob ns 10 100) : ∀ (n : Nat) (v_5 : Int32) (v_6 : Int32) (v_7 : Int32) (M : Mem) (r : Int32 × Mem), f_X10_done_52 a1 a2 a3 a4 n (v_5, v_6, v_7, M) = some r → ∀ (ls : Array Slot) (H : Heap) (locs : List Loc), lv_has ls 8 [(0, .ref (ad 100 0)), (3, .int a3), (4, .int a4), (5, .int v_5), (6, .int v_6), (7, .int v_7)] → St D cy ad ns A M s.heap H locs → W p l e rm_X10_done s m args below meth c H locs 0 0 (MQ below (QC D cy ad ns A r.2 (some (.int r.1))) args s 0 0 A) (F0 m 52 ls []) := by
  obtain ⟨hx, hb, hml, hown, hts, hK, hr, hlk, hA, hG⟩ := id X
  intro n
  induction n with
  | zero => intro v_5 v_6 v_7 M r hX; cases (show (none : Option (Int32 × Mem)) = some r from hX)
  | succ n ih =>
    intro v_5 v_6 v_7 M r hX ls H locs hl hS
    have hX : b_X10_done_52 a1 a2 a3 a4 (fun x0 x1 x2 x3 => f_X10_done_52 a1 a2 a3 a4 n (x0, x1, x2, x3)) v_5 v_6 v_7 M = some r := hX
    unfold b_X10_done_52 at hX
    refine lv_iload hx hb dX10_done_52 (lv_at hl 5 rfl) ?_
    refine lv_if_lt (tgt := 127) hx hb dX10_done_54 (by decide) (fun c1 => ?_) (fun c1 => ?_)
    · have hX := if_t c1 hX
      refine lv_iload hx hb dX10_done_127 (lv_at hl 3 rfl) ?_
      refine lv_if_le (tgt := 134) hx hb dX10_done_129 (by decide) (fun c2 => ?_) (fun c2 => ?_)
      · have hX := if_t c2 hX
        refine lv_aload_n hx hb dX10_done_134 rfl (lv_at hl 0 rfl) ?_
        refine lv_iload_n hx hb dX10_done_135 rfl (lv_at hl 1 rfl) ?_
        obtain ⟨M4, h3, hX⟩ := bn_of hX
        refine r_callV0 (As := [.int a3]) (rest := []) X hS (m_X10_walk hN h3) mv_X10_walk rfl (hN) t7_178 ⟨rfl, rfl, Nat.le_of_ble_eq_true rfl, Nat.le_of_ble_eq_true rfl⟩ rfl hl.1 rfl (Nat.le_of_ble_eq_true rfl) ⟨Nat.zero_le _, Nat.zero_le _⟩ dX10_done_136 (fun H locs hS => ?_)
        refine lv_aload_n hx hb dX10_done_139 rfl (lv_at hl 0 rfl) ?_
        refine fg_X10_66 X hS (hN) dX10_done_140 ?_
        refine lv_iload hx hb dX10_done_143 (lv_at hl 2 rfl) ?_
        obtain ⟨g5, hX⟩ := gin_of hX
        refine r_iald (ci := 10) (o := 100) (k := 44) (n := 6) X hS (hN) rfl rfl g5 dX10_done_145 ?_
        obtain rfl := some_of hX
        exact x_I (v := (gA M4 100 44 (ix a4))) X hS dX10_done_146
      · have hX := if_f c2 hX
        refine lv_iconst (v := (-1)) hx hb dX10_done_132 (by decide) ?_
        obtain rfl := some_of hX
        exact x_I (v := (-1)) X hS dX10_done_133
    · have hX := if_f c1 hX
      refine lv_aload_n hx hb dX10_done_57 rfl (lv_at hl 0 rfl) ?_
      refine fg_X10_63 X hS (hN) dX10_done_58 ?_
      refine lv_iload hx hb dX10_done_61 (lv_at hl 5 rfl) ?_
      refine lv_iload hx hb dX10_done_63 (lv_at hl 3 rfl) ?_
      refine lv_bipush (v := nI 6) hx hb dX10_done_65 (by decide) ?_
      obtain ⟨g6, hX⟩ := gnz_of hX
      refine lv_irem hx hb dX10_done_67 g6 ?_
      obtain ⟨g7, hX⟩ := gin_of hX
      refine r_iast (ci := 10) (o := 100) (k := 43) (n := 6) X hS (hN) rfl rfl g7 dX10_done_68 (fun H locs hS => ?_)
      obtain ⟨M8, eM8, hS, hX⟩ := nm_mem hS hX
      refine lv_iload hx hb dX10_done_69 (lv_at hl 3 rfl) ?_
      refine lv_bipush (v := nI 6) hx hb dX10_done_71 (by decide) ?_
      obtain ⟨g9, hX⟩ := gnz_of hX
      refine lv_idiv hx hb dX10_done_73 g9 ?_
      refine lv_topi (fun v10 ev10 => ?_)
      have hX := nm_of ev10 hX
      refine lv_istore (lv' := [(5, .int v10), (0, .ref (ad 100 0)), (3, .int a3), (4, .int a4), (6, .int v_6), (7, .int v_7)]) hx hb dX10_done_74 hl (by decide) rfl (fun ls hl => ?_)
      refine lv_aload_n hx hb dX10_done_76 rfl (lv_at hl 1 rfl) ?_
      refine lv_aload_n hx hb dX10_done_77 rfl (lv_at hl 1 rfl) ?_
      refine fg_X10_63 X hS (hN) dX10_done_78 ?_
      refine lv_iload hx hb dX10_done_81 (lv_at hl 5 rfl) ?_
      obtain ⟨g11, hX⟩ := gin_of hX
      refine r_iald (ci := 10) (o := 100) (k := 43) (n := 6) X hS (hN) rfl rfl g11 dX10_done_83 ?_
      obtain ⟨r13, h12, hX⟩ := bn_of hX
      refine r_callV1 (v := .int (b2i r13)) (As := [.int (gA M8 100 43 (ix v_7))]) (rest := []) X hS (m_X10_isWearer hN h12) mv_X10_isWearer rfl (hN) t7_170 ⟨rfl, rfl, Nat.le_of_ble_eq_true rfl, Nat.le_of_ble_eq_true rfl⟩ rfl hl.1 rfl (Nat.le_of_ble_eq_true rfl) ⟨Nat.zero_le _, Nat.zero_le _⟩ dX10_done_84 (fun H locs hS => ?_)
      refine lv_if_eq (tgt := 105) hx hb dX10_done_87 (by decide) (fun c14 => ?_) (fun c14 => ?_)
      · have hX := if_bf c14 hX
        refine lv_iconst (v := (-1)) hx hb dX10_done_105 (by decide) ?_
        obtain rfl := some_of hX
        exact x_I (v := (-1)) X hS dX10_done_106
      · have hX := if_bt c14 hX
        refine lv_iload hx hb dX10_done_90 (lv_at hl 4 rfl) ?_
        refine lv_aload_n hx hb dX10_done_92 rfl (lv_at hl 1 rfl) ?_
        refine fg_X10_63 X hS (hN) dX10_done_93 ?_
        refine lv_iload hx hb dX10_done_96 (lv_at hl 5 rfl) ?_
        obtain ⟨g15, hX⟩ := gin_of hX
        refine r_iald (ci := 10) (o := 100) (k := 43) (n := 6) X hS (hN) rfl rfl g15 dX10_done_98 ?_
        obtain ⟨r17, h16, hX⟩ := bn_of hX
        refine r_callS1 (v := .int (b2i r17)) (As := [.int v_6, .int (gA M8 100 43 (ix v_7))]) (rest := []) X hS (m_X10_has (M := M8) hN h16) ms_X10_has t7_36 ⟨rfl, rfl, Nat.le_of_ble_eq_true rfl, Nat.le_of_ble_eq_true rfl⟩ rfl hl.1 rfl (Nat.le_of_ble_eq_true rfl) ⟨Nat.zero_le _, Nat.zero_le _⟩ dX10_done_99 (fun H locs hS => ?_)
        refine lv_if_eq (tgt := 107) hx hb dX10_done_102 (by decide) (fun c18 => ?_) (fun c18 => ?_)
        · have hX := if_bf c18 hX
          refine lv_iload hx hb dX10_done_107 (lv_at hl 4 rfl) ?_
          refine lv_iconst (v := nI 1) hx hb dX10_done_109 (by decide) ?_
          refine lv_aload_n hx hb dX10_done_110 rfl (lv_at hl 1 rfl) ?_
          refine fg_X10_63 X hS (hN) dX10_done_111 ?_
          refine lv_iload hx hb dX10_done_114 (lv_at hl 5 rfl) ?_
          obtain ⟨g19, hX⟩ := gin_of hX
          refine r_iald (ci := 10) (o := 100) (k := 43) (n := 6) X hS (hN) rfl rfl g19 dX10_done_116 ?_
          refine lv_ishl hx hb dX10_done_117 ?_
          refine lv_ior hx hb dX10_done_118 ?_
          refine lv_topi (fun v20 ev20 => ?_)
          have hX := nm_of ev20 hX
          refine lv_istore (lv' := [(6, .int v20), (5, .int v10), (0, .ref (ad 100 0)), (3, .int a3), (4, .int a4), (7, .int v_7)]) hx hb dX10_done_119 hl (by decide) rfl (fun ls hl => ?_)
          obtain ⟨v21, ev21⟩ : ∃ y : Int32, y = (v_7 + (-1)) := ⟨_, rfl⟩
          have hX := nm_of ev21 hX
          refine lv_iinc (v := v21) (lv' := [(7, .int v21), (6, .int v20), (5, .int v10), (0, .ref (ad 100 0)), (3, .int a3), (4, .int a4)]) hx hb dX10_done_121 hl (k := 5) rfl (by rw [ev21]; rfl) (by decide) rfl (fun ls hl => ?_)
          refine lv_goto (tgt := 52) hx hb dX10_done_124 (by decide) ?_
          exact ih _ _ _ _ _ hX _ _ _ (lv_sub hl [3, 4, 5, 2, 1, 0] rfl) hS
        · have hX := if_bt c18 hX
          refine lv_iconst (v := (-1)) hx hb dX10_done_105 (by decide) ?_
          obtain rfl := some_of hX
          exact x_I (v := (-1)) X hS dX10_done_106
set_option maxRecDepth 100000 in
set_option maxHeartbeats 4000000 in
theorem m_X10_done {l : Launch} {D : va_G} {cy : Nat → ClassId} {ad : Nat → Nat → Nat} {ns : List (Nat × Nat)} {A : Nat → Prop} {M : Mem} (hN : Ob ns 10 100) {a1 : Int32} {a2 : Int32} {a3 : Int32} {a4 : Int32} {r : Int32 × Mem} (hX : f_X10_done M a1 a2 a3 a4 = some r) : Ct l yX10_done cX10_done 8 ((some .int)) rm_X10_done D cy ad ns A [.ref (ad 100 0), .int a1, .int a2, .int a3, .int a4] M r.2 (some (.int r.1)) := by
  refine ct_of (lv := [(0, .ref (ad 100 0)), (1, .int a1), (2, .int a2), (3, .int a3), (4, .int a4)]) (by decide) (Nat.le_of_ble_eq_true rfl) rfl ?_
  intro p e s m args below meth c ls X hl hS
  obtain ⟨hx, hb, hml, hown, hts, hK, hr, hlk, hA, hG⟩ := id X
  obtain ⟨H, hH⟩ : ∃ z, z = s.heap := ⟨_, rfl⟩
  obtain ⟨locs, hlo⟩ : ∃ z : List Loc, z = [] := ⟨_, rfl⟩
  have hS : St D cy ad ns A M s.heap H locs := by rw [hH, hlo]; exact hS
  have hgoal : W p l e rm_X10_done s m args below meth c H locs 0 0 (MQ below (QC D cy ad ns A r.2 (some (.int r.1))) args s 0 0 A) (F0 m 0 ls []) := by
    unfold f_X10_done at hX
    refine lv_aload_n hx hb dX10_done_0 rfl (lv_at hl 0 rfl) ?_
    refine lv_iconst (v := nI 0) hx hb dX10_done_1 (by decide) ?_
    refine fp_X10_94 X hS (hN) dX10_done_2 (fun H locs hS => ?_)
    obtain ⟨M22, eM22, hS, hX⟩ := nm_mem hS hX
    refine lv_aload_n hx hb dX10_done_5 rfl (lv_at hl 0 rfl) ?_
    refine lv_iload_n hx hb dX10_done_6 rfl (lv_at hl 1 rfl) ?_
    obtain ⟨r25, M24, h23, hX⟩ := bp_of hX
    refine r_callV1 (v := .int (b2i r25)) (As := [.int a1]) (rest := []) X hS (m_X10_layTown hN h23) mv_X10_layTown rfl (hN) t7_162 ⟨rfl, rfl, Nat.le_of_ble_eq_true rfl, Nat.le_of_ble_eq_true rfl⟩ rfl hl.1 rfl (Nat.le_of_ble_eq_true rfl) ⟨Nat.zero_le _, Nat.zero_le _⟩ dX10_done_7 (fun H locs hS => ?_)
    refine lv_if_eq (tgt := 39) hx hb dX10_done_10 (by decide) (fun c26 => ?_) (fun c26 => ?_)
    · have hX := if_bf c26 hX
      refine lv_iconst (v := (-1)) hx hb dX10_done_39 (by decide) ?_
      obtain rfl := some_of hX
      exact x_I (v := (-1)) X hS dX10_done_40
    · have hX := if_bt c26 hX
      refine lv_iload_n hx hb dX10_done_13 rfl (lv_at hl 3 rfl) ?_
      refine lv_iconst (v := nI 1) hx hb dX10_done_14 (by decide) ?_
      refine lv_bipush (v := nI 6) hx hb dX10_done_15 (by decide) ?_
      obtain ⟨r28, h27, hX⟩ := bn_of hX
      refine r_callS1 (v := .int (b2i r28)) (As := [.int a3, .int (nI 1), .int (nI 6)]) (rest := []) X hS (m_X10_in (M := M24) hN h27) ms_X10_in t6_81 ⟨rfl, rfl, Nat.le_of_ble_eq_true rfl, Nat.le_of_ble_eq_true rfl⟩ rfl hl.1 rfl (Nat.le_of_ble_eq_true rfl) ⟨Nat.zero_le _, Nat.zero_le _⟩ dX10_done_17 (fun H locs hS => ?_)
      refine lv_if_eq (tgt := 39) hx hb dX10_done_20 (by decide) (fun c29 => ?_) (fun c29 => ?_)
      · have hX := if_bf c29 hX
        refine lv_iconst (v := (-1)) hx hb dX10_done_39 (by decide) ?_
        obtain rfl := some_of hX
        exact x_I (v := (-1)) X hS dX10_done_40
      · have hX := if_bt c29 hX
        refine lv_iload hx hb dX10_done_23 (lv_at hl 4 rfl) ?_
        refine lv_iconst (v := nI 0) hx hb dX10_done_25 (by decide) ?_
        refine lv_iload_n hx hb dX10_done_26 rfl (lv_at hl 3 rfl) ?_
        refine lv_iconst (v := nI 1) hx hb dX10_done_27 (by decide) ?_
        refine lv_isub hx hb dX10_done_28 ?_
        obtain ⟨r31, h30, hX⟩ := bn_of hX
        refine r_callS1 (v := .int (b2i r31)) (As := [.int a4, .int (nI 0), .int (a3 - (nI 1))]) (rest := []) X hS (m_X10_in (M := M24) hN h30) ms_X10_in t6_81 ⟨rfl, rfl, Nat.le_of_ble_eq_true rfl, Nat.le_of_ble_eq_true rfl⟩ rfl hl.1 rfl (Nat.le_of_ble_eq_true rfl) ⟨Nat.zero_le _, Nat.zero_le _⟩ dX10_done_29 (fun H locs hS => ?_)
        refine lv_if_eq (tgt := 39) hx hb dX10_done_32 (by decide) (fun c32 => ?_) (fun c32 => ?_)
        · have hX := if_bf c32 hX
          refine lv_iconst (v := (-1)) hx hb dX10_done_39 (by decide) ?_
          obtain rfl := some_of hX
          exact x_I (v := (-1)) X hS dX10_done_40
        · have hX := if_bt c32 hX
          refine lv_iload_n hx hb dX10_done_35 rfl (lv_at hl 2 rfl) ?_
          refine lv_if_ge (tgt := 41) hx hb dX10_done_36 (by decide) (fun c33 => ?_) (fun c33 => ?_)
          · have hX := if_t c33 hX
            refine lv_iload_n hx hb dX10_done_41 rfl (lv_at hl 2 rfl) ?_
            refine lv_istore (lv' := [(5, .int a2), (0, .ref (ad 100 0)), (1, .int a1), (2, .int a2), (3, .int a3), (4, .int a4)]) hx hb dX10_done_42 hl (by decide) rfl (fun ls hl => ?_)
            refine lv_iconst (v := nI 0) hx hb dX10_done_44 (by decide) ?_
            refine lv_istore (lv' := [(6, .int (nI 0)), (5, .int a2), (0, .ref (ad 100 0)), (1, .int a1), (2, .int a2), (3, .int a3), (4, .int a4)]) hx hb dX10_done_45 hl (by decide) rfl (fun ls hl => ?_)
            refine lv_iload_n hx hb dX10_done_47 rfl (lv_at hl 5 rfl) ?_
            refine lv_iconst (v := nI 1) hx hb dX10_done_48 (by decide) ?_
            refine lv_isub hx hb dX10_done_49 ?_
            refine lv_topi (fun v34 ev34 => ?_)
            have hX := nm_of ev34 hX
            refine lv_istore (lv' := [(7, .int v34), (6, .int (nI 0)), (5, .int a2), (0, .ref (ad 100 0)), (1, .int a1), (2, .int a2), (3, .int a3), (4, .int a4)]) hx hb dX10_done_50 hl (by decide) rfl (fun ls hl => ?_)
            exact n_X10_done_52 X hN _ _ _ _ _ _ hX _ _ _ (lv_sub hl [3, 6, 7, 2, 1, 0] rfl) hS
          · have hX := if_f c33 hX
            refine lv_iconst (v := (-1)) hx hb dX10_done_39 (by decide) ?_
            obtain rfl := some_of hX
            exact x_I (v := (-1)) X hS dX10_done_40
  rw [hH, hlo] at hgoal
  exact hgoal
theorem mv_X10_done : Mv yX10_done RX10 cX10_done 8 ((some .int)) 4 := ⟨t7_177, t7_175, t7_176, t1_11, ⟨by decide, by decide⟩, by decide +kernel⟩
/-! SewnYearModel.firstRow()V -/
def rm_X10_firstRow : Room := { frames := 0, cells := 0, slots := 0, locals := 0 }
def b_X10_firstRow_2 (rc : Int32 → Mem → Option (Mem)) (v_1 : Int32) (M : Mem) : Option (Mem) :=
  if (gI M 100 40) ≤ v_1 then (some M) else (gin v_1 6 <| nm (sA M 100 43 (ix v_1) v_1) fun M3 => nm (v_1 + nI 1) fun v4 => rc v4 M3)
def f_X10_firstRow_2 : Nat → (Int32 × Mem) → Option (Mem) := lp (fun rc q => b_X10_firstRow_2 (fun x0 x1 => rc (x0, x1)) q.1 q.2)
def f_X10_firstRow (M : Mem) : Option (Mem) :=
  f_X10_firstRow_2 FU ((nI 0), M)
set_option maxRecDepth 100000 in
set_option maxHeartbeats 4000000 in
theorem n_X10_firstRow_2 (X : Cx p s m args meth c D cy ad A RX10 cX10_firstRow 2 ((none : Option Jvm.ClassFile.FieldType))) (hN : Ob ns 10 100) : ∀ (n : Nat) (v_1 : Int32) (M : Mem) (r : Mem), f_X10_firstRow_2 n (v_1, M) = some r → ∀ (ls : Array Slot) (H : Heap) (locs : List Loc), lv_has ls 2 [(0, .ref (ad 100 0)), (1, .int v_1)] → St D cy ad ns A M s.heap H locs → W p l e rm_X10_firstRow s m args below meth c H locs 0 0 (MQ below (QC D cy ad ns A r none) args s 0 0 A) (F0 m 2 ls []) := by
  obtain ⟨hx, hb, hml, hown, hts, hK, hr, hlk, hA, hG⟩ := id X
  intro n
  induction n with
  | zero => intro v_1 M r hX; cases (show (none : Option (Mem)) = some r from hX)
  | succ n ih =>
    intro v_1 M r hX ls H locs hl hS
    have hX : b_X10_firstRow_2 (fun x0 x1 => f_X10_firstRow_2 n (x0, x1)) v_1 M = some r := hX
    unfold b_X10_firstRow_2 at hX
    refine lv_iload_n hx hb dX10_firstRow_2 rfl (lv_at hl 1 rfl) ?_
    refine lv_aload_n hx hb dX10_firstRow_3 rfl (lv_at hl 0 rfl) ?_
    refine fg_X10_429 X hS (hN) dX10_firstRow_4 ?_
    refine lv_icmp_ge (tgt := 23) hx hb dX10_firstRow_7 (by decide) (fun c1 => ?_) (fun c1 => ?_)
    · have hX := if_t c1 hX
      obtain rfl := some_of hX
      exact x_V X hS dX10_firstRow_23
    · have hX := if_f c1 hX
      refine lv_aload_n hx hb dX10_firstRow_10 rfl (lv_at hl 0 rfl) ?_
      refine fg_X10_63 X hS (hN) dX10_firstRow_11 ?_
      refine lv_iload_n hx hb dX10_firstRow_14 rfl (lv_at hl 1 rfl) ?_
      refine lv_iload_n hx hb dX10_firstRow_15 rfl (lv_at hl 1 rfl) ?_
      obtain ⟨g2, hX⟩ := gin_of hX
      refine r_iast (ci := 10) (o := 100) (k := 43) (n := 6) X hS (hN) rfl rfl g2 dX10_firstRow_16 (fun H locs hS => ?_)
      obtain ⟨M3, eM3, hS, hX⟩ := nm_mem hS hX
      obtain ⟨v4, ev4⟩ : ∃ y : Int32, y = (v_1 + nI 1) := ⟨_, rfl⟩
      have hX := nm_of ev4 hX
      refine lv_iinc (v := v4) (lv' := [(1, .int v4), (0, .ref (ad 100 0))]) hx hb dX10_firstRow_17 hl (k := 1) rfl (by rw [ev4]; rfl) (by decide) rfl (fun ls hl => ?_)
      refine lv_goto (tgt := 2) hx hb dX10_firstRow_20 (by decide) ?_
      exact ih _ _ _ hX _ _ _ (lv_sub hl [1, 0] rfl) hS
set_option maxRecDepth 100000 in
set_option maxHeartbeats 4000000 in
theorem m_X10_firstRow {l : Launch} {D : va_G} {cy : Nat → ClassId} {ad : Nat → Nat → Nat} {ns : List (Nat × Nat)} {A : Nat → Prop} {M : Mem} (hN : Ob ns 10 100) {r : Mem} (hX : f_X10_firstRow M = some r) : Ct l yX10_firstRow cX10_firstRow 2 ((none : Option Jvm.ClassFile.FieldType)) rm_X10_firstRow D cy ad ns A [.ref (ad 100 0)] M r none := by
  refine ct_of (lv := [(0, .ref (ad 100 0))]) (by decide) (Nat.le_of_ble_eq_true rfl) rfl ?_
  intro p e s m args below meth c ls X hl hS
  obtain ⟨hx, hb, hml, hown, hts, hK, hr, hlk, hA, hG⟩ := id X
  obtain ⟨H, hH⟩ : ∃ z, z = s.heap := ⟨_, rfl⟩
  obtain ⟨locs, hlo⟩ : ∃ z : List Loc, z = [] := ⟨_, rfl⟩
  have hS : St D cy ad ns A M s.heap H locs := by rw [hH, hlo]; exact hS
  have hgoal : W p l e rm_X10_firstRow s m args below meth c H locs 0 0 (MQ below (QC D cy ad ns A r none) args s 0 0 A) (F0 m 0 ls []) := by
    unfold f_X10_firstRow at hX
    refine lv_iconst (v := nI 0) hx hb dX10_firstRow_0 (by decide) ?_
    refine lv_istore_n (lv' := [(1, .int (nI 0)), (0, .ref (ad 100 0))]) hx hb dX10_firstRow_1 rfl hl (by decide) rfl (fun ls hl => ?_)
    exact n_X10_firstRow_2 X hN _ _ _ _ hX _ _ _ (lv_sub hl [1, 0] rfl) hS
  rw [hH, hlo] at hgoal
  exact hgoal
theorem mv_X10_firstRow : Mv yX10_firstRow RX10 cX10_firstRow 2 ((none : Option Jvm.ClassFile.FieldType)) 0 := ⟨t7_205, t7_204, ts_74, t1_11, ⟨by decide, by decide⟩, by decide +kernel⟩
/-! SewnYearModel.swap(II)V -/
def rm_X10_swap : Room := { frames := 0, cells := 0, slots := 0, locals := 0 }
def f_X10_swap (M : Mem) (a1 : Int32) (a2 : Int32) : Option (Mem) :=
  gin a1 6 <| nm (gA M 100 43 (ix a1)) fun v2 => gin a2 6 <| gin a1 6 <| nm (sA M 100 43 (ix a1) (gA M 100 43 (ix a2))) fun M5 => gin a2 6 <| nm (sA M5 100 43 (ix a2) v2) fun M7 => some M7
set_option maxRecDepth 100000 in
set_option maxHeartbeats 4000000 in
theorem m_X10_swap {l : Launch} {D : va_G} {cy : Nat → ClassId} {ad : Nat → Nat → Nat} {ns : List (Nat × Nat)} {A : Nat → Prop} {M : Mem} (hN : Ob ns 10 100) {a1 : Int32} {a2 : Int32} {r : Mem} (hX : f_X10_swap M a1 a2 = some r) : Ct l yX10_swap cX10_swap 4 ((none : Option Jvm.ClassFile.FieldType)) rm_X10_swap D cy ad ns A [.ref (ad 100 0), .int a1, .int a2] M r none := by
  refine ct_of (lv := [(0, .ref (ad 100 0)), (1, .int a1), (2, .int a2)]) (by decide) (Nat.le_of_ble_eq_true rfl) rfl ?_
  intro p e s m args below meth c ls X hl hS
  obtain ⟨hx, hb, hml, hown, hts, hK, hr, hlk, hA, hG⟩ := id X
  obtain ⟨H, hH⟩ : ∃ z, z = s.heap := ⟨_, rfl⟩
  obtain ⟨locs, hlo⟩ : ∃ z : List Loc, z = [] := ⟨_, rfl⟩
  have hS : St D cy ad ns A M s.heap H locs := by rw [hH, hlo]; exact hS
  have hgoal : W p l e rm_X10_swap s m args below meth c H locs 0 0 (MQ below (QC D cy ad ns A r none) args s 0 0 A) (F0 m 0 ls []) := by
    unfold f_X10_swap at hX
    refine lv_aload_n hx hb dX10_swap_0 rfl (lv_at hl 0 rfl) ?_
    refine fg_X10_63 X hS (hN) dX10_swap_1 ?_
    refine lv_iload_n hx hb dX10_swap_4 rfl (lv_at hl 1 rfl) ?_
    obtain ⟨g1, hX⟩ := gin_of hX
    refine r_iald (ci := 10) (o := 100) (k := 43) (n := 6) X hS (hN) rfl rfl g1 dX10_swap_5 ?_
    refine lv_topi (fun v2 ev2 => ?_)
    have hX := nm_of ev2 hX
    refine lv_istore_n (lv' := [(3, .int v2), (0, .ref (ad 100 0)), (1, .int a1), (2, .int a2)]) hx hb dX10_swap_6 rfl hl (by decide) rfl (fun ls hl => ?_)
    refine lv_aload_n hx hb dX10_swap_7 rfl (lv_at hl 1 rfl) ?_
    refine fg_X10_63 X hS (hN) dX10_swap_8 ?_
    refine lv_iload_n hx hb dX10_swap_11 rfl (lv_at hl 2 rfl) ?_
    refine lv_aload_n hx hb dX10_swap_12 rfl (lv_at hl 1 rfl) ?_
    refine fg_X10_63 X hS (hN) dX10_swap_13 ?_
    refine lv_iload_n hx hb dX10_swap_16 rfl (lv_at hl 3 rfl) ?_
    obtain ⟨g3, hX⟩ := gin_of hX
    refine r_iald (ci := 10) (o := 100) (k := 43) (n := 6) X hS (hN) rfl rfl g3 dX10_swap_17 ?_
    obtain ⟨g4, hX⟩ := gin_of hX
    refine r_iast (ci := 10) (o := 100) (k := 43) (n := 6) X hS (hN) rfl rfl g4 dX10_swap_18 (fun H locs hS => ?_)
    obtain ⟨M5, eM5, hS, hX⟩ := nm_mem hS hX
    refine lv_aload_n hx hb dX10_swap_19 rfl (lv_at hl 1 rfl) ?_
    refine fg_X10_63 X hS (hN) dX10_swap_20 ?_
    refine lv_iload_n hx hb dX10_swap_23 rfl (lv_at hl 3 rfl) ?_
    refine lv_iload_n hx hb dX10_swap_24 rfl (lv_at hl 0 rfl) ?_
    obtain ⟨g6, hX⟩ := gin_of hX
    refine r_iast (ci := 10) (o := 100) (k := 43) (n := 6) X hS (hN) rfl rfl g6 dX10_swap_25 (fun H locs hS => ?_)
    obtain ⟨M7, eM7, hS, hX⟩ := nm_mem hS hX
    obtain rfl := some_of hX
    exact x_V X hS dX10_swap_26
  rw [hH, hlo] at hgoal
  exact hgoal
theorem mv_X10_swap : Mv yX10_swap RX10 cX10_swap 4 ((none : Option Jvm.ClassFile.FieldType)) 2 := ⟨t7_221, t7_220, ts_78, t1_11, ⟨by decide, by decide⟩, by decide +kernel⟩
/-! SewnYearModel.nextRow()Z -/
def rm_X10_nextRow : Room := { frames := 1, cells := 0, slots := 0, locals := 23 }
def b_X10_nextRow_86 (rc : Int32 → Int32 → Mem → Option (Bool × Mem)) (v_3 : Int32) (v_4 : Int32) (M : Mem) : Option (Bool × Mem) :=
  if v_4 ≤ v_3 then (some (true, M)) else (bn (f_X10_swap M v_3 v_4) fun M3 => nm (v_3 + nI 1) fun v4 => nm (v_4 + (-1)) fun v5 => rc v4 v5 M3)
def f_X10_nextRow_86 : Nat → (Int32 × Int32 × Mem) → Option (Bool × Mem) := lp (fun rc q => b_X10_nextRow_86 (fun x0 x1 x2 => rc (x0, x1, x2)) q.1 q.2.1 q.2.2)
def b_X10_nextRow_47 (v_1 : Int32) (rc : Int32 → Mem → Option (Bool × Mem)) (v_2 : Int32) (M : Mem) : Option (Bool × Mem) :=
  gin v_2 6 <| gin v_1 6 <| if (gA M 100 43 (ix v_1)) ≤ (gA M 100 43 (ix v_2)) then (bn (f_X10_swap M v_1 v_2) fun M10 => nm (v_1 + (nI 1)) fun v11 => nm ((gI M10 100 40) - (nI 1)) fun v12 => f_X10_nextRow_86 FU (v11, v12, M10)) else (nm (v_2 + (-1)) fun v13 => rc v13 M)
def f_X10_nextRow_47 (v_1 : Int32) : Nat → (Int32 × Mem) → Option (Bool × Mem) := lp (fun rc q => b_X10_nextRow_47 v_1 (fun x0 x1 => rc (x0, x1)) q.1 q.2)
def f_X10_nextRow_34 (v_1 : Int32) (M : Mem) : Option (Bool × Mem) :=
  if (nI 0) ≤ v_1 then (nm ((gI M 100 40) - (nI 1)) fun v15 => f_X10_nextRow_47 v_1 FU (v15, M)) else (some (false, M))
def b_X10_nextRow_7 (rc : Int32 → Mem → Option (Bool × Mem)) (v_1 : Int32) (M : Mem) : Option (Bool × Mem) :=
  if v_1 < (nI 0) then (f_X10_nextRow_34 v_1 M) else (gin v_1 6 <| gin (v_1 + (nI 1)) 6 <| if (gA M 100 43 (ix v_1)) ≤ (gA M 100 43 (ix (v_1 + (nI 1)))) then (f_X10_nextRow_34 v_1 M) else (nm (v_1 + (-1)) fun v20 => rc v20 M))
def f_X10_nextRow_7 : Nat → (Int32 × Mem) → Option (Bool × Mem) := lp (fun rc q => b_X10_nextRow_7 (fun x0 x1 => rc (x0, x1)) q.1 q.2)
def f_X10_nextRow (M : Mem) : Option (Bool × Mem) :=
  nm ((gI M 100 40) - (nI 2)) fun v21 => f_X10_nextRow_7 FU (v21, M)
set_option maxRecDepth 100000 in
set_option maxHeartbeats 4000000 in
theorem n_X10_nextRow_86 (X : Cx p s m args meth c D cy ad A RX10 cX10_nextRow 5 ((some .boolean))) (hN : Ob ns 10 100) : ∀ (n : Nat) (v_3 : Int32) (v_4 : Int32) (M : Mem) (r : Bool × Mem), f_X10_nextRow_86 n (v_3, v_4, M) = some r → ∀ (ls : Array Slot) (H : Heap) (locs : List Loc), lv_has ls 5 [(0, .ref (ad 100 0)), (3, .int v_3), (4, .int v_4)] → St D cy ad ns A M s.heap H locs → W p l e rm_X10_nextRow s m args below meth c H locs 0 0 (MQ below (QC D cy ad ns A r.2 (some (.int (b2i r.1)))) args s 0 0 A) (F0 m 86 ls []) := by
  obtain ⟨hx, hb, hml, hown, hts, hK, hr, hlk, hA, hG⟩ := id X
  intro n
  induction n with
  | zero => intro v_3 v_4 M r hX; cases (show (none : Option (Bool × Mem)) = some r from hX)
  | succ n ih =>
    intro v_3 v_4 M r hX ls H locs hl hS
    have hX : b_X10_nextRow_86 (fun x0 x1 x2 => f_X10_nextRow_86 n (x0, x1, x2)) v_3 v_4 M = some r := hX
    unfold b_X10_nextRow_86 at hX
    refine lv_iload_n hx hb dX10_nextRow_86 rfl (lv_at hl 1 rfl) ?_
    refine lv_iload hx hb dX10_nextRow_87 (lv_at hl 2 rfl) ?_
    refine lv_icmp_ge (tgt := 108) hx hb dX10_nextRow_89 (by decide) (fun c1 => ?_) (fun c1 => ?_)
    · have hX := if_t c1 hX
      refine lv_iconst (v := nI 1) hx hb dX10_nextRow_108 (by decide) ?_
      obtain rfl := some_of hX
      exact x_Z (v := true) X hS dX10_nextRow_109
    · have hX := if_f c1 hX
      refine lv_aload_n hx hb dX10_nextRow_92 rfl (lv_at hl 0 rfl) ?_
      refine lv_iload_n hx hb dX10_nextRow_93 rfl (lv_at hl 1 rfl) ?_
      refine lv_iload hx hb dX10_nextRow_94 (lv_at hl 2 rfl) ?_
      obtain ⟨M3, h2, hX⟩ := bn_of hX
      refine r_callV0 (As := [.int v_3, .int v_4]) (rest := []) X hS (m_X10_swap hN h2) mv_X10_swap rfl (hN) t7_218 ⟨rfl, rfl, Nat.le_of_ble_eq_true rfl, Nat.le_of_ble_eq_true rfl⟩ rfl hl.1 rfl (Nat.le_of_ble_eq_true rfl) ⟨Nat.zero_le _, Nat.zero_le _⟩ dX10_nextRow_96 (fun H locs hS => ?_)
      obtain ⟨v4, ev4⟩ : ∃ y : Int32, y = (v_3 + nI 1) := ⟨_, rfl⟩
      have hX := nm_of ev4 hX
      refine lv_iinc (v := v4) (lv' := [(3, .int v4), (0, .ref (ad 100 0)), (4, .int v_4)]) hx hb dX10_nextRow_99 hl (k := 1) rfl (by rw [ev4]; rfl) (by decide) rfl (fun ls hl => ?_)
      obtain ⟨v5, ev5⟩ : ∃ y : Int32, y = (v_4 + (-1)) := ⟨_, rfl⟩
      have hX := nm_of ev5 hX
      refine lv_iinc (v := v5) (lv' := [(4, .int v5), (3, .int v4), (0, .ref (ad 100 0))]) hx hb dX10_nextRow_102 hl (k := 2) rfl (by rw [ev5]; rfl) (by decide) rfl (fun ls hl => ?_)
      refine lv_goto (tgt := 86) hx hb dX10_nextRow_105 (by decide) ?_
      exact ih _ _ _ _ hX _ _ _ (lv_sub hl [2, 1, 0] rfl) hS
set_option maxRecDepth 100000 in
set_option maxHeartbeats 4000000 in
theorem n_X10_nextRow_47 (X : Cx p s m args meth c D cy ad A RX10 cX10_nextRow 5 ((some .boolean))) (hN : Ob ns 10 100) {v_1 : Int32} : ∀ (n : Nat) (v_2 : Int32) (M : Mem) (r : Bool × Mem), f_X10_nextRow_47 v_1 n (v_2, M) = some r → ∀ (ls : Array Slot) (H : Heap) (locs : List Loc), lv_has ls 5 [(0, .ref (ad 100 0)), (1, .int v_1), (2, .int v_2)] → St D cy ad ns A M s.heap H locs → W p l e rm_X10_nextRow s m args below meth c H locs 0 0 (MQ below (QC D cy ad ns A r.2 (some (.int (b2i r.1)))) args s 0 0 A) (F0 m 47 ls []) := by
  obtain ⟨hx, hb, hml, hown, hts, hK, hr, hlk, hA, hG⟩ := id X
  intro n
  induction n with
  | zero => intro v_2 M r hX; cases (show (none : Option (Bool × Mem)) = some r from hX)
  | succ n ih =>
    intro v_2 M r hX ls H locs hl hS
    have hX : b_X10_nextRow_47 v_1 (fun x0 x1 => f_X10_nextRow_47 v_1 n (x0, x1)) v_2 M = some r := hX
    unfold b_X10_nextRow_47 at hX
    refine lv_aload_n hx hb dX10_nextRow_47 rfl (lv_at hl 0 rfl) ?_
    refine fg_X10_63 X hS (hN) dX10_nextRow_48 ?_
    refine lv_iload_n hx hb dX10_nextRow_51 rfl (lv_at hl 2 rfl) ?_
    obtain ⟨g6, hX⟩ := gin_of hX
    refine r_iald (ci := 10) (o := 100) (k := 43) (n := 6) X hS (hN) rfl rfl g6 dX10_nextRow_52 ?_
    refine lv_aload_n hx hb dX10_nextRow_53 rfl (lv_at hl 0 rfl) ?_
    refine fg_X10_63 X hS (hN) dX10_nextRow_54 ?_
    refine lv_iload_n hx hb dX10_nextRow_57 rfl (lv_at hl 1 rfl) ?_
    obtain ⟨g7, hX⟩ := gin_of hX
    refine r_iald (ci := 10) (o := 100) (k := 43) (n := 6) X hS (hN) rfl rfl g7 dX10_nextRow_58 ?_
    refine lv_icmp_ge (tgt := 68) hx hb dX10_nextRow_59 (by decide) (fun c8 => ?_) (fun c8 => ?_)
    · have hX := if_t c8 hX
      refine lv_aload_n hx hb dX10_nextRow_68 rfl (lv_at hl 0 rfl) ?_
      refine lv_iload_n hx hb dX10_nextRow_69 rfl (lv_at hl 1 rfl) ?_
      refine lv_iload_n hx hb dX10_nextRow_70 rfl (lv_at hl 2 rfl) ?_
      obtain ⟨M10, h9, hX⟩ := bn_of hX
      refine r_callV0 (As := [.int v_1, .int v_2]) (rest := []) X hS (m_X10_swap hN h9) mv_X10_swap rfl (hN) t7_218 ⟨rfl, rfl, Nat.le_of_ble_eq_true rfl, Nat.le_of_ble_eq_true rfl⟩ rfl hl.1 rfl (Nat.le_of_ble_eq_true rfl) ⟨Nat.zero_le _, Nat.zero_le _⟩ dX10_nextRow_71 (fun H locs hS => ?_)
      refine lv_iload_n hx hb dX10_nextRow_74 rfl (lv_at hl 1 rfl) ?_
      refine lv_iconst (v := nI 1) hx hb dX10_nextRow_75 (by decide) ?_
      refine lv_iadd hx hb dX10_nextRow_76 ?_
      refine lv_topi (fun v11 ev11 => ?_)
      have hX := nm_of ev11 hX
      refine lv_istore_n (lv' := [(3, .int v11), (0, .ref (ad 100 0)), (1, .int v_1), (2, .int v_2)]) hx hb dX10_nextRow_77 rfl hl (by decide) rfl (fun ls hl => ?_)
      refine lv_aload_n hx hb dX10_nextRow_78 rfl (lv_at hl 1 rfl) ?_
      refine fg_X10_429 X hS (hN) dX10_nextRow_79 ?_
      refine lv_iconst (v := nI 1) hx hb dX10_nextRow_82 (by decide) ?_
      refine lv_isub hx hb dX10_nextRow_83 ?_
      refine lv_topi (fun v12 ev12 => ?_)
      have hX := nm_of ev12 hX
      refine lv_istore (lv' := [(4, .int v12), (3, .int v11), (0, .ref (ad 100 0)), (1, .int v_1), (2, .int v_2)]) hx hb dX10_nextRow_84 hl (by decide) rfl (fun ls hl => ?_)
      exact n_X10_nextRow_86 X hN _ _ _ _ _ hX _ _ _ (lv_sub hl [2, 1, 0] rfl) hS
    · have hX := if_f c8 hX
      obtain ⟨v13, ev13⟩ : ∃ y : Int32, y = (v_2 + (-1)) := ⟨_, rfl⟩
      have hX := nm_of ev13 hX
      refine lv_iinc (v := v13) (lv' := [(2, .int v13), (0, .ref (ad 100 0)), (1, .int v_1)]) hx hb dX10_nextRow_62 hl (k := 2) rfl (by rw [ev13]; rfl) (by decide) rfl (fun ls hl => ?_)
      refine lv_goto (tgt := 47) hx hb dX10_nextRow_65 (by decide) ?_
      exact ih _ _ _ hX _ _ _ (lv_sub hl [1, 2, 0] rfl) hS
set_option maxRecDepth 100000 in
set_option maxHeartbeats 4000000 in
theorem n_X10_nextRow_34 (X : Cx p s m args meth c D cy ad A RX10 cX10_nextRow 5 ((some .boolean))) (hN : Ob ns 10 100) {v_1 : Int32} {M : Mem} {r : Bool × Mem} (hX : f_X10_nextRow_34 v_1 M = some r) : ∀ (ls : Array Slot) (H : Heap) (locs : List Loc), lv_has ls 5 [(0, .ref (ad 100 0)), (1, .int v_1)] → St D cy ad ns A M s.heap H locs → W p l e rm_X10_nextRow s m args below meth c H locs 0 0 (MQ below (QC D cy ad ns A r.2 (some (.int (b2i r.1)))) args s 0 0 A) (F0 m 34 ls []) := by
  obtain ⟨hx, hb, hml, hown, hts, hK, hr, hlk, hA, hG⟩ := id X
  intro ls H locs hl hS
  unfold f_X10_nextRow_34 at hX
  refine lv_iload_n hx hb dX10_nextRow_34 rfl (lv_at hl 1 rfl) ?_
  refine lv_if_ge (tgt := 40) hx hb dX10_nextRow_35 (by decide) (fun c14 => ?_) (fun c14 => ?_)
  · have hX := if_t c14 hX
    refine lv_aload_n hx hb dX10_nextRow_40 rfl (lv_at hl 0 rfl) ?_
    refine fg_X10_429 X hS (hN) dX10_nextRow_41 ?_
    refine lv_iconst (v := nI 1) hx hb dX10_nextRow_44 (by decide) ?_
    refine lv_isub hx hb dX10_nextRow_45 ?_
    refine lv_topi (fun v15 ev15 => ?_)
    have hX := nm_of ev15 hX
    refine lv_istore_n (lv' := [(2, .int v15), (0, .ref (ad 100 0)), (1, .int v_1)]) hx hb dX10_nextRow_46 rfl hl (by decide) rfl (fun ls hl => ?_)
    exact n_X10_nextRow_47 X hN _ _ _ _ hX _ _ _ (lv_sub hl [1, 2, 0] rfl) hS
  · have hX := if_f c14 hX
    refine lv_iconst (v := nI 0) hx hb dX10_nextRow_38 (by decide) ?_
    obtain rfl := some_of hX
    exact x_Z (v := false) X hS dX10_nextRow_39
set_option maxRecDepth 100000 in
set_option maxHeartbeats 4000000 in
theorem n_X10_nextRow_7 (X : Cx p s m args meth c D cy ad A RX10 cX10_nextRow 5 ((some .boolean))) (hN : Ob ns 10 100) : ∀ (n : Nat) (v_1 : Int32) (M : Mem) (r : Bool × Mem), f_X10_nextRow_7 n (v_1, M) = some r → ∀ (ls : Array Slot) (H : Heap) (locs : List Loc), lv_has ls 5 [(0, .ref (ad 100 0)), (1, .int v_1)] → St D cy ad ns A M s.heap H locs → W p l e rm_X10_nextRow s m args below meth c H locs 0 0 (MQ below (QC D cy ad ns A r.2 (some (.int (b2i r.1)))) args s 0 0 A) (F0 m 7 ls []) := by
  obtain ⟨hx, hb, hml, hown, hts, hK, hr, hlk, hA, hG⟩ := id X
  intro n
  induction n with
  | zero => intro v_1 M r hX; cases (show (none : Option (Bool × Mem)) = some r from hX)
  | succ n ih =>
    intro v_1 M r hX ls H locs hl hS
    have hX : b_X10_nextRow_7 (fun x0 x1 => f_X10_nextRow_7 n (x0, x1)) v_1 M = some r := hX
    unfold b_X10_nextRow_7 at hX
    refine lv_iload_n hx hb dX10_nextRow_7 rfl (lv_at hl 1 rfl) ?_
    refine lv_if_lt (tgt := 34) hx hb dX10_nextRow_8 (by decide) (fun c16 => ?_) (fun c16 => ?_)
    · have hX := if_t c16 hX
      exact n_X10_nextRow_34 X hN hX _ _ _ (lv_sub hl [0, 1] rfl) hS
    · have hX := if_f c16 hX
      refine lv_aload_n hx hb dX10_nextRow_11 rfl (lv_at hl 0 rfl) ?_
      refine fg_X10_63 X hS (hN) dX10_nextRow_12 ?_
      refine lv_iload_n hx hb dX10_nextRow_15 rfl (lv_at hl 1 rfl) ?_
      obtain ⟨g17, hX⟩ := gin_of hX
      refine r_iald (ci := 10) (o := 100) (k := 43) (n := 6) X hS (hN) rfl rfl g17 dX10_nextRow_16 ?_
      refine lv_aload_n hx hb dX10_nextRow_17 rfl (lv_at hl 0 rfl) ?_
      refine fg_X10_63 X hS (hN) dX10_nextRow_18 ?_
      refine lv_iload_n hx hb dX10_nextRow_21 rfl (lv_at hl 1 rfl) ?_
      refine lv_iconst (v := nI 1) hx hb dX10_nextRow_22 (by decide) ?_
      refine lv_iadd hx hb dX10_nextRow_23 ?_
      obtain ⟨g18, hX⟩ := gin_of hX
      refine r_iald (ci := 10) (o := 100) (k := 43) (n := 6) X hS (hN) rfl rfl g18 dX10_nextRow_24 ?_
      refine lv_icmp_le (tgt := 34) hx hb dX10_nextRow_25 (by decide) (fun c19 => ?_) (fun c19 => ?_)
      · have hX := if_t c19 hX
        exact n_X10_nextRow_34 X hN hX _ _ _ (lv_sub hl [0, 1] rfl) hS
      · have hX := if_f c19 hX
        obtain ⟨v20, ev20⟩ : ∃ y : Int32, y = (v_1 + (-1)) := ⟨_, rfl⟩
        have hX := nm_of ev20 hX
        refine lv_iinc (v := v20) (lv' := [(1, .int v20), (0, .ref (ad 100 0))]) hx hb dX10_nextRow_28 hl (k := 1) rfl (by rw [ev20]; rfl) (by decide) rfl (fun ls hl => ?_)
        refine lv_goto (tgt := 7) hx hb dX10_nextRow_31 (by decide) ?_
        exact ih _ _ _ hX _ _ _ (lv_sub hl [1, 0] rfl) hS
set_option maxRecDepth 100000 in
set_option maxHeartbeats 4000000 in
theorem m_X10_nextRow {l : Launch} {D : va_G} {cy : Nat → ClassId} {ad : Nat → Nat → Nat} {ns : List (Nat × Nat)} {A : Nat → Prop} {M : Mem} (hN : Ob ns 10 100) {r : Bool × Mem} (hX : f_X10_nextRow M = some r) : Ct l yX10_nextRow cX10_nextRow 5 ((some .boolean)) rm_X10_nextRow D cy ad ns A [.ref (ad 100 0)] M r.2 (some (.int (b2i r.1))) := by
  refine ct_of (lv := [(0, .ref (ad 100 0))]) (by decide) (Nat.le_of_ble_eq_true rfl) rfl ?_
  intro p e s m args below meth c ls X hl hS
  obtain ⟨hx, hb, hml, hown, hts, hK, hr, hlk, hA, hG⟩ := id X
  obtain ⟨H, hH⟩ : ∃ z, z = s.heap := ⟨_, rfl⟩
  obtain ⟨locs, hlo⟩ : ∃ z : List Loc, z = [] := ⟨_, rfl⟩
  have hS : St D cy ad ns A M s.heap H locs := by rw [hH, hlo]; exact hS
  have hgoal : W p l e rm_X10_nextRow s m args below meth c H locs 0 0 (MQ below (QC D cy ad ns A r.2 (some (.int (b2i r.1)))) args s 0 0 A) (F0 m 0 ls []) := by
    unfold f_X10_nextRow at hX
    refine lv_aload_n hx hb dX10_nextRow_0 rfl (lv_at hl 0 rfl) ?_
    refine fg_X10_429 X hS (hN) dX10_nextRow_1 ?_
    refine lv_iconst (v := nI 2) hx hb dX10_nextRow_4 (by decide) ?_
    refine lv_isub hx hb dX10_nextRow_5 ?_
    refine lv_topi (fun v21 ev21 => ?_)
    have hX := nm_of ev21 hX
    refine lv_istore_n (lv' := [(1, .int v21), (0, .ref (ad 100 0))]) hx hb dX10_nextRow_6 rfl hl (by decide) rfl (fun ls hl => ?_)
    exact n_X10_nextRow_7 X hN _ _ _ _ hX _ _ _ (lv_sub hl [1, 0] rfl) hS
  rw [hH, hlo] at hgoal
  exact hgoal
theorem mv_X10_nextRow : Mv yX10_nextRow RX10 cX10_nextRow 5 ((some .boolean)) 0 := ⟨t7_217, t7_216, ts_77, t1_11, ⟨by decide, by decide⟩, by decide +kernel⟩
/-! SewnYearModel.inTime()I -/
def rm_X10_inTime : Room := { frames := 1, cells := 0, slots := 0, locals := 21 }
def b_X10_inTime_2 (M : Mem) (rc : Int32 → Option (Int32)) (v_1 : Int32) : Option (Int32) :=
  if (gI M 100 40) ≤ v_1 then (some v_1) else (gin v_1 6 <| gin v_1 6 <| bn (f_X10_townOf M ((nI 23) + (gA M 100 43 (ix v_1)))) fun r5 => if r5 < (gA M 100 44 (ix v_1)) then (some v_1) else (nm (v_1 + nI 1) fun v7 => rc v7))
def f_X10_inTime_2 (M : Mem) : Nat → Int32 → Option (Int32) := lp (fun rc q => b_X10_inTime_2 M (fun x0 => rc x0) q)
def f_X10_inTime (M : Mem) : Option (Int32) :=
  f_X10_inTime_2 M FU (nI 0)
set_option maxRecDepth 100000 in
set_option maxHeartbeats 4000000 in
theorem n_X10_inTime_2 (X : Cx p s m args meth c D cy ad A RX10 cX10_inTime 2 ((some .int))) (hN : Ob ns 10 100) {M : Mem} : ∀ (n : Nat) (v_1 : Int32) (r : Int32), f_X10_inTime_2 M n v_1 = some r → ∀ (ls : Array Slot) (H : Heap) (locs : List Loc), lv_has ls 2 [(0, .ref (ad 100 0)), (1, .int v_1)] → St D cy ad ns A M s.heap H locs → W p l e rm_X10_inTime s m args below meth c H locs 0 0 (MQ below (QC D cy ad ns A M (some (.int r))) args s 0 0 A) (F0 m 2 ls []) := by
  obtain ⟨hx, hb, hml, hown, hts, hK, hr, hlk, hA, hG⟩ := id X
  intro n
  induction n with
  | zero => intro v_1 r hX; cases (show (none : Option (Int32)) = some r from hX)
  | succ n ih =>
    intro v_1 r hX ls H locs hl hS
    have hX : b_X10_inTime_2 M (fun x0 => f_X10_inTime_2 M n x0) v_1 = some r := hX
    unfold b_X10_inTime_2 at hX
    refine lv_iload_n hx hb dX10_inTime_2 rfl (lv_at hl 1 rfl) ?_
    refine lv_aload_n hx hb dX10_inTime_3 rfl (lv_at hl 0 rfl) ?_
    refine fg_X10_429 X hS (hN) dX10_inTime_4 ?_
    refine lv_icmp_ge (tgt := 38) hx hb dX10_inTime_7 (by decide) (fun c1 => ?_) (fun c1 => ?_)
    · have hX := if_t c1 hX
      refine lv_iload_n hx hb dX10_inTime_38 rfl (lv_at hl 1 rfl) ?_
      obtain rfl := some_of hX
      exact x_I (v := v_1) X hS dX10_inTime_39
    · have hX := if_f c1 hX
      refine lv_aload_n hx hb dX10_inTime_10 rfl (lv_at hl 0 rfl) ?_
      refine fg_X10_66 X hS (hN) dX10_inTime_11 ?_
      refine lv_iload_n hx hb dX10_inTime_14 rfl (lv_at hl 1 rfl) ?_
      obtain ⟨g2, hX⟩ := gin_of hX
      refine r_iald (ci := 10) (o := 100) (k := 44) (n := 6) X hS (hN) rfl rfl g2 dX10_inTime_15 ?_
      refine lv_aload_n hx hb dX10_inTime_16 rfl (lv_at hl 0 rfl) ?_
      refine lv_bipush (v := nI 23) hx hb dX10_inTime_17 (by decide) ?_
      refine lv_aload_n hx hb dX10_inTime_19 rfl (lv_at hl 0 rfl) ?_
      refine fg_X10_63 X hS (hN) dX10_inTime_20 ?_
      refine lv_iload_n hx hb dX10_inTime_23 rfl (lv_at hl 1 rfl) ?_
      obtain ⟨g3, hX⟩ := gin_of hX
      refine r_iald (ci := 10) (o := 100) (k := 43) (n := 6) X hS (hN) rfl rfl g3 dX10_inTime_24 ?_
      refine lv_iadd hx hb dX10_inTime_25 ?_
      obtain ⟨r5, h4, hX⟩ := bn_of hX
      refine r_callV1 (v := .int r5) (As := [.int ((nI 23) + (gA M 100 43 (ix v_1)))]) (rest := [.int (gA M 100 44 (ix v_1))]) X hS (m_X10_townOf hN h4) mv_X10_townOf rfl (hN) t7_166 ⟨rfl, rfl, Nat.le_of_ble_eq_true rfl, Nat.le_of_ble_eq_true rfl⟩ rfl hl.1 rfl (Nat.le_of_ble_eq_true rfl) ⟨Nat.zero_le _, Nat.zero_le _⟩ dX10_inTime_26 (fun H locs hS => ?_)
      refine lv_icmp_gt (tgt := 38) hx hb dX10_inTime_29 (by decide) (fun c6 => ?_) (fun c6 => ?_)
      · have hX := if_t c6 hX
        refine lv_iload_n hx hb dX10_inTime_38 rfl (lv_at hl 1 rfl) ?_
        obtain rfl := some_of hX
        exact x_I (v := v_1) X hS dX10_inTime_39
      · have hX := if_f c6 hX
        obtain ⟨v7, ev7⟩ : ∃ y : Int32, y = (v_1 + nI 1) := ⟨_, rfl⟩
        have hX := nm_of ev7 hX
        refine lv_iinc (v := v7) (lv' := [(1, .int v7), (0, .ref (ad 100 0))]) hx hb dX10_inTime_32 hl (k := 1) rfl (by rw [ev7]; rfl) (by decide) rfl (fun ls hl => ?_)
        refine lv_goto (tgt := 2) hx hb dX10_inTime_35 (by decide) ?_
        exact ih _ _ hX _ _ _ (lv_sub hl [1, 0] rfl) hS
set_option maxRecDepth 100000 in
set_option maxHeartbeats 4000000 in
theorem m_X10_inTime {l : Launch} {D : va_G} {cy : Nat → ClassId} {ad : Nat → Nat → Nat} {ns : List (Nat × Nat)} {A : Nat → Prop} {M : Mem} (hN : Ob ns 10 100) {r : Int32} (hX : f_X10_inTime M = some r) : Ct l yX10_inTime cX10_inTime 2 ((some .int)) rm_X10_inTime D cy ad ns A [.ref (ad 100 0)] M M (some (.int r)) := by
  refine ct_of (lv := [(0, .ref (ad 100 0))]) (by decide) (Nat.le_of_ble_eq_true rfl) rfl ?_
  intro p e s m args below meth c ls X hl hS
  obtain ⟨hx, hb, hml, hown, hts, hK, hr, hlk, hA, hG⟩ := id X
  obtain ⟨H, hH⟩ : ∃ z, z = s.heap := ⟨_, rfl⟩
  obtain ⟨locs, hlo⟩ : ∃ z : List Loc, z = [] := ⟨_, rfl⟩
  have hS : St D cy ad ns A M s.heap H locs := by rw [hH, hlo]; exact hS
  have hgoal : W p l e rm_X10_inTime s m args below meth c H locs 0 0 (MQ below (QC D cy ad ns A M (some (.int r))) args s 0 0 A) (F0 m 0 ls []) := by
    unfold f_X10_inTime at hX
    refine lv_iconst (v := nI 0) hx hb dX10_inTime_0 (by decide) ?_
    refine lv_istore_n (lv' := [(1, .int (nI 0)), (0, .ref (ad 100 0))]) hx hb dX10_inTime_1 rfl hl (by decide) rfl (fun ls hl => ?_)
    exact n_X10_inTime_2 X hN _ _ _ hX _ _ _ (lv_sub hl [1, 0] rfl) hS
  rw [hH, hlo] at hgoal
  exact hgoal
theorem mv_X10_inTime : Mv yX10_inTime RX10 cX10_inTime 2 ((some .int)) 0 := ⟨t7_209, t7_208, ts_75, t1_11, ⟨by decide, by decide⟩, by decide +kernel⟩
/-! SewnYearModel.lateness()I -/
def rm_X10_lateness : Room := { frames := 1, cells := 0, slots := 0, locals := 21 }
def b_X10_lateness_4 (M : Mem) (rc : Int32 → Int32 → Option (Int32)) (v_1 : Int32) (v_2 : Int32) : Option (Int32) :=
  if (gI M 100 40) ≤ v_2 then (some v_1) else (gin v_2 6 <| gin v_2 6 <| bn (f_X10_townOf M ((nI 23) + (gA M 100 43 (ix v_2)))) fun r5 => bn (f_X10_greater (nI 0) ((gA M 100 44 (ix v_2)) - r5)) fun r7 => nm (v_1 + r7) fun v8 => nm (v_2 + nI 1) fun v9 => rc v8 v9)
def f_X10_lateness_4 (M : Mem) : Nat → (Int32 × Int32) → Option (Int32) := lp (fun rc q => b_X10_lateness_4 M (fun x0 x1 => rc (x0, x1)) q.1 q.2)
def f_X10_lateness (M : Mem) : Option (Int32) :=
  f_X10_lateness_4 M FU ((nI 0), (nI 0))
set_option maxRecDepth 100000 in
set_option maxHeartbeats 4000000 in
theorem n_X10_lateness_4 (X : Cx p s m args meth c D cy ad A RX10 cX10_lateness 3 ((some .int))) (hN : Ob ns 10 100) {M : Mem} : ∀ (n : Nat) (v_1 : Int32) (v_2 : Int32) (r : Int32), f_X10_lateness_4 M n (v_1, v_2) = some r → ∀ (ls : Array Slot) (H : Heap) (locs : List Loc), lv_has ls 3 [(0, .ref (ad 100 0)), (1, .int v_1), (2, .int v_2)] → St D cy ad ns A M s.heap H locs → W p l e rm_X10_lateness s m args below meth c H locs 0 0 (MQ below (QC D cy ad ns A M (some (.int r))) args s 0 0 A) (F0 m 4 ls []) := by
  obtain ⟨hx, hb, hml, hown, hts, hK, hr, hlk, hA, hG⟩ := id X
  intro n
  induction n with
  | zero => intro v_1 v_2 r hX; cases (show (none : Option (Int32)) = some r from hX)
  | succ n ih =>
    intro v_1 v_2 r hX ls H locs hl hS
    have hX : b_X10_lateness_4 M (fun x0 x1 => f_X10_lateness_4 M n (x0, x1)) v_1 v_2 = some r := hX
    unfold b_X10_lateness_4 at hX
    refine lv_iload_n hx hb dX10_lateness_4 rfl (lv_at hl 2 rfl) ?_
    refine lv_aload_n hx hb dX10_lateness_5 rfl (lv_at hl 0 rfl) ?_
    refine fg_X10_429 X hS (hN) dX10_lateness_6 ?_
    refine lv_icmp_ge (tgt := 45) hx hb dX10_lateness_9 (by decide) (fun c1 => ?_) (fun c1 => ?_)
    · have hX := if_t c1 hX
      refine lv_iload_n hx hb dX10_lateness_45 rfl (lv_at hl 1 rfl) ?_
      obtain rfl := some_of hX
      exact x_I (v := v_1) X hS dX10_lateness_46
    · have hX := if_f c1 hX
      refine lv_iload_n hx hb dX10_lateness_12 rfl (lv_at hl 1 rfl) ?_
      refine lv_iconst (v := nI 0) hx hb dX10_lateness_13 (by decide) ?_
      refine lv_aload_n hx hb dX10_lateness_14 rfl (lv_at hl 0 rfl) ?_
      refine fg_X10_66 X hS (hN) dX10_lateness_15 ?_
      refine lv_iload_n hx hb dX10_lateness_18 rfl (lv_at hl 2 rfl) ?_
      obtain ⟨g2, hX⟩ := gin_of hX
      refine r_iald (ci := 10) (o := 100) (k := 44) (n := 6) X hS (hN) rfl rfl g2 dX10_lateness_19 ?_
      refine lv_aload_n hx hb dX10_lateness_20 rfl (lv_at hl 0 rfl) ?_
      refine lv_bipush (v := nI 23) hx hb dX10_lateness_21 (by decide) ?_
      refine lv_aload_n hx hb dX10_lateness_23 rfl (lv_at hl 0 rfl) ?_
      refine fg_X10_63 X hS (hN) dX10_lateness_24 ?_
      refine lv_iload_n hx hb dX10_lateness_27 rfl (lv_at hl 2 rfl) ?_
      obtain ⟨g3, hX⟩ := gin_of hX
      refine r_iald (ci := 10) (o := 100) (k := 43) (n := 6) X hS (hN) rfl rfl g3 dX10_lateness_28 ?_
      refine lv_iadd hx hb dX10_lateness_29 ?_
      obtain ⟨r5, h4, hX⟩ := bn_of hX
      refine r_callV1 (v := .int r5) (As := [.int ((nI 23) + (gA M 100 43 (ix v_2)))]) (rest := [.int (gA M 100 44 (ix v_2)), .int (nI 0), .int v_1]) X hS (m_X10_townOf hN h4) mv_X10_townOf rfl (hN) t7_166 ⟨rfl, rfl, Nat.le_of_ble_eq_true rfl, Nat.le_of_ble_eq_true rfl⟩ rfl hl.1 rfl (Nat.le_of_ble_eq_true rfl) ⟨Nat.zero_le _, Nat.zero_le _⟩ dX10_lateness_30 (fun H locs hS => ?_)
      refine lv_isub hx hb dX10_lateness_33 ?_
      obtain ⟨r7, h6, hX⟩ := bn_of hX
      refine r_callS1 (v := .int r7) (As := [.int (nI 0), .int ((gA M 100 44 (ix v_2)) - r5)]) (rest := [.int v_1]) X hS (m_X10_greater (M := M) hN h6) ms_X10_greater t6_156 ⟨rfl, rfl, Nat.le_of_ble_eq_true rfl, Nat.le_of_ble_eq_true rfl⟩ rfl hl.1 rfl (Nat.le_of_ble_eq_true rfl) ⟨Nat.zero_le _, Nat.zero_le _⟩ dX10_lateness_34 (fun H locs hS => ?_)
      refine lv_iadd hx hb dX10_lateness_37 ?_
      refine lv_topi (fun v8 ev8 => ?_)
      have hX := nm_of ev8 hX
      refine lv_istore_n (lv' := [(1, .int v8), (0, .ref (ad 100 0)), (2, .int v_2)]) hx hb dX10_lateness_38 rfl hl (by decide) rfl (fun ls hl => ?_)
      obtain ⟨v9, ev9⟩ : ∃ y : Int32, y = (v_2 + nI 1) := ⟨_, rfl⟩
      have hX := nm_of ev9 hX
      refine lv_iinc (v := v9) (lv' := [(2, .int v9), (1, .int v8), (0, .ref (ad 100 0))]) hx hb dX10_lateness_39 hl (k := 2) rfl (by rw [ev9]; rfl) (by decide) rfl (fun ls hl => ?_)
      refine lv_goto (tgt := 4) hx hb dX10_lateness_42 (by decide) ?_
      exact ih _ _ _ hX _ _ _ (lv_sub hl [2, 1, 0] rfl) hS
set_option maxRecDepth 100000 in
set_option maxHeartbeats 4000000 in
theorem m_X10_lateness {l : Launch} {D : va_G} {cy : Nat → ClassId} {ad : Nat → Nat → Nat} {ns : List (Nat × Nat)} {A : Nat → Prop} {M : Mem} (hN : Ob ns 10 100) {r : Int32} (hX : f_X10_lateness M = some r) : Ct l yX10_lateness cX10_lateness 3 ((some .int)) rm_X10_lateness D cy ad ns A [.ref (ad 100 0)] M M (some (.int r)) := by
  refine ct_of (lv := [(0, .ref (ad 100 0))]) (by decide) (Nat.le_of_ble_eq_true rfl) rfl ?_
  intro p e s m args below meth c ls X hl hS
  obtain ⟨hx, hb, hml, hown, hts, hK, hr, hlk, hA, hG⟩ := id X
  obtain ⟨H, hH⟩ : ∃ z, z = s.heap := ⟨_, rfl⟩
  obtain ⟨locs, hlo⟩ : ∃ z : List Loc, z = [] := ⟨_, rfl⟩
  have hS : St D cy ad ns A M s.heap H locs := by rw [hH, hlo]; exact hS
  have hgoal : W p l e rm_X10_lateness s m args below meth c H locs 0 0 (MQ below (QC D cy ad ns A M (some (.int r))) args s 0 0 A) (F0 m 0 ls []) := by
    unfold f_X10_lateness at hX
    refine lv_iconst (v := nI 0) hx hb dX10_lateness_0 (by decide) ?_
    refine lv_istore_n (lv' := [(1, .int (nI 0)), (0, .ref (ad 100 0))]) hx hb dX10_lateness_1 rfl hl (by decide) rfl (fun ls hl => ?_)
    refine lv_iconst (v := nI 0) hx hb dX10_lateness_2 (by decide) ?_
    refine lv_istore_n (lv' := [(2, .int (nI 0)), (1, .int (nI 0)), (0, .ref (ad 100 0))]) hx hb dX10_lateness_3 rfl hl (by decide) rfl (fun ls hl => ?_)
    exact n_X10_lateness_4 X hN _ _ _ _ hX _ _ _ (lv_sub hl [2, 1, 0] rfl) hS
  rw [hH, hlo] at hgoal
  exact hgoal
theorem mv_X10_lateness : Mv yX10_lateness RX10 cX10_lateness 3 ((some .int)) 0 := ⟨t7_213, t7_212, ts_76, t1_11, ⟨by decide, by decide⟩, by decide +kernel⟩
/-! SewnYearModel.findRounds()V -/
def rm_X10_findRounds : Room := { frames := 4, cells := 0, slots := 0, locals := 92 }
def f_X10_findRounds_140 (v_2 : Int32) (v_3 : Int32) (k_68 : Int32 → Mem → Option (Mem)) (v_4 : Int32) (s_1 : Int32) (s_2 : Int32) (M : Mem) : Option (Mem) :=
  gin s_1 6 <| nm (sA M 100 49 (ix s_1) s_2) fun M2 => nm (v_4 + nI 1) fun v3 => k_68 v3 M2
def f_X10_findRounds_108 (v_2 : Int32) (v_3 : Int32) (k_68 : Int32 → Mem → Option (Mem)) (v_4 : Int32) (s_1 : Int32) (s_2 : Int32) (M : Mem) : Option (Mem) :=
  gin s_1 6 <| nm (sA M 100 48 (ix s_1) s_2) fun M5 => if (gI M5 100 46) ≤ v_3 then (gin v_4 6 <| f_X10_findRounds_140 v_2 v_3 k_68 v_4 v_4 (gA M5 100 49 (ix v_4)) M5) else (gin v_4 6 <| f_X10_findRounds_140 v_2 v_3 k_68 v_4 v_4 (gA M5 100 43 (ix v_4)) M5)
def b_X10_findRounds_68 (k_36 : Bool → Mem → Option (Mem)) (v_2 : Int32) (v_3 : Int32) (rc : Int32 → Mem → Option (Mem)) (v_4 : Int32) (M : Mem) : Option (Mem) :=
  if (gI M 100 40) ≤ v_4 then (bn (f_X10_greater (gI M 100 45) v_2) fun r11 => nm (sI M 100 45 r11) fun M12 => bn (f_X10_lesser (gI M12 100 46) v_3) fun r14 => nm (sI M12 100 46 r14) fun M15 => bn (f_X10_lateness M15) fun r17 => bn (f_X10_lesser (gI M15 100 47) r17) fun r19 => nm (sI M15 100 47 r19) fun M20 => bp (f_X10_nextRow M20) fun r23 M22 => k_36 r23 M22) else (if v_2 ≤ (gI M 100 45) then (gin v_4 6 <| f_X10_findRounds_108 v_2 v_3 rc v_4 v_4 (gA M 100 48 (ix v_4)) M) else (gin v_4 6 <| f_X10_findRounds_108 v_2 v_3 rc v_4 v_4 (gA M 100 43 (ix v_4)) M))
def f_X10_findRounds_68 (k_36 : Bool → Mem → Option (Mem)) (v_2 : Int32) (v_3 : Int32) : Nat → (Int32 × Mem) → Option (Mem) := lp (fun rc q => b_X10_findRounds_68 k_36 v_2 v_3 (fun x0 x1 => rc (x0, x1)) q.1 q.2)
def b_X10_findRounds_36 (rc : Bool → Mem → Option (Mem)) (v_1 : Bool) (M : Mem) : Option (Mem) :=
  if v_1 = true then (bn (f_X10_walk M (gI M 100 40)) fun M32 => bn (f_X10_inTime M32) fun r34 => gin ((gI M32 100 40) - (nI 1)) 6 <| nm (gA M32 100 44 (ix ((gI M32 100 40) - (nI 1)))) fun v36 => f_X10_findRounds_68 rc r34 v36 FU ((nI 0), M32)) else (bn (f_X10_greater (gI M 100 45) (nI 0)) fun r29 => nm (sI M 100 45 r29) fun M30 => some M30)
def f_X10_findRounds_36 : Nat → (Bool × Mem) → Option (Mem) := lp (fun rc q => b_X10_findRounds_36 (fun x0 x1 => rc (x0, x1)) q.1 q.2)
def f_X10_findRounds_35 (s_0 : Bool) (M : Mem) : Option (Mem) :=
  f_X10_findRounds_36 FU (s_0, M)
def f_X10_findRounds (M : Mem) : Option (Mem) :=
  nm (sI M 100 45 (-1)) fun M37 => nm (sI M37 100 46 (nI 1000000)) fun M38 => nm (sI M38 100 47 (nI 1000000)) fun M39 => bn (f_X10_firstRow M39) fun M41 => if (gI M41 100 40) ≤ (nI 0) then (f_X10_findRounds_35 false M41) else (f_X10_findRounds_35 true M41)
set_option maxRecDepth 100000 in
set_option maxHeartbeats 4000000 in
theorem n_X10_findRounds_140 {v_2 : Int32} {v_3 : Int32} (X : Cx p s m args meth c D cy ad A RX10 cX10_findRounds 5 ((none : Option Jvm.ClassFile.FieldType))) (hN : Ob ns 10 100) {k_68 : Int32 → Mem → Option (Mem)} {v_4 : Int32} {s_1 : Int32} {s_2 : Int32} {M : Mem} {r : Mem} (hX : f_X10_findRounds_140 v_2 v_3 k_68 v_4 s_1 s_2 M = some r) : (∀ (v_4 : Int32) (M : Mem) (r : Mem), k_68 v_4 M = some r → ∀ (ls : Array Slot) (H : Heap) (locs : List Loc), lv_has ls 5 [(0, .ref (ad 100 0)), (2, .int v_2), (3, .int v_3), (4, .int v_4)] → St D cy ad ns A M s.heap H locs → W p l e rm_X10_findRounds s m args below meth c H locs 0 0 (MQ below (QC D cy ad ns A r none) args s 0 0 A) (F0 m 68 ls [])) → ∀ (ls : Array Slot) (H : Heap) (locs : List Loc), lv_has ls 5 [(0, .ref (ad 100 0)), (2, .int v_2), (3, .int v_3), (4, .int v_4)] → St D cy ad ns A M s.heap H locs → W p l e rm_X10_findRounds s m args below meth c H locs 0 0 (MQ below (QC D cy ad ns A r none) args s 0 0 A) (F0 m 140 ls [.int s_2, .int s_1, .ref (ad 100 (49 + 1))]) := by
  obtain ⟨hx, hb, hml, hown, hts, hK, hr, hlk, hA, hG⟩ := id X
  intro hk_68 ls H locs hl hS
  unfold f_X10_findRounds_140 at hX
  obtain ⟨g1, hX⟩ := gin_of hX
  refine r_iast (ci := 10) (o := 100) (k := 49) (n := 6) X hS (hN) rfl rfl g1 dX10_findRounds_140 (fun H locs hS => ?_)
  obtain ⟨M2, eM2, hS, hX⟩ := nm_mem hS hX
  obtain ⟨v3, ev3⟩ : ∃ y : Int32, y = (v_4 + nI 1) := ⟨_, rfl⟩
  have hX := nm_of ev3 hX
  refine lv_iinc (v := v3) (lv' := [(4, .int v3), (0, .ref (ad 100 0)), (2, .int v_2), (3, .int v_3)]) hx hb dX10_findRounds_141 hl (k := 3) rfl (by rw [ev3]; rfl) (by decide) rfl (fun ls hl => ?_)
  refine lv_goto (tgt := 68) hx hb dX10_findRounds_144 (by decide) ?_
  exact hk_68 _ _ _ hX _ _ _ (lv_sub hl [1, 2, 3, 0] rfl) hS
set_option maxRecDepth 100000 in
set_option maxHeartbeats 4000000 in
theorem n_X10_findRounds_108 {v_2 : Int32} {v_3 : Int32} (X : Cx p s m args meth c D cy ad A RX10 cX10_findRounds 5 ((none : Option Jvm.ClassFile.FieldType))) (hN : Ob ns 10 100) {k_68 : Int32 → Mem → Option (Mem)} {v_4 : Int32} {s_1 : Int32} {s_2 : Int32} {M : Mem} {r : Mem} (hX : f_X10_findRounds_108 v_2 v_3 k_68 v_4 s_1 s_2 M = some r) : (∀ (v_4 : Int32) (M : Mem) (r : Mem), k_68 v_4 M = some r → ∀ (ls : Array Slot) (H : Heap) (locs : List Loc), lv_has ls 5 [(0, .ref (ad 100 0)), (2, .int v_2), (3, .int v_3), (4, .int v_4)] → St D cy ad ns A M s.heap H locs → W p l e rm_X10_findRounds s m args below meth c H locs 0 0 (MQ below (QC D cy ad ns A r none) args s 0 0 A) (F0 m 68 ls [])) → ∀ (ls : Array Slot) (H : Heap) (locs : List Loc), lv_has ls 5 [(0, .ref (ad 100 0)), (2, .int v_2), (3, .int v_3), (4, .int v_4)] → St D cy ad ns A M s.heap H locs → W p l e rm_X10_findRounds s m args below meth c H locs 0 0 (MQ below (QC D cy ad ns A r none) args s 0 0 A) (F0 m 108 ls [.int s_2, .int s_1, .ref (ad 100 (48 + 1))]) := by
  obtain ⟨hx, hb, hml, hown, hts, hK, hr, hlk, hA, hG⟩ := id X
  intro hk_68 ls H locs hl hS
  unfold f_X10_findRounds_108 at hX
  obtain ⟨g4, hX⟩ := gin_of hX
  refine r_iast (ci := 10) (o := 100) (k := 48) (n := 6) X hS (hN) rfl rfl g4 dX10_findRounds_108 (fun H locs hS => ?_)
  obtain ⟨M5, eM5, hS, hX⟩ := nm_mem hS hX
  refine lv_aload_n hx hb dX10_findRounds_109 rfl (lv_at hl 0 rfl) ?_
  refine fg_X10_72 X hS (hN) dX10_findRounds_110 ?_
  refine lv_iload hx hb dX10_findRounds_113 (lv_at hl 3 rfl) ?_
  refine lv_iload_n hx hb dX10_findRounds_115 rfl (lv_at hl 2 rfl) ?_
  refine lv_aload_n hx hb dX10_findRounds_116 rfl (lv_at hl 0 rfl) ?_
  refine fg_X10_463 X hS (hN) dX10_findRounds_117 ?_
  refine lv_icmp_ge (tgt := 133) hx hb dX10_findRounds_120 (by decide) (fun c6 => ?_) (fun c6 => ?_)
  · have hX := if_t c6 hX
    refine lv_aload_n hx hb dX10_findRounds_133 rfl (lv_at hl 0 rfl) ?_
    refine fg_X10_72 X hS (hN) dX10_findRounds_134 ?_
    refine lv_iload hx hb dX10_findRounds_137 (lv_at hl 3 rfl) ?_
    obtain ⟨g7, hX⟩ := gin_of hX
    refine r_iald (ci := 10) (o := 100) (k := 49) (n := 6) X hS (hN) rfl rfl g7 dX10_findRounds_139 ?_
    exact n_X10_findRounds_140 X hN hX hk_68 _ _ _ (lv_sub hl [0, 1, 2, 3] rfl) hS
  · have hX := if_f c6 hX
    refine lv_aload_n hx hb dX10_findRounds_123 rfl (lv_at hl 0 rfl) ?_
    refine fg_X10_63 X hS (hN) dX10_findRounds_124 ?_
    refine lv_iload hx hb dX10_findRounds_127 (lv_at hl 3 rfl) ?_
    obtain ⟨g8, hX⟩ := gin_of hX
    refine r_iald (ci := 10) (o := 100) (k := 43) (n := 6) X hS (hN) rfl rfl g8 dX10_findRounds_129 ?_
    refine lv_goto (tgt := 140) hx hb dX10_findRounds_130 (by decide) ?_
    exact n_X10_findRounds_140 X hN hX hk_68 _ _ _ (lv_sub hl [0, 1, 2, 3] rfl) hS
set_option maxRecDepth 100000 in
set_option maxHeartbeats 4000000 in
theorem n_X10_findRounds_68 (X : Cx p s m args meth c D cy ad A RX10 cX10_findRounds 5 ((none : Option Jvm.ClassFile.FieldType))) (hN : Ob ns 10 100) {k_36 : Bool → Mem → Option (Mem)} {v_2 : Int32} {v_3 : Int32} : ∀ (n : Nat) (v_4 : Int32) (M : Mem) (r : Mem), f_X10_findRounds_68 k_36 v_2 v_3 n (v_4, M) = some r → (∀ (v_1 : Bool) (M : Mem) (r : Mem), k_36 v_1 M = some r → ∀ (ls : Array Slot) (H : Heap) (locs : List Loc), lv_has ls 5 [(0, .ref (ad 100 0)), (1, .int (b2i v_1))] → St D cy ad ns A M s.heap H locs → W p l e rm_X10_findRounds s m args below meth c H locs 0 0 (MQ below (QC D cy ad ns A r none) args s 0 0 A) (F0 m 36 ls [])) → ∀ (ls : Array Slot) (H : Heap) (locs : List Loc), lv_has ls 5 [(0, .ref (ad 100 0)), (2, .int v_2), (3, .int v_3), (4, .int v_4)] → St D cy ad ns A M s.heap H locs → W p l e rm_X10_findRounds s m args below meth c H locs 0 0 (MQ below (QC D cy ad ns A r none) args s 0 0 A) (F0 m 68 ls []) := by
  obtain ⟨hx, hb, hml, hown, hts, hK, hr, hlk, hA, hG⟩ := id X
  intro n
  induction n with
  | zero => intro v_4 M r hX; cases (show (none : Option (Mem)) = some r from hX)
  | succ n ih =>
    intro v_4 M r hX hk_36 ls H locs hl hS
    have hX : b_X10_findRounds_68 k_36 v_2 v_3 (fun x0 x1 => f_X10_findRounds_68 k_36 v_2 v_3 n (x0, x1)) v_4 M = some r := hX
    unfold b_X10_findRounds_68 at hX
    refine lv_iload hx hb dX10_findRounds_68 (lv_at hl 3 rfl) ?_
    refine lv_aload_n hx hb dX10_findRounds_70 rfl (lv_at hl 0 rfl) ?_
    refine fg_X10_429 X hS (hN) dX10_findRounds_71 ?_
    refine lv_icmp_ge (tgt := 147) hx hb dX10_findRounds_74 (by decide) (fun c9 => ?_) (fun c9 => ?_)
    · have hX := if_t c9 hX
      refine lv_aload_n hx hb dX10_findRounds_147 rfl (lv_at hl 0 rfl) ?_
      refine lv_aload_n hx hb dX10_findRounds_148 rfl (lv_at hl 0 rfl) ?_
      refine fg_X10_460 X hS (hN) dX10_findRounds_149 ?_
      refine lv_iload_n hx hb dX10_findRounds_152 rfl (lv_at hl 1 rfl) ?_
      obtain ⟨r11, h10, hX⟩ := bn_of hX
      refine r_callS1 (v := .int r11) (As := [.int (gI M 100 45), .int v_2]) (rest := [.ref (ad 100 0)]) X hS (m_X10_greater (M := M) hN h10) ms_X10_greater t6_156 ⟨rfl, rfl, Nat.le_of_ble_eq_true rfl, Nat.le_of_ble_eq_true rfl⟩ rfl hl.1 rfl (Nat.le_of_ble_eq_true rfl) ⟨Nat.zero_le _, Nat.zero_le _⟩ dX10_findRounds_153 (fun H locs hS => ?_)
      refine fp_X10_460 X hS (hN) dX10_findRounds_156 (fun H locs hS => ?_)
      obtain ⟨M12, eM12, hS, hX⟩ := nm_mem hS hX
      refine lv_aload_n hx hb dX10_findRounds_159 rfl (lv_at hl 0 rfl) ?_
      refine lv_aload_n hx hb dX10_findRounds_160 rfl (lv_at hl 0 rfl) ?_
      refine fg_X10_463 X hS (hN) dX10_findRounds_161 ?_
      refine lv_iload_n hx hb dX10_findRounds_164 rfl (lv_at hl 2 rfl) ?_
      obtain ⟨r14, h13, hX⟩ := bn_of hX
      refine r_callS1 (v := .int r14) (As := [.int (gI M12 100 46), .int v_3]) (rest := [.ref (ad 100 0)]) X hS (m_X10_lesser (M := M12) hN h13) ms_X10_lesser t7_43 ⟨rfl, rfl, Nat.le_of_ble_eq_true rfl, Nat.le_of_ble_eq_true rfl⟩ rfl hl.1 rfl (Nat.le_of_ble_eq_true rfl) ⟨Nat.zero_le _, Nat.zero_le _⟩ dX10_findRounds_165 (fun H locs hS => ?_)
      refine fp_X10_463 X hS (hN) dX10_findRounds_168 (fun H locs hS => ?_)
      obtain ⟨M15, eM15, hS, hX⟩ := nm_mem hS hX
      refine lv_aload_n hx hb dX10_findRounds_171 rfl (lv_at hl 0 rfl) ?_
      refine lv_aload_n hx hb dX10_findRounds_172 rfl (lv_at hl 0 rfl) ?_
      refine fg_X10_466 X hS (hN) dX10_findRounds_173 ?_
      refine lv_aload_n hx hb dX10_findRounds_176 rfl (lv_at hl 0 rfl) ?_
      obtain ⟨r17, h16, hX⟩ := bn_of hX
      refine r_callV1 (v := .int r17) (As := []) (rest := [.int (gI M15 100 47), .ref (ad 100 0)]) X hS (m_X10_lateness hN h16) mv_X10_lateness rfl (hN) t7_210 ⟨rfl, rfl, Nat.le_of_ble_eq_true rfl, Nat.le_of_ble_eq_true rfl⟩ rfl hl.1 rfl (Nat.le_of_ble_eq_true rfl) ⟨Nat.zero_le _, Nat.zero_le _⟩ dX10_findRounds_177 (fun H locs hS => ?_)
      obtain ⟨r19, h18, hX⟩ := bn_of hX
      refine r_callS1 (v := .int r19) (As := [.int (gI M15 100 47), .int r17]) (rest := [.ref (ad 100 0)]) X hS (m_X10_lesser (M := M15) hN h18) ms_X10_lesser t7_43 ⟨rfl, rfl, Nat.le_of_ble_eq_true rfl, Nat.le_of_ble_eq_true rfl⟩ rfl hl.1 rfl (Nat.le_of_ble_eq_true rfl) ⟨Nat.zero_le _, Nat.zero_le _⟩ dX10_findRounds_180 (fun H locs hS => ?_)
      refine fp_X10_466 X hS (hN) dX10_findRounds_183 (fun H locs hS => ?_)
      obtain ⟨M20, eM20, hS, hX⟩ := nm_mem hS hX
      refine lv_aload_n hx hb dX10_findRounds_186 rfl (lv_at hl 0 rfl) ?_
      obtain ⟨r23, M22, h21, hX⟩ := bp_of hX
      refine r_callV1 (v := .int (b2i r23)) (As := []) (rest := []) X hS (m_X10_nextRow hN h21) mv_X10_nextRow rfl (hN) t7_214 ⟨rfl, rfl, Nat.le_of_ble_eq_true rfl, Nat.le_of_ble_eq_true rfl⟩ rfl hl.1 rfl (Nat.le_of_ble_eq_true rfl) ⟨Nat.zero_le _, Nat.zero_le _⟩ dX10_findRounds_187 (fun H locs hS => ?_)
      refine lv_istore_n (lv' := [(1, .int (b2i r23)), (0, .ref (ad 100 0)), (2, .int v_2), (3, .int v_3), (4, .int v_4)]) hx hb dX10_findRounds_190 rfl hl (by decide) rfl (fun ls hl => ?_)
      refine lv_goto (tgt := 36) hx hb dX10_findRounds_191 (by decide) ?_
      exact hk_36 _ _ _ hX _ _ _ (lv_sub hl [1, 0] rfl) hS
    · have hX := if_f c9 hX
      refine lv_aload_n hx hb dX10_findRounds_77 rfl (lv_at hl 0 rfl) ?_
      refine fg_X10_69 X hS (hN) dX10_findRounds_78 ?_
      refine lv_iload hx hb dX10_findRounds_81 (lv_at hl 3 rfl) ?_
      refine lv_iload_n hx hb dX10_findRounds_83 rfl (lv_at hl 1 rfl) ?_
      refine lv_aload_n hx hb dX10_findRounds_84 rfl (lv_at hl 0 rfl) ?_
      refine fg_X10_460 X hS (hN) dX10_findRounds_85 ?_
      refine lv_icmp_le (tgt := 101) hx hb dX10_findRounds_88 (by decide) (fun c24 => ?_) (fun c24 => ?_)
      · have hX := if_t c24 hX
        refine lv_aload_n hx hb dX10_findRounds_101 rfl (lv_at hl 0 rfl) ?_
        refine fg_X10_69 X hS (hN) dX10_findRounds_102 ?_
        refine lv_iload hx hb dX10_findRounds_105 (lv_at hl 3 rfl) ?_
        obtain ⟨g25, hX⟩ := gin_of hX
        refine r_iald (ci := 10) (o := 100) (k := 48) (n := 6) X hS (hN) rfl rfl g25 dX10_findRounds_107 ?_
        exact n_X10_findRounds_108 X hN hX (fun z0 z1 r h ls H locs hl hS => ih z0 z1 r h hk_36 ls H locs hl hS) _ _ _ (lv_sub hl [0, 1, 2, 3] rfl) hS
      · have hX := if_f c24 hX
        refine lv_aload_n hx hb dX10_findRounds_91 rfl (lv_at hl 0 rfl) ?_
        refine fg_X10_63 X hS (hN) dX10_findRounds_92 ?_
        refine lv_iload hx hb dX10_findRounds_95 (lv_at hl 3 rfl) ?_
        obtain ⟨g26, hX⟩ := gin_of hX
        refine r_iald (ci := 10) (o := 100) (k := 43) (n := 6) X hS (hN) rfl rfl g26 dX10_findRounds_97 ?_
        refine lv_goto (tgt := 108) hx hb dX10_findRounds_98 (by decide) ?_
        exact n_X10_findRounds_108 X hN hX (fun z0 z1 r h ls H locs hl hS => ih z0 z1 r h hk_36 ls H locs hl hS) _ _ _ (lv_sub hl [0, 1, 2, 3] rfl) hS
set_option maxRecDepth 100000 in
set_option maxHeartbeats 4000000 in
theorem n_X10_findRounds_36 (X : Cx p s m args meth c D cy ad A RX10 cX10_findRounds 5 ((none : Option Jvm.ClassFile.FieldType))) (hN : Ob ns 10 100) : ∀ (n : Nat) (v_1 : Bool) (M : Mem) (r : Mem), f_X10_findRounds_36 n (v_1, M) = some r → ∀ (ls : Array Slot) (H : Heap) (locs : List Loc), lv_has ls 5 [(0, .ref (ad 100 0)), (1, .int (b2i v_1))] → St D cy ad ns A M s.heap H locs → W p l e rm_X10_findRounds s m args below meth c H locs 0 0 (MQ below (QC D cy ad ns A r none) args s 0 0 A) (F0 m 36 ls []) := by
  obtain ⟨hx, hb, hml, hown, hts, hK, hr, hlk, hA, hG⟩ := id X
  intro n
  induction n with
  | zero => intro v_1 M r hX; cases (show (none : Option (Mem)) = some r from hX)
  | succ n ih =>
    intro v_1 M r hX ls H locs hl hS
    have hX : b_X10_findRounds_36 (fun x0 x1 => f_X10_findRounds_36 n (x0, x1)) v_1 M = some r := hX
    unfold b_X10_findRounds_36 at hX
    refine lv_iload_n hx hb dX10_findRounds_36 rfl (lv_at hl 1 rfl) ?_
    refine lv_if_eq (tgt := 194) hx hb dX10_findRounds_37 (by decide) (fun c27 => ?_) (fun c27 => ?_)
    · have hX := if_bf c27 hX
      refine lv_aload_n hx hb dX10_findRounds_194 rfl (lv_at hl 0 rfl) ?_
      refine lv_aload_n hx hb dX10_findRounds_195 rfl (lv_at hl 0 rfl) ?_
      refine fg_X10_460 X hS (hN) dX10_findRounds_196 ?_
      refine lv_iconst (v := nI 0) hx hb dX10_findRounds_199 (by decide) ?_
      obtain ⟨r29, h28, hX⟩ := bn_of hX
      refine r_callS1 (v := .int r29) (As := [.int (gI M 100 45), .int (nI 0)]) (rest := [.ref (ad 100 0)]) X hS (m_X10_greater (M := M) hN h28) ms_X10_greater t6_156 ⟨rfl, rfl, Nat.le_of_ble_eq_true rfl, Nat.le_of_ble_eq_true rfl⟩ rfl hl.1 rfl (Nat.le_of_ble_eq_true rfl) ⟨Nat.zero_le _, Nat.zero_le _⟩ dX10_findRounds_200 (fun H locs hS => ?_)
      refine fp_X10_460 X hS (hN) dX10_findRounds_203 (fun H locs hS => ?_)
      obtain ⟨M30, eM30, hS, hX⟩ := nm_mem hS hX
      obtain rfl := some_of hX
      exact x_V X hS dX10_findRounds_206
    · have hX := if_bt c27 hX
      refine lv_aload_n hx hb dX10_findRounds_40 rfl (lv_at hl 0 rfl) ?_
      refine lv_aload_n hx hb dX10_findRounds_41 rfl (lv_at hl 0 rfl) ?_
      refine fg_X10_429 X hS (hN) dX10_findRounds_42 ?_
      obtain ⟨M32, h31, hX⟩ := bn_of hX
      refine r_callV0 (As := [.int (gI M 100 40)]) (rest := []) X hS (m_X10_walk hN h31) mv_X10_walk rfl (hN) t7_178 ⟨rfl, rfl, Nat.le_of_ble_eq_true rfl, Nat.le_of_ble_eq_true rfl⟩ rfl hl.1 rfl (Nat.le_of_ble_eq_true rfl) ⟨Nat.zero_le _, Nat.zero_le _⟩ dX10_findRounds_45 (fun H locs hS => ?_)
      refine lv_aload_n hx hb dX10_findRounds_48 rfl (lv_at hl 0 rfl) ?_
      obtain ⟨r34, h33, hX⟩ := bn_of hX
      refine r_callV1 (v := .int r34) (As := []) (rest := []) X hS (m_X10_inTime hN h33) mv_X10_inTime rfl (hN) t7_206 ⟨rfl, rfl, Nat.le_of_ble_eq_true rfl, Nat.le_of_ble_eq_true rfl⟩ rfl hl.1 rfl (Nat.le_of_ble_eq_true rfl) ⟨Nat.zero_le _, Nat.zero_le _⟩ dX10_findRounds_49 (fun H locs hS => ?_)
      refine lv_istore_n (lv' := [(2, .int r34), (0, .ref (ad 100 0)), (1, .int (b2i v_1))]) hx hb dX10_findRounds_52 rfl hl (by decide) rfl (fun ls hl => ?_)
      refine lv_aload_n hx hb dX10_findRounds_53 rfl (lv_at hl 1 rfl) ?_
      refine fg_X10_66 X hS (hN) dX10_findRounds_54 ?_
      refine lv_aload_n hx hb dX10_findRounds_57 rfl (lv_at hl 1 rfl) ?_
      refine fg_X10_429 X hS (hN) dX10_findRounds_58 ?_
      refine lv_iconst (v := nI 1) hx hb dX10_findRounds_61 (by decide) ?_
      refine lv_isub hx hb dX10_findRounds_62 ?_
      obtain ⟨g35, hX⟩ := gin_of hX
      refine r_iald (ci := 10) (o := 100) (k := 44) (n := 6) X hS (hN) rfl rfl g35 dX10_findRounds_63 ?_
      refine lv_topi (fun v36 ev36 => ?_)
      have hX := nm_of ev36 hX
      refine lv_istore_n (lv' := [(3, .int v36), (2, .int r34), (0, .ref (ad 100 0)), (1, .int (b2i v_1))]) hx hb dX10_findRounds_64 rfl hl (by decide) rfl (fun ls hl => ?_)
      refine lv_iconst (v := nI 0) hx hb dX10_findRounds_65 (by decide) ?_
      refine lv_istore (lv' := [(4, .int (nI 0)), (3, .int v36), (2, .int r34), (0, .ref (ad 100 0)), (1, .int (b2i v_1))]) hx hb dX10_findRounds_66 hl (by decide) rfl (fun ls hl => ?_)
      exact n_X10_findRounds_68 X hN _ _ _ _ hX (fun z0 z1 r h ls H locs hl hS => ih z0 z1 r h ls H locs hl hS) _ _ _ (lv_sub hl [3, 2, 1, 0] rfl) hS
set_option maxRecDepth 100000 in
set_option maxHeartbeats 4000000 in
theorem n_X10_findRounds_35 (X : Cx p s m args meth c D cy ad A RX10 cX10_findRounds 5 ((none : Option Jvm.ClassFile.FieldType))) (hN : Ob ns 10 100) {s_0 : Bool} {M : Mem} {r : Mem} (hX : f_X10_findRounds_35 s_0 M = some r) : ∀ (ls : Array Slot) (H : Heap) (locs : List Loc), lv_has ls 5 [(0, .ref (ad 100 0))] → St D cy ad ns A M s.heap H locs → W p l e rm_X10_findRounds s m args below meth c H locs 0 0 (MQ below (QC D cy ad ns A r none) args s 0 0 A) (F0 m 35 ls [.int (b2i s_0)]) := by
  obtain ⟨hx, hb, hml, hown, hts, hK, hr, hlk, hA, hG⟩ := id X
  intro ls H locs hl hS
  unfold f_X10_findRounds_35 at hX
  refine lv_istore_n (lv' := [(1, .int (b2i s_0)), (0, .ref (ad 100 0))]) hx hb dX10_findRounds_35 rfl hl (by decide) rfl (fun ls hl => ?_)
  exact n_X10_findRounds_36 X hN _ _ _ _ hX _ _ _ (lv_sub hl [1, 0] rfl) hS
set_option maxRecDepth 100000 in
set_option maxHeartbeats 4000000 in
theorem m_X10_findRounds {l : Launch} {D : va_G} {cy : Nat → ClassId} {ad : Nat → Nat → Nat} {ns : List (Nat × Nat)} {A : Nat → Prop} {M : Mem} (hN : Ob ns 10 100) {r : Mem} (hX : f_X10_findRounds M = some r) : Ct l yX10_findRounds cX10_findRounds 5 ((none : Option Jvm.ClassFile.FieldType)) rm_X10_findRounds D cy ad ns A [.ref (ad 100 0)] M r none := by
  refine ct_of (lv := [(0, .ref (ad 100 0))]) (by decide) (Nat.le_of_ble_eq_true rfl) rfl ?_
  intro p e s m args below meth c ls X hl hS
  obtain ⟨hx, hb, hml, hown, hts, hK, hr, hlk, hA, hG⟩ := id X
  obtain ⟨H, hH⟩ : ∃ z, z = s.heap := ⟨_, rfl⟩
  obtain ⟨locs, hlo⟩ : ∃ z : List Loc, z = [] := ⟨_, rfl⟩
  have hS : St D cy ad ns A M s.heap H locs := by rw [hH, hlo]; exact hS
  have hgoal : W p l e rm_X10_findRounds s m args below meth c H locs 0 0 (MQ below (QC D cy ad ns A r none) args s 0 0 A) (F0 m 0 ls []) := by
    unfold f_X10_findRounds at hX
    refine lv_aload_n hx hb dX10_findRounds_0 rfl (lv_at hl 0 rfl) ?_
    refine lv_iconst (v := (-1)) hx hb dX10_findRounds_1 (by decide) ?_
    refine fp_X10_460 X hS (hN) dX10_findRounds_2 (fun H locs hS => ?_)
    obtain ⟨M37, eM37, hS, hX⟩ := nm_mem hS hX
    refine lv_aload_n hx hb dX10_findRounds_5 rfl (lv_at hl 0 rfl) ?_
    refine lv_ldcw hx hb (own := RX10) hown (hts _ t7_106) dX10_findRounds_6 ?_
    refine fp_X10_463 X hS (hN) dX10_findRounds_9 (fun H locs hS => ?_)
    obtain ⟨M38, eM38, hS, hX⟩ := nm_mem hS hX
    refine lv_aload_n hx hb dX10_findRounds_12 rfl (lv_at hl 0 rfl) ?_
    refine lv_ldcw hx hb (own := RX10) hown (hts _ t7_106) dX10_findRounds_13 ?_
    refine fp_X10_466 X hS (hN) dX10_findRounds_16 (fun H locs hS => ?_)
    obtain ⟨M39, eM39, hS, hX⟩ := nm_mem hS hX
    refine lv_aload_n hx hb dX10_findRounds_19 rfl (lv_at hl 0 rfl) ?_
    obtain ⟨M41, h40, hX⟩ := bn_of hX
    refine r_callV0 (As := []) (rest := []) X hS (m_X10_firstRow hN h40) mv_X10_firstRow rfl (hN) t7_202 ⟨rfl, rfl, Nat.le_of_ble_eq_true rfl, Nat.le_of_ble_eq_true rfl⟩ rfl hl.1 rfl (Nat.le_of_ble_eq_true rfl) ⟨Nat.zero_le _, Nat.zero_le _⟩ dX10_findRounds_20 (fun H locs hS => ?_)
    refine lv_aload_n hx hb dX10_findRounds_23 rfl (lv_at hl 0 rfl) ?_
    refine fg_X10_429 X hS (hN) dX10_findRounds_24 ?_
    refine lv_if_le (tgt := 34) hx hb dX10_findRounds_27 (by decide) (fun c42 => ?_) (fun c42 => ?_)
    · have hX := if_t c42 hX
      refine lv_iconst (v := nI 0) hx hb dX10_findRounds_34 (by decide) ?_
      exact n_X10_findRounds_35 X hN hX _ _ _ (lv_sub hl [0] rfl) hS
    · have hX := if_f c42 hX
      refine lv_iconst (v := nI 1) hx hb dX10_findRounds_30 (by decide) ?_
      refine lv_goto (tgt := 35) hx hb dX10_findRounds_31 (by decide) ?_
      exact n_X10_findRounds_35 X hN hX _ _ _ (lv_sub hl [0] rfl) hS
  rw [hH, hlo] at hgoal
  exact hgoal
theorem mv_X10_findRounds : Mv yX10_findRounds RX10 cX10_findRounds 5 ((none : Option Jvm.ClassFile.FieldType)) 0 := ⟨t7_201, t7_200, ts_73, t1_11, ⟨by decide, by decide⟩, by decide +kernel⟩
/-! SewnYearModel.guild()I -/
def rm_X10_guild : Room := { frames := 4, cells := 0, slots := 0, locals := 92 }
def f_X10_guild_66 (v_1 : Int32) (k_71 : Int32 → Int32 → Bool → Mem → Option (Int32 × Mem)) (v_3 : Int32) (s_0 : Int32) (M : Mem) : Option (Int32 × Mem) :=
  k_71 v_3 s_0 true M
def f_X10_guild_70 (v_1 : Int32) (k_71 : Int32 → Int32 → Bool → Mem → Option (Int32 × Mem)) (v_3 : Int32) (s_0 : Int32) (M : Mem) : Option (Int32 × Mem) :=
  k_71 v_3 s_0 false M
def f_X10_guild_71 (v_1 : Int32) (k_14 : Int32 → Int32 → Mem → Option (Int32 × Mem)) (v_3 : Int32) (s_0 : Int32) (s_1 : Bool) (M : Mem) : Option (Int32 × Mem) :=
  nm (s_0 + (b2i s_1)) fun v1 => nm (v_3 + nI 1) fun v2 => k_14 v1 v2 M
def b_X10_guild_14 (k_2 : Int32 → Mem → Option (Int32 × Mem)) (v_1 : Int32) (rc : Int32 → Int32 → Mem → Option (Int32 × Mem)) (v_2 : Int32) (v_3 : Int32) (M : Mem) : Option (Int32 × Mem) :=
  if (gI M 100 40) ≤ v_3 then (gin v_2 6 <| nm (sA M 100 43 (ix v_2) v_1) fun M5 => nm (v_1 + nI 1) fun v6 => k_2 v6 M5) else (bn (f_X10_townOf M ((nI 23) + v_3)) fun r8 => bn (f_X10_townOf M ((nI 23) + v_1)) fun r10 => if r8 < r10 then (f_X10_guild_66 v_1 (fun x0 x1 x2 y => f_X10_guild_71 v_1 rc x0 x1 x2 y) v_3 v_2 M) else (bn (f_X10_townOf M ((nI 23) + v_3)) fun r13 => bn (f_X10_townOf M ((nI 23) + v_1)) fun r15 => if r13 = r15 then (if v_1 ≤ v_3 then (f_X10_guild_70 v_1 (fun x0 x1 x2 y => f_X10_guild_71 v_1 rc x0 x1 x2 y) v_3 v_2 M) else (f_X10_guild_66 v_1 (fun x0 x1 x2 y => f_X10_guild_71 v_1 rc x0 x1 x2 y) v_3 v_2 M)) else (f_X10_guild_70 v_1 (fun x0 x1 x2 y => f_X10_guild_71 v_1 rc x0 x1 x2 y) v_3 v_2 M)))
def f_X10_guild_14 (k_2 : Int32 → Mem → Option (Int32 × Mem)) (v_1 : Int32) : Nat → (Int32 × Int32 × Mem) → Option (Int32 × Mem) := lp (fun rc q => b_X10_guild_14 k_2 v_1 (fun x0 x1 x2 => rc (x0, x1, x2)) q.1 q.2.1 q.2.2)
def b_X10_guild_2 (rc : Int32 → Mem → Option (Int32 × Mem)) (v_1 : Int32) (M : Mem) : Option (Int32 × Mem) :=
  if (gI M 100 40) ≤ v_1 then (bn (f_X10_walk M (gI M 100 40)) fun M20 => bn (f_X10_lateness M20) fun r22 => some (r22, M20)) else (f_X10_guild_14 rc v_1 FU ((nI 0), (nI 0), M))
def f_X10_guild_2 : Nat → (Int32 × Mem) → Option (Int32 × Mem) := lp (fun rc q => b_X10_guild_2 (fun x0 x1 => rc (x0, x1)) q.1 q.2)
def f_X10_guild (M : Mem) : Option (Int32 × Mem) :=
  f_X10_guild_2 FU ((nI 0), M)
set_option maxRecDepth 100000 in
set_option maxHeartbeats 4000000 in
theorem n_X10_guild_66 {v_1 : Int32} (X : Cx p s m args meth c D cy ad A RX10 cX10_guild 4 ((some .int))) (hN : Ob ns 10 100) {k_71 : Int32 → Int32 → Bool → Mem → Option (Int32 × Mem)} {v_3 : Int32} {s_0 : Int32} {M : Mem} {r : Int32 × Mem} (hX : f_X10_guild_66 v_1 k_71 v_3 s_0 M = some r) : (∀ (v_3 : Int32) (s_0 : Int32) (s_1 : Bool) (M : Mem) (r : Int32 × Mem), k_71 v_3 s_0 s_1 M = some r → ∀ (ls : Array Slot) (H : Heap) (locs : List Loc), lv_has ls 4 [(0, .ref (ad 100 0)), (1, .int v_1), (3, .int v_3)] → St D cy ad ns A M s.heap H locs → W p l e rm_X10_guild s m args below meth c H locs 0 0 (MQ below (QC D cy ad ns A r.2 (some (.int r.1))) args s 0 0 A) (F0 m 71 ls [.int (b2i s_1), .int s_0])) → ∀ (ls : Array Slot) (H : Heap) (locs : List Loc), lv_has ls 4 [(0, .ref (ad 100 0)), (1, .int v_1), (3, .int v_3)] → St D cy ad ns A M s.heap H locs → W p l e rm_X10_guild s m args below meth c H locs 0 0 (MQ below (QC D cy ad ns A r.2 (some (.int r.1))) args s 0 0 A) (F0 m 66 ls [.int s_0]) := by
  obtain ⟨hx, hb, hml, hown, hts, hK, hr, hlk, hA, hG⟩ := id X
  intro hk_71 ls H locs hl hS
  unfold f_X10_guild_66 at hX
  refine lv_iconst (v := nI 1) hx hb dX10_guild_66 (by decide) ?_
  refine lv_goto (tgt := 71) hx hb dX10_guild_67 (by decide) ?_
  exact hk_71 _ _ _ _ _ hX _ _ _ (lv_sub hl [0, 1, 2] rfl) hS
set_option maxRecDepth 100000 in
set_option maxHeartbeats 4000000 in
theorem n_X10_guild_70 {v_1 : Int32} (X : Cx p s m args meth c D cy ad A RX10 cX10_guild 4 ((some .int))) (hN : Ob ns 10 100) {k_71 : Int32 → Int32 → Bool → Mem → Option (Int32 × Mem)} {v_3 : Int32} {s_0 : Int32} {M : Mem} {r : Int32 × Mem} (hX : f_X10_guild_70 v_1 k_71 v_3 s_0 M = some r) : (∀ (v_3 : Int32) (s_0 : Int32) (s_1 : Bool) (M : Mem) (r : Int32 × Mem), k_71 v_3 s_0 s_1 M = some r → ∀ (ls : Array Slot) (H : Heap) (locs : List Loc), lv_has ls 4 [(0, .ref (ad 100 0)), (1, .int v_1), (3, .int v_3)] → St D cy ad ns A M s.heap H locs → W p l e rm_X10_guild s m args below meth c H locs 0 0 (MQ below (QC D cy ad ns A r.2 (some (.int r.1))) args s 0 0 A) (F0 m 71 ls [.int (b2i s_1), .int s_0])) → ∀ (ls : Array Slot) (H : Heap) (locs : List Loc), lv_has ls 4 [(0, .ref (ad 100 0)), (1, .int v_1), (3, .int v_3)] → St D cy ad ns A M s.heap H locs → W p l e rm_X10_guild s m args below meth c H locs 0 0 (MQ below (QC D cy ad ns A r.2 (some (.int r.1))) args s 0 0 A) (F0 m 70 ls [.int s_0]) := by
  obtain ⟨hx, hb, hml, hown, hts, hK, hr, hlk, hA, hG⟩ := id X
  intro hk_71 ls H locs hl hS
  unfold f_X10_guild_70 at hX
  refine lv_iconst (v := nI 0) hx hb dX10_guild_70 (by decide) ?_
  exact hk_71 _ _ _ _ _ hX _ _ _ (lv_sub hl [0, 1, 2] rfl) hS
set_option maxRecDepth 100000 in
set_option maxHeartbeats 4000000 in
theorem n_X10_guild_71 {v_1 : Int32} (X : Cx p s m args meth c D cy ad A RX10 cX10_guild 4 ((some .int))) (hN : Ob ns 10 100) {k_14 : Int32 → Int32 → Mem → Option (Int32 × Mem)} {v_3 : Int32} {s_0 : Int32} {s_1 : Bool} {M : Mem} {r : Int32 × Mem} (hX : f_X10_guild_71 v_1 k_14 v_3 s_0 s_1 M = some r) : (∀ (v_2 : Int32) (v_3 : Int32) (M : Mem) (r : Int32 × Mem), k_14 v_2 v_3 M = some r → ∀ (ls : Array Slot) (H : Heap) (locs : List Loc), lv_has ls 4 [(0, .ref (ad 100 0)), (1, .int v_1), (2, .int v_2), (3, .int v_3)] → St D cy ad ns A M s.heap H locs → W p l e rm_X10_guild s m args below meth c H locs 0 0 (MQ below (QC D cy ad ns A r.2 (some (.int r.1))) args s 0 0 A) (F0 m 14 ls [])) → ∀ (ls : Array Slot) (H : Heap) (locs : List Loc), lv_has ls 4 [(0, .ref (ad 100 0)), (1, .int v_1), (3, .int v_3)] → St D cy ad ns A M s.heap H locs → W p l e rm_X10_guild s m args below meth c H locs 0 0 (MQ below (QC D cy ad ns A r.2 (some (.int r.1))) args s 0 0 A) (F0 m 71 ls [.int (b2i s_1), .int s_0]) := by
  obtain ⟨hx, hb, hml, hown, hts, hK, hr, hlk, hA, hG⟩ := id X
  intro hk_14 ls H locs hl hS
  unfold f_X10_guild_71 at hX
  refine lv_iadd hx hb dX10_guild_71 ?_
  refine lv_topi (fun v1 ev1 => ?_)
  have hX := nm_of ev1 hX
  refine lv_istore_n (lv' := [(2, .int v1), (0, .ref (ad 100 0)), (1, .int v_1), (3, .int v_3)]) hx hb dX10_guild_72 rfl hl (by decide) rfl (fun ls hl => ?_)
  obtain ⟨v2, ev2⟩ : ∃ y : Int32, y = (v_3 + nI 1) := ⟨_, rfl⟩
  have hX := nm_of ev2 hX
  refine lv_iinc (v := v2) (lv' := [(3, .int v2), (2, .int v1), (0, .ref (ad 100 0)), (1, .int v_1)]) hx hb dX10_guild_73 hl (k := 3) rfl (by rw [ev2]; rfl) (by decide) rfl (fun ls hl => ?_)
  refine lv_goto (tgt := 14) hx hb dX10_guild_76 (by decide) ?_
  exact hk_14 _ _ _ _ hX _ _ _ (lv_sub hl [2, 3, 1, 0] rfl) hS
set_option maxRecDepth 100000 in
set_option maxHeartbeats 4000000 in
theorem n_X10_guild_14 (X : Cx p s m args meth c D cy ad A RX10 cX10_guild 4 ((some .int))) (hN : Ob ns 10 100) {k_2 : Int32 → Mem → Option (Int32 × Mem)} {v_1 : Int32} : ∀ (n : Nat) (v_2 : Int32) (v_3 : Int32) (M : Mem) (r : Int32 × Mem), f_X10_guild_14 k_2 v_1 n (v_2, v_3, M) = some r → (∀ (v_1 : Int32) (M : Mem) (r : Int32 × Mem), k_2 v_1 M = some r → ∀ (ls : Array Slot) (H : Heap) (locs : List Loc), lv_has ls 4 [(0, .ref (ad 100 0)), (1, .int v_1)] → St D cy ad ns A M s.heap H locs → W p l e rm_X10_guild s m args below meth c H locs 0 0 (MQ below (QC D cy ad ns A r.2 (some (.int r.1))) args s 0 0 A) (F0 m 2 ls [])) → ∀ (ls : Array Slot) (H : Heap) (locs : List Loc), lv_has ls 4 [(0, .ref (ad 100 0)), (1, .int v_1), (2, .int v_2), (3, .int v_3)] → St D cy ad ns A M s.heap H locs → W p l e rm_X10_guild s m args below meth c H locs 0 0 (MQ below (QC D cy ad ns A r.2 (some (.int r.1))) args s 0 0 A) (F0 m 14 ls []) := by
  obtain ⟨hx, hb, hml, hown, hts, hK, hr, hlk, hA, hG⟩ := id X
  intro n
  induction n with
  | zero => intro v_2 v_3 M r hX; cases (show (none : Option (Int32 × Mem)) = some r from hX)
  | succ n ih =>
    intro v_2 v_3 M r hX hk_2 ls H locs hl hS
    have hX : b_X10_guild_14 k_2 v_1 (fun x0 x1 x2 => f_X10_guild_14 k_2 v_1 n (x0, x1, x2)) v_2 v_3 M = some r := hX
    unfold b_X10_guild_14 at hX
    refine lv_iload_n hx hb dX10_guild_14 rfl (lv_at hl 3 rfl) ?_
    refine lv_aload_n hx hb dX10_guild_15 rfl (lv_at hl 0 rfl) ?_
    refine fg_X10_429 X hS (hN) dX10_guild_16 ?_
    refine lv_icmp_ge (tgt := 79) hx hb dX10_guild_19 (by decide) (fun c3 => ?_) (fun c3 => ?_)
    · have hX := if_t c3 hX
      refine lv_aload_n hx hb dX10_guild_79 rfl (lv_at hl 0 rfl) ?_
      refine fg_X10_63 X hS (hN) dX10_guild_80 ?_
      refine lv_iload_n hx hb dX10_guild_83 rfl (lv_at hl 2 rfl) ?_
      refine lv_iload_n hx hb dX10_guild_84 rfl (lv_at hl 1 rfl) ?_
      obtain ⟨g4, hX⟩ := gin_of hX
      refine r_iast (ci := 10) (o := 100) (k := 43) (n := 6) X hS (hN) rfl rfl g4 dX10_guild_85 (fun H locs hS => ?_)
      obtain ⟨M5, eM5, hS, hX⟩ := nm_mem hS hX
      obtain ⟨v6, ev6⟩ : ∃ y : Int32, y = (v_1 + nI 1) := ⟨_, rfl⟩
      have hX := nm_of ev6 hX
      refine lv_iinc (v := v6) (lv' := [(1, .int v6), (0, .ref (ad 100 0)), (2, .int v_2), (3, .int v_3)]) hx hb dX10_guild_86 hl (k := 1) rfl (by rw [ev6]; rfl) (by decide) rfl (fun ls hl => ?_)
      refine lv_goto (tgt := 2) hx hb dX10_guild_89 (by decide) ?_
      exact hk_2 _ _ _ hX _ _ _ (lv_sub hl [1, 0] rfl) hS
    · have hX := if_f c3 hX
      refine lv_iload_n hx hb dX10_guild_22 rfl (lv_at hl 2 rfl) ?_
      refine lv_aload_n hx hb dX10_guild_23 rfl (lv_at hl 0 rfl) ?_
      refine lv_bipush (v := nI 23) hx hb dX10_guild_24 (by decide) ?_
      refine lv_iload_n hx hb dX10_guild_26 rfl (lv_at hl 3 rfl) ?_
      refine lv_iadd hx hb dX10_guild_27 ?_
      obtain ⟨r8, h7, hX⟩ := bn_of hX
      refine r_callV1 (v := .int r8) (As := [.int ((nI 23) + v_3)]) (rest := [.int v_2]) X hS (m_X10_townOf hN h7) mv_X10_townOf rfl (hN) t7_166 ⟨rfl, rfl, Nat.le_of_ble_eq_true rfl, Nat.le_of_ble_eq_true rfl⟩ rfl hl.1 rfl (Nat.le_of_ble_eq_true rfl) ⟨Nat.zero_le _, Nat.zero_le _⟩ dX10_guild_28 (fun H locs hS => ?_)
      refine lv_aload_n hx hb dX10_guild_31 rfl (lv_at hl 0 rfl) ?_
      refine lv_bipush (v := nI 23) hx hb dX10_guild_32 (by decide) ?_
      refine lv_iload_n hx hb dX10_guild_34 rfl (lv_at hl 1 rfl) ?_
      refine lv_iadd hx hb dX10_guild_35 ?_
      obtain ⟨r10, h9, hX⟩ := bn_of hX
      refine r_callV1 (v := .int r10) (As := [.int ((nI 23) + v_1)]) (rest := [.int r8, .int v_2]) X hS (m_X10_townOf hN h9) mv_X10_townOf rfl (hN) t7_166 ⟨rfl, rfl, Nat.le_of_ble_eq_true rfl, Nat.le_of_ble_eq_true rfl⟩ rfl hl.1 rfl (Nat.le_of_ble_eq_true rfl) ⟨Nat.zero_le _, Nat.zero_le _⟩ dX10_guild_36 (fun H locs hS => ?_)
      refine lv_icmp_lt (tgt := 66) hx hb dX10_guild_39 (by decide) (fun c11 => ?_) (fun c11 => ?_)
      · have hX := if_t c11 hX
        exact n_X10_guild_66 X hN hX (fun z0 z1 z2 z3 r h ls H locs hl hS => n_X10_guild_71 X hN h (fun z0 z1 z2 r h ls H locs hl hS => ih z0 z1 z2 r h hk_2 ls H locs hl hS) _ _ _ hl hS) _ _ _ (lv_sub hl [0, 1, 3] rfl) hS
      · have hX := if_f c11 hX
        refine lv_aload_n hx hb dX10_guild_42 rfl (lv_at hl 0 rfl) ?_
        refine lv_bipush (v := nI 23) hx hb dX10_guild_43 (by decide) ?_
        refine lv_iload_n hx hb dX10_guild_45 rfl (lv_at hl 3 rfl) ?_
        refine lv_iadd hx hb dX10_guild_46 ?_
        obtain ⟨r13, h12, hX⟩ := bn_of hX
        refine r_callV1 (v := .int r13) (As := [.int ((nI 23) + v_3)]) (rest := [.int v_2]) X hS (m_X10_townOf hN h12) mv_X10_townOf rfl (hN) t7_166 ⟨rfl, rfl, Nat.le_of_ble_eq_true rfl, Nat.le_of_ble_eq_true rfl⟩ rfl hl.1 rfl (Nat.le_of_ble_eq_true rfl) ⟨Nat.zero_le _, Nat.zero_le _⟩ dX10_guild_47 (fun H locs hS => ?_)
        refine lv_aload_n hx hb dX10_guild_50 rfl (lv_at hl 0 rfl) ?_
        refine lv_bipush (v := nI 23) hx hb dX10_guild_51 (by decide) ?_
        refine lv_iload_n hx hb dX10_guild_53 rfl (lv_at hl 1 rfl) ?_
        refine lv_iadd hx hb dX10_guild_54 ?_
        obtain ⟨r15, h14, hX⟩ := bn_of hX
        refine r_callV1 (v := .int r15) (As := [.int ((nI 23) + v_1)]) (rest := [.int r13, .int v_2]) X hS (m_X10_townOf hN h14) mv_X10_townOf rfl (hN) t7_166 ⟨rfl, rfl, Nat.le_of_ble_eq_true rfl, Nat.le_of_ble_eq_true rfl⟩ rfl hl.1 rfl (Nat.le_of_ble_eq_true rfl) ⟨Nat.zero_le _, Nat.zero_le _⟩ dX10_guild_55 (fun H locs hS => ?_)
        refine lv_icmp_ne (tgt := 70) hx hb dX10_guild_58 (by decide) (fun c16 => ?_) (fun c16 => ?_)
        · have hX := if_f c16 hX
          exact n_X10_guild_70 X hN hX (fun z0 z1 z2 z3 r h ls H locs hl hS => n_X10_guild_71 X hN h (fun z0 z1 z2 r h ls H locs hl hS => ih z0 z1 z2 r h hk_2 ls H locs hl hS) _ _ _ hl hS) _ _ _ (lv_sub hl [0, 1, 3] rfl) hS
        · have hX := if_t c16 hX
          refine lv_iload_n hx hb dX10_guild_61 rfl (lv_at hl 3 rfl) ?_
          refine lv_iload_n hx hb dX10_guild_62 rfl (lv_at hl 1 rfl) ?_
          refine lv_icmp_ge (tgt := 70) hx hb dX10_guild_63 (by decide) (fun c17 => ?_) (fun c17 => ?_)
          · have hX := if_t c17 hX
            exact n_X10_guild_70 X hN hX (fun z0 z1 z2 z3 r h ls H locs hl hS => n_X10_guild_71 X hN h (fun z0 z1 z2 r h ls H locs hl hS => ih z0 z1 z2 r h hk_2 ls H locs hl hS) _ _ _ hl hS) _ _ _ (lv_sub hl [0, 1, 3] rfl) hS
          · have hX := if_f c17 hX
            exact n_X10_guild_66 X hN hX (fun z0 z1 z2 z3 r h ls H locs hl hS => n_X10_guild_71 X hN h (fun z0 z1 z2 r h ls H locs hl hS => ih z0 z1 z2 r h hk_2 ls H locs hl hS) _ _ _ hl hS) _ _ _ (lv_sub hl [0, 1, 3] rfl) hS
set_option maxRecDepth 100000 in
set_option maxHeartbeats 4000000 in
theorem n_X10_guild_2 (X : Cx p s m args meth c D cy ad A RX10 cX10_guild 4 ((some .int))) (hN : Ob ns 10 100) : ∀ (n : Nat) (v_1 : Int32) (M : Mem) (r : Int32 × Mem), f_X10_guild_2 n (v_1, M) = some r → ∀ (ls : Array Slot) (H : Heap) (locs : List Loc), lv_has ls 4 [(0, .ref (ad 100 0)), (1, .int v_1)] → St D cy ad ns A M s.heap H locs → W p l e rm_X10_guild s m args below meth c H locs 0 0 (MQ below (QC D cy ad ns A r.2 (some (.int r.1))) args s 0 0 A) (F0 m 2 ls []) := by
  obtain ⟨hx, hb, hml, hown, hts, hK, hr, hlk, hA, hG⟩ := id X
  intro n
  induction n with
  | zero => intro v_1 M r hX; cases (show (none : Option (Int32 × Mem)) = some r from hX)
  | succ n ih =>
    intro v_1 M r hX ls H locs hl hS
    have hX : b_X10_guild_2 (fun x0 x1 => f_X10_guild_2 n (x0, x1)) v_1 M = some r := hX
    unfold b_X10_guild_2 at hX
    refine lv_iload_n hx hb dX10_guild_2 rfl (lv_at hl 1 rfl) ?_
    refine lv_aload_n hx hb dX10_guild_3 rfl (lv_at hl 0 rfl) ?_
    refine fg_X10_429 X hS (hN) dX10_guild_4 ?_
    refine lv_icmp_ge (tgt := 92) hx hb dX10_guild_7 (by decide) (fun c18 => ?_) (fun c18 => ?_)
    · have hX := if_t c18 hX
      refine lv_aload_n hx hb dX10_guild_92 rfl (lv_at hl 0 rfl) ?_
      refine lv_aload_n hx hb dX10_guild_93 rfl (lv_at hl 0 rfl) ?_
      refine fg_X10_429 X hS (hN) dX10_guild_94 ?_
      obtain ⟨M20, h19, hX⟩ := bn_of hX
      refine r_callV0 (As := [.int (gI M 100 40)]) (rest := []) X hS (m_X10_walk hN h19) mv_X10_walk rfl (hN) t7_178 ⟨rfl, rfl, Nat.le_of_ble_eq_true rfl, Nat.le_of_ble_eq_true rfl⟩ rfl hl.1 rfl (Nat.le_of_ble_eq_true rfl) ⟨Nat.zero_le _, Nat.zero_le _⟩ dX10_guild_97 (fun H locs hS => ?_)
      refine lv_aload_n hx hb dX10_guild_100 rfl (lv_at hl 0 rfl) ?_
      obtain ⟨r22, h21, hX⟩ := bn_of hX
      refine r_callV1 (v := .int r22) (As := []) (rest := []) X hS (m_X10_lateness hN h21) mv_X10_lateness rfl (hN) t7_210 ⟨rfl, rfl, Nat.le_of_ble_eq_true rfl, Nat.le_of_ble_eq_true rfl⟩ rfl hl.1 rfl (Nat.le_of_ble_eq_true rfl) ⟨Nat.zero_le _, Nat.zero_le _⟩ dX10_guild_101 (fun H locs hS => ?_)
      obtain rfl := some_of hX
      exact x_I (v := r22) X hS dX10_guild_104
    · have hX := if_f c18 hX
      refine lv_iconst (v := nI 0) hx hb dX10_guild_10 (by decide) ?_
      refine lv_istore_n (lv' := [(2, .int (nI 0)), (0, .ref (ad 100 0)), (1, .int v_1)]) hx hb dX10_guild_11 rfl hl (by decide) rfl (fun ls hl => ?_)
      refine lv_iconst (v := nI 0) hx hb dX10_guild_12 (by decide) ?_
      refine lv_istore_n (lv' := [(3, .int (nI 0)), (2, .int (nI 0)), (0, .ref (ad 100 0)), (1, .int v_1)]) hx hb dX10_guild_13 rfl hl (by decide) rfl (fun ls hl => ?_)
      exact n_X10_guild_14 X hN _ _ _ _ _ hX (fun z0 z1 r h ls H locs hl hS => ih z0 z1 r h ls H locs hl hS) _ _ _ (lv_sub hl [2, 3, 1, 0] rfl) hS
set_option maxRecDepth 100000 in
set_option maxHeartbeats 4000000 in
theorem m_X10_guild {l : Launch} {D : va_G} {cy : Nat → ClassId} {ad : Nat → Nat → Nat} {ns : List (Nat × Nat)} {A : Nat → Prop} {M : Mem} (hN : Ob ns 10 100) {r : Int32 × Mem} (hX : f_X10_guild M = some r) : Ct l yX10_guild cX10_guild 4 ((some .int)) rm_X10_guild D cy ad ns A [.ref (ad 100 0)] M r.2 (some (.int r.1)) := by
  refine ct_of (lv := [(0, .ref (ad 100 0))]) (by decide) (Nat.le_of_ble_eq_true rfl) rfl ?_
  intro p e s m args below meth c ls X hl hS
  obtain ⟨hx, hb, hml, hown, hts, hK, hr, hlk, hA, hG⟩ := id X
  obtain ⟨H, hH⟩ : ∃ z, z = s.heap := ⟨_, rfl⟩
  obtain ⟨locs, hlo⟩ : ∃ z : List Loc, z = [] := ⟨_, rfl⟩
  have hS : St D cy ad ns A M s.heap H locs := by rw [hH, hlo]; exact hS
  have hgoal : W p l e rm_X10_guild s m args below meth c H locs 0 0 (MQ below (QC D cy ad ns A r.2 (some (.int r.1))) args s 0 0 A) (F0 m 0 ls []) := by
    unfold f_X10_guild at hX
    refine lv_iconst (v := nI 0) hx hb dX10_guild_0 (by decide) ?_
    refine lv_istore_n (lv' := [(1, .int (nI 0)), (0, .ref (ad 100 0))]) hx hb dX10_guild_1 rfl hl (by decide) rfl (fun ls hl => ?_)
    exact n_X10_guild_2 X hN _ _ _ _ hX _ _ _ (lv_sub hl [1, 0] rfl) hS
  rw [hH, hlo] at hgoal
  exact hgoal
theorem mv_X10_guild : Mv yX10_guild RX10 cX10_guild 4 ((some .int)) 0 := ⟨t7_225, t7_224, ts_79, t1_11, ⟨by decide, by decide⟩, by decide +kernel⟩
/-! SewnYearModel.rounds(II)I -/
def rm_X10_rounds : Room := { frames := 5, cells := 0, slots := 0, locals := 116 }
def f_X10_rounds (M : Mem) (a1 : Int32) (a2 : Int32) : Option (Int32 × Mem) :=
  nm (sI M 100 0 (nI 0)) fun M1 => bp (f_X10_layTown M1 a1) fun r4 M3 => if r4 = true then (bn (f_X10_findRounds M3) fun M7 => if a2 = (nI 0) then (some ((gI M7 100 45), M7)) else (if (gI M7 100 40) = (nI 0) then (some ((-1), M7)) else (bn (f_X10_in a2 (nI 10) ((nI 9) + (gI M7 100 45))) fun r11 => if r11 = true then (gin (a2 - (nI 10)) 6 <| some ((gA M7 100 48 (ix (a2 - (nI 10)))), M7)) else (bn (f_X10_in a2 (nI 20) ((nI 19) + (gI M7 100 40))) fun r14 => if r14 = true then (gin (a2 - (nI 20)) 6 <| some ((gA M7 100 49 (ix (a2 - (nI 20)))), M7)) else (if a2 = (nI 1) then (some ((gI M7 100 46), M7)) else (if a2 = (nI 2) then (some ((gI M7 100 47), M7)) else (if a2 = (nI 3) then (bp (f_X10_guild M7) fun r21 M20 => some (r21, M20)) else (some ((-1), M7))))))))) else (some ((-1), M3))
set_option maxRecDepth 100000 in
set_option maxHeartbeats 4000000 in
theorem m_X10_rounds {l : Launch} {D : va_G} {cy : Nat → ClassId} {ad : Nat → Nat → Nat} {ns : List (Nat × Nat)} {A : Nat → Prop} {M : Mem} (hN : Ob ns 10 100) {a1 : Int32} {a2 : Int32} {r : Int32 × Mem} (hX : f_X10_rounds M a1 a2 = some r) : Ct l yX10_rounds cX10_rounds 3 ((some .int)) rm_X10_rounds D cy ad ns A [.ref (ad 100 0), .int a1, .int a2] M r.2 (some (.int r.1)) := by
  refine ct_of (lv := [(0, .ref (ad 100 0)), (1, .int a1), (2, .int a2)]) (by decide) (Nat.le_of_ble_eq_true rfl) rfl ?_
  intro p e s m args below meth c ls X hl hS
  obtain ⟨hx, hb, hml, hown, hts, hK, hr, hlk, hA, hG⟩ := id X
  obtain ⟨H, hH⟩ : ∃ z, z = s.heap := ⟨_, rfl⟩
  obtain ⟨locs, hlo⟩ : ∃ z : List Loc, z = [] := ⟨_, rfl⟩
  have hS : St D cy ad ns A M s.heap H locs := by rw [hH, hlo]; exact hS
  have hgoal : W p l e rm_X10_rounds s m args below meth c H locs 0 0 (MQ below (QC D cy ad ns A r.2 (some (.int r.1))) args s 0 0 A) (F0 m 0 ls []) := by
    unfold f_X10_rounds at hX
    refine lv_aload_n hx hb dX10_rounds_0 rfl (lv_at hl 0 rfl) ?_
    refine lv_iconst (v := nI 0) hx hb dX10_rounds_1 (by decide) ?_
    refine fp_X10_94 X hS (hN) dX10_rounds_2 (fun H locs hS => ?_)
    obtain ⟨M1, eM1, hS, hX⟩ := nm_mem hS hX
    refine lv_aload_n hx hb dX10_rounds_5 rfl (lv_at hl 0 rfl) ?_
    refine lv_iload_n hx hb dX10_rounds_6 rfl (lv_at hl 1 rfl) ?_
    obtain ⟨r4, M3, h2, hX⟩ := bp_of hX
    refine r_callV1 (v := .int (b2i r4)) (As := [.int a1]) (rest := []) X hS (m_X10_layTown hN h2) mv_X10_layTown rfl (hN) t7_162 ⟨rfl, rfl, Nat.le_of_ble_eq_true rfl, Nat.le_of_ble_eq_true rfl⟩ rfl hl.1 rfl (Nat.le_of_ble_eq_true rfl) ⟨Nat.zero_le _, Nat.zero_le _⟩ dX10_rounds_7 (fun H locs hS => ?_)
    refine lv_if_ne (tgt := 15) hx hb dX10_rounds_10 (by decide) (fun c5 => ?_) (fun c5 => ?_)
    · have hX := if_bt c5 hX
      refine lv_aload_n hx hb dX10_rounds_15 rfl (lv_at hl 0 rfl) ?_
      obtain ⟨M7, h6, hX⟩ := bn_of hX
      refine r_callV0 (As := []) (rest := []) X hS (m_X10_findRounds hN h6) mv_X10_findRounds rfl (hN) t7_198 ⟨rfl, rfl, Nat.le_of_ble_eq_true rfl, Nat.le_of_ble_eq_true rfl⟩ rfl hl.1 rfl (Nat.le_of_ble_eq_true rfl) ⟨Nat.zero_le _, Nat.zero_le _⟩ dX10_rounds_16 (fun H locs hS => ?_)
      refine lv_iload_n hx hb dX10_rounds_19 rfl (lv_at hl 2 rfl) ?_
      refine lv_if_ne (tgt := 28) hx hb dX10_rounds_20 (by decide) (fun c8 => ?_) (fun c8 => ?_)
      · have hX := if_f c8 hX
        refine lv_aload_n hx hb dX10_rounds_28 rfl (lv_at hl 0 rfl) ?_
        refine fg_X10_429 X hS (hN) dX10_rounds_29 ?_
        refine lv_if_ne (tgt := 37) hx hb dX10_rounds_32 (by decide) (fun c9 => ?_) (fun c9 => ?_)
        · have hX := if_f c9 hX
          refine lv_iload_n hx hb dX10_rounds_37 rfl (lv_at hl 2 rfl) ?_
          refine lv_bipush (v := nI 10) hx hb dX10_rounds_38 (by decide) ?_
          refine lv_bipush (v := nI 9) hx hb dX10_rounds_40 (by decide) ?_
          refine lv_aload_n hx hb dX10_rounds_42 rfl (lv_at hl 0 rfl) ?_
          refine fg_X10_460 X hS (hN) dX10_rounds_43 ?_
          refine lv_iadd hx hb dX10_rounds_46 ?_
          obtain ⟨r11, h10, hX⟩ := bn_of hX
          refine r_callS1 (v := .int (b2i r11)) (As := [.int a2, .int (nI 10), .int ((nI 9) + (gI M7 100 45))]) (rest := []) X hS (m_X10_in (M := M7) hN h10) ms_X10_in t6_81 ⟨rfl, rfl, Nat.le_of_ble_eq_true rfl, Nat.le_of_ble_eq_true rfl⟩ rfl hl.1 rfl (Nat.le_of_ble_eq_true rfl) ⟨Nat.zero_le _, Nat.zero_le _⟩ dX10_rounds_47 (fun H locs hS => ?_)
          refine lv_if_eq (tgt := 63) hx hb dX10_rounds_50 (by decide) (fun c12 => ?_) (fun c12 => ?_)
          · have hX := if_bf c12 hX
            refine lv_iload_n hx hb dX10_rounds_63 rfl (lv_at hl 2 rfl) ?_
            refine lv_bipush (v := nI 20) hx hb dX10_rounds_64 (by decide) ?_
            refine lv_bipush (v := nI 19) hx hb dX10_rounds_66 (by decide) ?_
            refine lv_aload_n hx hb dX10_rounds_68 rfl (lv_at hl 0 rfl) ?_
            refine fg_X10_429 X hS (hN) dX10_rounds_69 ?_
            refine lv_iadd hx hb dX10_rounds_72 ?_
            obtain ⟨r14, h13, hX⟩ := bn_of hX
            refine r_callS1 (v := .int (b2i r14)) (As := [.int a2, .int (nI 20), .int ((nI 19) + (gI M7 100 40))]) (rest := []) X hS (m_X10_in (M := M7) hN h13) ms_X10_in t6_81 ⟨rfl, rfl, Nat.le_of_ble_eq_true rfl, Nat.le_of_ble_eq_true rfl⟩ rfl hl.1 rfl (Nat.le_of_ble_eq_true rfl) ⟨Nat.zero_le _, Nat.zero_le _⟩ dX10_rounds_73 (fun H locs hS => ?_)
            refine lv_if_eq (tgt := 89) hx hb dX10_rounds_76 (by decide) (fun c15 => ?_) (fun c15 => ?_)
            · have hX := if_bf c15 hX
              refine lv_iload_n hx hb dX10_rounds_89 rfl (lv_at hl 2 rfl) ?_
              refine lv_iconst (v := nI 1) hx hb dX10_rounds_90 (by decide) ?_
              refine lv_icmp_ne (tgt := 101) hx hb dX10_rounds_91 (by decide) (fun c16 => ?_) (fun c16 => ?_)
              · have hX := if_f c16 hX
                refine lv_iload_n hx hb dX10_rounds_101 rfl (lv_at hl 2 rfl) ?_
                refine lv_iconst (v := nI 2) hx hb dX10_rounds_102 (by decide) ?_
                refine lv_icmp_ne (tgt := 113) hx hb dX10_rounds_103 (by decide) (fun c17 => ?_) (fun c17 => ?_)
                · have hX := if_f c17 hX
                  refine lv_iload_n hx hb dX10_rounds_113 rfl (lv_at hl 2 rfl) ?_
                  refine lv_iconst (v := nI 3) hx hb dX10_rounds_114 (by decide) ?_
                  refine lv_icmp_ne (tgt := 125) hx hb dX10_rounds_115 (by decide) (fun c18 => ?_) (fun c18 => ?_)
                  · have hX := if_f c18 hX
                    refine lv_iconst (v := (-1)) hx hb dX10_rounds_125 (by decide) ?_
                    obtain rfl := some_of hX
                    exact x_I (v := (-1)) X hS dX10_rounds_126
                  · have hX := if_t c18 hX
                    refine lv_aload_n hx hb dX10_rounds_118 rfl (lv_at hl 0 rfl) ?_
                    obtain ⟨r21, M20, h19, hX⟩ := bp_of hX
                    refine r_callV1 (v := .int r21) (As := []) (rest := []) X hS (m_X10_guild hN h19) mv_X10_guild rfl (hN) t7_222 ⟨rfl, rfl, Nat.le_of_ble_eq_true rfl, Nat.le_of_ble_eq_true rfl⟩ rfl hl.1 rfl (Nat.le_of_ble_eq_true rfl) ⟨Nat.zero_le _, Nat.zero_le _⟩ dX10_rounds_119 (fun H locs hS => ?_)
                    refine lv_goto (tgt := 126) hx hb dX10_rounds_122 (by decide) ?_
                    obtain rfl := some_of hX
                    exact x_I (v := r21) X hS dX10_rounds_126
                · have hX := if_t c17 hX
                  refine lv_aload_n hx hb dX10_rounds_106 rfl (lv_at hl 0 rfl) ?_
                  refine fg_X10_466 X hS (hN) dX10_rounds_107 ?_
                  refine lv_goto (tgt := 126) hx hb dX10_rounds_110 (by decide) ?_
                  obtain rfl := some_of hX
                  exact x_I (v := (gI M7 100 47)) X hS dX10_rounds_126
              · have hX := if_t c16 hX
                refine lv_aload_n hx hb dX10_rounds_94 rfl (lv_at hl 0 rfl) ?_
                refine fg_X10_463 X hS (hN) dX10_rounds_95 ?_
                refine lv_goto (tgt := 126) hx hb dX10_rounds_98 (by decide) ?_
                obtain rfl := some_of hX
                exact x_I (v := (gI M7 100 46)) X hS dX10_rounds_126
            · have hX := if_bt c15 hX
              refine lv_aload_n hx hb dX10_rounds_79 rfl (lv_at hl 0 rfl) ?_
              refine fg_X10_72 X hS (hN) dX10_rounds_80 ?_
              refine lv_iload_n hx hb dX10_rounds_83 rfl (lv_at hl 2 rfl) ?_
              refine lv_bipush (v := nI 20) hx hb dX10_rounds_84 (by decide) ?_
              refine lv_isub hx hb dX10_rounds_86 ?_
              obtain ⟨g22, hX⟩ := gin_of hX
              refine r_iald (ci := 10) (o := 100) (k := 49) (n := 6) X hS (hN) rfl rfl g22 dX10_rounds_87 ?_
              obtain rfl := some_of hX
              exact x_I (v := (gA M7 100 49 (ix (a2 - (nI 20))))) X hS dX10_rounds_88
          · have hX := if_bt c12 hX
            refine lv_aload_n hx hb dX10_rounds_53 rfl (lv_at hl 0 rfl) ?_
            refine fg_X10_69 X hS (hN) dX10_rounds_54 ?_
            refine lv_iload_n hx hb dX10_rounds_57 rfl (lv_at hl 2 rfl) ?_
            refine lv_bipush (v := nI 10) hx hb dX10_rounds_58 (by decide) ?_
            refine lv_isub hx hb dX10_rounds_60 ?_
            obtain ⟨g23, hX⟩ := gin_of hX
            refine r_iald (ci := 10) (o := 100) (k := 48) (n := 6) X hS (hN) rfl rfl g23 dX10_rounds_61 ?_
            obtain rfl := some_of hX
            exact x_I (v := (gA M7 100 48 (ix (a2 - (nI 10))))) X hS dX10_rounds_62
        · have hX := if_t c9 hX
          refine lv_iconst (v := (-1)) hx hb dX10_rounds_35 (by decide) ?_
          obtain rfl := some_of hX
          exact x_I (v := (-1)) X hS dX10_rounds_36
      · have hX := if_t c8 hX
        refine lv_aload_n hx hb dX10_rounds_23 rfl (lv_at hl 0 rfl) ?_
        refine fg_X10_460 X hS (hN) dX10_rounds_24 ?_
        obtain rfl := some_of hX
        exact x_I (v := (gI M7 100 45)) X hS dX10_rounds_27
    · have hX := if_bf c5 hX
      refine lv_iconst (v := (-1)) hx hb dX10_rounds_13 (by decide) ?_
      obtain rfl := some_of hX
      exact x_I (v := (-1)) X hS dX10_rounds_14
  rw [hH, hlo] at hgoal
  exact hgoal
theorem mv_X10_rounds : Mv yX10_rounds RX10 cX10_rounds 3 ((some .int)) 2 := ⟨t7_197, t7_195, t7_196, t1_11, ⟨by decide, by decide⟩, by decide +kernel⟩
/-! SewnYearModel.common(JJ)J -/
def rm_X10_common : Room := { frames := 0, cells := 0, slots := 0, locals := 0 }
def b_X10_common_6 (a1 : Int64) (a2 : Int64) (rc : Int64 → Int64 → Option (Int64)) (v_4 : Int64) (v_6 : Int64) : Option (Int64) :=
  if (lg_cmp v_6 (lN 0)) = (nI 0) then (some v_4) else (gnl v_6 <| nm (v_4 - v_4 / v_6 * v_6) fun v3 => rc v_6 v3)
def f_X10_common_6 (a1 : Int64) (a2 : Int64) : Nat → (Int64 × Int64) → Option (Int64) := lp (fun rc q => b_X10_common_6 a1 a2 (fun x0 x1 => rc (x0, x1)) q.1 q.2)
def f_X10_common (a1 : Int64) (a2 : Int64) : Option (Int64) :=
  f_X10_common_6 a1 a2 FU (a1, a2)
set_option maxRecDepth 100000 in
set_option maxHeartbeats 4000000 in
theorem n_X10_common_6 {a1 : Int64} {a2 : Int64} (X : Cx p s m args meth c D cy ad A RX10 cX10_common 10 ((some .long))) (hN : Ob ns 10 100) {M : Mem} : ∀ (n : Nat) (v_4 : Int64) (v_6 : Int64) (r : Int64), f_X10_common_6 a1 a2 n (v_4, v_6) = some r → ∀ (ls : Array Slot) (H : Heap) (locs : List Loc), lv_has ls 10 [(4, .long v_4), (6, .long v_6)] → St D cy ad ns A M s.heap H locs → W p l e rm_X10_common s m args below meth c H locs 0 0 (MQ below (QC D cy ad ns A M (some (.long r))) args s 0 0 A) (F0 m 6 ls []) := by
  obtain ⟨hx, hb, hml, hown, hts, hK, hr, hlk, hA, hG⟩ := id X
  intro n
  induction n with
  | zero => intro v_4 v_6 r hX; cases (show (none : Option (Int64)) = some r from hX)
  | succ n ih =>
    intro v_4 v_6 r hX ls H locs hl hS
    have hX : b_X10_common_6 a1 a2 (fun x0 x1 => f_X10_common_6 a1 a2 n (x0, x1)) v_4 v_6 = some r := hX
    unfold b_X10_common_6 at hX
    refine lv_lload hx hb dX10_common_6 (lv_at hl 1 rfl) ?_
    refine lv_lconst (v := lN 0) hx hb dX10_common_8 (by decide) ?_
    refine W.lcmp hx hb dX10_common_9 ?_
    refine lv_if_eq (tgt := 31) hx hb dX10_common_10 (by decide) (fun c1 => ?_) (fun c1 => ?_)
    · have hX := if_t c1 hX
      refine lv_lload hx hb dX10_common_31 (lv_at hl 0 rfl) ?_
      obtain rfl := some_of hX
      exact x_L (v := v_4) X hS dX10_common_33
    · have hX := if_f c1 hX
      refine lv_lload hx hb dX10_common_13 (lv_at hl 0 rfl) ?_
      refine lv_lload hx hb dX10_common_15 (lv_at hl 1 rfl) ?_
      obtain ⟨g2, hX⟩ := gnl_of hX
      refine lv_lrem hx hb dX10_common_17 g2 ?_
      refine lv_topl (fun v3 ev3 => ?_)
      have hX := nm_of ev3 hX
      refine lv_lstore (lv' := [(8, .long v3), (4, .long v_4), (6, .long v_6)]) hx hb dX10_common_18 hl (by decide) rfl (fun ls hl => ?_)
      refine lv_lload hx hb dX10_common_20 (lv_at hl 2 rfl) ?_
      refine lv_lstore (lv' := [(4, .long v_6), (8, .long v3), (6, .long v_6)]) hx hb dX10_common_22 hl (by decide) rfl (fun ls hl => ?_)
      refine lv_lload hx hb dX10_common_24 (lv_at hl 1 rfl) ?_
      refine lv_lstore (lv' := [(6, .long v3), (4, .long v_6), (8, .long v3)]) hx hb dX10_common_26 hl (by decide) rfl (fun ls hl => ?_)
      refine lv_goto (tgt := 6) hx hb dX10_common_28 (by decide) ?_
      exact ih _ _ _ hX _ _ _ (lv_sub hl [1, 0] rfl) hS
set_option maxRecDepth 100000 in
set_option maxHeartbeats 4000000 in
theorem m_X10_common {l : Launch} {D : va_G} {cy : Nat → ClassId} {ad : Nat → Nat → Nat} {ns : List (Nat × Nat)} {A : Nat → Prop} {M : Mem} (hN : Ob ns 10 100) {a1 : Int64} {a2 : Int64} {r : Int64} (hX : f_X10_common a1 a2 = some r) : Ct l yX10_common cX10_common 10 ((some .long)) rm_X10_common D cy ad ns A [.long a1, .long a2] M M (some (.long r)) := by
  refine ct_of (lv := [(0, .long a1), (2, .long a2)]) (by decide) (Nat.le_of_ble_eq_true rfl) rfl ?_
  intro p e s m args below meth c ls X hl hS
  obtain ⟨hx, hb, hml, hown, hts, hK, hr, hlk, hA, hG⟩ := id X
  obtain ⟨H, hH⟩ : ∃ z, z = s.heap := ⟨_, rfl⟩
  obtain ⟨locs, hlo⟩ : ∃ z : List Loc, z = [] := ⟨_, rfl⟩
  have hS : St D cy ad ns A M s.heap H locs := by rw [hH, hlo]; exact hS
  have hgoal : W p l e rm_X10_common s m args below meth c H locs 0 0 (MQ below (QC D cy ad ns A M (some (.long r))) args s 0 0 A) (F0 m 0 ls []) := by
    unfold f_X10_common at hX
    refine lv_lload_n hx hb dX10_common_0 rfl (lv_at hl 0 rfl) ?_
    refine lv_lstore (lv' := [(4, .long a1), (0, .long a1), (2, .long a2)]) hx hb dX10_common_1 hl (by decide) rfl (fun ls hl => ?_)
    refine lv_lload_n hx hb dX10_common_3 rfl (lv_at hl 2 rfl) ?_
    refine lv_lstore (lv' := [(6, .long a2), (4, .long a1), (0, .long a1), (2, .long a2)]) hx hb dX10_common_4 hl (by decide) rfl (fun ls hl => ?_)
    exact n_X10_common_6 X hN _ _ _ _ hX _ _ _ (lv_sub hl [1, 0] rfl) hS
  rw [hH, hlo] at hgoal
  exact hgoal
theorem ms_X10_common : Ms yX10_common cX10_common 10 ((some .long)) 2 := ⟨t8_2, t8_1, t1_11, ⟨by decide, by decide⟩, by decide +kernel⟩
/-! SewnYearModel.tens(I)J -/
def rm_X10_tens : Room := { frames := 0, cells := 0, slots := 0, locals := 0 }
def b_X10_tens_4 (a1 : Int32) (rc : Int64 → Int32 → Option (Int64)) (v_1 : Int64) (v_3 : Int32) : Option (Int64) :=
  if a1 ≤ v_3 then (some v_1) else (nm (v_1 * (lN 10)) fun v2 => nm (v_3 + nI 1) fun v3 => rc v2 v3)
def f_X10_tens_4 (a1 : Int32) : Nat → (Int64 × Int32) → Option (Int64) := lp (fun rc q => b_X10_tens_4 a1 (fun x0 x1 => rc (x0, x1)) q.1 q.2)
def f_X10_tens (a1 : Int32) : Option (Int64) :=
  nm (lN 1) fun v4 => f_X10_tens_4 a1 FU (v4, (nI 0))
set_option maxRecDepth 100000 in
set_option maxHeartbeats 4000000 in
theorem n_X10_tens_4 {a1 : Int32} (X : Cx p s m args meth c D cy ad A RX10 cX10_tens 4 ((some .long))) (hN : Ob ns 10 100) {M : Mem} : ∀ (n : Nat) (v_1 : Int64) (v_3 : Int32) (r : Int64), f_X10_tens_4 a1 n (v_1, v_3) = some r → ∀ (ls : Array Slot) (H : Heap) (locs : List Loc), lv_has ls 4 [(0, .int a1), (1, .long v_1), (3, .int v_3)] → St D cy ad ns A M s.heap H locs → W p l e rm_X10_tens s m args below meth c H locs 0 0 (MQ below (QC D cy ad ns A M (some (.long r))) args s 0 0 A) (F0 m 4 ls []) := by
  obtain ⟨hx, hb, hml, hown, hts, hK, hr, hlk, hA, hG⟩ := id X
  intro n
  induction n with
  | zero => intro v_1 v_3 r hX; cases (show (none : Option (Int64)) = some r from hX)
  | succ n ih =>
    intro v_1 v_3 r hX ls H locs hl hS
    have hX : b_X10_tens_4 a1 (fun x0 x1 => f_X10_tens_4 a1 n (x0, x1)) v_1 v_3 = some r := hX
    unfold b_X10_tens_4 at hX
    refine lv_iload_n hx hb dX10_tens_4 rfl (lv_at hl 2 rfl) ?_
    refine lv_iload_n hx hb dX10_tens_5 rfl (lv_at hl 0 rfl) ?_
    refine lv_icmp_ge (tgt := 21) hx hb dX10_tens_6 (by decide) (fun c1 => ?_) (fun c1 => ?_)
    · have hX := if_t c1 hX
      refine lv_lload_n hx hb dX10_tens_21 rfl (lv_at hl 1 rfl) ?_
      obtain rfl := some_of hX
      exact x_L (v := v_1) X hS dX10_tens_22
    · have hX := if_f c1 hX
      refine lv_lload_n hx hb dX10_tens_9 rfl (lv_at hl 1 rfl) ?_
      refine lv_ldc2 hx hb (own := RX10) hown (hts _ t7_236) dX10_tens_10 ?_
      refine lv_lmul hx hb dX10_tens_13 ?_
      refine lv_topl (fun v2 ev2 => ?_)
      have hX := nm_of ev2 hX
      refine lv_lstore_n (lv' := [(1, .long v2), (0, .int a1), (3, .int v_3)]) hx hb dX10_tens_14 rfl hl (by decide) rfl (fun ls hl => ?_)
      obtain ⟨v3, ev3⟩ : ∃ y : Int32, y = (v_3 + nI 1) := ⟨_, rfl⟩
      have hX := nm_of ev3 hX
      refine lv_iinc (v := v3) (lv' := [(3, .int v3), (1, .long v2), (0, .int a1)]) hx hb dX10_tens_15 hl (k := 2) rfl (by rw [ev3]; rfl) (by decide) rfl (fun ls hl => ?_)
      refine lv_goto (tgt := 4) hx hb dX10_tens_18 (by decide) ?_
      exact ih _ _ _ hX _ _ _ (lv_sub hl [2, 1, 0] rfl) hS
set_option maxRecDepth 100000 in
set_option maxHeartbeats 4000000 in
theorem m_X10_tens {l : Launch} {D : va_G} {cy : Nat → ClassId} {ad : Nat → Nat → Nat} {ns : List (Nat × Nat)} {A : Nat → Prop} {M : Mem} (hN : Ob ns 10 100) {a1 : Int32} {r : Int64} (hX : f_X10_tens a1 = some r) : Ct l yX10_tens cX10_tens 4 ((some .long)) rm_X10_tens D cy ad ns A [.int a1] M M (some (.long r)) := by
  refine ct_of (lv := [(0, .int a1)]) (by decide) (Nat.le_of_ble_eq_true rfl) rfl ?_
  intro p e s m args below meth c ls X hl hS
  obtain ⟨hx, hb, hml, hown, hts, hK, hr, hlk, hA, hG⟩ := id X
  obtain ⟨H, hH⟩ : ∃ z, z = s.heap := ⟨_, rfl⟩
  obtain ⟨locs, hlo⟩ : ∃ z : List Loc, z = [] := ⟨_, rfl⟩
  have hS : St D cy ad ns A M s.heap H locs := by rw [hH, hlo]; exact hS
  have hgoal : W p l e rm_X10_tens s m args below meth c H locs 0 0 (MQ below (QC D cy ad ns A M (some (.long r))) args s 0 0 A) (F0 m 0 ls []) := by
    unfold f_X10_tens at hX
    refine lv_lconst (v := lN 1) hx hb dX10_tens_0 (by decide) ?_
    refine lv_topl (fun v4 ev4 => ?_)
    have hX := nm_of ev4 hX
    refine lv_lstore_n (lv' := [(1, .long v4), (0, .int a1)]) hx hb dX10_tens_1 rfl hl (by decide) rfl (fun ls hl => ?_)
    refine lv_iconst (v := nI 0) hx hb dX10_tens_2 (by decide) ?_
    refine lv_istore_n (lv' := [(3, .int (nI 0)), (1, .long v4), (0, .int a1)]) hx hb dX10_tens_3 rfl hl (by decide) rfl (fun ls hl => ?_)
    exact n_X10_tens_4 X hN _ _ _ _ hX _ _ _ (lv_sub hl [2, 1, 0] rfl) hS
  rw [hH, hlo] at hgoal
  exact hgoal
theorem ms_X10_tens : Ms yX10_tens cX10_tens 4 ((some .long)) 1 := ⟨t7_235, t7_234, t1_11, ⟨by decide, by decide⟩, by decide +kernel⟩
/-! SewnYearModel.just(III)J -/
def rm_X10_just : Room := { frames := 0, cells := 0, slots := 0, locals := 0 }
def f_X10_just_57 (a1 : Int32) (a2 : Int32) (a3 : Int32) (k_34 : Int64 → Int32 → Option (Int64)) (v_5 : Int32) (s_0 : Int64) (s_1 : Int64) : Option (Int64) :=
  nm (s_0 * s_1) fun v1 => nm (v_5 + nI 1) fun v2 => k_34 v1 v2
def b_X10_just_34 (a1 : Int32) (a2 : Int32) (a3 : Int32) (rc : Int64 → Int32 → Option (Int64)) (v_3 : Int64) (v_5 : Int32) : Option (Int64) :=
  if a1 ≤ v_5 then (some v_3) else (if a2 ≤ v_5 then (f_X10_just_57 a1 a2 a3 rc v_5 v_3 (Int32.toInt64 ((nI 10) - a3))) else (f_X10_just_57 a1 a2 a3 rc v_5 v_3 (Int32.toInt64 a3)))
def f_X10_just_34 (a1 : Int32) (a2 : Int32) (a3 : Int32) : Nat → (Int64 × Int32) → Option (Int64) := lp (fun rc q => b_X10_just_34 a1 a2 a3 (fun x0 x1 => rc (x0, x1)) q.1 q.2)
def b_X10_just_5 (a1 : Int32) (a2 : Int32) (a3 : Int32) (rc : Int64 → Int32 → Option (Int64)) (v_3 : Int64) (v_5 : Int32) : Option (Int64) :=
  if a2 < v_5 then (f_X10_just_34 a1 a2 a3 FU (v_3, (nI 0))) else (gnl (Int32.toInt64 v_5) <| nm ((v_3 * (Int32.toInt64 ((a1 - a2) + v_5))) / (Int32.toInt64 v_5)) fun v7 => nm (v_5 + nI 1) fun v8 => rc v7 v8)
def f_X10_just_5 (a1 : Int32) (a2 : Int32) (a3 : Int32) : Nat → (Int64 × Int32) → Option (Int64) := lp (fun rc q => b_X10_just_5 a1 a2 a3 (fun x0 x1 => rc (x0, x1)) q.1 q.2)
def f_X10_just (a1 : Int32) (a2 : Int32) (a3 : Int32) : Option (Int64) :=
  nm (lN 1) fun v9 => f_X10_just_5 a1 a2 a3 FU (v9, (nI 1))
set_option maxRecDepth 100000 in
set_option maxHeartbeats 4000000 in
theorem n_X10_just_57 {a1 : Int32} {a2 : Int32} {a3 : Int32} (X : Cx p s m args meth c D cy ad A RX10 cX10_just 6 ((some .long))) (hN : Ob ns 10 100) {M : Mem} {k_34 : Int64 → Int32 → Option (Int64)} {v_5 : Int32} {s_0 : Int64} {s_1 : Int64} {r : Int64} (hX : f_X10_just_57 a1 a2 a3 k_34 v_5 s_0 s_1 = some r) : (∀ (v_3 : Int64) (v_5 : Int32) (r : Int64), k_34 v_3 v_5 = some r → ∀ (ls : Array Slot) (H : Heap) (locs : List Loc), lv_has ls 6 [(0, .int a1), (1, .int a2), (2, .int a3), (3, .long v_3), (5, .int v_5)] → St D cy ad ns A M s.heap H locs → W p l e rm_X10_just s m args below meth c H locs 0 0 (MQ below (QC D cy ad ns A M (some (.long r))) args s 0 0 A) (F0 m 34 ls [])) → ∀ (ls : Array Slot) (H : Heap) (locs : List Loc), lv_has ls 6 [(0, .int a1), (1, .int a2), (2, .int a3), (5, .int v_5)] → St D cy ad ns A M s.heap H locs → W p l e rm_X10_just s m args below meth c H locs 0 0 (MQ below (QC D cy ad ns A M (some (.long r))) args s 0 0 A) (F0 m 57 ls [.long s_1, .long s_0]) := by
  obtain ⟨hx, hb, hml, hown, hts, hK, hr, hlk, hA, hG⟩ := id X
  intro hk_34 ls H locs hl hS
  unfold f_X10_just_57 at hX
  refine lv_lmul hx hb dX10_just_57 ?_
  refine lv_topl (fun v1 ev1 => ?_)
  have hX := nm_of ev1 hX
  refine lv_lstore_n (lv' := [(3, .long v1), (0, .int a1), (1, .int a2), (2, .int a3), (5, .int v_5)]) hx hb dX10_just_58 rfl hl (by decide) rfl (fun ls hl => ?_)
  obtain ⟨v2, ev2⟩ : ∃ y : Int32, y = (v_5 + nI 1) := ⟨_, rfl⟩
  have hX := nm_of ev2 hX
  refine lv_iinc (v := v2) (lv' := [(5, .int v2), (3, .long v1), (0, .int a1), (1, .int a2), (2, .int a3)]) hx hb dX10_just_59 hl (k := 4) rfl (by rw [ev2]; rfl) (by decide) rfl (fun ls hl => ?_)
  refine lv_goto (tgt := 34) hx hb dX10_just_62 (by decide) ?_
  exact hk_34 _ _ _ hX _ _ _ (lv_sub hl [2, 3, 4, 1, 0] rfl) hS
set_option maxRecDepth 100000 in
set_option maxHeartbeats 4000000 in
theorem n_X10_just_34 {a1 : Int32} {a2 : Int32} {a3 : Int32} (X : Cx p s m args meth c D cy ad A RX10 cX10_just 6 ((some .long))) (hN : Ob ns 10 100) {M : Mem} : ∀ (n : Nat) (v_3 : Int64) (v_5 : Int32) (r : Int64), f_X10_just_34 a1 a2 a3 n (v_3, v_5) = some r → ∀ (ls : Array Slot) (H : Heap) (locs : List Loc), lv_has ls 6 [(0, .int a1), (1, .int a2), (2, .int a3), (3, .long v_3), (5, .int v_5)] → St D cy ad ns A M s.heap H locs → W p l e rm_X10_just s m args below meth c H locs 0 0 (MQ below (QC D cy ad ns A M (some (.long r))) args s 0 0 A) (F0 m 34 ls []) := by
  obtain ⟨hx, hb, hml, hown, hts, hK, hr, hlk, hA, hG⟩ := id X
  intro n
  induction n with
  | zero => intro v_3 v_5 r hX; cases (show (none : Option (Int64)) = some r from hX)
  | succ n ih =>
    intro v_3 v_5 r hX ls H locs hl hS
    have hX : b_X10_just_34 a1 a2 a3 (fun x0 x1 => f_X10_just_34 a1 a2 a3 n (x0, x1)) v_3 v_5 = some r := hX
    unfold b_X10_just_34 at hX
    refine lv_iload hx hb dX10_just_34 (lv_at hl 4 rfl) ?_
    refine lv_iload_n hx hb dX10_just_36 rfl (lv_at hl 0 rfl) ?_
    refine lv_icmp_ge (tgt := 65) hx hb dX10_just_37 (by decide) (fun c3 => ?_) (fun c3 => ?_)
    · have hX := if_t c3 hX
      refine lv_lload_n hx hb dX10_just_65 rfl (lv_at hl 3 rfl) ?_
      obtain rfl := some_of hX
      exact x_L (v := v_3) X hS dX10_just_66
    · have hX := if_f c3 hX
      refine lv_lload_n hx hb dX10_just_40 rfl (lv_at hl 3 rfl) ?_
      refine lv_iload hx hb dX10_just_41 (lv_at hl 4 rfl) ?_
      refine lv_iload_n hx hb dX10_just_43 rfl (lv_at hl 1 rfl) ?_
      refine lv_icmp_ge (tgt := 52) hx hb dX10_just_44 (by decide) (fun c4 => ?_) (fun c4 => ?_)
      · have hX := if_t c4 hX
        refine lv_bipush (v := nI 10) hx hb dX10_just_52 (by decide) ?_
        refine lv_iload_n hx hb dX10_just_54 rfl (lv_at hl 2 rfl) ?_
        refine lv_isub hx hb dX10_just_55 ?_
        refine lv_i2l (v := (Int32.toInt64 ((nI 10) - a3))) hx hb dX10_just_56 rfl ?_
        exact n_X10_just_57 X hN hX (fun z0 z1 r h ls H locs hl hS => ih z0 z1 r h ls H locs hl hS) _ _ _ (lv_sub hl [0, 1, 2, 4] rfl) hS
      · have hX := if_f c4 hX
        refine lv_iload_n hx hb dX10_just_47 rfl (lv_at hl 2 rfl) ?_
        refine lv_i2l (v := (Int32.toInt64 a3)) hx hb dX10_just_48 rfl ?_
        refine lv_goto (tgt := 57) hx hb dX10_just_49 (by decide) ?_
        exact n_X10_just_57 X hN hX (fun z0 z1 r h ls H locs hl hS => ih z0 z1 r h ls H locs hl hS) _ _ _ (lv_sub hl [0, 1, 2, 4] rfl) hS
set_option maxRecDepth 100000 in
set_option maxHeartbeats 4000000 in
theorem n_X10_just_5 {a1 : Int32} {a2 : Int32} {a3 : Int32} (X : Cx p s m args meth c D cy ad A RX10 cX10_just 6 ((some .long))) (hN : Ob ns 10 100) {M : Mem} : ∀ (n : Nat) (v_3 : Int64) (v_5 : Int32) (r : Int64), f_X10_just_5 a1 a2 a3 n (v_3, v_5) = some r → ∀ (ls : Array Slot) (H : Heap) (locs : List Loc), lv_has ls 6 [(0, .int a1), (1, .int a2), (2, .int a3), (3, .long v_3), (5, .int v_5)] → St D cy ad ns A M s.heap H locs → W p l e rm_X10_just s m args below meth c H locs 0 0 (MQ below (QC D cy ad ns A M (some (.long r))) args s 0 0 A) (F0 m 5 ls []) := by
  obtain ⟨hx, hb, hml, hown, hts, hK, hr, hlk, hA, hG⟩ := id X
  intro n
  induction n with
  | zero => intro v_3 v_5 r hX; cases (show (none : Option (Int64)) = some r from hX)
  | succ n ih =>
    intro v_3 v_5 r hX ls H locs hl hS
    have hX : b_X10_just_5 a1 a2 a3 (fun x0 x1 => f_X10_just_5 a1 a2 a3 n (x0, x1)) v_3 v_5 = some r := hX
    unfold b_X10_just_5 at hX
    refine lv_iload hx hb dX10_just_5 (lv_at hl 4 rfl) ?_
    refine lv_iload_n hx hb dX10_just_7 rfl (lv_at hl 1 rfl) ?_
    refine lv_icmp_gt (tgt := 31) hx hb dX10_just_8 (by decide) (fun c5 => ?_) (fun c5 => ?_)
    · have hX := if_t c5 hX
      refine lv_iconst (v := nI 0) hx hb dX10_just_31 (by decide) ?_
      refine lv_istore (lv' := [(5, .int (nI 0)), (0, .int a1), (1, .int a2), (2, .int a3), (3, .long v_3)]) hx hb dX10_just_32 hl (by decide) rfl (fun ls hl => ?_)
      exact n_X10_just_34 X hN _ _ _ _ hX _ _ _ (lv_sub hl [1, 2, 3, 4, 0] rfl) hS
    · have hX := if_f c5 hX
      refine lv_lload_n hx hb dX10_just_11 rfl (lv_at hl 3 rfl) ?_
      refine lv_iload_n hx hb dX10_just_12 rfl (lv_at hl 0 rfl) ?_
      refine lv_iload_n hx hb dX10_just_13 rfl (lv_at hl 1 rfl) ?_
      refine lv_isub hx hb dX10_just_14 ?_
      refine lv_iload hx hb dX10_just_15 (lv_at hl 4 rfl) ?_
      refine lv_iadd hx hb dX10_just_17 ?_
      refine lv_i2l (v := (Int32.toInt64 ((a1 - a2) + v_5))) hx hb dX10_just_18 rfl ?_
      refine lv_lmul hx hb dX10_just_19 ?_
      refine lv_iload hx hb dX10_just_20 (lv_at hl 4 rfl) ?_
      refine lv_i2l (v := (Int32.toInt64 v_5)) hx hb dX10_just_22 rfl ?_
      obtain ⟨g6, hX⟩ := gnl_of hX
      refine lv_ldiv hx hb dX10_just_23 g6 ?_
      refine lv_topl (fun v7 ev7 => ?_)
      have hX := nm_of ev7 hX
      refine lv_lstore_n (lv' := [(3, .long v7), (0, .int a1), (1, .int a2), (2, .int a3), (5, .int v_5)]) hx hb dX10_just_24 rfl hl (by decide) rfl (fun ls hl => ?_)
      obtain ⟨v8, ev8⟩ : ∃ y : Int32, y = (v_5 + nI 1) := ⟨_, rfl⟩
      have hX := nm_of ev8 hX
      refine lv_iinc (v := v8) (lv' := [(5, .int v8), (3, .long v7), (0, .int a1), (1, .int a2), (2, .int a3)]) hx hb dX10_just_25 hl (k := 4) rfl (by rw [ev8]; rfl) (by decide) rfl (fun ls hl => ?_)
      refine lv_goto (tgt := 5) hx hb dX10_just_28 (by decide) ?_
      exact ih _ _ _ hX _ _ _ (lv_sub hl [2, 3, 4, 1, 0] rfl) hS
set_option maxRecDepth 100000 in
set_option maxHeartbeats 4000000 in
theorem m_X10_just {l : Launch} {D : va_G} {cy : Nat → ClassId} {ad : Nat → Nat → Nat} {ns : List (Nat × Nat)} {A : Nat → Prop} {M : Mem} (hN : Ob ns 10 100) {a1 : Int32} {a2 : Int32} {a3 : Int32} {r : Int64} (hX : f_X10_just a1 a2 a3 = some r) : Ct l yX10_just cX10_just 6 ((some .long)) rm_X10_just D cy ad ns A [.int a1, .int a2, .int a3] M M (some (.long r)) := by
  refine ct_of (lv := [(0, .int a1), (1, .int a2), (2, .int a3)]) (by decide) (Nat.le_of_ble_eq_true rfl) rfl ?_
  intro p e s m args below meth c ls X hl hS
  obtain ⟨hx, hb, hml, hown, hts, hK, hr, hlk, hA, hG⟩ := id X
  obtain ⟨H, hH⟩ : ∃ z, z = s.heap := ⟨_, rfl⟩
  obtain ⟨locs, hlo⟩ : ∃ z : List Loc, z = [] := ⟨_, rfl⟩
  have hS : St D cy ad ns A M s.heap H locs := by rw [hH, hlo]; exact hS
  have hgoal : W p l e rm_X10_just s m args below meth c H locs 0 0 (MQ below (QC D cy ad ns A M (some (.long r))) args s 0 0 A) (F0 m 0 ls []) := by
    unfold f_X10_just at hX
    refine lv_lconst (v := lN 1) hx hb dX10_just_0 (by decide) ?_
    refine lv_topl (fun v9 ev9 => ?_)
    have hX := nm_of ev9 hX
    refine lv_lstore_n (lv' := [(3, .long v9), (0, .int a1), (1, .int a2), (2, .int a3)]) hx hb dX10_just_1 rfl hl (by decide) rfl (fun ls hl => ?_)
    refine lv_iconst (v := nI 1) hx hb dX10_just_2 (by decide) ?_
    refine lv_istore (lv' := [(5, .int (nI 1)), (3, .long v9), (0, .int a1), (1, .int a2), (2, .int a3)]) hx hb dX10_just_3 hl (by decide) rfl (fun ls hl => ?_)
    exact n_X10_just_5 X hN _ _ _ _ hX _ _ _ (lv_sub hl [2, 3, 4, 1, 0] rfl) hS
  rw [hH, hlo] at hgoal
  exact hgoal
theorem ms_X10_just : Ms yX10_just cX10_just 6 ((some .long)) 3 := ⟨t7_239, t7_238, t1_11, ⟨by decide, by decide⟩, by decide +kernel⟩
/-! SewnYearModel.costs(IIIII)J -/
def rm_X10_costs : Room := { frames := 1, cells := 0, slots := 0, locals := 25 }
def b_X10_costs_18 (a1 : Int32) (a2 : Int32) (a3 : Int32) (a4 : Int32) (a5 : Int32) (rc : Int64 → Int32 → Option (Int64)) (v_5 : Int64) (v_7 : Int32) : Option (Int64) :=
  if a1 < v_7 then (some v_5) else (bn (f_X10_just a1 v_7 a2) fun r3 => nm (v_5 + (((Int32.toInt64 a4) * (Int32.toInt64 (v_7 - a5))) * r3)) fun v4 => nm (v_7 + nI 1) fun v5 => rc v4 v5)
def f_X10_costs_18 (a1 : Int32) (a2 : Int32) (a3 : Int32) (a4 : Int32) (a5 : Int32) : Nat → (Int64 × Int32) → Option (Int64) := lp (fun rc q => b_X10_costs_18 a1 a2 a3 a4 a5 (fun x0 x1 => rc (x0, x1)) q.1 q.2)
def f_X10_costs (a1 : Int32) (a2 : Int32) (a3 : Int32) (a4 : Int32) (a5 : Int32) : Option (Int64) :=
  bn (f_X10_tens a1) fun r7 => nm ((Int32.toInt64 (a3 * a5)) * r7) fun v8 => nm (a5 + (nI 1)) fun v9 => f_X10_costs_18 a1 a2 a3 a4 a5 FU (v8, v9)
set_option maxRecDepth 100000 in
set_option maxHeartbeats 4000000 in
theorem n_X10_costs_18 {a1 : Int32} {a2 : Int32} {a3 : Int32} {a4 : Int32} {a5 : Int32} (X : Cx p s m args meth c D cy ad A RX10 cX10_costs 8 ((some .long))) (hN : Ob ns 10 100) {M : Mem} : ∀ (n : Nat) (v_5 : Int64) (v_7 : Int32) (r : Int64), f_X10_costs_18 a1 a2 a3 a4 a5 n (v_5, v_7) = some r → ∀ (ls : Array Slot) (H : Heap) (locs : List Loc), lv_has ls 8 [(0, .int a1), (1, .int a2), (3, .int a4), (4, .int a5), (5, .long v_5), (7, .int v_7)] → St D cy ad ns A M s.heap H locs → W p l e rm_X10_costs s m args below meth c H locs 0 0 (MQ below (QC D cy ad ns A M (some (.long r))) args s 0 0 A) (F0 m 18 ls []) := by
  obtain ⟨hx, hb, hml, hown, hts, hK, hr, hlk, hA, hG⟩ := id X
  intro n
  induction n with
  | zero => intro v_5 v_7 r hX; cases (show (none : Option (Int64)) = some r from hX)
  | succ n ih =>
    intro v_5 v_7 r hX ls H locs hl hS
    have hX : b_X10_costs_18 a1 a2 a3 a4 a5 (fun x0 x1 => f_X10_costs_18 a1 a2 a3 a4 a5 n (x0, x1)) v_5 v_7 = some r := hX
    unfold b_X10_costs_18 at hX
    refine lv_iload hx hb dX10_costs_18 (lv_at hl 5 rfl) ?_
    refine lv_iload_n hx hb dX10_costs_20 rfl (lv_at hl 0 rfl) ?_
    refine lv_icmp_gt (tgt := 52) hx hb dX10_costs_21 (by decide) (fun c1 => ?_) (fun c1 => ?_)
    · have hX := if_t c1 hX
      refine lv_lload hx hb dX10_costs_52 (lv_at hl 4 rfl) ?_
      obtain rfl := some_of hX
      exact x_L (v := v_5) X hS dX10_costs_54
    · have hX := if_f c1 hX
      refine lv_lload hx hb dX10_costs_24 (lv_at hl 4 rfl) ?_
      refine lv_iload_n hx hb dX10_costs_26 rfl (lv_at hl 2 rfl) ?_
      refine lv_i2l (v := (Int32.toInt64 a4)) hx hb dX10_costs_27 rfl ?_
      refine lv_iload hx hb dX10_costs_28 (lv_at hl 5 rfl) ?_
      refine lv_iload hx hb dX10_costs_30 (lv_at hl 3 rfl) ?_
      refine lv_isub hx hb dX10_costs_32 ?_
      refine lv_i2l (v := (Int32.toInt64 (v_7 - a5))) hx hb dX10_costs_33 rfl ?_
      refine lv_lmul hx hb dX10_costs_34 ?_
      refine lv_iload_n hx hb dX10_costs_35 rfl (lv_at hl 0 rfl) ?_
      refine lv_iload hx hb dX10_costs_36 (lv_at hl 5 rfl) ?_
      refine lv_iload_n hx hb dX10_costs_38 rfl (lv_at hl 1 rfl) ?_
      obtain ⟨r3, h2, hX⟩ := bn_of hX
      refine r_callS1 (v := .long r3) (As := [.int a1, .int v_7, .int a2]) (rest := [.long ((Int32.toInt64 a4) * (Int32.toInt64 (v_7 - a5))), .long v_5]) X hS (m_X10_just (M := M) hN h2) ms_X10_just t7_237 ⟨rfl, rfl, Nat.le_of_ble_eq_true rfl, Nat.le_of_ble_eq_true rfl⟩ rfl hl.1 rfl (Nat.le_of_ble_eq_true rfl) ⟨Nat.zero_le _, Nat.zero_le _⟩ dX10_costs_39 (fun H locs hS => ?_)
      refine lv_lmul hx hb dX10_costs_42 ?_
      refine lv_ladd hx hb dX10_costs_43 ?_
      refine lv_topl (fun v4 ev4 => ?_)
      have hX := nm_of ev4 hX
      refine lv_lstore (lv' := [(5, .long v4), (0, .int a1), (1, .int a2), (3, .int a4), (4, .int a5), (7, .int v_7)]) hx hb dX10_costs_44 hl (by decide) rfl (fun ls hl => ?_)
      obtain ⟨v5, ev5⟩ : ∃ y : Int32, y = (v_7 + nI 1) := ⟨_, rfl⟩
      have hX := nm_of ev5 hX
      refine lv_iinc (v := v5) (lv' := [(7, .int v5), (5, .long v4), (0, .int a1), (1, .int a2), (3, .int a4), (4, .int a5)]) hx hb dX10_costs_46 hl (k := 5) rfl (by rw [ev5]; rfl) (by decide) rfl (fun ls hl => ?_)
      refine lv_goto (tgt := 18) hx hb dX10_costs_49 (by decide) ?_
      exact ih _ _ _ hX _ _ _ (lv_sub hl [2, 3, 4, 5, 1, 0] rfl) hS
set_option maxRecDepth 100000 in
set_option maxHeartbeats 4000000 in
theorem m_X10_costs {l : Launch} {D : va_G} {cy : Nat → ClassId} {ad : Nat → Nat → Nat} {ns : List (Nat × Nat)} {A : Nat → Prop} {M : Mem} (hN : Ob ns 10 100) {a1 : Int32} {a2 : Int32} {a3 : Int32} {a4 : Int32} {a5 : Int32} {r : Int64} (hX : f_X10_costs a1 a2 a3 a4 a5 = some r) : Ct l yX10_costs cX10_costs 8 ((some .long)) rm_X10_costs D cy ad ns A [.int a1, .int a2, .int a3, .int a4, .int a5] M M (some (.long r)) := by
  refine ct_of (lv := [(0, .int a1), (1, .int a2), (2, .int a3), (3, .int a4), (4, .int a5)]) (by decide) (Nat.le_of_ble_eq_true rfl) rfl ?_
  intro p e s m args below meth c ls X hl hS
  obtain ⟨hx, hb, hml, hown, hts, hK, hr, hlk, hA, hG⟩ := id X
  obtain ⟨H, hH⟩ : ∃ z, z = s.heap := ⟨_, rfl⟩
  obtain ⟨locs, hlo⟩ : ∃ z : List Loc, z = [] := ⟨_, rfl⟩
  have hS : St D cy ad ns A M s.heap H locs := by rw [hH, hlo]; exact hS
  have hgoal : W p l e rm_X10_costs s m args below meth c H locs 0 0 (MQ below (QC D cy ad ns A M (some (.long r))) args s 0 0 A) (F0 m 0 ls []) := by
    unfold f_X10_costs at hX
    refine lv_iload_n hx hb dX10_costs_0 rfl (lv_at hl 2 rfl) ?_
    refine lv_iload hx hb dX10_costs_1 (lv_at hl 4 rfl) ?_
    refine lv_imul hx hb dX10_costs_3 ?_
    refine lv_i2l (v := (Int32.toInt64 (a3 * a5))) hx hb dX10_costs_4 rfl ?_
    refine lv_iload_n hx hb dX10_costs_5 rfl (lv_at hl 0 rfl) ?_
    obtain ⟨r7, h6, hX⟩ := bn_of hX
    refine r_callS1 (v := .long r7) (As := [.int a1]) (rest := [.long (Int32.toInt64 (a3 * a5))]) X hS (m_X10_tens (M := M) hN h6) ms_X10_tens t7_233 ⟨rfl, rfl, Nat.le_of_ble_eq_true rfl, Nat.le_of_ble_eq_true rfl⟩ rfl hl.1 rfl (Nat.le_of_ble_eq_true rfl) ⟨Nat.zero_le _, Nat.zero_le _⟩ dX10_costs_6 (fun H locs hS => ?_)
    refine lv_lmul hx hb dX10_costs_9 ?_
    refine lv_topl (fun v8 ev8 => ?_)
    have hX := nm_of ev8 hX
    refine lv_lstore (lv' := [(5, .long v8), (0, .int a1), (1, .int a2), (2, .int a3), (3, .int a4), (4, .int a5)]) hx hb dX10_costs_10 hl (by decide) rfl (fun ls hl => ?_)
    refine lv_iload hx hb dX10_costs_12 (lv_at hl 5 rfl) ?_
    refine lv_iconst (v := nI 1) hx hb dX10_costs_14 (by decide) ?_
    refine lv_iadd hx hb dX10_costs_15 ?_
    refine lv_topi (fun v9 ev9 => ?_)
    have hX := nm_of ev9 hX
    refine lv_istore (lv' := [(7, .int v9), (5, .long v8), (0, .int a1), (1, .int a2), (2, .int a3), (3, .int a4), (4, .int a5)]) hx hb dX10_costs_16 hl (by decide) rfl (fun ls hl => ?_)
    exact n_X10_costs_18 X hN _ _ _ _ hX _ _ _ (lv_sub hl [2, 3, 5, 6, 1, 0] rfl) hS
  rw [hH, hlo] at hgoal
  exact hgoal
theorem ms_X10_costs : Ms yX10_costs cX10_costs 8 ((some .long)) 5 := ⟨t7_232, t7_231, t1_11, ⟨by decide, by decide⟩, by decide +kernel⟩
/-! SewnYearModel.cloth(IIIII)J -/
def rm_X10_cloth : Room := { frames := 2, cells := 0, slots := 0, locals := 52 }
def f_X10_cloth_103 (a1 : Int32) (a2 : Int32) (a3 : Int32) (a4 : Int32) (a5 : Int32) (k_66 : Int32 → Int32 → Mem → Option (Int64 × Mem)) (v_7 : Int32) (s_0 : Int32) (M : Mem) : Option (Int64 × Mem) :=
  nm (v_7 + nI 1) fun v1 => k_66 s_0 v1 M
def b_X10_cloth_66 (a1 : Int32) (a2 : Int32) (a3 : Int32) (a4 : Int32) (a5 : Int32) (rc : Int32 → Int32 → Mem → Option (Int64 × Mem)) (v_6 : Int32) (v_7 : Int32) (M : Mem) : Option (Int64 × Mem) :=
  if a1 < v_7 then (bn (f_X10_tens a1) fun r4 => bn (f_X10_costs a1 a2 a3 a4 v_6) fun r6 => bn (f_X10_common r4 r6) fun r8 => if a5 = (nI 0) then (some ((Int32.toInt64 v_6), M)) else (if a5 = (nI 1) then (bn (f_X10_costs a1 a2 a3 a4 v_6) fun r15 => gnl r8 <| some ((r15 / r8), M)) else (bn (f_X10_tens a1) fun r12 => gnl r8 <| some ((r12 / r8), M)))) else (bn (f_X10_costs a1 a2 a3 a4 v_7) fun r18 => bn (f_X10_costs a1 a2 a3 a4 v_6) fun r20 => if (nI 0) ≤ (lg_cmp r18 r20) then (f_X10_cloth_103 a1 a2 a3 a4 a5 rc v_7 v_6 M) else (f_X10_cloth_103 a1 a2 a3 a4 a5 rc v_7 v_7 M))
def f_X10_cloth_66 (a1 : Int32) (a2 : Int32) (a3 : Int32) (a4 : Int32) (a5 : Int32) : Nat → (Int32 × Int32 × Mem) → Option (Int64 × Mem) := lp (fun rc q => b_X10_cloth_66 a1 a2 a3 a4 a5 (fun x0 x1 x2 => rc (x0, x1, x2)) q.1 q.2.1 q.2.2)
def f_X10_cloth (M : Mem) (a1 : Int32) (a2 : Int32) (a3 : Int32) (a4 : Int32) (a5 : Int32) : Option (Int64 × Mem) :=
  nm (sI M 100 0 (nI 0)) fun M22 => bn (f_X10_in a1 (nI 1) (nI 12)) fun r24 => if r24 = true then (bn (f_X10_in a2 (nI 0) (nI 10)) fun r27 => if r27 = true then (bn (f_X10_in a3 (nI 0) (nI 99)) fun r30 => if r30 = true then (bn (f_X10_in a4 (nI 0) (nI 99)) fun r33 => if r33 = true then (bn (f_X10_in a5 (nI 0) (nI 2)) fun r36 => if r36 = true then (f_X10_cloth_66 a1 a2 a3 a4 a5 FU ((nI 0), (nI 1), M22)) else (some ((-1 : Int64), M22))) else (some ((-1 : Int64), M22))) else (some ((-1 : Int64), M22))) else (some ((-1 : Int64), M22))) else (some ((-1 : Int64), M22))
set_option maxRecDepth 100000 in
set_option maxHeartbeats 4000000 in
theorem n_X10_cloth_103 {a1 : Int32} {a2 : Int32} {a3 : Int32} {a4 : Int32} {a5 : Int32} (X : Cx p s m args meth c D cy ad A RX10 cX10_cloth 9 ((some .long))) (hN : Ob ns 10 100) {k_66 : Int32 → Int32 → Mem → Option (Int64 × Mem)} {v_7 : Int32} {s_0 : Int32} {M : Mem} {r : Int64 × Mem} (hX : f_X10_cloth_103 a1 a2 a3 a4 a5 k_66 v_7 s_0 M = some r) : (∀ (v_6 : Int32) (v_7 : Int32) (M : Mem) (r : Int64 × Mem), k_66 v_6 v_7 M = some r → ∀ (ls : Array Slot) (H : Heap) (locs : List Loc), lv_has ls 9 [(1, .int a1), (2, .int a2), (3, .int a3), (4, .int a4), (5, .int a5), (6, .int v_6), (7, .int v_7)] → St D cy ad ns A M s.heap H locs → W p l e rm_X10_cloth s m args below meth c H locs 0 0 (MQ below (QC D cy ad ns A r.2 (some (.long r.1))) args s 0 0 A) (F0 m 66 ls [])) → ∀ (ls : Array Slot) (H : Heap) (locs : List Loc), lv_has ls 9 [(1, .int a1), (2, .int a2), (3, .int a3), (4, .int a4), (5, .int a5), (7, .int v_7)] → St D cy ad ns A M s.heap H locs → W p l e rm_X10_cloth s m args below meth c H locs 0 0 (MQ below (QC D cy ad ns A r.2 (some (.long r.1))) args s 0 0 A) (F0 m 103 ls [.int s_0]) := by
  obtain ⟨hx, hb, hml, hown, hts, hK, hr, hlk, hA, hG⟩ := id X
  intro hk_66 ls H locs hl hS
  unfold f_X10_cloth_103 at hX
  refine lv_istore (lv' := [(6, .int s_0), (1, .int a1), (2, .int a2), (3, .int a3), (4, .int a4), (5, .int a5), (7, .int v_7)]) hx hb dX10_cloth_103 hl (by decide) rfl (fun ls hl => ?_)
  obtain ⟨v1, ev1⟩ : ∃ y : Int32, y = (v_7 + nI 1) := ⟨_, rfl⟩
  have hX := nm_of ev1 hX
  refine lv_iinc (v := v1) (lv' := [(7, .int v1), (6, .int s_0), (1, .int a1), (2, .int a2), (3, .int a3), (4, .int a4), (5, .int a5)]) hx hb dX10_cloth_105 hl (k := 6) rfl (by rw [ev1]; rfl) (by decide) rfl (fun ls hl => ?_)
  refine lv_goto (tgt := 66) hx hb dX10_cloth_108 (by decide) ?_
  exact hk_66 _ _ _ _ hX _ _ _ (lv_sub hl [2, 3, 4, 5, 6, 1, 0] rfl) hS
set_option maxRecDepth 100000 in
set_option maxHeartbeats 4000000 in
theorem n_X10_cloth_66 {a1 : Int32} {a2 : Int32} {a3 : Int32} {a4 : Int32} {a5 : Int32} (X : Cx p s m args meth c D cy ad A RX10 cX10_cloth 9 ((some .long))) (hN : Ob ns 10 100) : ∀ (n : Nat) (v_6 : Int32) (v_7 : Int32) (M : Mem) (r : Int64 × Mem), f_X10_cloth_66 a1 a2 a3 a4 a5 n (v_6, v_7, M) = some r → ∀ (ls : Array Slot) (H : Heap) (locs : List Loc), lv_has ls 9 [(1, .int a1), (2, .int a2), (3, .int a3), (4, .int a4), (5, .int a5), (6, .int v_6), (7, .int v_7)] → St D cy ad ns A M s.heap H locs → W p l e rm_X10_cloth s m args below meth c H locs 0 0 (MQ below (QC D cy ad ns A r.2 (some (.long r.1))) args s 0 0 A) (F0 m 66 ls []) := by
  obtain ⟨hx, hb, hml, hown, hts, hK, hr, hlk, hA, hG⟩ := id X
  intro n
  induction n with
  | zero => intro v_6 v_7 M r hX; cases (show (none : Option (Int64 × Mem)) = some r from hX)
  | succ n ih =>
    intro v_6 v_7 M r hX ls H locs hl hS
    have hX : b_X10_cloth_66 a1 a2 a3 a4 a5 (fun x0 x1 x2 => f_X10_cloth_66 a1 a2 a3 a4 a5 n (x0, x1, x2)) v_6 v_7 M = some r := hX
    unfold b_X10_cloth_66 at hX
    refine lv_iload hx hb dX10_cloth_66 (lv_at hl 6 rfl) ?_
    refine lv_iload_n hx hb dX10_cloth_68 rfl (lv_at hl 0 rfl) ?_
    refine lv_icmp_gt (tgt := 111) hx hb dX10_cloth_69 (by decide) (fun c2 => ?_) (fun c2 => ?_)
    · have hX := if_t c2 hX
      refine lv_iload_n hx hb dX10_cloth_111 rfl (lv_at hl 0 rfl) ?_
      obtain ⟨r4, h3, hX⟩ := bn_of hX
      refine r_callS1 (v := .long r4) (As := [.int a1]) (rest := []) X hS (m_X10_tens (M := M) hN h3) ms_X10_tens t7_233 ⟨rfl, rfl, Nat.le_of_ble_eq_true rfl, Nat.le_of_ble_eq_true rfl⟩ rfl hl.1 rfl (Nat.le_of_ble_eq_true rfl) ⟨Nat.zero_le _, Nat.zero_le _⟩ dX10_cloth_112 (fun H locs hS => ?_)
      refine lv_iload_n hx hb dX10_cloth_115 rfl (lv_at hl 0 rfl) ?_
      refine lv_iload_n hx hb dX10_cloth_116 rfl (lv_at hl 1 rfl) ?_
      refine lv_iload_n hx hb dX10_cloth_117 rfl (lv_at hl 2 rfl) ?_
      refine lv_iload hx hb dX10_cloth_118 (lv_at hl 3 rfl) ?_
      refine lv_iload hx hb dX10_cloth_120 (lv_at hl 5 rfl) ?_
      obtain ⟨r6, h5, hX⟩ := bn_of hX
      refine r_callS1 (v := .long r6) (As := [.int a1, .int a2, .int a3, .int a4, .int v_6]) (rest := [.long r4]) X hS (m_X10_costs (M := M) hN h5) ms_X10_costs t7_230 ⟨rfl, rfl, Nat.le_of_ble_eq_true rfl, Nat.le_of_ble_eq_true rfl⟩ rfl hl.1 rfl (Nat.le_of_ble_eq_true rfl) ⟨Nat.zero_le _, Nat.zero_le _⟩ dX10_cloth_122 (fun H locs hS => ?_)
      obtain ⟨r8, h7, hX⟩ := bn_of hX
      refine r_callS1 (v := .long r8) (As := [.long r4, .long r6]) (rest := []) X hS (m_X10_common (M := M) hN h7) ms_X10_common t8_0 ⟨rfl, rfl, Nat.le_of_ble_eq_true rfl, Nat.le_of_ble_eq_true rfl⟩ rfl hl.1 rfl (Nat.le_of_ble_eq_true rfl) ⟨Nat.zero_le _, Nat.zero_le _⟩ dX10_cloth_125 (fun H locs hS => ?_)
      refine lv_lstore (lv' := [(7, .long r8), (1, .int a1), (2, .int a2), (3, .int a3), (4, .int a4), (5, .int a5), (6, .int v_6)]) hx hb dX10_cloth_128 hl (by decide) rfl (fun ls hl => ?_)
      refine lv_iload hx hb dX10_cloth_130 (lv_at hl 5 rfl) ?_
      refine lv_if_ne (tgt := 141) hx hb dX10_cloth_132 (by decide) (fun c9 => ?_) (fun c9 => ?_)
      · have hX := if_f c9 hX
        refine lv_iload hx hb dX10_cloth_141 (lv_at hl 5 rfl) ?_
        refine lv_iconst (v := nI 1) hx hb dX10_cloth_143 (by decide) ?_
        refine lv_icmp_ne (tgt := 163) hx hb dX10_cloth_144 (by decide) (fun c10 => ?_) (fun c10 => ?_)
        · have hX := if_f c10 hX
          refine lv_iload_n hx hb dX10_cloth_163 rfl (lv_at hl 1 rfl) ?_
          obtain ⟨r12, h11, hX⟩ := bn_of hX
          refine r_callS1 (v := .long r12) (As := [.int a1]) (rest := []) X hS (m_X10_tens (M := M) hN h11) ms_X10_tens t7_233 ⟨rfl, rfl, Nat.le_of_ble_eq_true rfl, Nat.le_of_ble_eq_true rfl⟩ rfl hl.1 rfl (Nat.le_of_ble_eq_true rfl) ⟨Nat.zero_le _, Nat.zero_le _⟩ dX10_cloth_164 (fun H locs hS => ?_)
          refine lv_lload hx hb dX10_cloth_167 (lv_at hl 0 rfl) ?_
          obtain ⟨g13, hX⟩ := gnl_of hX
          refine lv_ldiv hx hb dX10_cloth_169 g13 ?_
          obtain rfl := some_of hX
          exact x_L (v := (r12 / r8)) X hS dX10_cloth_170
        · have hX := if_t c10 hX
          refine lv_iload_n hx hb dX10_cloth_147 rfl (lv_at hl 1 rfl) ?_
          refine lv_iload_n hx hb dX10_cloth_148 rfl (lv_at hl 2 rfl) ?_
          refine lv_iload_n hx hb dX10_cloth_149 rfl (lv_at hl 3 rfl) ?_
          refine lv_iload hx hb dX10_cloth_150 (lv_at hl 4 rfl) ?_
          refine lv_iload hx hb dX10_cloth_152 (lv_at hl 6 rfl) ?_
          obtain ⟨r15, h14, hX⟩ := bn_of hX
          refine r_callS1 (v := .long r15) (As := [.int a1, .int a2, .int a3, .int a4, .int v_6]) (rest := []) X hS (m_X10_costs (M := M) hN h14) ms_X10_costs t7_230 ⟨rfl, rfl, Nat.le_of_ble_eq_true rfl, Nat.le_of_ble_eq_true rfl⟩ rfl hl.1 rfl (Nat.le_of_ble_eq_true rfl) ⟨Nat.zero_le _, Nat.zero_le _⟩ dX10_cloth_154 (fun H locs hS => ?_)
          refine lv_lload hx hb dX10_cloth_157 (lv_at hl 0 rfl) ?_
          obtain ⟨g16, hX⟩ := gnl_of hX
          refine lv_ldiv hx hb dX10_cloth_159 g16 ?_
          refine lv_goto (tgt := 170) hx hb dX10_cloth_160 (by decide) ?_
          obtain rfl := some_of hX
          exact x_L (v := (r15 / r8)) X hS dX10_cloth_170
      · have hX := if_t c9 hX
        refine lv_iload hx hb dX10_cloth_135 (lv_at hl 6 rfl) ?_
        refine lv_i2l (v := (Int32.toInt64 v_6)) hx hb dX10_cloth_137 rfl ?_
        refine lv_goto (tgt := 170) hx hb dX10_cloth_138 (by decide) ?_
        obtain rfl := some_of hX
        exact x_L (v := (Int32.toInt64 v_6)) X hS dX10_cloth_170
    · have hX := if_f c2 hX
      refine lv_iload_n hx hb dX10_cloth_72 rfl (lv_at hl 0 rfl) ?_
      refine lv_iload_n hx hb dX10_cloth_73 rfl (lv_at hl 1 rfl) ?_
      refine lv_iload_n hx hb dX10_cloth_74 rfl (lv_at hl 2 rfl) ?_
      refine lv_iload hx hb dX10_cloth_75 (lv_at hl 3 rfl) ?_
      refine lv_iload hx hb dX10_cloth_77 (lv_at hl 6 rfl) ?_
      obtain ⟨r18, h17, hX⟩ := bn_of hX
      refine r_callS1 (v := .long r18) (As := [.int a1, .int a2, .int a3, .int a4, .int v_7]) (rest := []) X hS (m_X10_costs (M := M) hN h17) ms_X10_costs t7_230 ⟨rfl, rfl, Nat.le_of_ble_eq_true rfl, Nat.le_of_ble_eq_true rfl⟩ rfl hl.1 rfl (Nat.le_of_ble_eq_true rfl) ⟨Nat.zero_le _, Nat.zero_le _⟩ dX10_cloth_79 (fun H locs hS => ?_)
      refine lv_iload_n hx hb dX10_cloth_82 rfl (lv_at hl 0 rfl) ?_
      refine lv_iload_n hx hb dX10_cloth_83 rfl (lv_at hl 1 rfl) ?_
      refine lv_iload_n hx hb dX10_cloth_84 rfl (lv_at hl 2 rfl) ?_
      refine lv_iload hx hb dX10_cloth_85 (lv_at hl 3 rfl) ?_
      refine lv_iload hx hb dX10_cloth_87 (lv_at hl 5 rfl) ?_
      obtain ⟨r20, h19, hX⟩ := bn_of hX
      refine r_callS1 (v := .long r20) (As := [.int a1, .int a2, .int a3, .int a4, .int v_6]) (rest := [.long r18]) X hS (m_X10_costs (M := M) hN h19) ms_X10_costs t7_230 ⟨rfl, rfl, Nat.le_of_ble_eq_true rfl, Nat.le_of_ble_eq_true rfl⟩ rfl hl.1 rfl (Nat.le_of_ble_eq_true rfl) ⟨Nat.zero_le _, Nat.zero_le _⟩ dX10_cloth_89 (fun H locs hS => ?_)
      refine W.lcmp hx hb dX10_cloth_92 ?_
      refine lv_if_ge (tgt := 101) hx hb dX10_cloth_93 (by decide) (fun c21 => ?_) (fun c21 => ?_)
      · have hX := if_t c21 hX
        refine lv_iload hx hb dX10_cloth_101 (lv_at hl 5 rfl) ?_
        exact n_X10_cloth_103 X hN hX (fun z0 z1 z2 r h ls H locs hl hS => ih z0 z1 z2 r h ls H locs hl hS) _ _ _ (lv_sub hl [0, 1, 2, 3, 4, 6] rfl) hS
      · have hX := if_f c21 hX
        refine lv_iload hx hb dX10_cloth_96 (lv_at hl 6 rfl) ?_
        refine lv_goto (tgt := 103) hx hb dX10_cloth_98 (by decide) ?_
        exact n_X10_cloth_103 X hN hX (fun z0 z1 z2 r h ls H locs hl hS => ih z0 z1 z2 r h ls H locs hl hS) _ _ _ (lv_sub hl [0, 1, 2, 3, 4, 6] rfl) hS
set_option maxRecDepth 100000 in
set_option maxHeartbeats 4000000 in
theorem m_X10_cloth {l : Launch} {D : va_G} {cy : Nat → ClassId} {ad : Nat → Nat → Nat} {ns : List (Nat × Nat)} {A : Nat → Prop} {M : Mem} (hN : Ob ns 10 100) {a1 : Int32} {a2 : Int32} {a3 : Int32} {a4 : Int32} {a5 : Int32} {r : Int64 × Mem} (hX : f_X10_cloth M a1 a2 a3 a4 a5 = some r) : Ct l yX10_cloth cX10_cloth 9 ((some .long)) rm_X10_cloth D cy ad ns A [.ref (ad 100 0), .int a1, .int a2, .int a3, .int a4, .int a5] M r.2 (some (.long r.1)) := by
  refine ct_of (lv := [(0, .ref (ad 100 0)), (1, .int a1), (2, .int a2), (3, .int a3), (4, .int a4), (5, .int a5)]) (by decide) (Nat.le_of_ble_eq_true rfl) rfl ?_
  intro p e s m args below meth c ls X hl hS
  obtain ⟨hx, hb, hml, hown, hts, hK, hr, hlk, hA, hG⟩ := id X
  obtain ⟨H, hH⟩ : ∃ z, z = s.heap := ⟨_, rfl⟩
  obtain ⟨locs, hlo⟩ : ∃ z : List Loc, z = [] := ⟨_, rfl⟩
  have hS : St D cy ad ns A M s.heap H locs := by rw [hH, hlo]; exact hS
  have hgoal : W p l e rm_X10_cloth s m args below meth c H locs 0 0 (MQ below (QC D cy ad ns A r.2 (some (.long r.1))) args s 0 0 A) (F0 m 0 ls []) := by
    unfold f_X10_cloth at hX
    refine lv_aload_n hx hb dX10_cloth_0 rfl (lv_at hl 0 rfl) ?_
    refine lv_iconst (v := nI 0) hx hb dX10_cloth_1 (by decide) ?_
    refine fp_X10_94 X hS (hN) dX10_cloth_2 (fun H locs hS => ?_)
    obtain ⟨M22, eM22, hS, hX⟩ := nm_mem hS hX
    refine lv_iload_n hx hb dX10_cloth_5 rfl (lv_at hl 1 rfl) ?_
    refine lv_iconst (v := nI 1) hx hb dX10_cloth_6 (by decide) ?_
    refine lv_bipush (v := nI 12) hx hb dX10_cloth_7 (by decide) ?_
    obtain ⟨r24, h23, hX⟩ := bn_of hX
    refine r_callS1 (v := .int (b2i r24)) (As := [.int a1, .int (nI 1), .int (nI 12)]) (rest := []) X hS (m_X10_in (M := M22) hN h23) ms_X10_in t6_81 ⟨rfl, rfl, Nat.le_of_ble_eq_true rfl, Nat.le_of_ble_eq_true rfl⟩ rfl hl.1 rfl (Nat.le_of_ble_eq_true rfl) ⟨Nat.zero_le _, Nat.zero_le _⟩ dX10_cloth_9 (fun H locs hS => ?_)
    refine lv_if_eq (tgt := 56) hx hb dX10_cloth_12 (by decide) (fun c25 => ?_) (fun c25 => ?_)
    · have hX := if_bf c25 hX
      refine lv_ldc2 hx hb (own := RX10) hown (hts _ t7_74) dX10_cloth_56 ?_
      obtain rfl := some_of hX
      exact x_L (v := (-1 : Int64)) X hS dX10_cloth_59
    · have hX := if_bt c25 hX
      refine lv_iload_n hx hb dX10_cloth_15 rfl (lv_at hl 2 rfl) ?_
      refine lv_iconst (v := nI 0) hx hb dX10_cloth_16 (by decide) ?_
      refine lv_bipush (v := nI 10) hx hb dX10_cloth_17 (by decide) ?_
      obtain ⟨r27, h26, hX⟩ := bn_of hX
      refine r_callS1 (v := .int (b2i r27)) (As := [.int a2, .int (nI 0), .int (nI 10)]) (rest := []) X hS (m_X10_in (M := M22) hN h26) ms_X10_in t6_81 ⟨rfl, rfl, Nat.le_of_ble_eq_true rfl, Nat.le_of_ble_eq_true rfl⟩ rfl hl.1 rfl (Nat.le_of_ble_eq_true rfl) ⟨Nat.zero_le _, Nat.zero_le _⟩ dX10_cloth_19 (fun H locs hS => ?_)
      refine lv_if_eq (tgt := 56) hx hb dX10_cloth_22 (by decide) (fun c28 => ?_) (fun c28 => ?_)
      · have hX := if_bf c28 hX
        refine lv_ldc2 hx hb (own := RX10) hown (hts _ t7_74) dX10_cloth_56 ?_
        obtain rfl := some_of hX
        exact x_L (v := (-1 : Int64)) X hS dX10_cloth_59
      · have hX := if_bt c28 hX
        refine lv_iload_n hx hb dX10_cloth_25 rfl (lv_at hl 3 rfl) ?_
        refine lv_iconst (v := nI 0) hx hb dX10_cloth_26 (by decide) ?_
        refine lv_bipush (v := nI 99) hx hb dX10_cloth_27 (by decide) ?_
        obtain ⟨r30, h29, hX⟩ := bn_of hX
        refine r_callS1 (v := .int (b2i r30)) (As := [.int a3, .int (nI 0), .int (nI 99)]) (rest := []) X hS (m_X10_in (M := M22) hN h29) ms_X10_in t6_81 ⟨rfl, rfl, Nat.le_of_ble_eq_true rfl, Nat.le_of_ble_eq_true rfl⟩ rfl hl.1 rfl (Nat.le_of_ble_eq_true rfl) ⟨Nat.zero_le _, Nat.zero_le _⟩ dX10_cloth_29 (fun H locs hS => ?_)
        refine lv_if_eq (tgt := 56) hx hb dX10_cloth_32 (by decide) (fun c31 => ?_) (fun c31 => ?_)
        · have hX := if_bf c31 hX
          refine lv_ldc2 hx hb (own := RX10) hown (hts _ t7_74) dX10_cloth_56 ?_
          obtain rfl := some_of hX
          exact x_L (v := (-1 : Int64)) X hS dX10_cloth_59
        · have hX := if_bt c31 hX
          refine lv_iload hx hb dX10_cloth_35 (lv_at hl 4 rfl) ?_
          refine lv_iconst (v := nI 0) hx hb dX10_cloth_37 (by decide) ?_
          refine lv_bipush (v := nI 99) hx hb dX10_cloth_38 (by decide) ?_
          obtain ⟨r33, h32, hX⟩ := bn_of hX
          refine r_callS1 (v := .int (b2i r33)) (As := [.int a4, .int (nI 0), .int (nI 99)]) (rest := []) X hS (m_X10_in (M := M22) hN h32) ms_X10_in t6_81 ⟨rfl, rfl, Nat.le_of_ble_eq_true rfl, Nat.le_of_ble_eq_true rfl⟩ rfl hl.1 rfl (Nat.le_of_ble_eq_true rfl) ⟨Nat.zero_le _, Nat.zero_le _⟩ dX10_cloth_40 (fun H locs hS => ?_)
          refine lv_if_eq (tgt := 56) hx hb dX10_cloth_43 (by decide) (fun c34 => ?_) (fun c34 => ?_)
          · have hX := if_bf c34 hX
            refine lv_ldc2 hx hb (own := RX10) hown (hts _ t7_74) dX10_cloth_56 ?_
            obtain rfl := some_of hX
            exact x_L (v := (-1 : Int64)) X hS dX10_cloth_59
          · have hX := if_bt c34 hX
            refine lv_iload hx hb dX10_cloth_46 (lv_at hl 5 rfl) ?_
            refine lv_iconst (v := nI 0) hx hb dX10_cloth_48 (by decide) ?_
            refine lv_iconst (v := nI 2) hx hb dX10_cloth_49 (by decide) ?_
            obtain ⟨r36, h35, hX⟩ := bn_of hX
            refine r_callS1 (v := .int (b2i r36)) (As := [.int a5, .int (nI 0), .int (nI 2)]) (rest := []) X hS (m_X10_in (M := M22) hN h35) ms_X10_in t6_81 ⟨rfl, rfl, Nat.le_of_ble_eq_true rfl, Nat.le_of_ble_eq_true rfl⟩ rfl hl.1 rfl (Nat.le_of_ble_eq_true rfl) ⟨Nat.zero_le _, Nat.zero_le _⟩ dX10_cloth_50 (fun H locs hS => ?_)
            refine lv_if_ne (tgt := 60) hx hb dX10_cloth_53 (by decide) (fun c37 => ?_) (fun c37 => ?_)
            · have hX := if_bt c37 hX
              refine lv_iconst (v := nI 0) hx hb dX10_cloth_60 (by decide) ?_
              refine lv_istore (lv' := [(6, .int (nI 0)), (0, .ref (ad 100 0)), (1, .int a1), (2, .int a2), (3, .int a3), (4, .int a4), (5, .int a5)]) hx hb dX10_cloth_61 hl (by decide) rfl (fun ls hl => ?_)
              refine lv_iconst (v := nI 1) hx hb dX10_cloth_63 (by decide) ?_
              refine lv_istore (lv' := [(7, .int (nI 1)), (6, .int (nI 0)), (0, .ref (ad 100 0)), (1, .int a1), (2, .int a2), (3, .int a3), (4, .int a4), (5, .int a5)]) hx hb dX10_cloth_64 hl (by decide) rfl (fun ls hl => ?_)
              exact n_X10_cloth_66 X hN _ _ _ _ _ hX _ _ _ (lv_sub hl [3, 4, 5, 6, 7, 1, 0] rfl) hS
            · have hX := if_bf c37 hX
              refine lv_ldc2 hx hb (own := RX10) hown (hts _ t7_74) dX10_cloth_56 ?_
              obtain rfl := some_of hX
              exact x_L (v := (-1 : Int64)) X hS dX10_cloth_59
  rw [hH, hlo] at hgoal
  exact hgoal
theorem mv_X10_cloth : Mv yX10_cloth RX10 cX10_cloth 9 ((some .long)) 5 := ⟨t7_229, t7_227, t7_228, t1_11, ⟨by decide, by decide⟩, by decide +kernel⟩
/-! SewnYearModel.facts()I -/
def rm_X10_facts : Room := { frames := 0, cells := 0, slots := 0, locals := 0 }
def f_X10_facts (M : Mem) : Option (Int32) :=
  gin ((nI 31) * (gI M 100 50)) 248 <| some (gA M 100 9 (ix ((nI 31) * (gI M 100 50))))
set_option maxRecDepth 100000 in
set_option maxHeartbeats 4000000 in
theorem m_X10_facts {l : Launch} {D : va_G} {cy : Nat → ClassId} {ad : Nat → Nat → Nat} {ns : List (Nat × Nat)} {A : Nat → Prop} {M : Mem} (hN : Ob ns 10 100) {r : Int32} (hX : f_X10_facts M = some r) : Ct l yX10_facts cX10_facts 1 ((some .int)) rm_X10_facts D cy ad ns A [.ref (ad 100 0)] M M (some (.int r)) := by
  refine ct_of (lv := [(0, .ref (ad 100 0))]) (by decide) (Nat.le_of_ble_eq_true rfl) rfl ?_
  intro p e s m args below meth c ls X hl hS
  obtain ⟨hx, hb, hml, hown, hts, hK, hr, hlk, hA, hG⟩ := id X
  obtain ⟨H, hH⟩ : ∃ z, z = s.heap := ⟨_, rfl⟩
  obtain ⟨locs, hlo⟩ : ∃ z : List Loc, z = [] := ⟨_, rfl⟩
  have hS : St D cy ad ns A M s.heap H locs := by rw [hH, hlo]; exact hS
  have hgoal : W p l e rm_X10_facts s m args below meth c H locs 0 0 (MQ below (QC D cy ad ns A M (some (.int r))) args s 0 0 A) (F0 m 0 ls []) := by
    unfold f_X10_facts at hX
    refine lv_aload_n hx hb dX10_facts_0 rfl (lv_at hl 0 rfl) ?_
    refine fg_X10_35 X hS (hN) dX10_facts_1 ?_
    refine lv_bipush (v := nI 31) hx hb dX10_facts_4 (by decide) ?_
    refine lv_aload_n hx hb dX10_facts_6 rfl (lv_at hl 0 rfl) ?_
    refine fg_X10_505 X hS (hN) dX10_facts_7 ?_
    refine lv_imul hx hb dX10_facts_10 ?_
    obtain ⟨g1, hX⟩ := gin_of hX
    refine r_iald (ci := 10) (o := 100) (k := 9) (n := 248) X hS (hN) rfl rfl g1 dX10_facts_11 ?_
    obtain rfl := some_of hX
    exact x_I (v := (gA M 100 9 (ix ((nI 31) * (gI M 100 50))))) X hS dX10_facts_12
  rw [hH, hlo] at hgoal
  exact hgoal
theorem mv_X10_facts : Mv yX10_facts RX10 cX10_facts 1 ((some .int)) 0 := ⟨t8_14, t8_13, ts_81, t1_11, ⟨by decide, by decide⟩, by decide +kernel⟩
/-! SewnYearModel.factOf(II)I -/
def rm_X10_factOf : Room := { frames := 0, cells := 0, slots := 0, locals := 0 }
def f_X10_factOf (M : Mem) (a1 : Int32) (a2 : Int32) : Option (Int32) :=
  gin (((((nI 31) * (gI M 100 50)) + (nI 1)) + ((nI 3) * a1)) + a2) 248 <| some (gA M 100 9 (ix (((((nI 31) * (gI M 100 50)) + (nI 1)) + ((nI 3) * a1)) + a2)))
set_option maxRecDepth 100000 in
set_option maxHeartbeats 4000000 in
theorem m_X10_factOf {l : Launch} {D : va_G} {cy : Nat → ClassId} {ad : Nat → Nat → Nat} {ns : List (Nat × Nat)} {A : Nat → Prop} {M : Mem} (hN : Ob ns 10 100) {a1 : Int32} {a2 : Int32} {r : Int32} (hX : f_X10_factOf M a1 a2 = some r) : Ct l yX10_factOf cX10_factOf 3 ((some .int)) rm_X10_factOf D cy ad ns A [.ref (ad 100 0), .int a1, .int a2] M M (some (.int r)) := by
  refine ct_of (lv := [(0, .ref (ad 100 0)), (1, .int a1), (2, .int a2)]) (by decide) (Nat.le_of_ble_eq_true rfl) rfl ?_
  intro p e s m args below meth c ls X hl hS
  obtain ⟨hx, hb, hml, hown, hts, hK, hr, hlk, hA, hG⟩ := id X
  obtain ⟨H, hH⟩ : ∃ z, z = s.heap := ⟨_, rfl⟩
  obtain ⟨locs, hlo⟩ : ∃ z : List Loc, z = [] := ⟨_, rfl⟩
  have hS : St D cy ad ns A M s.heap H locs := by rw [hH, hlo]; exact hS
  have hgoal : W p l e rm_X10_factOf s m args below meth c H locs 0 0 (MQ below (QC D cy ad ns A M (some (.int r))) args s 0 0 A) (F0 m 0 ls []) := by
    unfold f_X10_factOf at hX
    refine lv_aload_n hx hb dX10_factOf_0 rfl (lv_at hl 0 rfl) ?_
    refine fg_X10_35 X hS (hN) dX10_factOf_1 ?_
    refine lv_bipush (v := nI 31) hx hb dX10_factOf_4 (by decide) ?_
    refine lv_aload_n hx hb dX10_factOf_6 rfl (lv_at hl 0 rfl) ?_
    refine fg_X10_505 X hS (hN) dX10_factOf_7 ?_
    refine lv_imul hx hb dX10_factOf_10 ?_
    refine lv_iconst (v := nI 1) hx hb dX10_factOf_11 (by decide) ?_
    refine lv_iadd hx hb dX10_factOf_12 ?_
    refine lv_iconst (v := nI 3) hx hb dX10_factOf_13 (by decide) ?_
    refine lv_iload_n hx hb dX10_factOf_14 rfl (lv_at hl 1 rfl) ?_
    refine lv_imul hx hb dX10_factOf_15 ?_
    refine lv_iadd hx hb dX10_factOf_16 ?_
    refine lv_iload_n hx hb dX10_factOf_17 rfl (lv_at hl 2 rfl) ?_
    refine lv_iadd hx hb dX10_factOf_18 ?_
    obtain ⟨g1, hX⟩ := gin_of hX
    refine r_iald (ci := 10) (o := 100) (k := 9) (n := 248) X hS (hN) rfl rfl g1 dX10_factOf_19 ?_
    obtain rfl := some_of hX
    exact x_I (v := (gA M 100 9 (ix (((((nI 31) * (gI M 100 50)) + (nI 1)) + ((nI 3) * a1)) + a2)))) X hS dX10_factOf_20
  rw [hH, hlo] at hgoal
  exact hgoal
theorem mv_X10_factOf : Mv yX10_factOf RX10 cX10_factOf 3 ((some .int)) 2 := ⟨t8_18, t8_17, ts_82, t1_11, ⟨by decide, by decide⟩, by decide +kernel⟩
/-! SewnYearModel.hasSight(I)Z -/
def rm_X10_hasSight : Room := { frames := 2, cells := 0, slots := 0, locals := 44 }
def f_X10_hasSight (M : Mem) (a1 : Int32) : Option (Bool × Mem) :=
  nm (sI M 100 50 a1) fun M1 => bn (f_X10_is M1 (nI 3) a1) fun r3 => some (r3, M1)
set_option maxRecDepth 100000 in
set_option maxHeartbeats 4000000 in
theorem m_X10_hasSight {l : Launch} {D : va_G} {cy : Nat → ClassId} {ad : Nat → Nat → Nat} {ns : List (Nat × Nat)} {A : Nat → Prop} {M : Mem} (hN : Ob ns 10 100) {a1 : Int32} {r : Bool × Mem} (hX : f_X10_hasSight M a1 = some r) : Ct l yX10_hasSight cX10_hasSight 2 ((some .boolean)) rm_X10_hasSight D cy ad ns A [.ref (ad 100 0), .int a1] M r.2 (some (.int (b2i r.1))) := by
  refine ct_of (lv := [(0, .ref (ad 100 0)), (1, .int a1)]) (by decide) (Nat.le_of_ble_eq_true rfl) rfl ?_
  intro p e s m args below meth c ls X hl hS
  obtain ⟨hx, hb, hml, hown, hts, hK, hr, hlk, hA, hG⟩ := id X
  obtain ⟨H, hH⟩ : ∃ z, z = s.heap := ⟨_, rfl⟩
  obtain ⟨locs, hlo⟩ : ∃ z : List Loc, z = [] := ⟨_, rfl⟩
  have hS : St D cy ad ns A M s.heap H locs := by rw [hH, hlo]; exact hS
  have hgoal : W p l e rm_X10_hasSight s m args below meth c H locs 0 0 (MQ below (QC D cy ad ns A r.2 (some (.int (b2i r.1)))) args s 0 0 A) (F0 m 0 ls []) := by
    unfold f_X10_hasSight at hX
    refine lv_aload_n hx hb dX10_hasSight_0 rfl (lv_at hl 0 rfl) ?_
    refine lv_iload_n hx hb dX10_hasSight_1 rfl (lv_at hl 1 rfl) ?_
    refine fp_X10_505 X hS (hN) dX10_hasSight_2 (fun H locs hS => ?_)
    obtain ⟨M1, eM1, hS, hX⟩ := nm_mem hS hX
    refine lv_aload_n hx hb dX10_hasSight_5 rfl (lv_at hl 0 rfl) ?_
    refine lv_iconst (v := nI 3) hx hb dX10_hasSight_6 (by decide) ?_
    refine lv_iload_n hx hb dX10_hasSight_7 rfl (lv_at hl 1 rfl) ?_
    obtain ⟨r3, h2, hX⟩ := bn_of hX
    refine r_callV1 (v := .int (b2i r3)) (As := [.int (nI 3), .int a1]) (rest := []) X hS (m_X10_is hN h2) mv_X10_is rfl (hN) t6_88 ⟨rfl, rfl, Nat.le_of_ble_eq_true rfl, Nat.le_of_ble_eq_true rfl⟩ rfl hl.1 rfl (Nat.le_of_ble_eq_true rfl) ⟨Nat.zero_le _, Nat.zero_le _⟩ dX10_hasSight_8 (fun H locs hS => ?_)
    obtain rfl := some_of hX
    exact x_Z (v := r3) X hS dX10_hasSight_11
  rw [hH, hlo] at hgoal
  exact hgoal
theorem mv_X10_hasSight : Mv yX10_hasSight RX10 cX10_hasSight 2 ((some .boolean)) 1 := ⟨t8_10, t8_9, ts_80, t1_11, ⟨by decide, by decide⟩, by decide +kernel⟩
/-! SewnYearModel.fact(III)I -/
def rm_X10_fact : Room := { frames := 3, cells := 0, slots := 0, locals := 65 }
def f_X10_fact (M : Mem) (a1 : Int32) (a2 : Int32) (a3 : Int32) : Option (Int32 × Mem) :=
  nm (sI M 100 0 (nI 0)) fun M1 => bp (f_X10_hasSight M1 a1) fun r4 M3 => if r4 = true then (if a2 = (-1) then (if a3 = (nI 0) then (bn (f_X10_facts M3) fun r19 => some (r19, M3)) else (some ((-2), M3))) else (bn (f_X10_facts M3) fun r8 => bn (f_X10_in a2 (nI 0) (r8 - (nI 1))) fun r10 => if r10 = true then (bn (f_X10_in a3 (nI 0) (nI 2)) fun r13 => if r13 = true then (bn (f_X10_factOf M3 a2 a3) fun r16 => some (r16, M3)) else (some ((-2), M3))) else (some ((-2), M3)))) else (some ((-2), M3))
set_option maxRecDepth 100000 in
set_option maxHeartbeats 4000000 in
theorem m_X10_fact {l : Launch} {D : va_G} {cy : Nat → ClassId} {ad : Nat → Nat → Nat} {ns : List (Nat × Nat)} {A : Nat → Prop} {M : Mem} (hN : Ob ns 10 100) {a1 : Int32} {a2 : Int32} {a3 : Int32} {r : Int32 × Mem} (hX : f_X10_fact M a1 a2 a3 = some r) : Ct l yX10_fact cX10_fact 4 ((some .int)) rm_X10_fact D cy ad ns A [.ref (ad 100 0), .int a1, .int a2, .int a3] M r.2 (some (.int r.1)) := by
  refine ct_of (lv := [(0, .ref (ad 100 0)), (1, .int a1), (2, .int a2), (3, .int a3)]) (by decide) (Nat.le_of_ble_eq_true rfl) rfl ?_
  intro p e s m args below meth c ls X hl hS
  obtain ⟨hx, hb, hml, hown, hts, hK, hr, hlk, hA, hG⟩ := id X
  obtain ⟨H, hH⟩ : ∃ z, z = s.heap := ⟨_, rfl⟩
  obtain ⟨locs, hlo⟩ : ∃ z : List Loc, z = [] := ⟨_, rfl⟩
  have hS : St D cy ad ns A M s.heap H locs := by rw [hH, hlo]; exact hS
  have hgoal : W p l e rm_X10_fact s m args below meth c H locs 0 0 (MQ below (QC D cy ad ns A r.2 (some (.int r.1))) args s 0 0 A) (F0 m 0 ls []) := by
    unfold f_X10_fact at hX
    refine lv_aload_n hx hb dX10_fact_0 rfl (lv_at hl 0 rfl) ?_
    refine lv_iconst (v := nI 0) hx hb dX10_fact_1 (by decide) ?_
    refine fp_X10_94 X hS (hN) dX10_fact_2 (fun H locs hS => ?_)
    obtain ⟨M1, eM1, hS, hX⟩ := nm_mem hS hX
    refine lv_aload_n hx hb dX10_fact_5 rfl (lv_at hl 0 rfl) ?_
    refine lv_iload_n hx hb dX10_fact_6 rfl (lv_at hl 1 rfl) ?_
    obtain ⟨r4, M3, h2, hX⟩ := bp_of hX
    refine r_callV1 (v := .int (b2i r4)) (As := [.int a1]) (rest := []) X hS (m_X10_hasSight hN h2) mv_X10_hasSight rfl (hN) t8_7 ⟨rfl, rfl, Nat.le_of_ble_eq_true rfl, Nat.le_of_ble_eq_true rfl⟩ rfl hl.1 rfl (Nat.le_of_ble_eq_true rfl) ⟨Nat.zero_le _, Nat.zero_le _⟩ dX10_fact_7 (fun H locs hS => ?_)
    refine lv_if_ne (tgt := 16) hx hb dX10_fact_10 (by decide) (fun c5 => ?_) (fun c5 => ?_)
    · have hX := if_bt c5 hX
      refine lv_iload_n hx hb dX10_fact_16 rfl (lv_at hl 2 rfl) ?_
      refine lv_iconst (v := (-1)) hx hb dX10_fact_17 (by decide) ?_
      refine lv_icmp_ne (tgt := 35) hx hb dX10_fact_18 (by decide) (fun c6 => ?_) (fun c6 => ?_)
      · have hX := if_f c6 hX
        refine lv_iload_n hx hb dX10_fact_35 rfl (lv_at hl 2 rfl) ?_
        refine lv_iconst (v := nI 0) hx hb dX10_fact_36 (by decide) ?_
        refine lv_aload_n hx hb dX10_fact_37 rfl (lv_at hl 0 rfl) ?_
        obtain ⟨r8, h7, hX⟩ := bn_of hX
        refine r_callV1 (v := .int r8) (As := []) (rest := [.int (nI 0), .int a2]) X hS (m_X10_facts hN h7) mv_X10_facts rfl (hN) t8_11 ⟨rfl, rfl, Nat.le_of_ble_eq_true rfl, Nat.le_of_ble_eq_true rfl⟩ rfl hl.1 rfl (Nat.le_of_ble_eq_true rfl) ⟨Nat.zero_le _, Nat.zero_le _⟩ dX10_fact_38 (fun H locs hS => ?_)
        refine lv_iconst (v := nI 1) hx hb dX10_fact_41 (by decide) ?_
        refine lv_isub hx hb dX10_fact_42 ?_
        obtain ⟨r10, h9, hX⟩ := bn_of hX
        refine r_callS1 (v := .int (b2i r10)) (As := [.int a2, .int (nI 0), .int (r8 - (nI 1))]) (rest := []) X hS (m_X10_in (M := M3) hN h9) ms_X10_in t6_81 ⟨rfl, rfl, Nat.le_of_ble_eq_true rfl, Nat.le_of_ble_eq_true rfl⟩ rfl hl.1 rfl (Nat.le_of_ble_eq_true rfl) ⟨Nat.zero_le _, Nat.zero_le _⟩ dX10_fact_43 (fun H locs hS => ?_)
        refine lv_if_eq (tgt := 67) hx hb dX10_fact_46 (by decide) (fun c11 => ?_) (fun c11 => ?_)
        · have hX := if_bf c11 hX
          refine lv_bipush (v := (-2)) hx hb dX10_fact_67 (by decide) ?_
          obtain rfl := some_of hX
          exact x_I (v := (-2)) X hS dX10_fact_69
        · have hX := if_bt c11 hX
          refine lv_iload_n hx hb dX10_fact_49 rfl (lv_at hl 3 rfl) ?_
          refine lv_iconst (v := nI 0) hx hb dX10_fact_50 (by decide) ?_
          refine lv_iconst (v := nI 2) hx hb dX10_fact_51 (by decide) ?_
          obtain ⟨r13, h12, hX⟩ := bn_of hX
          refine r_callS1 (v := .int (b2i r13)) (As := [.int a3, .int (nI 0), .int (nI 2)]) (rest := []) X hS (m_X10_in (M := M3) hN h12) ms_X10_in t6_81 ⟨rfl, rfl, Nat.le_of_ble_eq_true rfl, Nat.le_of_ble_eq_true rfl⟩ rfl hl.1 rfl (Nat.le_of_ble_eq_true rfl) ⟨Nat.zero_le _, Nat.zero_le _⟩ dX10_fact_52 (fun H locs hS => ?_)
          refine lv_if_eq (tgt := 67) hx hb dX10_fact_55 (by decide) (fun c14 => ?_) (fun c14 => ?_)
          · have hX := if_bf c14 hX
            refine lv_bipush (v := (-2)) hx hb dX10_fact_67 (by decide) ?_
            obtain rfl := some_of hX
            exact x_I (v := (-2)) X hS dX10_fact_69
          · have hX := if_bt c14 hX
            refine lv_aload_n hx hb dX10_fact_58 rfl (lv_at hl 0 rfl) ?_
            refine lv_iload_n hx hb dX10_fact_59 rfl (lv_at hl 2 rfl) ?_
            refine lv_iload_n hx hb dX10_fact_60 rfl (lv_at hl 3 rfl) ?_
            obtain ⟨r16, h15, hX⟩ := bn_of hX
            refine r_callV1 (v := .int r16) (As := [.int a2, .int a3]) (rest := []) X hS (m_X10_factOf hN h15) mv_X10_factOf rfl (hN) t8_15 ⟨rfl, rfl, Nat.le_of_ble_eq_true rfl, Nat.le_of_ble_eq_true rfl⟩ rfl hl.1 rfl (Nat.le_of_ble_eq_true rfl) ⟨Nat.zero_le _, Nat.zero_le _⟩ dX10_fact_61 (fun H locs hS => ?_)
            refine lv_goto (tgt := 69) hx hb dX10_fact_64 (by decide) ?_
            obtain rfl := some_of hX
            exact x_I (v := r16) X hS dX10_fact_69
      · have hX := if_t c6 hX
        refine lv_iload_n hx hb dX10_fact_21 rfl (lv_at hl 3 rfl) ?_
        refine lv_if_ne (tgt := 32) hx hb dX10_fact_22 (by decide) (fun c17 => ?_) (fun c17 => ?_)
        · have hX := if_f c17 hX
          refine lv_bipush (v := (-2)) hx hb dX10_fact_32 (by decide) ?_
          obtain rfl := some_of hX
          exact x_I (v := (-2)) X hS dX10_fact_34
        · have hX := if_t c17 hX
          refine lv_aload_n hx hb dX10_fact_25 rfl (lv_at hl 0 rfl) ?_
          obtain ⟨r19, h18, hX⟩ := bn_of hX
          refine r_callV1 (v := .int r19) (As := []) (rest := []) X hS (m_X10_facts hN h18) mv_X10_facts rfl (hN) t8_11 ⟨rfl, rfl, Nat.le_of_ble_eq_true rfl, Nat.le_of_ble_eq_true rfl⟩ rfl hl.1 rfl (Nat.le_of_ble_eq_true rfl) ⟨Nat.zero_le _, Nat.zero_le _⟩ dX10_fact_26 (fun H locs hS => ?_)
          refine lv_goto (tgt := 34) hx hb dX10_fact_29 (by decide) ?_
          obtain rfl := some_of hX
          exact x_I (v := r19) X hS dX10_fact_34
    · have hX := if_bf c5 hX
      refine lv_bipush (v := (-2)) hx hb dX10_fact_13 (by decide) ?_
      obtain rfl := some_of hX
      exact x_I (v := (-2)) X hS dX10_fact_15
  rw [hH, hlo] at hgoal
  exact hgoal
theorem mv_X10_fact : Mv yX10_fact RX10 cX10_fact 4 ((some .int)) 3 := ⟨t8_6, t8_4, t8_5, t1_11, ⟨by decide, by decide⟩, by decide +kernel⟩
/-! SewnYearModel.laySight(II)Z -/
def rm_X10_laySight : Room := { frames := 3, cells := 0, slots := 0, locals := 65 }
def f_X10_laySight_65 (a1 : Int32) (a2 : Int32) (k_20 : Int32 → Mem → Option (Bool × Mem)) (v_3 : Int32) (M : Mem) : Option (Bool × Mem) :=
  nm (v_3 + nI 1) fun v1 => k_20 v1 M
def b_X10_laySight_20 (a1 : Int32) (a2 : Int32) (rc : Int32 → Mem → Option (Bool × Mem)) (v_3 : Int32) (M : Mem) : Option (Bool × Mem) :=
  bn (f_X10_facts M) fun r3 => if r3 ≤ v_3 then (some (true, M)) else (bn (f_X10_factOf M v_3 (nI 1)) fun r6 => if (gI M 100 24) ≤ r6 then (some (false, M)) else (bn (f_X10_factOf M v_3 (nI 0)) fun r9 => if r9 = (nI 0) then (bn (f_X10_factOf M v_3 (nI 2)) fun r12 => if r12 < (gI M 100 24) then (f_X10_laySight_65 a1 a2 rc v_3 M) else (some (false, M))) else (f_X10_laySight_65 a1 a2 rc v_3 M)))
def f_X10_laySight_20 (a1 : Int32) (a2 : Int32) : Nat → (Int32 × Mem) → Option (Bool × Mem) := lp (fun rc q => b_X10_laySight_20 a1 a2 (fun x0 x1 => rc (x0, x1)) q.1 q.2)
def f_X10_laySight (M : Mem) (a1 : Int32) (a2 : Int32) : Option (Bool × Mem) :=
  bp (f_X10_hasSight M a2) fun r16 M15 => if r16 = true then (bp (f_X10_hand M15 a1) fun r20 M19 => if r20 = true then (f_X10_laySight_20 a1 a2 FU ((nI 0), M19)) else (some (false, M19))) else (some (false, M15))
set_option maxRecDepth 100000 in
set_option maxHeartbeats 4000000 in
theorem n_X10_laySight_65 {a1 : Int32} {a2 : Int32} (X : Cx p s m args meth c D cy ad A RX10 cX10_laySight 4 ((some .boolean))) (hN : Ob ns 10 100) {k_20 : Int32 → Mem → Option (Bool × Mem)} {v_3 : Int32} {M : Mem} {r : Bool × Mem} (hX : f_X10_laySight_65 a1 a2 k_20 v_3 M = some r) : (∀ (v_3 : Int32) (M : Mem) (r : Bool × Mem), k_20 v_3 M = some r → ∀ (ls : Array Slot) (H : Heap) (locs : List Loc), lv_has ls 4 [(0, .ref (ad 100 0)), (3, .int v_3)] → St D cy ad ns A M s.heap H locs → W p l e rm_X10_laySight s m args below meth c H locs 0 0 (MQ below (QC D cy ad ns A r.2 (some (.int (b2i r.1)))) args s 0 0 A) (F0 m 20 ls [])) → ∀ (ls : Array Slot) (H : Heap) (locs : List Loc), lv_has ls 4 [(0, .ref (ad 100 0)), (3, .int v_3)] → St D cy ad ns A M s.heap H locs → W p l e rm_X10_laySight s m args below meth c H locs 0 0 (MQ below (QC D cy ad ns A r.2 (some (.int (b2i r.1)))) args s 0 0 A) (F0 m 65 ls []) := by
  obtain ⟨hx, hb, hml, hown, hts, hK, hr, hlk, hA, hG⟩ := id X
  intro hk_20 ls H locs hl hS
  unfold f_X10_laySight_65 at hX
  obtain ⟨v1, ev1⟩ : ∃ y : Int32, y = (v_3 + nI 1) := ⟨_, rfl⟩
  have hX := nm_of ev1 hX
  refine lv_iinc (v := v1) (lv' := [(3, .int v1), (0, .ref (ad 100 0))]) hx hb dX10_laySight_65 hl (k := 1) rfl (by rw [ev1]; rfl) (by decide) rfl (fun ls hl => ?_)
  refine lv_goto (tgt := 20) hx hb dX10_laySight_68 (by decide) ?_
  exact hk_20 _ _ _ hX _ _ _ (lv_sub hl [1, 0] rfl) hS
set_option maxRecDepth 100000 in
set_option maxHeartbeats 4000000 in
theorem n_X10_laySight_20 {a1 : Int32} {a2 : Int32} (X : Cx p s m args meth c D cy ad A RX10 cX10_laySight 4 ((some .boolean))) (hN : Ob ns 10 100) : ∀ (n : Nat) (v_3 : Int32) (M : Mem) (r : Bool × Mem), f_X10_laySight_20 a1 a2 n (v_3, M) = some r → ∀ (ls : Array Slot) (H : Heap) (locs : List Loc), lv_has ls 4 [(0, .ref (ad 100 0)), (3, .int v_3)] → St D cy ad ns A M s.heap H locs → W p l e rm_X10_laySight s m args below meth c H locs 0 0 (MQ below (QC D cy ad ns A r.2 (some (.int (b2i r.1)))) args s 0 0 A) (F0 m 20 ls []) := by
  obtain ⟨hx, hb, hml, hown, hts, hK, hr, hlk, hA, hG⟩ := id X
  intro n
  induction n with
  | zero => intro v_3 M r hX; cases (show (none : Option (Bool × Mem)) = some r from hX)
  | succ n ih =>
    intro v_3 M r hX ls H locs hl hS
    have hX : b_X10_laySight_20 a1 a2 (fun x0 x1 => f_X10_laySight_20 a1 a2 n (x0, x1)) v_3 M = some r := hX
    unfold b_X10_laySight_20 at hX
    refine lv_iload_n hx hb dX10_laySight_20 rfl (lv_at hl 1 rfl) ?_
    refine lv_aload_n hx hb dX10_laySight_21 rfl (lv_at hl 0 rfl) ?_
    obtain ⟨r3, h2, hX⟩ := bn_of hX
    refine r_callV1 (v := .int r3) (As := []) (rest := [.int v_3]) X hS (m_X10_facts hN h2) mv_X10_facts rfl (hN) t8_11 ⟨rfl, rfl, Nat.le_of_ble_eq_true rfl, Nat.le_of_ble_eq_true rfl⟩ rfl hl.1 rfl (Nat.le_of_ble_eq_true rfl) ⟨Nat.zero_le _, Nat.zero_le _⟩ dX10_laySight_22 (fun H locs hS => ?_)
    refine lv_icmp_ge (tgt := 71) hx hb dX10_laySight_25 (by decide) (fun c4 => ?_) (fun c4 => ?_)
    · have hX := if_t c4 hX
      refine lv_iconst (v := nI 1) hx hb dX10_laySight_71 (by decide) ?_
      obtain rfl := some_of hX
      exact x_Z (v := true) X hS dX10_laySight_72
    · have hX := if_f c4 hX
      refine lv_aload_n hx hb dX10_laySight_28 rfl (lv_at hl 0 rfl) ?_
      refine lv_iload_n hx hb dX10_laySight_29 rfl (lv_at hl 1 rfl) ?_
      refine lv_iconst (v := nI 1) hx hb dX10_laySight_30 (by decide) ?_
      obtain ⟨r6, h5, hX⟩ := bn_of hX
      refine r_callV1 (v := .int r6) (As := [.int v_3, .int (nI 1)]) (rest := []) X hS (m_X10_factOf hN h5) mv_X10_factOf rfl (hN) t8_15 ⟨rfl, rfl, Nat.le_of_ble_eq_true rfl, Nat.le_of_ble_eq_true rfl⟩ rfl hl.1 rfl (Nat.le_of_ble_eq_true rfl) ⟨Nat.zero_le _, Nat.zero_le _⟩ dX10_laySight_31 (fun H locs hS => ?_)
      refine lv_aload_n hx hb dX10_laySight_34 rfl (lv_at hl 0 rfl) ?_
      refine fg_X10_281 X hS (hN) dX10_laySight_35 ?_
      refine lv_icmp_ge (tgt := 63) hx hb dX10_laySight_38 (by decide) (fun c7 => ?_) (fun c7 => ?_)
      · have hX := if_t c7 hX
        refine lv_iconst (v := nI 0) hx hb dX10_laySight_63 (by decide) ?_
        obtain rfl := some_of hX
        exact x_Z (v := false) X hS dX10_laySight_64
      · have hX := if_f c7 hX
        refine lv_aload_n hx hb dX10_laySight_41 rfl (lv_at hl 0 rfl) ?_
        refine lv_iload_n hx hb dX10_laySight_42 rfl (lv_at hl 1 rfl) ?_
        refine lv_iconst (v := nI 0) hx hb dX10_laySight_43 (by decide) ?_
        obtain ⟨r9, h8, hX⟩ := bn_of hX
        refine r_callV1 (v := .int r9) (As := [.int v_3, .int (nI 0)]) (rest := []) X hS (m_X10_factOf hN h8) mv_X10_factOf rfl (hN) t8_15 ⟨rfl, rfl, Nat.le_of_ble_eq_true rfl, Nat.le_of_ble_eq_true rfl⟩ rfl hl.1 rfl (Nat.le_of_ble_eq_true rfl) ⟨Nat.zero_le _, Nat.zero_le _⟩ dX10_laySight_44 (fun H locs hS => ?_)
        refine lv_if_ne (tgt := 65) hx hb dX10_laySight_47 (by decide) (fun c10 => ?_) (fun c10 => ?_)
        · have hX := if_f c10 hX
          exact n_X10_laySight_65 X hN hX (fun z0 z1 r h ls H locs hl hS => ih z0 z1 r h ls H locs hl hS) _ _ _ (lv_sub hl [0, 1] rfl) hS
        · have hX := if_t c10 hX
          refine lv_aload_n hx hb dX10_laySight_50 rfl (lv_at hl 0 rfl) ?_
          refine lv_iload_n hx hb dX10_laySight_51 rfl (lv_at hl 1 rfl) ?_
          refine lv_iconst (v := nI 2) hx hb dX10_laySight_52 (by decide) ?_
          obtain ⟨r12, h11, hX⟩ := bn_of hX
          refine r_callV1 (v := .int r12) (As := [.int v_3, .int (nI 2)]) (rest := []) X hS (m_X10_factOf hN h11) mv_X10_factOf rfl (hN) t8_15 ⟨rfl, rfl, Nat.le_of_ble_eq_true rfl, Nat.le_of_ble_eq_true rfl⟩ rfl hl.1 rfl (Nat.le_of_ble_eq_true rfl) ⟨Nat.zero_le _, Nat.zero_le _⟩ dX10_laySight_53 (fun H locs hS => ?_)
          refine lv_aload_n hx hb dX10_laySight_56 rfl (lv_at hl 0 rfl) ?_
          refine fg_X10_281 X hS (hN) dX10_laySight_57 ?_
          refine lv_icmp_lt (tgt := 65) hx hb dX10_laySight_60 (by decide) (fun c13 => ?_) (fun c13 => ?_)
          · have hX := if_t c13 hX
            exact n_X10_laySight_65 X hN hX (fun z0 z1 r h ls H locs hl hS => ih z0 z1 r h ls H locs hl hS) _ _ _ (lv_sub hl [0, 1] rfl) hS
          · have hX := if_f c13 hX
            refine lv_iconst (v := nI 0) hx hb dX10_laySight_63 (by decide) ?_
            obtain rfl := some_of hX
            exact x_Z (v := false) X hS dX10_laySight_64
set_option maxRecDepth 100000 in
set_option maxHeartbeats 4000000 in
theorem m_X10_laySight {l : Launch} {D : va_G} {cy : Nat → ClassId} {ad : Nat → Nat → Nat} {ns : List (Nat × Nat)} {A : Nat → Prop} {M : Mem} (hN : Ob ns 10 100) {a1 : Int32} {a2 : Int32} {r : Bool × Mem} (hX : f_X10_laySight M a1 a2 = some r) : Ct l yX10_laySight cX10_laySight 4 ((some .boolean)) rm_X10_laySight D cy ad ns A [.ref (ad 100 0), .int a1, .int a2] M r.2 (some (.int (b2i r.1))) := by
  refine ct_of (lv := [(0, .ref (ad 100 0)), (1, .int a1), (2, .int a2)]) (by decide) (Nat.le_of_ble_eq_true rfl) rfl ?_
  intro p e s m args below meth c ls X hl hS
  obtain ⟨hx, hb, hml, hown, hts, hK, hr, hlk, hA, hG⟩ := id X
  obtain ⟨H, hH⟩ : ∃ z, z = s.heap := ⟨_, rfl⟩
  obtain ⟨locs, hlo⟩ : ∃ z : List Loc, z = [] := ⟨_, rfl⟩
  have hS : St D cy ad ns A M s.heap H locs := by rw [hH, hlo]; exact hS
  have hgoal : W p l e rm_X10_laySight s m args below meth c H locs 0 0 (MQ below (QC D cy ad ns A r.2 (some (.int (b2i r.1)))) args s 0 0 A) (F0 m 0 ls []) := by
    unfold f_X10_laySight at hX
    refine lv_aload_n hx hb dX10_laySight_0 rfl (lv_at hl 0 rfl) ?_
    refine lv_iload_n hx hb dX10_laySight_1 rfl (lv_at hl 2 rfl) ?_
    obtain ⟨r16, M15, h14, hX⟩ := bp_of hX
    refine r_callV1 (v := .int (b2i r16)) (As := [.int a2]) (rest := []) X hS (m_X10_hasSight hN h14) mv_X10_hasSight rfl (hN) t8_7 ⟨rfl, rfl, Nat.le_of_ble_eq_true rfl, Nat.le_of_ble_eq_true rfl⟩ rfl hl.1 rfl (Nat.le_of_ble_eq_true rfl) ⟨Nat.zero_le _, Nat.zero_le _⟩ dX10_laySight_2 (fun H locs hS => ?_)
    refine lv_if_eq (tgt := 16) hx hb dX10_laySight_5 (by decide) (fun c17 => ?_) (fun c17 => ?_)
    · have hX := if_bf c17 hX
      refine lv_iconst (v := nI 0) hx hb dX10_laySight_16 (by decide) ?_
      obtain rfl := some_of hX
      exact x_Z (v := false) X hS dX10_laySight_17
    · have hX := if_bt c17 hX
      refine lv_aload_n hx hb dX10_laySight_8 rfl (lv_at hl 0 rfl) ?_
      refine lv_iload_n hx hb dX10_laySight_9 rfl (lv_at hl 1 rfl) ?_
      obtain ⟨r20, M19, h18, hX⟩ := bp_of hX
      refine r_callV1 (v := .int (b2i r20)) (As := [.int a1]) (rest := []) X hS (m_X10_hand hN h18) mv_X10_hand rfl (hN) t6_216 ⟨rfl, rfl, Nat.le_of_ble_eq_true rfl, Nat.le_of_ble_eq_true rfl⟩ rfl hl.1 rfl (Nat.le_of_ble_eq_true rfl) ⟨Nat.zero_le _, Nat.zero_le _⟩ dX10_laySight_10 (fun H locs hS => ?_)
      refine lv_if_ne (tgt := 18) hx hb dX10_laySight_13 (by decide) (fun c21 => ?_) (fun c21 => ?_)
      · have hX := if_bt c21 hX
        refine lv_iconst (v := nI 0) hx hb dX10_laySight_18 (by decide) ?_
        refine lv_istore_n (lv' := [(3, .int (nI 0)), (0, .ref (ad 100 0)), (1, .int a1), (2, .int a2)]) hx hb dX10_laySight_19 rfl hl (by decide) rfl (fun ls hl => ?_)
        exact n_X10_laySight_20 X hN _ _ _ _ hX _ _ _ (lv_sub hl [1, 0] rfl) hS
      · have hX := if_bf c21 hX
        refine lv_iconst (v := nI 0) hx hb dX10_laySight_16 (by decide) ?_
        obtain rfl := some_of hX
        exact x_Z (v := false) X hS dX10_laySight_17
  rw [hH, hlo] at hgoal
  exact hgoal
theorem mv_X10_laySight : Mv yX10_laySight RX10 cX10_laySight 4 ((some .boolean)) 2 := ⟨t8_26, t8_25, ts_83, t1_11, ⟨by decide, by decide⟩, by decide +kernel⟩
/-! SewnYearModel.isSo(II)Z -/
def rm_X10_isSo : Room := { frames := 2, cells := 0, slots := 0, locals := 43 }
def f_X10_isSo_119 (M : Mem) (a1 : Int32) (a2 : Int32) (k_144 : Bool → Int32 → Option (Bool)) (v_4 : Int32) (s_0 : Bool) : Option (Bool) :=
  k_144 s_0 v_4
def f_X10_isSo_111 (M : Mem) (a1 : Int32) (a2 : Int32) (k_144 : Bool → Int32 → Option (Bool)) (v_4 : Int32) (s_0 : Bool) (s_1 : Bool) : Option (Bool) :=
  if (b2i s_0) = (b2i s_1) then (f_X10_isSo_119 M a1 a2 k_144 v_4 true) else (f_X10_isSo_119 M a1 a2 k_144 v_4 false)
def f_X10_isSo_66 (M : Mem) (a1 : Int32) (a2 : Int32) (k_71 : Int32 → Bool → Option (Bool)) (v_4 : Int32) : Option (Bool) :=
  k_71 v_4 true
def f_X10_isSo_71 (M : Mem) (a1 : Int32) (a2 : Int32) (k_144 : Bool → Int32 → Option (Bool)) (v_4 : Int32) (s_0 : Bool) : Option (Bool) :=
  k_144 s_0 v_4
def f_X10_isSo_97 (M : Mem) (a1 : Int32) (a2 : Int32) (k_144 : Bool → Int32 → Option (Bool)) (v_4 : Int32) (v_6 : Int32) (s_0 : Bool) : Option (Bool) :=
  bn (f_X10_ones a1) fun r3 => if r3 = v_6 then (f_X10_isSo_111 M a1 a2 k_144 v_4 s_0 true) else (f_X10_isSo_111 M a1 a2 k_144 v_4 s_0 false)
def f_X10_isSo_138 (M : Mem) (a1 : Int32) (a2 : Int32) (k_143 : Int32 → Bool → Option (Bool)) (v_4 : Int32) : Option (Bool) :=
  k_143 v_4 true
def f_X10_isSo_143 (M : Mem) (a1 : Int32) (a2 : Int32) (k_144 : Bool → Int32 → Option (Bool)) (v_4 : Int32) (s_0 : Bool) : Option (Bool) :=
  k_144 s_0 v_4
def f_X10_isSo_144 (M : Mem) (a1 : Int32) (a2 : Int32) (k_10 : Bool → Int32 → Option (Bool)) (v_3 : Bool) (v_4 : Int32) : Option (Bool) :=
  nm (v_4 + nI 1) fun v5 => k_10 v_3 v5
def b_X10_isSo_10 (M : Mem) (a1 : Int32) (a2 : Int32) (rc : Bool → Int32 → Option (Bool)) (v_3 : Bool) (v_4 : Int32) : Option (Bool) :=
  bn (f_X10_facts M) fun r7 => if r7 ≤ v_4 then (some v_3) else (if v_3 = true then (bn (f_X10_factOf M v_4 (nI 1)) fun r11 => bn (f_X10_factOf M v_4 (nI 2)) fun r13 => bn (f_X10_factOf M v_4 (nI 0)) fun r15 => if r15 = (nI 0) then (if a2 = r13 then (bn (f_X10_has a1 r11) fun r27 => if r27 = true then (f_X10_isSo_66 M a1 a2 (fun x0 x1 => f_X10_isSo_71 M a1 a2 (fun x0 x1 => f_X10_isSo_144 M a1 a2 rc x0 x1) x0 x1) v_4) else (f_X10_isSo_71 M a1 a2 (fun x0 x1 => f_X10_isSo_144 M a1 a2 rc x0 x1) v_4 false)) else (f_X10_isSo_66 M a1 a2 (fun x0 x1 => f_X10_isSo_71 M a1 a2 (fun x0 x1 => f_X10_isSo_144 M a1 a2 rc x0 x1) x0 x1) v_4)) else (bn (f_X10_factOf M v_4 (nI 0)) fun r18 => if r18 = (nI 1) then (if a2 = r11 then (f_X10_isSo_97 M a1 a2 (fun x0 x1 => f_X10_isSo_144 M a1 a2 rc x0 x1) v_4 r13 true) else (f_X10_isSo_97 M a1 a2 (fun x0 x1 => f_X10_isSo_144 M a1 a2 rc x0 x1) v_4 r13 false)) else (if a2 = r11 then (bn (f_X10_ones a1) fun r22 => if r22 = r13 then (f_X10_isSo_143 M a1 a2 (fun x0 x1 => f_X10_isSo_144 M a1 a2 rc x0 x1) v_4 false) else (f_X10_isSo_138 M a1 a2 (fun x0 x1 => f_X10_isSo_143 M a1 a2 (fun x0 x1 => f_X10_isSo_144 M a1 a2 rc x0 x1) x0 x1) v_4)) else (f_X10_isSo_138 M a1 a2 (fun x0 x1 => f_X10_isSo_143 M a1 a2 (fun x0 x1 => f_X10_isSo_144 M a1 a2 rc x0 x1) x0 x1) v_4)))) else (some v_3))
def f_X10_isSo_10 (M : Mem) (a1 : Int32) (a2 : Int32) : Nat → (Bool × Int32) → Option (Bool) := lp (fun rc q => b_X10_isSo_10 M a1 a2 (fun x0 x1 => rc (x0, x1)) q.1 q.2)
def f_X10_isSo (M : Mem) (a1 : Int32) (a2 : Int32) : Option (Bool) :=
  bn (f_X10_mayNext M a1 a2) fun r30 => f_X10_isSo_10 M a1 a2 FU (r30, (nI 0))
set_option maxRecDepth 100000 in
set_option maxHeartbeats 4000000 in
theorem n_X10_isSo_119 {a1 : Int32} {a2 : Int32} (X : Cx p s m args meth c D cy ad A RX10 cX10_isSo 7 ((some .boolean))) (hN : Ob ns 10 100) {M : Mem} {k_144 : Bool → Int32 → Option (Bool)} {v_4 : Int32} {s_0 : Bool} {r : Bool} (hX : f_X10_isSo_119 M a1 a2 k_144 v_4 s_0 = some r) : (∀ (v_3 : Bool) (v_4 : Int32) (r : Bool), k_144 v_3 v_4 = some r → ∀ (ls : Array Slot) (H : Heap) (locs : List Loc), lv_has ls 7 [(0, .ref (ad 100 0)), (1, .int a1), (2, .int a2), (3, .int (b2i v_3)), (4, .int v_4)] → St D cy ad ns A M s.heap H locs → W p l e rm_X10_isSo s m args below meth c H locs 0 0 (MQ below (QC D cy ad ns A M (some (.int (b2i r)))) args s 0 0 A) (F0 m 144 ls [])) → ∀ (ls : Array Slot) (H : Heap) (locs : List Loc), lv_has ls 7 [(0, .ref (ad 100 0)), (1, .int a1), (2, .int a2), (4, .int v_4)] → St D cy ad ns A M s.heap H locs → W p l e rm_X10_isSo s m args below meth c H locs 0 0 (MQ below (QC D cy ad ns A M (some (.int (b2i r)))) args s 0 0 A) (F0 m 119 ls [.int (b2i s_0)]) := by
  obtain ⟨hx, hb, hml, hown, hts, hK, hr, hlk, hA, hG⟩ := id X
  intro hk_144 ls H locs hl hS
  unfold f_X10_isSo_119 at hX
  refine lv_istore_n (lv' := [(3, .int (b2i s_0)), (0, .ref (ad 100 0)), (1, .int a1), (2, .int a2), (4, .int v_4)]) hx hb dX10_isSo_119 rfl hl (by decide) rfl (fun ls hl => ?_)
  refine lv_goto (tgt := 144) hx hb dX10_isSo_120 (by decide) ?_
  exact hk_144 _ _ _ hX _ _ _ (lv_sub hl [1, 2, 3, 0, 4] rfl) hS
set_option maxRecDepth 100000 in
set_option maxHeartbeats 4000000 in
theorem n_X10_isSo_111 {a1 : Int32} {a2 : Int32} (X : Cx p s m args meth c D cy ad A RX10 cX10_isSo 7 ((some .boolean))) (hN : Ob ns 10 100) {M : Mem} {k_144 : Bool → Int32 → Option (Bool)} {v_4 : Int32} {s_0 : Bool} {s_1 : Bool} {r : Bool} (hX : f_X10_isSo_111 M a1 a2 k_144 v_4 s_0 s_1 = some r) : (∀ (v_3 : Bool) (v_4 : Int32) (r : Bool), k_144 v_3 v_4 = some r → ∀ (ls : Array Slot) (H : Heap) (locs : List Loc), lv_has ls 7 [(0, .ref (ad 100 0)), (1, .int a1), (2, .int a2), (3, .int (b2i v_3)), (4, .int v_4)] → St D cy ad ns A M s.heap H locs → W p l e rm_X10_isSo s m args below meth c H locs 0 0 (MQ below (QC D cy ad ns A M (some (.int (b2i r)))) args s 0 0 A) (F0 m 144 ls [])) → ∀ (ls : Array Slot) (H : Heap) (locs : List Loc), lv_has ls 7 [(0, .ref (ad 100 0)), (1, .int a1), (2, .int a2), (4, .int v_4)] → St D cy ad ns A M s.heap H locs → W p l e rm_X10_isSo s m args below meth c H locs 0 0 (MQ below (QC D cy ad ns A M (some (.int (b2i r)))) args s 0 0 A) (F0 m 111 ls [.int (b2i s_1), .int (b2i s_0)]) := by
  obtain ⟨hx, hb, hml, hown, hts, hK, hr, hlk, hA, hG⟩ := id X
  intro hk_144 ls H locs hl hS
  unfold f_X10_isSo_111 at hX
  refine lv_icmp_ne (tgt := 118) hx hb dX10_isSo_111 (by decide) (fun c1 => ?_) (fun c1 => ?_)
  · have hX := if_f c1 hX
    refine lv_iconst (v := nI 0) hx hb dX10_isSo_118 (by decide) ?_
    exact n_X10_isSo_119 X hN hX hk_144 _ _ _ (lv_sub hl [0, 1, 2, 3] rfl) hS
  · have hX := if_t c1 hX
    refine lv_iconst (v := nI 1) hx hb dX10_isSo_114 (by decide) ?_
    refine lv_goto (tgt := 119) hx hb dX10_isSo_115 (by decide) ?_
    exact n_X10_isSo_119 X hN hX hk_144 _ _ _ (lv_sub hl [0, 1, 2, 3] rfl) hS
set_option maxRecDepth 100000 in
set_option maxHeartbeats 4000000 in
theorem n_X10_isSo_66 {a1 : Int32} {a2 : Int32} (X : Cx p s m args meth c D cy ad A RX10 cX10_isSo 7 ((some .boolean))) (hN : Ob ns 10 100) {M : Mem} {k_71 : Int32 → Bool → Option (Bool)} {v_4 : Int32} {r : Bool} (hX : f_X10_isSo_66 M a1 a2 k_71 v_4 = some r) : (∀ (v_4 : Int32) (s_0 : Bool) (r : Bool), k_71 v_4 s_0 = some r → ∀ (ls : Array Slot) (H : Heap) (locs : List Loc), lv_has ls 7 [(0, .ref (ad 100 0)), (1, .int a1), (2, .int a2), (4, .int v_4)] → St D cy ad ns A M s.heap H locs → W p l e rm_X10_isSo s m args below meth c H locs 0 0 (MQ below (QC D cy ad ns A M (some (.int (b2i r)))) args s 0 0 A) (F0 m 71 ls [.int (b2i s_0)])) → ∀ (ls : Array Slot) (H : Heap) (locs : List Loc), lv_has ls 7 [(0, .ref (ad 100 0)), (1, .int a1), (2, .int a2), (4, .int v_4)] → St D cy ad ns A M s.heap H locs → W p l e rm_X10_isSo s m args below meth c H locs 0 0 (MQ below (QC D cy ad ns A M (some (.int (b2i r)))) args s 0 0 A) (F0 m 66 ls []) := by
  obtain ⟨hx, hb, hml, hown, hts, hK, hr, hlk, hA, hG⟩ := id X
  intro hk_71 ls H locs hl hS
  unfold f_X10_isSo_66 at hX
  refine lv_iconst (v := nI 1) hx hb dX10_isSo_66 (by decide) ?_
  refine lv_goto (tgt := 71) hx hb dX10_isSo_67 (by decide) ?_
  exact hk_71 _ _ _ hX _ _ _ (lv_sub hl [0, 1, 2, 3] rfl) hS
set_option maxRecDepth 100000 in
set_option maxHeartbeats 4000000 in
theorem n_X10_isSo_71 {a1 : Int32} {a2 : Int32} (X : Cx p s m args meth c D cy ad A RX10 cX10_isSo 7 ((some .boolean))) (hN : Ob ns 10 100) {M : Mem} {k_144 : Bool → Int32 → Option (Bool)} {v_4 : Int32} {s_0 : Bool} {r : Bool} (hX : f_X10_isSo_71 M a1 a2 k_144 v_4 s_0 = some r) : (∀ (v_3 : Bool) (v_4 : Int32) (r : Bool), k_144 v_3 v_4 = some r → ∀ (ls : Array Slot) (H : Heap) (locs : List Loc), lv_has ls 7 [(0, .ref (ad 100 0)), (1, .int a1), (2, .int a2), (3, .int (b2i v_3)), (4, .int v_4)] → St D cy ad ns A M s.heap H locs → W p l e rm_X10_isSo s m args below meth c H locs 0 0 (MQ below (QC D cy ad ns A M (some (.int (b2i r)))) args s 0 0 A) (F0 m 144 ls [])) → ∀ (ls : Array Slot) (H : Heap) (locs : List Loc), lv_has ls 7 [(0, .ref (ad 100 0)), (1, .int a1), (2, .int a2), (4, .int v_4)] → St D cy ad ns A M s.heap H locs → W p l e rm_X10_isSo s m args below meth c H locs 0 0 (MQ below (QC D cy ad ns A M (some (.int (b2i r)))) args s 0 0 A) (F0 m 71 ls [.int (b2i s_0)]) := by
  obtain ⟨hx, hb, hml, hown, hts, hK, hr, hlk, hA, hG⟩ := id X
  intro hk_144 ls H locs hl hS
  unfold f_X10_isSo_71 at hX
  refine lv_istore_n (lv' := [(3, .int (b2i s_0)), (0, .ref (ad 100 0)), (1, .int a1), (2, .int a2), (4, .int v_4)]) hx hb dX10_isSo_71 rfl hl (by decide) rfl (fun ls hl => ?_)
  refine lv_goto (tgt := 144) hx hb dX10_isSo_72 (by decide) ?_
  exact hk_144 _ _ _ hX _ _ _ (lv_sub hl [1, 2, 3, 0, 4] rfl) hS
set_option maxRecDepth 100000 in
set_option maxHeartbeats 4000000 in
theorem n_X10_isSo_97 {a1 : Int32} {a2 : Int32} (X : Cx p s m args meth c D cy ad A RX10 cX10_isSo 7 ((some .boolean))) (hN : Ob ns 10 100) {M : Mem} {k_144 : Bool → Int32 → Option (Bool)} {v_4 : Int32} {v_6 : Int32} {s_0 : Bool} {r : Bool} (hX : f_X10_isSo_97 M a1 a2 k_144 v_4 v_6 s_0 = some r) : (∀ (v_3 : Bool) (v_4 : Int32) (r : Bool), k_144 v_3 v_4 = some r → ∀ (ls : Array Slot) (H : Heap) (locs : List Loc), lv_has ls 7 [(0, .ref (ad 100 0)), (1, .int a1), (2, .int a2), (3, .int (b2i v_3)), (4, .int v_4)] → St D cy ad ns A M s.heap H locs → W p l e rm_X10_isSo s m args below meth c H locs 0 0 (MQ below (QC D cy ad ns A M (some (.int (b2i r)))) args s 0 0 A) (F0 m 144 ls [])) → ∀ (ls : Array Slot) (H : Heap) (locs : List Loc), lv_has ls 7 [(0, .ref (ad 100 0)), (1, .int a1), (2, .int a2), (4, .int v_4), (6, .int v_6)] → St D cy ad ns A M s.heap H locs → W p l e rm_X10_isSo s m args below meth c H locs 0 0 (MQ below (QC D cy ad ns A M (some (.int (b2i r)))) args s 0 0 A) (F0 m 97 ls [.int (b2i s_0)]) := by
  obtain ⟨hx, hb, hml, hown, hts, hK, hr, hlk, hA, hG⟩ := id X
  intro hk_144 ls H locs hl hS
  unfold f_X10_isSo_97 at hX
  refine lv_iload_n hx hb dX10_isSo_97 rfl (lv_at hl 1 rfl) ?_
  obtain ⟨r3, h2, hX⟩ := bn_of hX
  refine r_callS1 (v := .int r3) (As := [.int a1]) (rest := [.int (b2i s_0)]) X hS (m_X10_ones (M := M) hN h2) ms_X10_ones t7_95 ⟨rfl, rfl, Nat.le_of_ble_eq_true rfl, Nat.le_of_ble_eq_true rfl⟩ rfl hl.1 rfl (Nat.le_of_ble_eq_true rfl) ⟨Nat.zero_le _, Nat.zero_le _⟩ dX10_isSo_98 (fun H locs hS => ?_)
  refine lv_iload hx hb dX10_isSo_101 (lv_at hl 4 rfl) ?_
  refine lv_icmp_ne (tgt := 110) hx hb dX10_isSo_103 (by decide) (fun c4 => ?_) (fun c4 => ?_)
  · have hX := if_f c4 hX
    refine lv_iconst (v := nI 0) hx hb dX10_isSo_110 (by decide) ?_
    exact n_X10_isSo_111 X hN hX hk_144 _ _ _ (lv_sub hl [0, 1, 2, 3] rfl) hS
  · have hX := if_t c4 hX
    refine lv_iconst (v := nI 1) hx hb dX10_isSo_106 (by decide) ?_
    refine lv_goto (tgt := 111) hx hb dX10_isSo_107 (by decide) ?_
    exact n_X10_isSo_111 X hN hX hk_144 _ _ _ (lv_sub hl [0, 1, 2, 3] rfl) hS
set_option maxRecDepth 100000 in
set_option maxHeartbeats 4000000 in
theorem n_X10_isSo_138 {a1 : Int32} {a2 : Int32} (X : Cx p s m args meth c D cy ad A RX10 cX10_isSo 7 ((some .boolean))) (hN : Ob ns 10 100) {M : Mem} {k_143 : Int32 → Bool → Option (Bool)} {v_4 : Int32} {r : Bool} (hX : f_X10_isSo_138 M a1 a2 k_143 v_4 = some r) : (∀ (v_4 : Int32) (s_0 : Bool) (r : Bool), k_143 v_4 s_0 = some r → ∀ (ls : Array Slot) (H : Heap) (locs : List Loc), lv_has ls 7 [(0, .ref (ad 100 0)), (1, .int a1), (2, .int a2), (4, .int v_4)] → St D cy ad ns A M s.heap H locs → W p l e rm_X10_isSo s m args below meth c H locs 0 0 (MQ below (QC D cy ad ns A M (some (.int (b2i r)))) args s 0 0 A) (F0 m 143 ls [.int (b2i s_0)])) → ∀ (ls : Array Slot) (H : Heap) (locs : List Loc), lv_has ls 7 [(0, .ref (ad 100 0)), (1, .int a1), (2, .int a2), (4, .int v_4)] → St D cy ad ns A M s.heap H locs → W p l e rm_X10_isSo s m args below meth c H locs 0 0 (MQ below (QC D cy ad ns A M (some (.int (b2i r)))) args s 0 0 A) (F0 m 138 ls []) := by
  obtain ⟨hx, hb, hml, hown, hts, hK, hr, hlk, hA, hG⟩ := id X
  intro hk_143 ls H locs hl hS
  unfold f_X10_isSo_138 at hX
  refine lv_iconst (v := nI 1) hx hb dX10_isSo_138 (by decide) ?_
  refine lv_goto (tgt := 143) hx hb dX10_isSo_139 (by decide) ?_
  exact hk_143 _ _ _ hX _ _ _ (lv_sub hl [0, 1, 2, 3] rfl) hS
set_option maxRecDepth 100000 in
set_option maxHeartbeats 4000000 in
theorem n_X10_isSo_143 {a1 : Int32} {a2 : Int32} (X : Cx p s m args meth c D cy ad A RX10 cX10_isSo 7 ((some .boolean))) (hN : Ob ns 10 100) {M : Mem} {k_144 : Bool → Int32 → Option (Bool)} {v_4 : Int32} {s_0 : Bool} {r : Bool} (hX : f_X10_isSo_143 M a1 a2 k_144 v_4 s_0 = some r) : (∀ (v_3 : Bool) (v_4 : Int32) (r : Bool), k_144 v_3 v_4 = some r → ∀ (ls : Array Slot) (H : Heap) (locs : List Loc), lv_has ls 7 [(0, .ref (ad 100 0)), (1, .int a1), (2, .int a2), (3, .int (b2i v_3)), (4, .int v_4)] → St D cy ad ns A M s.heap H locs → W p l e rm_X10_isSo s m args below meth c H locs 0 0 (MQ below (QC D cy ad ns A M (some (.int (b2i r)))) args s 0 0 A) (F0 m 144 ls [])) → ∀ (ls : Array Slot) (H : Heap) (locs : List Loc), lv_has ls 7 [(0, .ref (ad 100 0)), (1, .int a1), (2, .int a2), (4, .int v_4)] → St D cy ad ns A M s.heap H locs → W p l e rm_X10_isSo s m args below meth c H locs 0 0 (MQ below (QC D cy ad ns A M (some (.int (b2i r)))) args s 0 0 A) (F0 m 143 ls [.int (b2i s_0)]) := by
  obtain ⟨hx, hb, hml, hown, hts, hK, hr, hlk, hA, hG⟩ := id X
  intro hk_144 ls H locs hl hS
  unfold f_X10_isSo_143 at hX
  refine lv_istore_n (lv' := [(3, .int (b2i s_0)), (0, .ref (ad 100 0)), (1, .int a1), (2, .int a2), (4, .int v_4)]) hx hb dX10_isSo_143 rfl hl (by decide) rfl (fun ls hl => ?_)
  exact hk_144 _ _ _ hX _ _ _ (lv_sub hl [1, 2, 3, 0, 4] rfl) hS
set_option maxRecDepth 100000 in
set_option maxHeartbeats 4000000 in
theorem n_X10_isSo_144 {a1 : Int32} {a2 : Int32} (X : Cx p s m args meth c D cy ad A RX10 cX10_isSo 7 ((some .boolean))) (hN : Ob ns 10 100) {M : Mem} {k_10 : Bool → Int32 → Option (Bool)} {v_3 : Bool} {v_4 : Int32} {r : Bool} (hX : f_X10_isSo_144 M a1 a2 k_10 v_3 v_4 = some r) : (∀ (v_3 : Bool) (v_4 : Int32) (r : Bool), k_10 v_3 v_4 = some r → ∀ (ls : Array Slot) (H : Heap) (locs : List Loc), lv_has ls 7 [(0, .ref (ad 100 0)), (1, .int a1), (2, .int a2), (3, .int (b2i v_3)), (4, .int v_4)] → St D cy ad ns A M s.heap H locs → W p l e rm_X10_isSo s m args below meth c H locs 0 0 (MQ below (QC D cy ad ns A M (some (.int (b2i r)))) args s 0 0 A) (F0 m 10 ls [])) → ∀ (ls : Array Slot) (H : Heap) (locs : List Loc), lv_has ls 7 [(0, .ref (ad 100 0)), (1, .int a1), (2, .int a2), (3, .int (b2i v_3)), (4, .int v_4)] → St D cy ad ns A M s.heap H locs → W p l e rm_X10_isSo s m args below meth c H locs 0 0 (MQ below (QC D cy ad ns A M (some (.int (b2i r)))) args s 0 0 A) (F0 m 144 ls []) := by
  obtain ⟨hx, hb, hml, hown, hts, hK, hr, hlk, hA, hG⟩ := id X
  intro hk_10 ls H locs hl hS
  unfold f_X10_isSo_144 at hX
  obtain ⟨v5, ev5⟩ : ∃ y : Int32, y = (v_4 + nI 1) := ⟨_, rfl⟩
  have hX := nm_of ev5 hX
  refine lv_iinc (v := v5) (lv' := [(4, .int v5), (0, .ref (ad 100 0)), (1, .int a1), (2, .int a2), (3, .int (b2i v_3))]) hx hb dX10_isSo_144 hl (k := 4) rfl (by rw [ev5]; rfl) (by decide) rfl (fun ls hl => ?_)
  refine lv_goto (tgt := 10) hx hb dX10_isSo_147 (by decide) ?_
  exact hk_10 _ _ _ hX _ _ _ (lv_sub hl [1, 2, 3, 4, 0] rfl) hS
set_option maxRecDepth 100000 in
set_option maxHeartbeats 4000000 in
theorem n_X10_isSo_10 {a1 : Int32} {a2 : Int32} (X : Cx p s m args meth c D cy ad A RX10 cX10_isSo 7 ((some .boolean))) (hN : Ob ns 10 100) {M : Mem} : ∀ (n : Nat) (v_3 : Bool) (v_4 : Int32) (r : Bool), f_X10_isSo_10 M a1 a2 n (v_3, v_4) = some r → ∀ (ls : Array Slot) (H : Heap) (locs : List Loc), lv_has ls 7 [(0, .ref (ad 100 0)), (1, .int a1), (2, .int a2), (3, .int (b2i v_3)), (4, .int v_4)] → St D cy ad ns A M s.heap H locs → W p l e rm_X10_isSo s m args below meth c H locs 0 0 (MQ below (QC D cy ad ns A M (some (.int (b2i r)))) args s 0 0 A) (F0 m 10 ls []) := by
  obtain ⟨hx, hb, hml, hown, hts, hK, hr, hlk, hA, hG⟩ := id X
  intro n
  induction n with
  | zero => intro v_3 v_4 r hX; cases (show (none : Option (Bool)) = some r from hX)
  | succ n ih =>
    intro v_3 v_4 r hX ls H locs hl hS
    have hX : b_X10_isSo_10 M a1 a2 (fun x0 x1 => f_X10_isSo_10 M a1 a2 n (x0, x1)) v_3 v_4 = some r := hX
    unfold b_X10_isSo_10 at hX
    refine lv_iload hx hb dX10_isSo_10 (lv_at hl 4 rfl) ?_
    refine lv_aload_n hx hb dX10_isSo_12 rfl (lv_at hl 0 rfl) ?_
    obtain ⟨r7, h6, hX⟩ := bn_of hX
    refine r_callV1 (v := .int r7) (As := []) (rest := [.int v_4]) X hS (m_X10_facts hN h6) mv_X10_facts rfl (hN) t8_11 ⟨rfl, rfl, Nat.le_of_ble_eq_true rfl, Nat.le_of_ble_eq_true rfl⟩ rfl hl.1 rfl (Nat.le_of_ble_eq_true rfl) ⟨Nat.zero_le _, Nat.zero_le _⟩ dX10_isSo_13 (fun H locs hS => ?_)
    refine lv_icmp_ge (tgt := 150) hx hb dX10_isSo_16 (by decide) (fun c8 => ?_) (fun c8 => ?_)
    · have hX := if_t c8 hX
      refine lv_iload_n hx hb dX10_isSo_150 rfl (lv_at hl 3 rfl) ?_
      obtain rfl := some_of hX
      exact x_Z (v := v_3) X hS dX10_isSo_151
    · have hX := if_f c8 hX
      refine lv_iload_n hx hb dX10_isSo_19 rfl (lv_at hl 3 rfl) ?_
      refine lv_if_eq (tgt := 150) hx hb dX10_isSo_20 (by decide) (fun c9 => ?_) (fun c9 => ?_)
      · have hX := if_bf c9 hX
        refine lv_iload_n hx hb dX10_isSo_150 rfl (lv_at hl 3 rfl) ?_
        obtain rfl := some_of hX
        exact x_Z (v := v_3) X hS dX10_isSo_151
      · have hX := if_bt c9 hX
        refine lv_aload_n hx hb dX10_isSo_23 rfl (lv_at hl 0 rfl) ?_
        refine lv_iload hx hb dX10_isSo_24 (lv_at hl 4 rfl) ?_
        refine lv_iconst (v := nI 1) hx hb dX10_isSo_26 (by decide) ?_
        obtain ⟨r11, h10, hX⟩ := bn_of hX
        refine r_callV1 (v := .int r11) (As := [.int v_4, .int (nI 1)]) (rest := []) X hS (m_X10_factOf hN h10) mv_X10_factOf rfl (hN) t8_15 ⟨rfl, rfl, Nat.le_of_ble_eq_true rfl, Nat.le_of_ble_eq_true rfl⟩ rfl hl.1 rfl (Nat.le_of_ble_eq_true rfl) ⟨Nat.zero_le _, Nat.zero_le _⟩ dX10_isSo_27 (fun H locs hS => ?_)
        refine lv_istore (lv' := [(5, .int r11), (0, .ref (ad 100 0)), (1, .int a1), (2, .int a2), (3, .int (b2i v_3)), (4, .int v_4)]) hx hb dX10_isSo_30 hl (by decide) rfl (fun ls hl => ?_)
        refine lv_aload_n hx hb dX10_isSo_32 rfl (lv_at hl 1 rfl) ?_
        refine lv_iload hx hb dX10_isSo_33 (lv_at hl 5 rfl) ?_
        refine lv_iconst (v := nI 2) hx hb dX10_isSo_35 (by decide) ?_
        obtain ⟨r13, h12, hX⟩ := bn_of hX
        refine r_callV1 (v := .int r13) (As := [.int v_4, .int (nI 2)]) (rest := []) X hS (m_X10_factOf hN h12) mv_X10_factOf rfl (hN) t8_15 ⟨rfl, rfl, Nat.le_of_ble_eq_true rfl, Nat.le_of_ble_eq_true rfl⟩ rfl hl.1 rfl (Nat.le_of_ble_eq_true rfl) ⟨Nat.zero_le _, Nat.zero_le _⟩ dX10_isSo_36 (fun H locs hS => ?_)
        refine lv_istore (lv' := [(6, .int r13), (5, .int r11), (0, .ref (ad 100 0)), (1, .int a1), (2, .int a2), (3, .int (b2i v_3)), (4, .int v_4)]) hx hb dX10_isSo_39 hl (by decide) rfl (fun ls hl => ?_)
        refine lv_aload_n hx hb dX10_isSo_41 rfl (lv_at hl 2 rfl) ?_
        refine lv_iload hx hb dX10_isSo_42 (lv_at hl 6 rfl) ?_
        refine lv_iconst (v := nI 0) hx hb dX10_isSo_44 (by decide) ?_
        obtain ⟨r15, h14, hX⟩ := bn_of hX
        refine r_callV1 (v := .int r15) (As := [.int v_4, .int (nI 0)]) (rest := []) X hS (m_X10_factOf hN h14) mv_X10_factOf rfl (hN) t8_15 ⟨rfl, rfl, Nat.le_of_ble_eq_true rfl, Nat.le_of_ble_eq_true rfl⟩ rfl hl.1 rfl (Nat.le_of_ble_eq_true rfl) ⟨Nat.zero_le _, Nat.zero_le _⟩ dX10_isSo_45 (fun H locs hS => ?_)
        refine lv_if_ne (tgt := 75) hx hb dX10_isSo_48 (by decide) (fun c16 => ?_) (fun c16 => ?_)
        · have hX := if_f c16 hX
          refine lv_aload_n hx hb dX10_isSo_75 rfl (lv_at hl 2 rfl) ?_
          refine lv_iload hx hb dX10_isSo_76 (lv_at hl 6 rfl) ?_
          refine lv_iconst (v := nI 0) hx hb dX10_isSo_78 (by decide) ?_
          obtain ⟨r18, h17, hX⟩ := bn_of hX
          refine r_callV1 (v := .int r18) (As := [.int v_4, .int (nI 0)]) (rest := []) X hS (m_X10_factOf hN h17) mv_X10_factOf rfl (hN) t8_15 ⟨rfl, rfl, Nat.le_of_ble_eq_true rfl, Nat.le_of_ble_eq_true rfl⟩ rfl hl.1 rfl (Nat.le_of_ble_eq_true rfl) ⟨Nat.zero_le _, Nat.zero_le _⟩ dX10_isSo_79 (fun H locs hS => ?_)
          refine lv_iconst (v := nI 1) hx hb dX10_isSo_82 (by decide) ?_
          refine lv_icmp_ne (tgt := 123) hx hb dX10_isSo_83 (by decide) (fun c19 => ?_) (fun c19 => ?_)
          · have hX := if_f c19 hX
            refine lv_iload_n hx hb dX10_isSo_123 rfl (lv_at hl 4 rfl) ?_
            refine lv_iload hx hb dX10_isSo_124 (lv_at hl 1 rfl) ?_
            refine lv_icmp_ne (tgt := 138) hx hb dX10_isSo_126 (by decide) (fun c20 => ?_) (fun c20 => ?_)
            · have hX := if_f c20 hX
              exact n_X10_isSo_138 X hN hX (fun z0 z1 r h ls H locs hl hS => n_X10_isSo_143 X hN h (fun z0 z1 r h ls H locs hl hS => n_X10_isSo_144 X hN h (fun z0 z1 r h ls H locs hl hS => ih z0 z1 r h ls H locs hl hS) _ _ _ hl hS) _ _ _ hl hS) _ _ _ (lv_sub hl [2, 3, 4, 6] rfl) hS
            · have hX := if_t c20 hX
              refine lv_iload_n hx hb dX10_isSo_129 rfl (lv_at hl 3 rfl) ?_
              obtain ⟨r22, h21, hX⟩ := bn_of hX
              refine r_callS1 (v := .int r22) (As := [.int a1]) (rest := []) X hS (m_X10_ones (M := M) hN h21) ms_X10_ones t7_95 ⟨rfl, rfl, Nat.le_of_ble_eq_true rfl, Nat.le_of_ble_eq_true rfl⟩ rfl hl.1 rfl (Nat.le_of_ble_eq_true rfl) ⟨Nat.zero_le _, Nat.zero_le _⟩ dX10_isSo_130 (fun H locs hS => ?_)
              refine lv_iload hx hb dX10_isSo_133 (lv_at hl 0 rfl) ?_
              refine lv_icmp_eq (tgt := 142) hx hb dX10_isSo_135 (by decide) (fun c23 => ?_) (fun c23 => ?_)
              · have hX := if_t c23 hX
                refine lv_iconst (v := nI 0) hx hb dX10_isSo_142 (by decide) ?_
                exact n_X10_isSo_143 X hN hX (fun z0 z1 r h ls H locs hl hS => n_X10_isSo_144 X hN h (fun z0 z1 r h ls H locs hl hS => ih z0 z1 r h ls H locs hl hS) _ _ _ hl hS) _ _ _ (lv_sub hl [2, 3, 4, 6] rfl) hS
              · have hX := if_f c23 hX
                exact n_X10_isSo_138 X hN hX (fun z0 z1 r h ls H locs hl hS => n_X10_isSo_143 X hN h (fun z0 z1 r h ls H locs hl hS => n_X10_isSo_144 X hN h (fun z0 z1 r h ls H locs hl hS => ih z0 z1 r h ls H locs hl hS) _ _ _ hl hS) _ _ _ hl hS) _ _ _ (lv_sub hl [2, 3, 4, 6] rfl) hS
          · have hX := if_t c19 hX
            refine lv_iload_n hx hb dX10_isSo_86 rfl (lv_at hl 4 rfl) ?_
            refine lv_iload hx hb dX10_isSo_87 (lv_at hl 1 rfl) ?_
            refine lv_icmp_ne (tgt := 96) hx hb dX10_isSo_89 (by decide) (fun c24 => ?_) (fun c24 => ?_)
            · have hX := if_f c24 hX
              refine lv_iconst (v := nI 0) hx hb dX10_isSo_96 (by decide) ?_
              exact n_X10_isSo_97 X hN hX (fun z0 z1 r h ls H locs hl hS => n_X10_isSo_144 X hN h (fun z0 z1 r h ls H locs hl hS => ih z0 z1 r h ls H locs hl hS) _ _ _ hl hS) _ _ _ (lv_sub hl [2, 3, 4, 6, 0] rfl) hS
            · have hX := if_t c24 hX
              refine lv_iconst (v := nI 1) hx hb dX10_isSo_92 (by decide) ?_
              refine lv_goto (tgt := 97) hx hb dX10_isSo_93 (by decide) ?_
              exact n_X10_isSo_97 X hN hX (fun z0 z1 r h ls H locs hl hS => n_X10_isSo_144 X hN h (fun z0 z1 r h ls H locs hl hS => ih z0 z1 r h ls H locs hl hS) _ _ _ hl hS) _ _ _ (lv_sub hl [2, 3, 4, 6, 0] rfl) hS
        · have hX := if_t c16 hX
          refine lv_iload_n hx hb dX10_isSo_51 rfl (lv_at hl 4 rfl) ?_
          refine lv_iload hx hb dX10_isSo_52 (lv_at hl 0 rfl) ?_
          refine lv_icmp_ne (tgt := 66) hx hb dX10_isSo_54 (by decide) (fun c25 => ?_) (fun c25 => ?_)
          · have hX := if_f c25 hX
            exact n_X10_isSo_66 X hN hX (fun z0 z1 r h ls H locs hl hS => n_X10_isSo_71 X hN h (fun z0 z1 r h ls H locs hl hS => n_X10_isSo_144 X hN h (fun z0 z1 r h ls H locs hl hS => ih z0 z1 r h ls H locs hl hS) _ _ _ hl hS) _ _ _ hl hS) _ _ _ (lv_sub hl [2, 3, 4, 6] rfl) hS
          · have hX := if_t c25 hX
            refine lv_iload_n hx hb dX10_isSo_57 rfl (lv_at hl 3 rfl) ?_
            refine lv_iload hx hb dX10_isSo_58 (lv_at hl 1 rfl) ?_
            obtain ⟨r27, h26, hX⟩ := bn_of hX
            refine r_callS1 (v := .int (b2i r27)) (As := [.int a1, .int r11]) (rest := []) X hS (m_X10_has (M := M) hN h26) ms_X10_has t7_36 ⟨rfl, rfl, Nat.le_of_ble_eq_true rfl, Nat.le_of_ble_eq_true rfl⟩ rfl hl.1 rfl (Nat.le_of_ble_eq_true rfl) ⟨Nat.zero_le _, Nat.zero_le _⟩ dX10_isSo_60 (fun H locs hS => ?_)
            refine lv_if_eq (tgt := 70) hx hb dX10_isSo_63 (by decide) (fun c28 => ?_) (fun c28 => ?_)
            · have hX := if_bf c28 hX
              refine lv_iconst (v := nI 0) hx hb dX10_isSo_70 (by decide) ?_
              exact n_X10_isSo_71 X hN hX (fun z0 z1 r h ls H locs hl hS => n_X10_isSo_144 X hN h (fun z0 z1 r h ls H locs hl hS => ih z0 z1 r h ls H locs hl hS) _ _ _ hl hS) _ _ _ (lv_sub hl [2, 3, 4, 6] rfl) hS
            · have hX := if_bt c28 hX
              exact n_X10_isSo_66 X hN hX (fun z0 z1 r h ls H locs hl hS => n_X10_isSo_71 X hN h (fun z0 z1 r h ls H locs hl hS => n_X10_isSo_144 X hN h (fun z0 z1 r h ls H locs hl hS => ih z0 z1 r h ls H locs hl hS) _ _ _ hl hS) _ _ _ hl hS) _ _ _ (lv_sub hl [2, 3, 4, 6] rfl) hS
set_option maxRecDepth 100000 in
set_option maxHeartbeats 4000000 in
theorem m_X10_isSo {l : Launch} {D : va_G} {cy : Nat → ClassId} {ad : Nat → Nat → Nat} {ns : List (Nat × Nat)} {A : Nat → Prop} {M : Mem} (hN : Ob ns 10 100) {a1 : Int32} {a2 : Int32} {r : Bool} (hX : f_X10_isSo M a1 a2 = some r) : Ct l yX10_isSo cX10_isSo 7 ((some .boolean)) rm_X10_isSo D cy ad ns A [.ref (ad 100 0), .int a1, .int a2] M M (some (.int (b2i r))) := by
  refine ct_of (lv := [(0, .ref (ad 100 0)), (1, .int a1), (2, .int a2)]) (by decide) (Nat.le_of_ble_eq_true rfl) rfl ?_
  intro p e s m args below meth c ls X hl hS
  obtain ⟨hx, hb, hml, hown, hts, hK, hr, hlk, hA, hG⟩ := id X
  obtain ⟨H, hH⟩ : ∃ z, z = s.heap := ⟨_, rfl⟩
  obtain ⟨locs, hlo⟩ : ∃ z : List Loc, z = [] := ⟨_, rfl⟩
  have hS : St D cy ad ns A M s.heap H locs := by rw [hH, hlo]; exact hS
  have hgoal : W p l e rm_X10_isSo s m args below meth c H locs 0 0 (MQ below (QC D cy ad ns A M (some (.int (b2i r)))) args s 0 0 A) (F0 m 0 ls []) := by
    unfold f_X10_isSo at hX
    refine lv_aload_n hx hb dX10_isSo_0 rfl (lv_at hl 0 rfl) ?_
    refine lv_iload_n hx hb dX10_isSo_1 rfl (lv_at hl 1 rfl) ?_
    refine lv_iload_n hx hb dX10_isSo_2 rfl (lv_at hl 2 rfl) ?_
    obtain ⟨r30, h29, hX⟩ := bn_of hX
    refine r_callV1 (v := .int (b2i r30)) (As := [.int a1, .int a2]) (rest := []) X hS (m_X10_mayNext hN h29) mv_X10_mayNext rfl (hN) t7_79 ⟨rfl, rfl, Nat.le_of_ble_eq_true rfl, Nat.le_of_ble_eq_true rfl⟩ rfl hl.1 rfl (Nat.le_of_ble_eq_true rfl) ⟨Nat.zero_le _, Nat.zero_le _⟩ dX10_isSo_3 (fun H locs hS => ?_)
    refine lv_istore_n (lv' := [(3, .int (b2i r30)), (0, .ref (ad 100 0)), (1, .int a1), (2, .int a2)]) hx hb dX10_isSo_6 rfl hl (by decide) rfl (fun ls hl => ?_)
    refine lv_iconst (v := nI 0) hx hb dX10_isSo_7 (by decide) ?_
    refine lv_istore (lv' := [(4, .int (nI 0)), (3, .int (b2i r30)), (0, .ref (ad 100 0)), (1, .int a1), (2, .int a2)]) hx hb dX10_isSo_8 hl (by decide) rfl (fun ls hl => ?_)
    exact n_X10_isSo_10 X hN _ _ _ _ hX _ _ _ (lv_sub hl [2, 3, 4, 1, 0] rfl) hS
  rw [hH, hlo] at hgoal
  exact hgoal
theorem mv_X10_isSo : Mv yX10_isSo RX10 cX10_isSo 7 ((some .boolean)) 2 := ⟨t8_34, t8_33, ts_85, t1_11, ⟨by decide, by decide⟩, by decide +kernel⟩
/-! SewnYearModel.findSo()V -/
def rm_X10_findSo : Room := { frames := 3, cells := 0, slots := 0, locals := 69 }
def f_X10_findSo_175 (v_1 : Int32) (k_137 : Int32 → Mem → Option (Mem)) (v_2 : Int32) (s_1 : Int32) (s_2 : Int64) (s_3 : Int64) (M : Mem) : Option (Mem) :=
  gin s_1 512 <| nm (sB M 100 52 (ix s_1) (s_2 + s_3)) fun M2 => nm (v_2 + nI 1) fun v3 => k_137 v3 M2
def b_X10_findSo_137 (k_112 : Int32 → Mem → Option (Mem)) (v_1 : Int32) (rc : Int32 → Mem → Option (Mem)) (v_2 : Int32) (M : Mem) : Option (Mem) :=
  if (gI M 100 24) ≤ v_2 then (nm (v_1 + (-1)) fun v5 => k_112 v5 M) else (gin v_1 512 <| bn (f_X10_isSo M v_1 v_2) fun r8 => if r8 = true then (gin (v_1 ||| ((nI 1) <<< (v_2 &&& 31))) 512 <| f_X10_findSo_175 v_1 rc v_2 v_1 (gB M 100 52 (ix v_1)) (gB M 100 52 (ix (v_1 ||| ((nI 1) <<< (v_2 &&& 31))))) M) else (f_X10_findSo_175 v_1 rc v_2 v_1 (gB M 100 52 (ix v_1)) (lN 0) M))
def f_X10_findSo_137 (k_112 : Int32 → Mem → Option (Mem)) (v_1 : Int32) : Nat → (Int32 × Mem) → Option (Mem) := lp (fun rc q => b_X10_findSo_137 k_112 v_1 (fun x0 x1 => rc (x0, x1)) q.1 q.2)
def f_X10_findSo_93 (v_1 : Int32) (k_55 : Int32 → Mem → Option (Mem)) (v_2 : Int32) (s_1 : Int32) (s_2 : Int64) (s_3 : Int64) (M : Mem) : Option (Mem) :=
  gin s_1 512 <| nm (sB M 100 51 (ix s_1) (s_2 + s_3)) fun M12 => nm (v_2 + nI 1) fun v13 => k_55 v13 M12
def f_X10_findSo_134 (k_112 : Int32 → Mem → Option (Mem)) (v_1 : Int32) (s_1 : Int32) (s_2 : Int64) (M : Mem) : Option (Mem) :=
  gin s_1 512 <| nm (sB M 100 52 (ix s_1) s_2) fun M15 => f_X10_findSo_137 k_112 v_1 FU ((nI 0), M15)
def b_X10_findSo_55 (k_45 : Int32 → Mem → Option (Mem)) (v_1 : Int32) (rc : Int32 → Mem → Option (Mem)) (v_2 : Int32) (M : Mem) : Option (Mem) :=
  if (gI M 100 24) ≤ v_2 then (nm (v_1 + nI 1) fun v17 => k_45 v17 M) else (gin (v_1 ||| ((nI 1) <<< (v_2 &&& 31))) 512 <| bn (f_X10_isSo M v_1 v_2) fun r20 => if r20 = true then (gin v_1 512 <| f_X10_findSo_93 v_1 rc v_2 (v_1 ||| ((nI 1) <<< (v_2 &&& 31))) (gB M 100 51 (ix (v_1 ||| ((nI 1) <<< (v_2 &&& 31))))) (gB M 100 51 (ix v_1)) M) else (f_X10_findSo_93 v_1 rc v_2 (v_1 ||| ((nI 1) <<< (v_2 &&& 31))) (gB M 100 51 (ix (v_1 ||| ((nI 1) <<< (v_2 &&& 31))))) (lN 0) M))
def f_X10_findSo_55 (k_45 : Int32 → Mem → Option (Mem)) (v_1 : Int32) : Nat → (Int32 × Mem) → Option (Mem) := lp (fun rc q => b_X10_findSo_55 k_45 v_1 (fun x0 x1 => rc (x0, x1)) q.1 q.2)
def b_X10_findSo_112 (rc : Int32 → Mem → Option (Mem)) (v_1 : Int32) (M : Mem) : Option (Mem) :=
  if v_1 < (nI 0) then (some M) else (if v_1 = (gI M 100 35) then (f_X10_findSo_134 rc v_1 v_1 (lN 1) M) else (f_X10_findSo_134 rc v_1 v_1 (lN 0) M))
def f_X10_findSo_112 : Nat → (Int32 × Mem) → Option (Mem) := lp (fun rc q => b_X10_findSo_112 (fun x0 x1 => rc (x0, x1)) q.1 q.2)
def f_X10_findSo_36 (k_14 : Int32 → Mem → Option (Mem)) (v_1 : Int32) (s_1 : Int32) (s_2 : Int64) (M : Mem) : Option (Mem) :=
  gin s_1 512 <| nm (sB M 100 51 (ix s_1) s_2) fun M26 => nm (v_1 + nI 1) fun v27 => k_14 v27 M26
def b_X10_findSo_45 (rc : Int32 → Mem → Option (Mem)) (v_1 : Int32) (M : Mem) : Option (Mem) :=
  if (gI M 100 35) ≤ v_1 then (nm (gI M 100 35) fun v29 => f_X10_findSo_112 FU (v29, M)) else (f_X10_findSo_55 rc v_1 FU ((nI 0), M))
def f_X10_findSo_45 : Nat → (Int32 × Mem) → Option (Mem) := lp (fun rc q => b_X10_findSo_45 (fun x0 x1 => rc (x0, x1)) q.1 q.2)
def b_X10_findSo_14 (rc : Int32 → Mem → Option (Mem)) (v_1 : Int32) (M : Mem) : Option (Mem) :=
  if (gI M 100 35) < v_1 then (f_X10_findSo_45 FU ((nI 0), M)) else (if v_1 = (nI 0) then (f_X10_findSo_36 rc v_1 v_1 (lN 1) M) else (f_X10_findSo_36 rc v_1 v_1 (lN 0) M))
def f_X10_findSo_14 : Nat → (Int32 × Mem) → Option (Mem) := lp (fun rc q => b_X10_findSo_14 (fun x0 x1 => rc (x0, x1)) q.1 q.2)
def f_X10_findSo (M : Mem) : Option (Mem) :=
  nm (sI M 100 35 (((nI 1) <<< ((gI M 100 24) &&& 31)) - (nI 1))) fun M32 => f_X10_findSo_14 FU ((nI 0), M32)
set_option maxRecDepth 100000 in
set_option maxHeartbeats 4000000 in
theorem n_X10_findSo_175 {v_1 : Int32} (X : Cx p s m args meth c D cy ad A RX10 cX10_findSo 3 ((none : Option Jvm.ClassFile.FieldType))) (hN : Ob ns 10 100) {k_137 : Int32 → Mem → Option (Mem)} {v_2 : Int32} {s_1 : Int32} {s_2 : Int64} {s_3 : Int64} {M : Mem} {r : Mem} (hX : f_X10_findSo_175 v_1 k_137 v_2 s_1 s_2 s_3 M = some r) : (∀ (v_2 : Int32) (M : Mem) (r : Mem), k_137 v_2 M = some r → ∀ (ls : Array Slot) (H : Heap) (locs : List Loc), lv_has ls 3 [(0, .ref (ad 100 0)), (1, .int v_1), (2, .int v_2)] → St D cy ad ns A M s.heap H locs → W p l e rm_X10_findSo s m args below meth c H locs 0 0 (MQ below (QC D cy ad ns A r none) args s 0 0 A) (F0 m 137 ls [])) → ∀ (ls : Array Slot) (H : Heap) (locs : List Loc), lv_has ls 3 [(0, .ref (ad 100 0)), (1, .int v_1), (2, .int v_2)] → St D cy ad ns A M s.heap H locs → W p l e rm_X10_findSo s m args below meth c H locs 0 0 (MQ below (QC D cy ad ns A r none) args s 0 0 A) (F0 m 175 ls [.long s_3, .long s_2, .int s_1, .ref (ad 100 (52 + 1))]) := by
  obtain ⟨hx, hb, hml, hown, hts, hK, hr, hlk, hA, hG⟩ := id X
  intro hk_137 ls H locs hl hS
  unfold f_X10_findSo_175 at hX
  refine lv_ladd hx hb dX10_findSo_175 ?_
  obtain ⟨g1, hX⟩ := gin_of hX
  refine r_last (ci := 10) (o := 100) (k := 52) (n := 512) X hS (hN) rfl rfl g1 dX10_findSo_176 (fun H locs hS => ?_)
  obtain ⟨M2, eM2, hS, hX⟩ := nm_mem hS hX
  obtain ⟨v3, ev3⟩ : ∃ y : Int32, y = (v_2 + nI 1) := ⟨_, rfl⟩
  have hX := nm_of ev3 hX
  refine lv_iinc (v := v3) (lv' := [(2, .int v3), (0, .ref (ad 100 0)), (1, .int v_1)]) hx hb dX10_findSo_177 hl (k := 2) rfl (by rw [ev3]; rfl) (by decide) rfl (fun ls hl => ?_)
  refine lv_goto (tgt := 137) hx hb dX10_findSo_180 (by decide) ?_
  exact hk_137 _ _ _ hX _ _ _ (lv_sub hl [1, 2, 0] rfl) hS
set_option maxRecDepth 100000 in
set_option maxHeartbeats 4000000 in
theorem n_X10_findSo_137 (X : Cx p s m args meth c D cy ad A RX10 cX10_findSo 3 ((none : Option Jvm.ClassFile.FieldType))) (hN : Ob ns 10 100) {k_112 : Int32 → Mem → Option (Mem)} {v_1 : Int32} : ∀ (n : Nat) (v_2 : Int32) (M : Mem) (r : Mem), f_X10_findSo_137 k_112 v_1 n (v_2, M) = some r → (∀ (v_1 : Int32) (M : Mem) (r : Mem), k_112 v_1 M = some r → ∀ (ls : Array Slot) (H : Heap) (locs : List Loc), lv_has ls 3 [(0, .ref (ad 100 0)), (1, .int v_1)] → St D cy ad ns A M s.heap H locs → W p l e rm_X10_findSo s m args below meth c H locs 0 0 (MQ below (QC D cy ad ns A r none) args s 0 0 A) (F0 m 112 ls [])) → ∀ (ls : Array Slot) (H : Heap) (locs : List Loc), lv_has ls 3 [(0, .ref (ad 100 0)), (1, .int v_1), (2, .int v_2)] → St D cy ad ns A M s.heap H locs → W p l e rm_X10_findSo s m args below meth c H locs 0 0 (MQ below (QC D cy ad ns A r none) args s 0 0 A) (F0 m 137 ls []) := by
  obtain ⟨hx, hb, hml, hown, hts, hK, hr, hlk, hA, hG⟩ := id X
  intro n
  induction n with
  | zero => intro v_2 M r hX; cases (show (none : Option (Mem)) = some r from hX)
  | succ n ih =>
    intro v_2 M r hX hk_112 ls H locs hl hS
    have hX : b_X10_findSo_137 k_112 v_1 (fun x0 x1 => f_X10_findSo_137 k_112 v_1 n (x0, x1)) v_2 M = some r := hX
    unfold b_X10_findSo_137 at hX
    refine lv_iload_n hx hb dX10_findSo_137 rfl (lv_at hl 2 rfl) ?_
    refine lv_aload_n hx hb dX10_findSo_138 rfl (lv_at hl 0 rfl) ?_
    refine fg_X10_281 X hS (hN) dX10_findSo_139 ?_
    refine lv_icmp_ge (tgt := 183) hx hb dX10_findSo_142 (by decide) (fun c4 => ?_) (fun c4 => ?_)
    · have hX := if_t c4 hX
      obtain ⟨v5, ev5⟩ : ∃ y : Int32, y = (v_1 + (-1)) := ⟨_, rfl⟩
      have hX := nm_of ev5 hX
      refine lv_iinc (v := v5) (lv' := [(1, .int v5), (0, .ref (ad 100 0)), (2, .int v_2)]) hx hb dX10_findSo_183 hl (k := 1) rfl (by rw [ev5]; rfl) (by decide) rfl (fun ls hl => ?_)
      refine lv_goto (tgt := 112) hx hb dX10_findSo_186 (by decide) ?_
      exact hk_112 _ _ _ hX _ _ _ (lv_sub hl [1, 0] rfl) hS
    · have hX := if_f c4 hX
      refine lv_aload_n hx hb dX10_findSo_145 rfl (lv_at hl 0 rfl) ?_
      refine fg_X10_78 X hS (hN) dX10_findSo_146 ?_
      refine lv_iload_n hx hb dX10_findSo_149 rfl (lv_at hl 1 rfl) ?_
      refine lv_dup2_11 hx hb dX10_findSo_150 rfl rfl ?_
      obtain ⟨g6, hX⟩ := gin_of hX
      refine r_lald (ci := 10) (o := 100) (k := 52) (n := 512) X hS (hN) rfl rfl g6 dX10_findSo_151 ?_
      refine lv_aload_n hx hb dX10_findSo_152 rfl (lv_at hl 0 rfl) ?_
      refine lv_iload_n hx hb dX10_findSo_153 rfl (lv_at hl 1 rfl) ?_
      refine lv_iload_n hx hb dX10_findSo_154 rfl (lv_at hl 2 rfl) ?_
      obtain ⟨r8, h7, hX⟩ := bn_of hX
      refine r_callV1 (v := .int (b2i r8)) (As := [.int v_1, .int v_2]) (rest := [.long (gB M 100 52 (ix v_1)), .int v_1, .ref (ad 100 (52 + 1))]) X hS (m_X10_isSo hN h7) mv_X10_isSo rfl (hN) t8_31 ⟨rfl, rfl, Nat.le_of_ble_eq_true rfl, Nat.le_of_ble_eq_true rfl⟩ rfl hl.1 rfl (Nat.le_of_ble_eq_true rfl) ⟨Nat.zero_le _, Nat.zero_le _⟩ dX10_findSo_155 (fun H locs hS => ?_)
      refine lv_if_eq (tgt := 174) hx hb dX10_findSo_158 (by decide) (fun c9 => ?_) (fun c9 => ?_)
      · have hX := if_bf c9 hX
        refine lv_lconst (v := lN 0) hx hb dX10_findSo_174 (by decide) ?_
        exact n_X10_findSo_175 X hN hX (fun z0 z1 r h ls H locs hl hS => ih z0 z1 r h hk_112 ls H locs hl hS) _ _ _ (lv_sub hl [0, 1, 2] rfl) hS
      · have hX := if_bt c9 hX
        refine lv_aload_n hx hb dX10_findSo_161 rfl (lv_at hl 0 rfl) ?_
        refine fg_X10_78 X hS (hN) dX10_findSo_162 ?_
        refine lv_iload_n hx hb dX10_findSo_165 rfl (lv_at hl 1 rfl) ?_
        refine lv_iconst (v := nI 1) hx hb dX10_findSo_166 (by decide) ?_
        refine lv_iload_n hx hb dX10_findSo_167 rfl (lv_at hl 2 rfl) ?_
        refine lv_ishl hx hb dX10_findSo_168 ?_
        refine lv_ior hx hb dX10_findSo_169 ?_
        obtain ⟨g10, hX⟩ := gin_of hX
        refine r_lald (ci := 10) (o := 100) (k := 52) (n := 512) X hS (hN) rfl rfl g10 dX10_findSo_170 ?_
        refine lv_goto (tgt := 175) hx hb dX10_findSo_171 (by decide) ?_
        exact n_X10_findSo_175 X hN hX (fun z0 z1 r h ls H locs hl hS => ih z0 z1 r h hk_112 ls H locs hl hS) _ _ _ (lv_sub hl [0, 1, 2] rfl) hS
set_option maxRecDepth 100000 in
set_option maxHeartbeats 4000000 in
theorem n_X10_findSo_93 {v_1 : Int32} (X : Cx p s m args meth c D cy ad A RX10 cX10_findSo 3 ((none : Option Jvm.ClassFile.FieldType))) (hN : Ob ns 10 100) {k_55 : Int32 → Mem → Option (Mem)} {v_2 : Int32} {s_1 : Int32} {s_2 : Int64} {s_3 : Int64} {M : Mem} {r : Mem} (hX : f_X10_findSo_93 v_1 k_55 v_2 s_1 s_2 s_3 M = some r) : (∀ (v_2 : Int32) (M : Mem) (r : Mem), k_55 v_2 M = some r → ∀ (ls : Array Slot) (H : Heap) (locs : List Loc), lv_has ls 3 [(0, .ref (ad 100 0)), (1, .int v_1), (2, .int v_2)] → St D cy ad ns A M s.heap H locs → W p l e rm_X10_findSo s m args below meth c H locs 0 0 (MQ below (QC D cy ad ns A r none) args s 0 0 A) (F0 m 55 ls [])) → ∀ (ls : Array Slot) (H : Heap) (locs : List Loc), lv_has ls 3 [(0, .ref (ad 100 0)), (1, .int v_1), (2, .int v_2)] → St D cy ad ns A M s.heap H locs → W p l e rm_X10_findSo s m args below meth c H locs 0 0 (MQ below (QC D cy ad ns A r none) args s 0 0 A) (F0 m 93 ls [.long s_3, .long s_2, .int s_1, .ref (ad 100 (51 + 1))]) := by
  obtain ⟨hx, hb, hml, hown, hts, hK, hr, hlk, hA, hG⟩ := id X
  intro hk_55 ls H locs hl hS
  unfold f_X10_findSo_93 at hX
  refine lv_ladd hx hb dX10_findSo_93 ?_
  obtain ⟨g11, hX⟩ := gin_of hX
  refine r_last (ci := 10) (o := 100) (k := 51) (n := 512) X hS (hN) rfl rfl g11 dX10_findSo_94 (fun H locs hS => ?_)
  obtain ⟨M12, eM12, hS, hX⟩ := nm_mem hS hX
  obtain ⟨v13, ev13⟩ : ∃ y : Int32, y = (v_2 + nI 1) := ⟨_, rfl⟩
  have hX := nm_of ev13 hX
  refine lv_iinc (v := v13) (lv' := [(2, .int v13), (0, .ref (ad 100 0)), (1, .int v_1)]) hx hb dX10_findSo_95 hl (k := 2) rfl (by rw [ev13]; rfl) (by decide) rfl (fun ls hl => ?_)
  refine lv_goto (tgt := 55) hx hb dX10_findSo_98 (by decide) ?_
  exact hk_55 _ _ _ hX _ _ _ (lv_sub hl [1, 2, 0] rfl) hS
set_option maxRecDepth 100000 in
set_option maxHeartbeats 4000000 in
theorem n_X10_findSo_134 (X : Cx p s m args meth c D cy ad A RX10 cX10_findSo 3 ((none : Option Jvm.ClassFile.FieldType))) (hN : Ob ns 10 100) {k_112 : Int32 → Mem → Option (Mem)} {v_1 : Int32} {s_1 : Int32} {s_2 : Int64} {M : Mem} {r : Mem} (hX : f_X10_findSo_134 k_112 v_1 s_1 s_2 M = some r) : (∀ (v_1 : Int32) (M : Mem) (r : Mem), k_112 v_1 M = some r → ∀ (ls : Array Slot) (H : Heap) (locs : List Loc), lv_has ls 3 [(0, .ref (ad 100 0)), (1, .int v_1)] → St D cy ad ns A M s.heap H locs → W p l e rm_X10_findSo s m args below meth c H locs 0 0 (MQ below (QC D cy ad ns A r none) args s 0 0 A) (F0 m 112 ls [])) → ∀ (ls : Array Slot) (H : Heap) (locs : List Loc), lv_has ls 3 [(0, .ref (ad 100 0)), (1, .int v_1)] → St D cy ad ns A M s.heap H locs → W p l e rm_X10_findSo s m args below meth c H locs 0 0 (MQ below (QC D cy ad ns A r none) args s 0 0 A) (F0 m 134 ls [.long s_2, .int s_1, .ref (ad 100 (52 + 1))]) := by
  obtain ⟨hx, hb, hml, hown, hts, hK, hr, hlk, hA, hG⟩ := id X
  intro hk_112 ls H locs hl hS
  unfold f_X10_findSo_134 at hX
  obtain ⟨g14, hX⟩ := gin_of hX
  refine r_last (ci := 10) (o := 100) (k := 52) (n := 512) X hS (hN) rfl rfl g14 dX10_findSo_134 (fun H locs hS => ?_)
  obtain ⟨M15, eM15, hS, hX⟩ := nm_mem hS hX
  refine lv_iconst (v := nI 0) hx hb dX10_findSo_135 (by decide) ?_
  refine lv_istore_n (lv' := [(2, .int (nI 0)), (0, .ref (ad 100 0)), (1, .int v_1)]) hx hb dX10_findSo_136 rfl hl (by decide) rfl (fun ls hl => ?_)
  exact n_X10_findSo_137 X hN _ _ _ _ hX hk_112 _ _ _ (lv_sub hl [1, 2, 0] rfl) hS
set_option maxRecDepth 100000 in
set_option maxHeartbeats 4000000 in
theorem n_X10_findSo_55 (X : Cx p s m args meth c D cy ad A RX10 cX10_findSo 3 ((none : Option Jvm.ClassFile.FieldType))) (hN : Ob ns 10 100) {k_45 : Int32 → Mem → Option (Mem)} {v_1 : Int32} : ∀ (n : Nat) (v_2 : Int32) (M : Mem) (r : Mem), f_X10_findSo_55 k_45 v_1 n (v_2, M) = some r → (∀ (v_1 : Int32) (M : Mem) (r : Mem), k_45 v_1 M = some r → ∀ (ls : Array Slot) (H : Heap) (locs : List Loc), lv_has ls 3 [(0, .ref (ad 100 0)), (1, .int v_1)] → St D cy ad ns A M s.heap H locs → W p l e rm_X10_findSo s m args below meth c H locs 0 0 (MQ below (QC D cy ad ns A r none) args s 0 0 A) (F0 m 45 ls [])) → ∀ (ls : Array Slot) (H : Heap) (locs : List Loc), lv_has ls 3 [(0, .ref (ad 100 0)), (1, .int v_1), (2, .int v_2)] → St D cy ad ns A M s.heap H locs → W p l e rm_X10_findSo s m args below meth c H locs 0 0 (MQ below (QC D cy ad ns A r none) args s 0 0 A) (F0 m 55 ls []) := by
  obtain ⟨hx, hb, hml, hown, hts, hK, hr, hlk, hA, hG⟩ := id X
  intro n
  induction n with
  | zero => intro v_2 M r hX; cases (show (none : Option (Mem)) = some r from hX)
  | succ n ih =>
    intro v_2 M r hX hk_45 ls H locs hl hS
    have hX : b_X10_findSo_55 k_45 v_1 (fun x0 x1 => f_X10_findSo_55 k_45 v_1 n (x0, x1)) v_2 M = some r := hX
    unfold b_X10_findSo_55 at hX
    refine lv_iload_n hx hb dX10_findSo_55 rfl (lv_at hl 2 rfl) ?_
    refine lv_aload_n hx hb dX10_findSo_56 rfl (lv_at hl 0 rfl) ?_
    refine fg_X10_281 X hS (hN) dX10_findSo_57 ?_
    refine lv_icmp_ge (tgt := 101) hx hb dX10_findSo_60 (by decide) (fun c16 => ?_) (fun c16 => ?_)
    · have hX := if_t c16 hX
      obtain ⟨v17, ev17⟩ : ∃ y : Int32, y = (v_1 + nI 1) := ⟨_, rfl⟩
      have hX := nm_of ev17 hX
      refine lv_iinc (v := v17) (lv' := [(1, .int v17), (0, .ref (ad 100 0)), (2, .int v_2)]) hx hb dX10_findSo_101 hl (k := 1) rfl (by rw [ev17]; rfl) (by decide) rfl (fun ls hl => ?_)
      refine lv_goto (tgt := 45) hx hb dX10_findSo_104 (by decide) ?_
      exact hk_45 _ _ _ hX _ _ _ (lv_sub hl [1, 0] rfl) hS
    · have hX := if_f c16 hX
      refine lv_aload_n hx hb dX10_findSo_63 rfl (lv_at hl 0 rfl) ?_
      refine fg_X10_75 X hS (hN) dX10_findSo_64 ?_
      refine lv_iload_n hx hb dX10_findSo_67 rfl (lv_at hl 1 rfl) ?_
      refine lv_iconst (v := nI 1) hx hb dX10_findSo_68 (by decide) ?_
      refine lv_iload_n hx hb dX10_findSo_69 rfl (lv_at hl 2 rfl) ?_
      refine lv_ishl hx hb dX10_findSo_70 ?_
      refine lv_ior hx hb dX10_findSo_71 ?_
      refine lv_dup2_11 hx hb dX10_findSo_72 rfl rfl ?_
      obtain ⟨g18, hX⟩ := gin_of hX
      refine r_lald (ci := 10) (o := 100) (k := 51) (n := 512) X hS (hN) rfl rfl g18 dX10_findSo_73 ?_
      refine lv_aload_n hx hb dX10_findSo_74 rfl (lv_at hl 0 rfl) ?_
      refine lv_iload_n hx hb dX10_findSo_75 rfl (lv_at hl 1 rfl) ?_
      refine lv_iload_n hx hb dX10_findSo_76 rfl (lv_at hl 2 rfl) ?_
      obtain ⟨r20, h19, hX⟩ := bn_of hX
      refine r_callV1 (v := .int (b2i r20)) (As := [.int v_1, .int v_2]) (rest := [.long (gB M 100 51 (ix (v_1 ||| ((nI 1) <<< (v_2 &&& 31))))), .int (v_1 ||| ((nI 1) <<< (v_2 &&& 31))), .ref (ad 100 (51 + 1))]) X hS (m_X10_isSo hN h19) mv_X10_isSo rfl (hN) t8_31 ⟨rfl, rfl, Nat.le_of_ble_eq_true rfl, Nat.le_of_ble_eq_true rfl⟩ rfl hl.1 rfl (Nat.le_of_ble_eq_true rfl) ⟨Nat.zero_le _, Nat.zero_le _⟩ dX10_findSo_77 (fun H locs hS => ?_)
      refine lv_if_eq (tgt := 92) hx hb dX10_findSo_80 (by decide) (fun c21 => ?_) (fun c21 => ?_)
      · have hX := if_bf c21 hX
        refine lv_lconst (v := lN 0) hx hb dX10_findSo_92 (by decide) ?_
        exact n_X10_findSo_93 X hN hX (fun z0 z1 r h ls H locs hl hS => ih z0 z1 r h hk_45 ls H locs hl hS) _ _ _ (lv_sub hl [0, 1, 2] rfl) hS
      · have hX := if_bt c21 hX
        refine lv_aload_n hx hb dX10_findSo_83 rfl (lv_at hl 0 rfl) ?_
        refine fg_X10_75 X hS (hN) dX10_findSo_84 ?_
        refine lv_iload_n hx hb dX10_findSo_87 rfl (lv_at hl 1 rfl) ?_
        obtain ⟨g22, hX⟩ := gin_of hX
        refine r_lald (ci := 10) (o := 100) (k := 51) (n := 512) X hS (hN) rfl rfl g22 dX10_findSo_88 ?_
        refine lv_goto (tgt := 93) hx hb dX10_findSo_89 (by decide) ?_
        exact n_X10_findSo_93 X hN hX (fun z0 z1 r h ls H locs hl hS => ih z0 z1 r h hk_45 ls H locs hl hS) _ _ _ (lv_sub hl [0, 1, 2] rfl) hS
set_option maxRecDepth 100000 in
set_option maxHeartbeats 4000000 in
theorem n_X10_findSo_112 (X : Cx p s m args meth c D cy ad A RX10 cX10_findSo 3 ((none : Option Jvm.ClassFile.FieldType))) (hN : Ob ns 10 100) : ∀ (n : Nat) (v_1 : Int32) (M : Mem) (r : Mem), f_X10_findSo_112 n (v_1, M) = some r → ∀ (ls : Array Slot) (H : Heap) (locs : List Loc), lv_has ls 3 [(0, .ref (ad 100 0)), (1, .int v_1)] → St D cy ad ns A M s.heap H locs → W p l e rm_X10_findSo s m args below meth c H locs 0 0 (MQ below (QC D cy ad ns A r none) args s 0 0 A) (F0 m 112 ls []) := by
  obtain ⟨hx, hb, hml, hown, hts, hK, hr, hlk, hA, hG⟩ := id X
  intro n
  induction n with
  | zero => intro v_1 M r hX; cases (show (none : Option (Mem)) = some r from hX)
  | succ n ih =>
    intro v_1 M r hX ls H locs hl hS
    have hX : b_X10_findSo_112 (fun x0 x1 => f_X10_findSo_112 n (x0, x1)) v_1 M = some r := hX
    unfold b_X10_findSo_112 at hX
    refine lv_iload_n hx hb dX10_findSo_112 rfl (lv_at hl 1 rfl) ?_
    refine lv_if_lt (tgt := 189) hx hb dX10_findSo_113 (by decide) (fun c23 => ?_) (fun c23 => ?_)
    · have hX := if_t c23 hX
      obtain rfl := some_of hX
      exact x_V X hS dX10_findSo_189
    · have hX := if_f c23 hX
      refine lv_aload_n hx hb dX10_findSo_116 rfl (lv_at hl 0 rfl) ?_
      refine fg_X10_78 X hS (hN) dX10_findSo_117 ?_
      refine lv_iload_n hx hb dX10_findSo_120 rfl (lv_at hl 1 rfl) ?_
      refine lv_iload_n hx hb dX10_findSo_121 rfl (lv_at hl 1 rfl) ?_
      refine lv_aload_n hx hb dX10_findSo_122 rfl (lv_at hl 0 rfl) ?_
      refine fg_X10_362 X hS (hN) dX10_findSo_123 ?_
      refine lv_icmp_ne (tgt := 133) hx hb dX10_findSo_126 (by decide) (fun c24 => ?_) (fun c24 => ?_)
      · have hX := if_f c24 hX
        refine lv_lconst (v := lN 0) hx hb dX10_findSo_133 (by decide) ?_
        exact n_X10_findSo_134 X hN hX (fun z0 z1 r h ls H locs hl hS => ih z0 z1 r h ls H locs hl hS) _ _ _ (lv_sub hl [0, 1] rfl) hS
      · have hX := if_t c24 hX
        refine lv_lconst (v := lN 1) hx hb dX10_findSo_129 (by decide) ?_
        refine lv_goto (tgt := 134) hx hb dX10_findSo_130 (by decide) ?_
        exact n_X10_findSo_134 X hN hX (fun z0 z1 r h ls H locs hl hS => ih z0 z1 r h ls H locs hl hS) _ _ _ (lv_sub hl [0, 1] rfl) hS
set_option maxRecDepth 100000 in
set_option maxHeartbeats 4000000 in
theorem n_X10_findSo_36 (X : Cx p s m args meth c D cy ad A RX10 cX10_findSo 3 ((none : Option Jvm.ClassFile.FieldType))) (hN : Ob ns 10 100) {k_14 : Int32 → Mem → Option (Mem)} {v_1 : Int32} {s_1 : Int32} {s_2 : Int64} {M : Mem} {r : Mem} (hX : f_X10_findSo_36 k_14 v_1 s_1 s_2 M = some r) : (∀ (v_1 : Int32) (M : Mem) (r : Mem), k_14 v_1 M = some r → ∀ (ls : Array Slot) (H : Heap) (locs : List Loc), lv_has ls 3 [(0, .ref (ad 100 0)), (1, .int v_1)] → St D cy ad ns A M s.heap H locs → W p l e rm_X10_findSo s m args below meth c H locs 0 0 (MQ below (QC D cy ad ns A r none) args s 0 0 A) (F0 m 14 ls [])) → ∀ (ls : Array Slot) (H : Heap) (locs : List Loc), lv_has ls 3 [(0, .ref (ad 100 0)), (1, .int v_1)] → St D cy ad ns A M s.heap H locs → W p l e rm_X10_findSo s m args below meth c H locs 0 0 (MQ below (QC D cy ad ns A r none) args s 0 0 A) (F0 m 36 ls [.long s_2, .int s_1, .ref (ad 100 (51 + 1))]) := by
  obtain ⟨hx, hb, hml, hown, hts, hK, hr, hlk, hA, hG⟩ := id X
  intro hk_14 ls H locs hl hS
  unfold f_X10_findSo_36 at hX
  obtain ⟨g25, hX⟩ := gin_of hX
  refine r_last (ci := 10) (o := 100) (k := 51) (n := 512) X hS (hN) rfl rfl g25 dX10_findSo_36 (fun H locs hS => ?_)
  obtain ⟨M26, eM26, hS, hX⟩ := nm_mem hS hX
  obtain ⟨v27, ev27⟩ : ∃ y : Int32, y = (v_1 + nI 1) := ⟨_, rfl⟩
  have hX := nm_of ev27 hX
  refine lv_iinc (v := v27) (lv' := [(1, .int v27), (0, .ref (ad 100 0))]) hx hb dX10_findSo_37 hl (k := 1) rfl (by rw [ev27]; rfl) (by decide) rfl (fun ls hl => ?_)
  refine lv_goto (tgt := 14) hx hb dX10_findSo_40 (by decide) ?_
  exact hk_14 _ _ _ hX _ _ _ (lv_sub hl [1, 0] rfl) hS
set_option maxRecDepth 100000 in
set_option maxHeartbeats 4000000 in
theorem n_X10_findSo_45 (X : Cx p s m args meth c D cy ad A RX10 cX10_findSo 3 ((none : Option Jvm.ClassFile.FieldType))) (hN : Ob ns 10 100) : ∀ (n : Nat) (v_1 : Int32) (M : Mem) (r : Mem), f_X10_findSo_45 n (v_1, M) = some r → ∀ (ls : Array Slot) (H : Heap) (locs : List Loc), lv_has ls 3 [(0, .ref (ad 100 0)), (1, .int v_1)] → St D cy ad ns A M s.heap H locs → W p l e rm_X10_findSo s m args below meth c H locs 0 0 (MQ below (QC D cy ad ns A r none) args s 0 0 A) (F0 m 45 ls []) := by
  obtain ⟨hx, hb, hml, hown, hts, hK, hr, hlk, hA, hG⟩ := id X
  intro n
  induction n with
  | zero => intro v_1 M r hX; cases (show (none : Option (Mem)) = some r from hX)
  | succ n ih =>
    intro v_1 M r hX ls H locs hl hS
    have hX : b_X10_findSo_45 (fun x0 x1 => f_X10_findSo_45 n (x0, x1)) v_1 M = some r := hX
    unfold b_X10_findSo_45 at hX
    refine lv_iload_n hx hb dX10_findSo_45 rfl (lv_at hl 1 rfl) ?_
    refine lv_aload_n hx hb dX10_findSo_46 rfl (lv_at hl 0 rfl) ?_
    refine fg_X10_362 X hS (hN) dX10_findSo_47 ?_
    refine lv_icmp_ge (tgt := 107) hx hb dX10_findSo_50 (by decide) (fun c28 => ?_) (fun c28 => ?_)
    · have hX := if_t c28 hX
      refine lv_aload_n hx hb dX10_findSo_107 rfl (lv_at hl 0 rfl) ?_
      refine fg_X10_362 X hS (hN) dX10_findSo_108 ?_
      refine lv_topi (fun v29 ev29 => ?_)
      have hX := nm_of ev29 hX
      refine lv_istore_n (lv' := [(1, .int v29), (0, .ref (ad 100 0))]) hx hb dX10_findSo_111 rfl hl (by decide) rfl (fun ls hl => ?_)
      exact n_X10_findSo_112 X hN _ _ _ _ hX _ _ _ (lv_sub hl [1, 0] rfl) hS
    · have hX := if_f c28 hX
      refine lv_iconst (v := nI 0) hx hb dX10_findSo_53 (by decide) ?_
      refine lv_istore_n (lv' := [(2, .int (nI 0)), (0, .ref (ad 100 0)), (1, .int v_1)]) hx hb dX10_findSo_54 rfl hl (by decide) rfl (fun ls hl => ?_)
      exact n_X10_findSo_55 X hN _ _ _ _ hX (fun z0 z1 r h ls H locs hl hS => ih z0 z1 r h ls H locs hl hS) _ _ _ (lv_sub hl [1, 2, 0] rfl) hS
set_option maxRecDepth 100000 in
set_option maxHeartbeats 4000000 in
theorem n_X10_findSo_14 (X : Cx p s m args meth c D cy ad A RX10 cX10_findSo 3 ((none : Option Jvm.ClassFile.FieldType))) (hN : Ob ns 10 100) : ∀ (n : Nat) (v_1 : Int32) (M : Mem) (r : Mem), f_X10_findSo_14 n (v_1, M) = some r → ∀ (ls : Array Slot) (H : Heap) (locs : List Loc), lv_has ls 3 [(0, .ref (ad 100 0)), (1, .int v_1)] → St D cy ad ns A M s.heap H locs → W p l e rm_X10_findSo s m args below meth c H locs 0 0 (MQ below (QC D cy ad ns A r none) args s 0 0 A) (F0 m 14 ls []) := by
  obtain ⟨hx, hb, hml, hown, hts, hK, hr, hlk, hA, hG⟩ := id X
  intro n
  induction n with
  | zero => intro v_1 M r hX; cases (show (none : Option (Mem)) = some r from hX)
  | succ n ih =>
    intro v_1 M r hX ls H locs hl hS
    have hX : b_X10_findSo_14 (fun x0 x1 => f_X10_findSo_14 n (x0, x1)) v_1 M = some r := hX
    unfold b_X10_findSo_14 at hX
    refine lv_iload_n hx hb dX10_findSo_14 rfl (lv_at hl 1 rfl) ?_
    refine lv_aload_n hx hb dX10_findSo_15 rfl (lv_at hl 0 rfl) ?_
    refine fg_X10_362 X hS (hN) dX10_findSo_16 ?_
    refine lv_icmp_gt (tgt := 43) hx hb dX10_findSo_19 (by decide) (fun c30 => ?_) (fun c30 => ?_)
    · have hX := if_t c30 hX
      refine lv_iconst (v := nI 0) hx hb dX10_findSo_43 (by decide) ?_
      refine lv_istore_n (lv' := [(1, .int (nI 0)), (0, .ref (ad 100 0))]) hx hb dX10_findSo_44 rfl hl (by decide) rfl (fun ls hl => ?_)
      exact n_X10_findSo_45 X hN _ _ _ _ hX _ _ _ (lv_sub hl [1, 0] rfl) hS
    · have hX := if_f c30 hX
      refine lv_aload_n hx hb dX10_findSo_22 rfl (lv_at hl 0 rfl) ?_
      refine fg_X10_75 X hS (hN) dX10_findSo_23 ?_
      refine lv_iload_n hx hb dX10_findSo_26 rfl (lv_at hl 1 rfl) ?_
      refine lv_iload_n hx hb dX10_findSo_27 rfl (lv_at hl 1 rfl) ?_
      refine lv_if_ne (tgt := 35) hx hb dX10_findSo_28 (by decide) (fun c31 => ?_) (fun c31 => ?_)
      · have hX := if_f c31 hX
        refine lv_lconst (v := lN 0) hx hb dX10_findSo_35 (by decide) ?_
        exact n_X10_findSo_36 X hN hX (fun z0 z1 r h ls H locs hl hS => ih z0 z1 r h ls H locs hl hS) _ _ _ (lv_sub hl [0, 1] rfl) hS
      · have hX := if_t c31 hX
        refine lv_lconst (v := lN 1) hx hb dX10_findSo_31 (by decide) ?_
        refine lv_goto (tgt := 36) hx hb dX10_findSo_32 (by decide) ?_
        exact n_X10_findSo_36 X hN hX (fun z0 z1 r h ls H locs hl hS => ih z0 z1 r h ls H locs hl hS) _ _ _ (lv_sub hl [0, 1] rfl) hS
set_option maxRecDepth 100000 in
set_option maxHeartbeats 4000000 in
theorem m_X10_findSo {l : Launch} {D : va_G} {cy : Nat → ClassId} {ad : Nat → Nat → Nat} {ns : List (Nat × Nat)} {A : Nat → Prop} {M : Mem} (hN : Ob ns 10 100) {r : Mem} (hX : f_X10_findSo M = some r) : Ct l yX10_findSo cX10_findSo 3 ((none : Option Jvm.ClassFile.FieldType)) rm_X10_findSo D cy ad ns A [.ref (ad 100 0)] M r none := by
  refine ct_of (lv := [(0, .ref (ad 100 0))]) (by decide) (Nat.le_of_ble_eq_true rfl) rfl ?_
  intro p e s m args below meth c ls X hl hS
  obtain ⟨hx, hb, hml, hown, hts, hK, hr, hlk, hA, hG⟩ := id X
  obtain ⟨H, hH⟩ : ∃ z, z = s.heap := ⟨_, rfl⟩
  obtain ⟨locs, hlo⟩ : ∃ z : List Loc, z = [] := ⟨_, rfl⟩
  have hS : St D cy ad ns A M s.heap H locs := by rw [hH, hlo]; exact hS
  have hgoal : W p l e rm_X10_findSo s m args below meth c H locs 0 0 (MQ below (QC D cy ad ns A r none) args s 0 0 A) (F0 m 0 ls []) := by
    unfold f_X10_findSo at hX
    refine lv_aload_n hx hb dX10_findSo_0 rfl (lv_at hl 0 rfl) ?_
    refine lv_iconst (v := nI 1) hx hb dX10_findSo_1 (by decide) ?_
    refine lv_aload_n hx hb dX10_findSo_2 rfl (lv_at hl 0 rfl) ?_
    refine fg_X10_281 X hS (hN) dX10_findSo_3 ?_
    refine lv_ishl hx hb dX10_findSo_6 ?_
    refine lv_iconst (v := nI 1) hx hb dX10_findSo_7 (by decide) ?_
    refine lv_isub hx hb dX10_findSo_8 ?_
    refine fp_X10_362 X hS (hN) dX10_findSo_9 (fun H locs hS => ?_)
    obtain ⟨M32, eM32, hS, hX⟩ := nm_mem hS hX
    refine lv_iconst (v := nI 0) hx hb dX10_findSo_12 (by decide) ?_
    refine lv_istore_n (lv' := [(1, .int (nI 0)), (0, .ref (ad 100 0))]) hx hb dX10_findSo_13 rfl hl (by decide) rfl (fun ls hl => ?_)
    exact n_X10_findSo_14 X hN _ _ _ _ hX _ _ _ (lv_sub hl [1, 0] rfl) hS
  rw [hH, hlo] at hgoal
  exact hgoal
theorem mv_X10_findSo : Mv yX10_findSo RX10 cX10_findSo 3 ((none : Option Jvm.ClassFile.FieldType)) 0 := ⟨t8_30, t8_29, ts_84, t1_11, ⟨by decide, by decide⟩, by decide +kernel⟩
/-! SewnYearModel.holds(II)J -/
def rm_X10_holds : Room := { frames := 3, cells := 0, slots := 0, locals := 69 }
def f_X10_holds_69 (M : Mem) (a1 : Int32) (a2 : Int32) (k_5 : Int64 → Int32 → Option (Int64)) (v_5 : Int32) (s_0 : Int64) (s_1 : Int64) : Option (Int64) :=
  nm (s_0 + s_1) fun v1 => nm (v_5 + nI 1) fun v2 => k_5 v1 v2
def f_X10_holds_37 (M : Mem) (a1 : Int32) (a2 : Int32) (k_38 : Int64 → Int32 → Bool → Option (Int64)) (v_3 : Int64) (v_5 : Int32) : Option (Int64) :=
  k_38 v_3 v_5 false
def f_X10_holds_38 (M : Mem) (a1 : Int32) (a2 : Int32) (k_5 : Int64 → Int32 → Option (Int64)) (v_3 : Int64) (v_5 : Int32) (s_0 : Bool) : Option (Int64) :=
  if s_0 = true then (gin v_5 512 <| gin (v_5 ||| ((nI 1) <<< (a1 &&& 31))) 512 <| f_X10_holds_69 M a1 a2 k_5 v_5 v_3 ((gB M 100 51 (ix v_5)) * (gB M 100 52 (ix (v_5 ||| ((nI 1) <<< (a1 &&& 31))))))) else (f_X10_holds_69 M a1 a2 k_5 v_5 v_3 (lN 0))
def b_X10_holds_5 (M : Mem) (a1 : Int32) (a2 : Int32) (rc : Int64 → Int32 → Option (Int64)) (v_3 : Int64) (v_5 : Int32) : Option (Int64) :=
  if (gI M 100 35) ≤ v_5 then (some v_3) else (bn (f_X10_ones v_5) fun r8 => if r8 = a2 then (bn (f_X10_isSo M v_5 a1) fun r11 => if r11 = true then (f_X10_holds_38 M a1 a2 rc v_3 v_5 true) else (f_X10_holds_37 M a1 a2 (fun x0 x1 x2 => f_X10_holds_38 M a1 a2 rc x0 x1 x2) v_3 v_5)) else (f_X10_holds_37 M a1 a2 (fun x0 x1 x2 => f_X10_holds_38 M a1 a2 rc x0 x1 x2) v_3 v_5))
def f_X10_holds_5 (M : Mem) (a1 : Int32) (a2 : Int32) : Nat → (Int64 × Int32) → Option (Int64) := lp (fun rc q => b_X10_holds_5 M a1 a2 (fun x0 x1 => rc (x0, x1)) q.1 q.2)
def f_X10_holds (M : Mem) (a1 : Int32) (a2 : Int32) : Option (Int64) :=
  nm (lN 0) fun v13 => f_X10_holds_5 M a1 a2 FU (v13, (nI 0))
set_option maxRecDepth 100000 in
set_option maxHeartbeats 4000000 in
theorem n_X10_holds_69 {a1 : Int32} {a2 : Int32} (X : Cx p s m args meth c D cy ad A RX10 cX10_holds 7 ((some .long))) (hN : Ob ns 10 100) {M : Mem} {k_5 : Int64 → Int32 → Option (Int64)} {v_5 : Int32} {s_0 : Int64} {s_1 : Int64} {r : Int64} (hX : f_X10_holds_69 M a1 a2 k_5 v_5 s_0 s_1 = some r) : (∀ (v_3 : Int64) (v_5 : Int32) (r : Int64), k_5 v_3 v_5 = some r → ∀ (ls : Array Slot) (H : Heap) (locs : List Loc), lv_has ls 7 [(0, .ref (ad 100 0)), (1, .int a1), (2, .int a2), (3, .long v_3), (5, .int v_5)] → St D cy ad ns A M s.heap H locs → W p l e rm_X10_holds s m args below meth c H locs 0 0 (MQ below (QC D cy ad ns A M (some (.long r))) args s 0 0 A) (F0 m 5 ls [])) → ∀ (ls : Array Slot) (H : Heap) (locs : List Loc), lv_has ls 7 [(0, .ref (ad 100 0)), (1, .int a1), (2, .int a2), (5, .int v_5)] → St D cy ad ns A M s.heap H locs → W p l e rm_X10_holds s m args below meth c H locs 0 0 (MQ below (QC D cy ad ns A M (some (.long r))) args s 0 0 A) (F0 m 69 ls [.long s_1, .long s_0]) := by
  obtain ⟨hx, hb, hml, hown, hts, hK, hr, hlk, hA, hG⟩ := id X
  intro hk_5 ls H locs hl hS
  unfold f_X10_holds_69 at hX
  refine lv_ladd hx hb dX10_holds_69 ?_
  refine lv_topl (fun v1 ev1 => ?_)
  have hX := nm_of ev1 hX
  refine lv_lstore_n (lv' := [(3, .long v1), (0, .ref (ad 100 0)), (1, .int a1), (2, .int a2), (5, .int v_5)]) hx hb dX10_holds_70 rfl hl (by decide) rfl (fun ls hl => ?_)
  obtain ⟨v2, ev2⟩ : ∃ y : Int32, y = (v_5 + nI 1) := ⟨_, rfl⟩
  have hX := nm_of ev2 hX
  refine lv_iinc (v := v2) (lv' := [(5, .int v2), (3, .long v1), (0, .ref (ad 100 0)), (1, .int a1), (2, .int a2)]) hx hb dX10_holds_71 hl (k := 4) rfl (by rw [ev2]; rfl) (by decide) rfl (fun ls hl => ?_)
  refine lv_goto (tgt := 5) hx hb dX10_holds_74 (by decide) ?_
  exact hk_5 _ _ _ hX _ _ _ (lv_sub hl [2, 3, 4, 1, 0] rfl) hS
set_option maxRecDepth 100000 in
set_option maxHeartbeats 4000000 in
theorem n_X10_holds_37 {a1 : Int32} {a2 : Int32} (X : Cx p s m args meth c D cy ad A RX10 cX10_holds 7 ((some .long))) (hN : Ob ns 10 100) {M : Mem} {k_38 : Int64 → Int32 → Bool → Option (Int64)} {v_3 : Int64} {v_5 : Int32} {r : Int64} (hX : f_X10_holds_37 M a1 a2 k_38 v_3 v_5 = some r) : (∀ (v_3 : Int64) (v_5 : Int32) (s_0 : Bool) (r : Int64), k_38 v_3 v_5 s_0 = some r → ∀ (ls : Array Slot) (H : Heap) (locs : List Loc), lv_has ls 7 [(0, .ref (ad 100 0)), (1, .int a1), (2, .int a2), (3, .long v_3), (5, .int v_5)] → St D cy ad ns A M s.heap H locs → W p l e rm_X10_holds s m args below meth c H locs 0 0 (MQ below (QC D cy ad ns A M (some (.long r))) args s 0 0 A) (F0 m 38 ls [.int (b2i s_0)])) → ∀ (ls : Array Slot) (H : Heap) (locs : List Loc), lv_has ls 7 [(0, .ref (ad 100 0)), (1, .int a1), (2, .int a2), (3, .long v_3), (5, .int v_5)] → St D cy ad ns A M s.heap H locs → W p l e rm_X10_holds s m args below meth c H locs 0 0 (MQ below (QC D cy ad ns A M (some (.long r))) args s 0 0 A) (F0 m 37 ls []) := by
  obtain ⟨hx, hb, hml, hown, hts, hK, hr, hlk, hA, hG⟩ := id X
  intro hk_38 ls H locs hl hS
  unfold f_X10_holds_37 at hX
  refine lv_iconst (v := nI 0) hx hb dX10_holds_37 (by decide) ?_
  exact hk_38 _ _ _ _ hX _ _ _ (lv_sub hl [0, 1, 2, 3, 4] rfl) hS
set_option maxRecDepth 100000 in
set_option maxHeartbeats 4000000 in
theorem n_X10_holds_38 {a1 : Int32} {a2 : Int32} (X : Cx p s m args meth c D cy ad A RX10 cX10_holds 7 ((some .long))) (hN : Ob ns 10 100) {M : Mem} {k_5 : Int64 → Int32 → Option (Int64)} {v_3 : Int64} {v_5 : Int32} {s_0 : Bool} {r : Int64} (hX : f_X10_holds_38 M a1 a2 k_5 v_3 v_5 s_0 = some r) : (∀ (v_3 : Int64) (v_5 : Int32) (r : Int64), k_5 v_3 v_5 = some r → ∀ (ls : Array Slot) (H : Heap) (locs : List Loc), lv_has ls 7 [(0, .ref (ad 100 0)), (1, .int a1), (2, .int a2), (3, .long v_3), (5, .int v_5)] → St D cy ad ns A M s.heap H locs → W p l e rm_X10_holds s m args below meth c H locs 0 0 (MQ below (QC D cy ad ns A M (some (.long r))) args s 0 0 A) (F0 m 5 ls [])) → ∀ (ls : Array Slot) (H : Heap) (locs : List Loc), lv_has ls 7 [(0, .ref (ad 100 0)), (1, .int a1), (2, .int a2), (3, .long v_3), (5, .int v_5)] → St D cy ad ns A M s.heap H locs → W p l e rm_X10_holds s m args below meth c H locs 0 0 (MQ below (QC D cy ad ns A M (some (.long r))) args s 0 0 A) (F0 m 38 ls [.int (b2i s_0)]) := by
  obtain ⟨hx, hb, hml, hown, hts, hK, hr, hlk, hA, hG⟩ := id X
  intro hk_5 ls H locs hl hS
  unfold f_X10_holds_38 at hX
  refine lv_istore (lv' := [(6, .int (b2i s_0)), (0, .ref (ad 100 0)), (1, .int a1), (2, .int a2), (3, .long v_3), (5, .int v_5)]) hx hb dX10_holds_38 hl (by decide) rfl (fun ls hl => ?_)
  refine lv_lload_n hx hb dX10_holds_40 rfl (lv_at hl 4 rfl) ?_
  refine lv_iload hx hb dX10_holds_41 (lv_at hl 0 rfl) ?_
  refine lv_if_eq (tgt := 68) hx hb dX10_holds_43 (by decide) (fun c3 => ?_) (fun c3 => ?_)
  · have hX := if_bf c3 hX
    refine lv_lconst (v := lN 0) hx hb dX10_holds_68 (by decide) ?_
    exact n_X10_holds_69 X hN hX hk_5 _ _ _ (lv_sub hl [1, 2, 3, 5] rfl) hS
  · have hX := if_bt c3 hX
    refine lv_aload_n hx hb dX10_holds_46 rfl (lv_at hl 1 rfl) ?_
    refine fg_X10_75 X hS (hN) dX10_holds_47 ?_
    refine lv_iload hx hb dX10_holds_50 (lv_at hl 5 rfl) ?_
    obtain ⟨g4, hX⟩ := gin_of hX
    refine r_lald (ci := 10) (o := 100) (k := 51) (n := 512) X hS (hN) rfl rfl g4 dX10_holds_52 ?_
    refine lv_aload_n hx hb dX10_holds_53 rfl (lv_at hl 1 rfl) ?_
    refine fg_X10_78 X hS (hN) dX10_holds_54 ?_
    refine lv_iload hx hb dX10_holds_57 (lv_at hl 5 rfl) ?_
    refine lv_iconst (v := nI 1) hx hb dX10_holds_59 (by decide) ?_
    refine lv_iload_n hx hb dX10_holds_60 rfl (lv_at hl 2 rfl) ?_
    refine lv_ishl hx hb dX10_holds_61 ?_
    refine lv_ior hx hb dX10_holds_62 ?_
    obtain ⟨g5, hX⟩ := gin_of hX
    refine r_lald (ci := 10) (o := 100) (k := 52) (n := 512) X hS (hN) rfl rfl g5 dX10_holds_63 ?_
    refine lv_lmul hx hb dX10_holds_64 ?_
    refine lv_goto (tgt := 69) hx hb dX10_holds_65 (by decide) ?_
    exact n_X10_holds_69 X hN hX hk_5 _ _ _ (lv_sub hl [1, 2, 3, 5] rfl) hS
set_option maxRecDepth 100000 in
set_option maxHeartbeats 4000000 in
theorem n_X10_holds_5 {a1 : Int32} {a2 : Int32} (X : Cx p s m args meth c D cy ad A RX10 cX10_holds 7 ((some .long))) (hN : Ob ns 10 100) {M : Mem} : ∀ (n : Nat) (v_3 : Int64) (v_5 : Int32) (r : Int64), f_X10_holds_5 M a1 a2 n (v_3, v_5) = some r → ∀ (ls : Array Slot) (H : Heap) (locs : List Loc), lv_has ls 7 [(0, .ref (ad 100 0)), (1, .int a1), (2, .int a2), (3, .long v_3), (5, .int v_5)] → St D cy ad ns A M s.heap H locs → W p l e rm_X10_holds s m args below meth c H locs 0 0 (MQ below (QC D cy ad ns A M (some (.long r))) args s 0 0 A) (F0 m 5 ls []) := by
  obtain ⟨hx, hb, hml, hown, hts, hK, hr, hlk, hA, hG⟩ := id X
  intro n
  induction n with
  | zero => intro v_3 v_5 r hX; cases (show (none : Option (Int64)) = some r from hX)
  | succ n ih =>
    intro v_3 v_5 r hX ls H locs hl hS
    have hX : b_X10_holds_5 M a1 a2 (fun x0 x1 => f_X10_holds_5 M a1 a2 n (x0, x1)) v_3 v_5 = some r := hX
    unfold b_X10_holds_5 at hX
    refine lv_iload hx hb dX10_holds_5 (lv_at hl 4 rfl) ?_
    refine lv_aload_n hx hb dX10_holds_7 rfl (lv_at hl 0 rfl) ?_
    refine fg_X10_362 X hS (hN) dX10_holds_8 ?_
    refine lv_icmp_ge (tgt := 77) hx hb dX10_holds_11 (by decide) (fun c6 => ?_) (fun c6 => ?_)
    · have hX := if_t c6 hX
      refine lv_lload_n hx hb dX10_holds_77 rfl (lv_at hl 3 rfl) ?_
      obtain rfl := some_of hX
      exact x_L (v := v_3) X hS dX10_holds_78
    · have hX := if_f c6 hX
      refine lv_iload hx hb dX10_holds_14 (lv_at hl 4 rfl) ?_
      obtain ⟨r8, h7, hX⟩ := bn_of hX
      refine r_callS1 (v := .int r8) (As := [.int v_5]) (rest := []) X hS (m_X10_ones (M := M) hN h7) ms_X10_ones t7_95 ⟨rfl, rfl, Nat.le_of_ble_eq_true rfl, Nat.le_of_ble_eq_true rfl⟩ rfl hl.1 rfl (Nat.le_of_ble_eq_true rfl) ⟨Nat.zero_le _, Nat.zero_le _⟩ dX10_holds_16 (fun H locs hS => ?_)
      refine lv_iload_n hx hb dX10_holds_19 rfl (lv_at hl 2 rfl) ?_
      refine lv_icmp_ne (tgt := 37) hx hb dX10_holds_20 (by decide) (fun c9 => ?_) (fun c9 => ?_)
      · have hX := if_f c9 hX
        exact n_X10_holds_37 X hN hX (fun z0 z1 z2 r h ls H locs hl hS => n_X10_holds_38 X hN h (fun z0 z1 r h ls H locs hl hS => ih z0 z1 r h ls H locs hl hS) _ _ _ hl hS) _ _ _ (lv_sub hl [0, 1, 2, 3, 4] rfl) hS
      · have hX := if_t c9 hX
        refine lv_aload_n hx hb dX10_holds_23 rfl (lv_at hl 0 rfl) ?_
        refine lv_iload hx hb dX10_holds_24 (lv_at hl 4 rfl) ?_
        refine lv_iload_n hx hb dX10_holds_26 rfl (lv_at hl 1 rfl) ?_
        obtain ⟨r11, h10, hX⟩ := bn_of hX
        refine r_callV1 (v := .int (b2i r11)) (As := [.int v_5, .int a1]) (rest := []) X hS (m_X10_isSo hN h10) mv_X10_isSo rfl (hN) t8_31 ⟨rfl, rfl, Nat.le_of_ble_eq_true rfl, Nat.le_of_ble_eq_true rfl⟩ rfl hl.1 rfl (Nat.le_of_ble_eq_true rfl) ⟨Nat.zero_le _, Nat.zero_le _⟩ dX10_holds_27 (fun H locs hS => ?_)
        refine lv_if_eq (tgt := 37) hx hb dX10_holds_30 (by decide) (fun c12 => ?_) (fun c12 => ?_)
        · have hX := if_bf c12 hX
          exact n_X10_holds_37 X hN hX (fun z0 z1 z2 r h ls H locs hl hS => n_X10_holds_38 X hN h (fun z0 z1 r h ls H locs hl hS => ih z0 z1 r h ls H locs hl hS) _ _ _ hl hS) _ _ _ (lv_sub hl [0, 1, 2, 3, 4] rfl) hS
        · have hX := if_bt c12 hX
          refine lv_iconst (v := nI 1) hx hb dX10_holds_33 (by decide) ?_
          refine lv_goto (tgt := 38) hx hb dX10_holds_34 (by decide) ?_
          exact n_X10_holds_38 X hN hX (fun z0 z1 r h ls H locs hl hS => ih z0 z1 r h ls H locs hl hS) _ _ _ (lv_sub hl [0, 1, 2, 3, 4] rfl) hS
set_option maxRecDepth 100000 in
set_option maxHeartbeats 4000000 in
theorem m_X10_holds {l : Launch} {D : va_G} {cy : Nat → ClassId} {ad : Nat → Nat → Nat} {ns : List (Nat × Nat)} {A : Nat → Prop} {M : Mem} (hN : Ob ns 10 100) {a1 : Int32} {a2 : Int32} {r : Int64} (hX : f_X10_holds M a1 a2 = some r) : Ct l yX10_holds cX10_holds 7 ((some .long)) rm_X10_holds D cy ad ns A [.ref (ad 100 0), .int a1, .int a2] M M (some (.long r)) := by
  refine ct_of (lv := [(0, .ref (ad 100 0)), (1, .int a1), (2, .int a2)]) (by decide) (Nat.le_of_ble_eq_true rfl) rfl ?_
  intro p e s m args below meth c ls X hl hS
  obtain ⟨hx, hb, hml, hown, hts, hK, hr, hlk, hA, hG⟩ := id X
  obtain ⟨H, hH⟩ : ∃ z, z = s.heap := ⟨_, rfl⟩
  obtain ⟨locs, hlo⟩ : ∃ z : List Loc, z = [] := ⟨_, rfl⟩
  have hS : St D cy ad ns A M s.heap H locs := by rw [hH, hlo]; exact hS
  have hgoal : W p l e rm_X10_holds s m args below meth c H locs 0 0 (MQ below (QC D cy ad ns A M (some (.long r))) args s 0 0 A) (F0 m 0 ls []) := by
    unfold f_X10_holds at hX
    refine lv_lconst (v := lN 0) hx hb dX10_holds_0 (by decide) ?_
    refine lv_topl (fun v13 ev13 => ?_)
    have hX := nm_of ev13 hX
    refine lv_lstore_n (lv' := [(3, .long v13), (0, .ref (ad 100 0)), (1, .int a1), (2, .int a2)]) hx hb dX10_holds_1 rfl hl (by decide) rfl (fun ls hl => ?_)
    refine lv_iconst (v := nI 0) hx hb dX10_holds_2 (by decide) ?_
    refine lv_istore (lv' := [(5, .int (nI 0)), (3, .long v13), (0, .ref (ad 100 0)), (1, .int a1), (2, .int a2)]) hx hb dX10_holds_3 hl (by decide) rfl (fun ls hl => ?_)
    exact n_X10_holds_5 X hN _ _ _ _ hX _ _ _ (lv_sub hl [2, 3, 4, 1, 0] rfl) hS
  rw [hH, hlo] at hgoal
  exact hgoal
theorem mv_X10_holds : Mv yX10_holds RX10 cX10_holds 7 ((some .long)) 2 := ⟨t8_38, t8_37, ts_86, t1_11, ⟨by decide, by decide⟩, by decide +kernel⟩
/-! SewnYearModel.fits(IIII)J -/
def rm_X10_fits : Room := { frames := 4, cells := 0, slots := 0, locals := 95 }
def f_X10_fits_46 (a1 : Int32) (a2 : Int32) (a3 : Int32) (a4 : Int32) (M : Mem) : Option (Int64 × Mem) :=
  bn (f_X10_findSo M) fun M2 => if a3 = (-1) then (gin (nI 0) 512 <| some ((gB M2 100 52 (ix (nI 0))), M2)) else (bn (f_X10_holds M2 a3 a4) fun r5 => some (r5, M2))
def f_X10_fits (M : Mem) (a1 : Int32) (a2 : Int32) (a3 : Int32) (a4 : Int32) : Option (Int64 × Mem) :=
  nm (sI M 100 0 (nI 0)) fun M7 => bp (f_X10_laySight M7 a1 a2) fun r10 M9 => if r10 = true then (if a3 = (-1) then (f_X10_fits_46 a1 a2 a3 a4 M9) else (bn (f_X10_isSeam M9 a3) fun r14 => if r14 = true then (bn (f_X10_in a4 (nI 0) ((gI M9 100 24) - (nI 1))) fun r17 => if r17 = true then (f_X10_fits_46 a1 a2 a3 a4 M9) else (some ((-1 : Int64), M9))) else (some ((-1 : Int64), M9)))) else (some ((-1 : Int64), M9))
set_option maxRecDepth 100000 in
set_option maxHeartbeats 4000000 in
theorem n_X10_fits_46 {a1 : Int32} {a2 : Int32} {a3 : Int32} {a4 : Int32} (X : Cx p s m args meth c D cy ad A RX10 cX10_fits 5 ((some .long))) (hN : Ob ns 10 100) {M : Mem} {r : Int64 × Mem} (hX : f_X10_fits_46 a1 a2 a3 a4 M = some r) : ∀ (ls : Array Slot) (H : Heap) (locs : List Loc), lv_has ls 5 [(0, .ref (ad 100 0)), (3, .int a3), (4, .int a4)] → St D cy ad ns A M s.heap H locs → W p l e rm_X10_fits s m args below meth c H locs 0 0 (MQ below (QC D cy ad ns A r.2 (some (.long r.1))) args s 0 0 A) (F0 m 46 ls []) := by
  obtain ⟨hx, hb, hml, hown, hts, hK, hr, hlk, hA, hG⟩ := id X
  intro ls H locs hl hS
  unfold f_X10_fits_46 at hX
  refine lv_aload_n hx hb dX10_fits_46 rfl (lv_at hl 0 rfl) ?_
  obtain ⟨M2, h1, hX⟩ := bn_of hX
  refine r_callV0 (As := []) (rest := []) X hS (m_X10_findSo hN h1) mv_X10_findSo rfl (hN) t8_27 ⟨rfl, rfl, Nat.le_of_ble_eq_true rfl, Nat.le_of_ble_eq_true rfl⟩ rfl hl.1 rfl (Nat.le_of_ble_eq_true rfl) ⟨Nat.zero_le _, Nat.zero_le _⟩ dX10_fits_47 (fun H locs hS => ?_)
  refine lv_iload_n hx hb dX10_fits_50 rfl (lv_at hl 1 rfl) ?_
  refine lv_iconst (v := (-1)) hx hb dX10_fits_51 (by decide) ?_
  refine lv_icmp_ne (tgt := 64) hx hb dX10_fits_52 (by decide) (fun c3 => ?_) (fun c3 => ?_)
  · have hX := if_f c3 hX
    refine lv_aload_n hx hb dX10_fits_64 rfl (lv_at hl 0 rfl) ?_
    refine lv_iload_n hx hb dX10_fits_65 rfl (lv_at hl 1 rfl) ?_
    refine lv_iload hx hb dX10_fits_66 (lv_at hl 2 rfl) ?_
    obtain ⟨r5, h4, hX⟩ := bn_of hX
    refine r_callV1 (v := .long r5) (As := [.int a3, .int a4]) (rest := []) X hS (m_X10_holds hN h4) mv_X10_holds rfl (hN) t8_35 ⟨rfl, rfl, Nat.le_of_ble_eq_true rfl, Nat.le_of_ble_eq_true rfl⟩ rfl hl.1 rfl (Nat.le_of_ble_eq_true rfl) ⟨Nat.zero_le _, Nat.zero_le _⟩ dX10_fits_68 (fun H locs hS => ?_)
    obtain rfl := some_of hX
    exact x_L (v := r5) X hS dX10_fits_71
  · have hX := if_t c3 hX
    refine lv_aload_n hx hb dX10_fits_55 rfl (lv_at hl 0 rfl) ?_
    refine fg_X10_78 X hS (hN) dX10_fits_56 ?_
    refine lv_iconst (v := nI 0) hx hb dX10_fits_59 (by decide) ?_
    obtain ⟨g6, hX⟩ := gin_of hX
    refine r_lald (ci := 10) (o := 100) (k := 52) (n := 512) X hS (hN) rfl rfl g6 dX10_fits_60 ?_
    refine lv_goto (tgt := 71) hx hb dX10_fits_61 (by decide) ?_
    obtain rfl := some_of hX
    exact x_L (v := (gB M2 100 52 (ix (nI 0)))) X hS dX10_fits_71
set_option maxRecDepth 100000 in
set_option maxHeartbeats 4000000 in
theorem m_X10_fits {l : Launch} {D : va_G} {cy : Nat → ClassId} {ad : Nat → Nat → Nat} {ns : List (Nat × Nat)} {A : Nat → Prop} {M : Mem} (hN : Ob ns 10 100) {a1 : Int32} {a2 : Int32} {a3 : Int32} {a4 : Int32} {r : Int64 × Mem} (hX : f_X10_fits M a1 a2 a3 a4 = some r) : Ct l yX10_fits cX10_fits 5 ((some .long)) rm_X10_fits D cy ad ns A [.ref (ad 100 0), .int a1, .int a2, .int a3, .int a4] M r.2 (some (.long r.1)) := by
  refine ct_of (lv := [(0, .ref (ad 100 0)), (1, .int a1), (2, .int a2), (3, .int a3), (4, .int a4)]) (by decide) (Nat.le_of_ble_eq_true rfl) rfl ?_
  intro p e s m args below meth c ls X hl hS
  obtain ⟨hx, hb, hml, hown, hts, hK, hr, hlk, hA, hG⟩ := id X
  obtain ⟨H, hH⟩ : ∃ z, z = s.heap := ⟨_, rfl⟩
  obtain ⟨locs, hlo⟩ : ∃ z : List Loc, z = [] := ⟨_, rfl⟩
  have hS : St D cy ad ns A M s.heap H locs := by rw [hH, hlo]; exact hS
  have hgoal : W p l e rm_X10_fits s m args below meth c H locs 0 0 (MQ below (QC D cy ad ns A r.2 (some (.long r.1))) args s 0 0 A) (F0 m 0 ls []) := by
    unfold f_X10_fits at hX
    refine lv_aload_n hx hb dX10_fits_0 rfl (lv_at hl 0 rfl) ?_
    refine lv_iconst (v := nI 0) hx hb dX10_fits_1 (by decide) ?_
    refine fp_X10_94 X hS (hN) dX10_fits_2 (fun H locs hS => ?_)
    obtain ⟨M7, eM7, hS, hX⟩ := nm_mem hS hX
    refine lv_aload_n hx hb dX10_fits_5 rfl (lv_at hl 0 rfl) ?_
    refine lv_iload_n hx hb dX10_fits_6 rfl (lv_at hl 1 rfl) ?_
    refine lv_iload_n hx hb dX10_fits_7 rfl (lv_at hl 2 rfl) ?_
    obtain ⟨r10, M9, h8, hX⟩ := bp_of hX
    refine r_callV1 (v := .int (b2i r10)) (As := [.int a1, .int a2]) (rest := []) X hS (m_X10_laySight hN h8) mv_X10_laySight rfl (hN) t8_23 ⟨rfl, rfl, Nat.le_of_ble_eq_true rfl, Nat.le_of_ble_eq_true rfl⟩ rfl hl.1 rfl (Nat.le_of_ble_eq_true rfl) ⟨Nat.zero_le _, Nat.zero_le _⟩ dX10_fits_8 (fun H locs hS => ?_)
    refine lv_if_eq (tgt := 42) hx hb dX10_fits_11 (by decide) (fun c11 => ?_) (fun c11 => ?_)
    · have hX := if_bf c11 hX
      refine lv_ldc2 hx hb (own := RX10) hown (hts _ t7_74) dX10_fits_42 ?_
      obtain rfl := some_of hX
      exact x_L (v := (-1 : Int64)) X hS dX10_fits_45
    · have hX := if_bt c11 hX
      refine lv_iload_n hx hb dX10_fits_14 rfl (lv_at hl 3 rfl) ?_
      refine lv_iconst (v := (-1)) hx hb dX10_fits_15 (by decide) ?_
      refine lv_icmp_eq (tgt := 46) hx hb dX10_fits_16 (by decide) (fun c12 => ?_) (fun c12 => ?_)
      · have hX := if_t c12 hX
        exact n_X10_fits_46 X hN hX _ _ _ (lv_sub hl [0, 3, 4] rfl) hS
      · have hX := if_f c12 hX
        refine lv_aload_n hx hb dX10_fits_19 rfl (lv_at hl 0 rfl) ?_
        refine lv_iload_n hx hb dX10_fits_20 rfl (lv_at hl 3 rfl) ?_
        obtain ⟨r14, h13, hX⟩ := bn_of hX
        refine r_callV1 (v := .int (b2i r14)) (As := [.int a3]) (rest := []) X hS (m_X10_isSeam hN h13) mv_X10_isSeam rfl (hN) t6_224 ⟨rfl, rfl, Nat.le_of_ble_eq_true rfl, Nat.le_of_ble_eq_true rfl⟩ rfl hl.1 rfl (Nat.le_of_ble_eq_true rfl) ⟨Nat.zero_le _, Nat.zero_le _⟩ dX10_fits_21 (fun H locs hS => ?_)
        refine lv_if_eq (tgt := 42) hx hb dX10_fits_24 (by decide) (fun c15 => ?_) (fun c15 => ?_)
        · have hX := if_bf c15 hX
          refine lv_ldc2 hx hb (own := RX10) hown (hts _ t7_74) dX10_fits_42 ?_
          obtain rfl := some_of hX
          exact x_L (v := (-1 : Int64)) X hS dX10_fits_45
        · have hX := if_bt c15 hX
          refine lv_iload hx hb dX10_fits_27 (lv_at hl 4 rfl) ?_
          refine lv_iconst (v := nI 0) hx hb dX10_fits_29 (by decide) ?_
          refine lv_aload_n hx hb dX10_fits_30 rfl (lv_at hl 0 rfl) ?_
          refine fg_X10_281 X hS (hN) dX10_fits_31 ?_
          refine lv_iconst (v := nI 1) hx hb dX10_fits_34 (by decide) ?_
          refine lv_isub hx hb dX10_fits_35 ?_
          obtain ⟨r17, h16, hX⟩ := bn_of hX
          refine r_callS1 (v := .int (b2i r17)) (As := [.int a4, .int (nI 0), .int ((gI M9 100 24) - (nI 1))]) (rest := []) X hS (m_X10_in (M := M9) hN h16) ms_X10_in t6_81 ⟨rfl, rfl, Nat.le_of_ble_eq_true rfl, Nat.le_of_ble_eq_true rfl⟩ rfl hl.1 rfl (Nat.le_of_ble_eq_true rfl) ⟨Nat.zero_le _, Nat.zero_le _⟩ dX10_fits_36 (fun H locs hS => ?_)
          refine lv_if_ne (tgt := 46) hx hb dX10_fits_39 (by decide) (fun c18 => ?_) (fun c18 => ?_)
          · have hX := if_bt c18 hX
            exact n_X10_fits_46 X hN hX _ _ _ (lv_sub hl [0, 3, 4] rfl) hS
          · have hX := if_bf c18 hX
            refine lv_ldc2 hx hb (own := RX10) hown (hts _ t7_74) dX10_fits_42 ?_
            obtain rfl := some_of hX
            exact x_L (v := (-1 : Int64)) X hS dX10_fits_45
  rw [hH, hlo] at hgoal
  exact hgoal
theorem mv_X10_fits : Mv yX10_fits RX10 cX10_fits 5 ((some .long)) 4 := ⟨t8_22, t8_20, t8_21, t1_11, ⟨by decide, by decide⟩, by decide +kernel⟩
end MT_30_M2
