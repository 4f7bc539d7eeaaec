section FR_30_M1
variable {p : Program} {l : Launch} {e : Env} {R : Room} {s : State} {m : MethodId} {args : Array Value} {below : List Frame} {meth : Method} {c : Code} {H : Heap} {locs : List Loc} {cells slots : Nat} {Q : State → Prop} {D : va_G} {cy : Nat → ClassId} {ad : Nat → Nat → Nat} {ns : List (Nat × Nat)} {A : Nat → Prop} {M M' : Mem} {cc : ByteArray} {nL : Nat} {ret : Option FieldType} {pc : Nat} {ls : Array Slot} {rest : List Value}
theorem fg_X10_44 (X : Cx p s m args meth c D cy ad A RX10 cc nL ret) (hS : St D cy ad ns A M s.heap H locs) (ho : Ob ns 10 100) (hdg : decode cc pc = .ok (.getfield 44, 3)) (kk : W p l e R s m args below meth c H locs cells slots Q (F0 m (pc + 3) ls (.ref (ad 100 (27 + 1)) :: rest))) : W p l e R s m args below meth c H locs cells slots Q (F0 m pc ls (.ref (ad 100 0) :: rest)) := r_get X hS (C := RX10) (T := TX10) (N := 58) (k := 27) tf10 rfl rfl ho (by decide) t5_159 ⟨rfl, rfl, rfl⟩ rfl hdg kk
theorem fg_X10_47 (X : Cx p s m args meth c D cy ad A RX10 cc nL ret) (hS : St D cy ad ns A M s.heap H locs) (ho : Ob ns 10 100) (hdg : decode cc pc = .ok (.getfield 47, 3)) (kk : W p l e R s m args below meth c H locs cells slots Q (F0 m (pc + 3) ls (.ref (ad 100 (28 + 1)) :: rest))) : W p l e R s m args below meth c H locs cells slots Q (F0 m pc ls (.ref (ad 100 0) :: rest)) := r_get X hS (C := RX10) (T := TX10) (N := 58) (k := 28) tf10 rfl rfl ho (by decide) t5_160 ⟨rfl, rfl, rfl⟩ rfl hdg kk
theorem fg_X10_50 (X : Cx p s m args meth c D cy ad A RX10 cc nL ret) (hS : St D cy ad ns A M s.heap H locs) (ho : Ob ns 10 100) (hdg : decode cc pc = .ok (.getfield 50, 3)) (kk : W p l e R s m args below meth c H locs cells slots Q (F0 m (pc + 3) ls (.ref (ad 100 (34 + 1)) :: rest))) : W p l e R s m args below meth c H locs cells slots Q (F0 m pc ls (.ref (ad 100 0) :: rest)) := r_get X hS (C := RX10) (T := TX10) (N := 58) (k := 34) tf10 rfl rfl ho (by decide) t5_166 ⟨rfl, rfl, rfl⟩ rfl hdg kk
theorem fg_X10_54 (X : Cx p s m args meth c D cy ad A RX10 cc nL ret) (hS : St D cy ad ns A M s.heap H locs) (ho : Ob ns 10 100) (hdg : decode cc pc = .ok (.getfield 54, 3)) (kk : W p l e R s m args below meth c H locs cells slots Q (F0 m (pc + 3) ls (.ref (ad 100 (36 + 1)) :: rest))) : W p l e R s m args below meth c H locs cells slots Q (F0 m pc ls (.ref (ad 100 0) :: rest)) := r_get X hS (C := RX10) (T := TX10) (N := 58) (k := 36) tf10 rfl rfl ho (by decide) t5_168 ⟨rfl, rfl, rfl⟩ rfl hdg kk
theorem fg_X10_57 (X : Cx p s m args meth c D cy ad A RX10 cc nL ret) (hS : St D cy ad ns A M s.heap H locs) (ho : Ob ns 10 100) (hdg : decode cc pc = .ok (.getfield 57, 3)) (kk : W p l e R s m args below meth c H locs cells slots Q (F0 m (pc + 3) ls (.ref (ad 100 (37 + 1)) :: rest))) : W p l e R s m args below meth c H locs cells slots Q (F0 m pc ls (.ref (ad 100 0) :: rest)) := r_get X hS (C := RX10) (T := TX10) (N := 58) (k := 37) tf10 rfl rfl ho (by decide) t5_169 ⟨rfl, rfl, rfl⟩ rfl hdg kk
theorem fg_X10_60 (X : Cx p s m args meth c D cy ad A RX10 cc nL ret) (hS : St D cy ad ns A M s.heap H locs) (ho : Ob ns 10 100) (hdg : decode cc pc = .ok (.getfield 60, 3)) (kk : W p l e R s m args below meth c H locs cells slots Q (F0 m (pc + 3) ls (.ref (ad 100 (38 + 1)) :: rest))) : W p l e R s m args below meth c H locs cells slots Q (F0 m pc ls (.ref (ad 100 0) :: rest)) := r_get X hS (C := RX10) (T := TX10) (N := 58) (k := 38) tf10 rfl rfl ho (by decide) t5_170 ⟨rfl, rfl, rfl⟩ rfl hdg kk
theorem fg_X10_274 (X : Cx p s m args meth c D cy ad A RX10 cc nL ret) (hS : St D cy ad ns A M s.heap H locs) (ho : Ob ns 10 100) (hdg : decode cc pc = .ok (.getfield 274, 3)) (kk : W p l e R s m args below meth c H locs cells slots Q (F0 m (pc + 3) ls (.int (gI M 100 23) :: rest))) : W p l e R s m args below meth c H locs cells slots Q (F0 m pc ls (.ref (ad 100 0) :: rest)) := r_get X hS (C := RX10) (T := TX10) (N := 58) (k := 23) tf10 rfl rfl ho (by decide) t5_155 ⟨rfl, rfl, rfl⟩ rfl hdg kk
theorem fp_X10_274 (X : Cx p s m args meth c D cy ad A RX10 cc nL ret) (hS : St D cy ad ns A M s.heap H locs) (ho : Ob ns 10 100) {v : Int32} (hdg : decode cc pc = .ok (.putfield 274, 3)) (kk : ∀ (H1 : Heap) (locs1 : List Loc), St D cy ad ns A (sI M 100 23 v) s.heap H1 locs1 → W p l e R s m args below meth c H1 locs1 cells slots Q (F0 m (pc + 3) ls rest)) : W p l e R s m args below meth c H locs cells slots Q (F0 m pc ls (.int v :: .ref (ad 100 0) :: rest)) := r_put X hS (C := RX10) (T := TX10) (N := 58) (k := 23) tf10 rfl rfl tyX10 tyX10_ok nmX10 ho (by decide) t5_155 ⟨rfl, rfl, rfl⟩ rfl (ty := .int) (by decide +kernel) rfl rfl (wr_sI hS.1.2.2) (cel_sI (by decide) rfl) (fun q hq => cel_sI' hq) hdg kk
theorem fg_X10_281 (X : Cx p s m args meth c D cy ad A RX10 cc nL ret) (hS : St D cy ad ns A M s.heap H locs) (ho : Ob ns 10 100) (hdg : decode cc pc = .ok (.getfield 281, 3)) (kk : W p l e R s m args below meth c H locs cells slots Q (F0 m (pc + 3) ls (.int (gI M 100 24) :: rest))) : W p l e R s m args below meth c H locs cells slots Q (F0 m pc ls (.ref (ad 100 0) :: rest)) := r_get X hS (C := RX10) (T := TX10) (N := 58) (k := 24) tf10 rfl rfl ho (by decide) t5_156 ⟨rfl, rfl, rfl⟩ rfl hdg kk
theorem fp_X10_281 (X : Cx p s m args meth c D cy ad A RX10 cc nL ret) (hS : St D cy ad ns A M s.heap H locs) (ho : Ob ns 10 100) {v : Int32} (hdg : decode cc pc = .ok (.putfield 281, 3)) (kk : ∀ (H1 : Heap) (locs1 : List Loc), St D cy ad ns A (sI M 100 24 v) s.heap H1 locs1 → W p l e R s m args below meth c H1 locs1 cells slots Q (F0 m (pc + 3) ls rest)) : W p l e R s m args below meth c H locs cells slots Q (F0 m pc ls (.int v :: .ref (ad 100 0) :: rest)) := r_put X hS (C := RX10) (T := TX10) (N := 58) (k := 24) tf10 rfl rfl tyX10 tyX10_ok nmX10 ho (by decide) t5_156 ⟨rfl, rfl, rfl⟩ rfl (ty := .int) (by decide +kernel) rfl rfl (wr_sI hS.1.2.2) (cel_sI (by decide) rfl) (fun q hq => cel_sI' hq) hdg kk
theorem fg_X10_284 (X : Cx p s m args meth c D cy ad A RX10 cc nL ret) (hS : St D cy ad ns A M s.heap H locs) (ho : Ob ns 10 100) (hdg : decode cc pc = .ok (.getfield 284, 3)) (kk : W p l e R s m args below meth c H locs cells slots Q (F0 m (pc + 3) ls (.int (gI M 100 25) :: rest))) : W p l e R s m args below meth c H locs cells slots Q (F0 m pc ls (.ref (ad 100 0) :: rest)) := r_get X hS (C := RX10) (T := TX10) (N := 58) (k := 25) tf10 rfl rfl ho (by decide) t5_157 ⟨rfl, rfl, rfl⟩ rfl hdg kk
theorem fp_X10_284 (X : Cx p s m args meth c D cy ad A RX10 cc nL ret) (hS : St D cy ad ns A M s.heap H locs) (ho : Ob ns 10 100) {v : Int32} (hdg : decode cc pc = .ok (.putfield 284, 3)) (kk : ∀ (H1 : Heap) (locs1 : List Loc), St D cy ad ns A (sI M 100 25 v) s.heap H1 locs1 → W p l e R s m args below meth c H1 locs1 cells slots Q (F0 m (pc + 3) ls rest)) : W p l e R s m args below meth c H locs cells slots Q (F0 m pc ls (.int v :: .ref (ad 100 0) :: rest)) := r_put X hS (C := RX10) (T := TX10) (N := 58) (k := 25) tf10 rfl rfl tyX10 tyX10_ok nmX10 ho (by decide) t5_157 ⟨rfl, rfl, rfl⟩ rfl (ty := .int) (by decide +kernel) rfl rfl (wr_sI hS.1.2.2) (cel_sI (by decide) rfl) (fun q hq => cel_sI' hq) hdg kk
theorem fg_X10_293 (X : Cx p s m args meth c D cy ad A RX10 cc nL ret) (hS : St D cy ad ns A M s.heap H locs) (ho : Ob ns 10 100) (hdg : decode cc pc = .ok (.getfield 293, 3)) (kk : W p l e R s m args below meth c H locs cells slots Q (F0 m (pc + 3) ls (.int (gI M 100 26) :: rest))) : W p l e R s m args below meth c H locs cells slots Q (F0 m pc ls (.ref (ad 100 0) :: rest)) := r_get X hS (C := RX10) (T := TX10) (N := 58) (k := 26) tf10 rfl rfl ho (by decide) t5_158 ⟨rfl, rfl, rfl⟩ rfl hdg kk
theorem fp_X10_293 (X : Cx p s m args meth c D cy ad A RX10 cc nL ret) (hS : St D cy ad ns A M s.heap H locs) (ho : Ob ns 10 100) {v : Int32} (hdg : decode cc pc = .ok (.putfield 293, 3)) (kk : ∀ (H1 : Heap) (locs1 : List Loc), St D cy ad ns A (sI M 100 26 v) s.heap H1 locs1 → W p l e R s m args below meth c H1 locs1 cells slots Q (F0 m (pc + 3) ls rest)) : W p l e R s m args below meth c H locs cells slots Q (F0 m pc ls (.int v :: .ref (ad 100 0) :: rest)) := r_put X hS (C := RX10) (T := TX10) (N := 58) (k := 26) tf10 rfl rfl tyX10 tyX10_ok nmX10 ho (by decide) t5_158 ⟨rfl, rfl, rfl⟩ rfl (ty := .int) (by decide +kernel) rfl rfl (wr_sI hS.1.2.2) (cel_sI (by decide) rfl) (fun q hq => cel_sI' hq) hdg kk
theorem fg_X10_305 (X : Cx p s m args meth c D cy ad A RX10 cc nL ret) (hS : St D cy ad ns A M s.heap H locs) (ho : Ob ns 10 100) (hdg : decode cc pc = .ok (.getfield 305, 3)) (kk : W p l e R s m args below meth c H locs cells slots Q (F0 m (pc + 3) ls (.int (gI M 100 29) :: rest))) : W p l e R s m args below meth c H locs cells slots Q (F0 m pc ls (.ref (ad 100 0) :: rest)) := r_get X hS (C := RX10) (T := TX10) (N := 58) (k := 29) tf10 rfl rfl ho (by decide) t5_161 ⟨rfl, rfl, rfl⟩ rfl hdg kk
theorem fp_X10_305 (X : Cx p s m args meth c D cy ad A RX10 cc nL ret) (hS : St D cy ad ns A M s.heap H locs) (ho : Ob ns 10 100) {v : Int32} (hdg : decode cc pc = .ok (.putfield 305, 3)) (kk : ∀ (H1 : Heap) (locs1 : List Loc), St D cy ad ns A (sI M 100 29 v) s.heap H1 locs1 → W p l e R s m args below meth c H1 locs1 cells slots Q (F0 m (pc + 3) ls rest)) : W p l e R s m args below meth c H locs cells slots Q (F0 m pc ls (.int v :: .ref (ad 100 0) :: rest)) := r_put X hS (C := RX10) (T := TX10) (N := 58) (k := 29) tf10 rfl rfl tyX10 tyX10_ok nmX10 ho (by decide) t5_161 ⟨rfl, rfl, rfl⟩ rfl (ty := .int) (by decide +kernel) rfl rfl (wr_sI hS.1.2.2) (cel_sI (by decide) rfl) (fun q hq => cel_sI' hq) hdg kk
theorem fg_X10_308 (X : Cx p s m args meth c D cy ad A RX10 cc nL ret) (hS : St D cy ad ns A M s.heap H locs) (ho : Ob ns 10 100) (hdg : decode cc pc = .ok (.getfield 308, 3)) (kk : W p l e R s m args below meth c H locs cells slots Q (F0 m (pc + 3) ls (.int (gI M 100 30) :: rest))) : W p l e R s m args below meth c H locs cells slots Q (F0 m pc ls (.ref (ad 100 0) :: rest)) := r_get X hS (C := RX10) (T := TX10) (N := 58) (k := 30) tf10 rfl rfl ho (by decide) t5_162 ⟨rfl, rfl, rfl⟩ rfl hdg kk
theorem fp_X10_308 (X : Cx p s m args meth c D cy ad A RX10 cc nL ret) (hS : St D cy ad ns A M s.heap H locs) (ho : Ob ns 10 100) {v : Int32} (hdg : decode cc pc = .ok (.putfield 308, 3)) (kk : ∀ (H1 : Heap) (locs1 : List Loc), St D cy ad ns A (sI M 100 30 v) s.heap H1 locs1 → W p l e R s m args below meth c H1 locs1 cells slots Q (F0 m (pc + 3) ls rest)) : W p l e R s m args below meth c H locs cells slots Q (F0 m pc ls (.int v :: .ref (ad 100 0) :: rest)) := r_put X hS (C := RX10) (T := TX10) (N := 58) (k := 30) tf10 rfl rfl tyX10 tyX10_ok nmX10 ho (by decide) t5_162 ⟨rfl, rfl, rfl⟩ rfl (ty := .int) (by decide +kernel) rfl rfl (wr_sI hS.1.2.2) (cel_sI (by decide) rfl) (fun q hq => cel_sI' hq) hdg kk
theorem fg_X10_311 (X : Cx p s m args meth c D cy ad A RX10 cc nL ret) (hS : St D cy ad ns A M s.heap H locs) (ho : Ob ns 10 100) (hdg : decode cc pc = .ok (.getfield 311, 3)) (kk : W p l e R s m args below meth c H locs cells slots Q (F0 m (pc + 3) ls (.int (gI M 100 31) :: rest))) : W p l e R s m args below meth c H locs cells slots Q (F0 m pc ls (.ref (ad 100 0) :: rest)) := r_get X hS (C := RX10) (T := TX10) (N := 58) (k := 31) tf10 rfl rfl ho (by decide) t5_163 ⟨rfl, rfl, rfl⟩ rfl hdg kk
theorem fp_X10_311 (X : Cx p s m args meth c D cy ad A RX10 cc nL ret) (hS : St D cy ad ns A M s.heap H locs) (ho : Ob ns 10 100) {v : Int32} (hdg : decode cc pc = .ok (.putfield 311, 3)) (kk : ∀ (H1 : Heap) (locs1 : List Loc), St D cy ad ns A (sI M 100 31 v) s.heap H1 locs1 → W p l e R s m args below meth c H1 locs1 cells slots Q (F0 m (pc + 3) ls rest)) : W p l e R s m args below meth c H locs cells slots Q (F0 m pc ls (.int v :: .ref (ad 100 0) :: rest)) := r_put X hS (C := RX10) (T := TX10) (N := 58) (k := 31) tf10 rfl rfl tyX10 tyX10_ok nmX10 ho (by decide) t5_163 ⟨rfl, rfl, rfl⟩ rfl (ty := .int) (by decide +kernel) rfl rfl (wr_sI hS.1.2.2) (cel_sI (by decide) rfl) (fun q hq => cel_sI' hq) hdg kk
theorem fg_X10_314 (X : Cx p s m args meth c D cy ad A RX10 cc nL ret) (hS : St D cy ad ns A M s.heap H locs) (ho : Ob ns 10 100) (hdg : decode cc pc = .ok (.getfield 314, 3)) (kk : W p l e R s m args below meth c H locs cells slots Q (F0 m (pc + 3) ls (.int (gI M 100 32) :: rest))) : W p l e R s m args below meth c H locs cells slots Q (F0 m pc ls (.ref (ad 100 0) :: rest)) := r_get X hS (C := RX10) (T := TX10) (N := 58) (k := 32) tf10 rfl rfl ho (by decide) t5_164 ⟨rfl, rfl, rfl⟩ rfl hdg kk
theorem fp_X10_314 (X : Cx p s m args meth c D cy ad A RX10 cc nL ret) (hS : St D cy ad ns A M s.heap H locs) (ho : Ob ns 10 100) {v : Int32} (hdg : decode cc pc = .ok (.putfield 314, 3)) (kk : ∀ (H1 : Heap) (locs1 : List Loc), St D cy ad ns A (sI M 100 32 v) s.heap H1 locs1 → W p l e R s m args below meth c H1 locs1 cells slots Q (F0 m (pc + 3) ls rest)) : W p l e R s m args below meth c H locs cells slots Q (F0 m pc ls (.int v :: .ref (ad 100 0) :: rest)) := r_put X hS (C := RX10) (T := TX10) (N := 58) (k := 32) tf10 rfl rfl tyX10 tyX10_ok nmX10 ho (by decide) t5_164 ⟨rfl, rfl, rfl⟩ rfl (ty := .int) (by decide +kernel) rfl rfl (wr_sI hS.1.2.2) (cel_sI (by decide) rfl) (fun q hq => cel_sI' hq) hdg kk
theorem fg_X10_317 (X : Cx p s m args meth c D cy ad A RX10 cc nL ret) (hS : St D cy ad ns A M s.heap H locs) (ho : Ob ns 10 100) (hdg : decode cc pc = .ok (.getfield 317, 3)) (kk : W p l e R s m args below meth c H locs cells slots Q (F0 m (pc + 3) ls (.int (gI M 100 33) :: rest))) : W p l e R s m args below meth c H locs cells slots Q (F0 m pc ls (.ref (ad 100 0) :: rest)) := r_get X hS (C := RX10) (T := TX10) (N := 58) (k := 33) tf10 rfl rfl ho (by decide) t5_165 ⟨rfl, rfl, rfl⟩ rfl hdg kk
theorem fp_X10_317 (X : Cx p s m args meth c D cy ad A RX10 cc nL ret) (hS : St D cy ad ns A M s.heap H locs) (ho : Ob ns 10 100) {v : Int32} (hdg : decode cc pc = .ok (.putfield 317, 3)) (kk : ∀ (H1 : Heap) (locs1 : List Loc), St D cy ad ns A (sI M 100 33 v) s.heap H1 locs1 → W p l e R s m args below meth c H1 locs1 cells slots Q (F0 m (pc + 3) ls rest)) : W p l e R s m args below meth c H locs cells slots Q (F0 m pc ls (.int v :: .ref (ad 100 0) :: rest)) := r_put X hS (C := RX10) (T := TX10) (N := 58) (k := 33) tf10 rfl rfl tyX10 tyX10_ok nmX10 ho (by decide) t5_165 ⟨rfl, rfl, rfl⟩ rfl (ty := .int) (by decide +kernel) rfl rfl (wr_sI hS.1.2.2) (cel_sI (by decide) rfl) (fun q hq => cel_sI' hq) hdg kk
theorem fg_X10_362 (X : Cx p s m args meth c D cy ad A RX10 cc nL ret) (hS : St D cy ad ns A M s.heap H locs) (ho : Ob ns 10 100) (hdg : decode cc pc = .ok (.getfield 362, 3)) (kk : W p l e R s m args below meth c H locs cells slots Q (F0 m (pc + 3) ls (.int (gI M 100 35) :: rest))) : W p l e R s m args below meth c H locs cells slots Q (F0 m pc ls (.ref (ad 100 0) :: rest)) := r_get X hS (C := RX10) (T := TX10) (N := 58) (k := 35) tf10 rfl rfl ho (by decide) t5_167 ⟨rfl, rfl, rfl⟩ rfl hdg kk
theorem fp_X10_362 (X : Cx p s m args meth c D cy ad A RX10 cc nL ret) (hS : St D cy ad ns A M s.heap H locs) (ho : Ob ns 10 100) {v : Int32} (hdg : decode cc pc = .ok (.putfield 362, 3)) (kk : ∀ (H1 : Heap) (locs1 : List Loc), St D cy ad ns A (sI M 100 35 v) s.heap H1 locs1 → W p l e R s m args below meth c H1 locs1 cells slots Q (F0 m (pc + 3) ls rest)) : W p l e R s m args below meth c H locs cells slots Q (F0 m pc ls (.int v :: .ref (ad 100 0) :: rest)) := r_put X hS (C := RX10) (T := TX10) (N := 58) (k := 35) tf10 rfl rfl tyX10 tyX10_ok nmX10 ho (by decide) t5_167 ⟨rfl, rfl, rfl⟩ rfl (ty := .int) (by decide +kernel) rfl rfl (wr_sI hS.1.2.2) (cel_sI (by decide) rfl) (fun q hq => cel_sI' hq) hdg kk
end FR_30_M1
section MT_30_M1
variable {p : Program} {l : Launch} {e : Env} {s : State} {m : MethodId} {args : Array Value} {below : List Frame} {meth : Method} {c : Code} {D : va_G} {cy : Nat → ClassId} {ad : Nat → Nat → Nat} {ns : List (Nat × Nat)} {A : Nat → Prop}
/-! SewnYearModel.fault(I)I -/
def rm_X10_fault : Room := { frames := 0, cells := 0, slots := 0, locals := 0 }
def f_X10_fault (M : Mem) (a1 : Int32) : Option (Int32 × Mem) :=
  nm (sI M 100 0 (nI 0)) fun M1 => if a1 = (nI 0) then (gin (nI 0) 4 <| some ((gA M1 100 3 (ix (nI 0))), M1)) else (if a1 = (nI 1) then (gin (nI 0) 4 <| some ((gA M1 100 4 (ix (nI 0))), M1)) else (some ((-1), M1)))
set_option maxRecDepth 100000 in
set_option maxHeartbeats 4000000 in
theorem m_X10_fault {l : Launch} {D : va_G} {cy : Nat → ClassId} {ad : Nat → Nat → Nat} {ns : List (Nat × Nat)} {A : Nat → Prop} {M : Mem} (hN : Ob ns 10 100) {a1 : Int32} {r : Int32 × Mem} (hX : f_X10_fault M a1 = some r) : Ct l yX10_fault cX10_fault 2 ((some .int)) rm_X10_fault D cy ad ns A [.ref (ad 100 0), .int a1] M r.2 (some (.int r.1)) := by
  refine ct_of (lv := [(0, .ref (ad 100 0)), (1, .int a1)]) (by decide) (Nat.le_of_ble_eq_true rfl) rfl ?_
  intro p e s m args below meth c ls X hl hS
  obtain ⟨hx, hb, hml, hown, hts, hK, hr, hlk, hA, hG⟩ := id X
  obtain ⟨H, hH⟩ : ∃ z, z = s.heap := ⟨_, rfl⟩
  obtain ⟨locs, hlo⟩ : ∃ z : List Loc, z = [] := ⟨_, rfl⟩
  have hS : St D cy ad ns A M s.heap H locs := by rw [hH, hlo]; exact hS
  have hgoal : W p l e rm_X10_fault s m args below meth c H locs 0 0 (MQ below (QC D cy ad ns A r.2 (some (.int r.1))) args s 0 0 A) (F0 m 0 ls []) := by
    unfold f_X10_fault at hX
    refine lv_aload_n hx hb dX10_fault_0 rfl (lv_at hl 0 rfl) ?_
    refine lv_iconst (v := nI 0) hx hb dX10_fault_1 (by decide) ?_
    refine fp_X10_94 X hS (hN) dX10_fault_2 (fun H locs hS => ?_)
    obtain ⟨M1, eM1, hS, hX⟩ := nm_mem hS hX
    refine lv_iload_n hx hb dX10_fault_5 rfl (lv_at hl 1 rfl) ?_
    refine lv_if_ne (tgt := 18) hx hb dX10_fault_6 (by decide) (fun c2 => ?_) (fun c2 => ?_)
    · have hX := if_f c2 hX
      refine lv_iload_n hx hb dX10_fault_18 rfl (lv_at hl 1 rfl) ?_
      refine lv_iconst (v := nI 1) hx hb dX10_fault_19 (by decide) ?_
      refine lv_icmp_ne (tgt := 32) hx hb dX10_fault_20 (by decide) (fun c3 => ?_) (fun c3 => ?_)
      · have hX := if_f c3 hX
        refine lv_iconst (v := (-1)) hx hb dX10_fault_32 (by decide) ?_
        obtain rfl := some_of hX
        exact x_I (v := (-1)) X hS dX10_fault_33
      · have hX := if_t c3 hX
        refine lv_aload_n hx hb dX10_fault_23 rfl (lv_at hl 0 rfl) ?_
        refine fg_X10_20 X hS (hN) dX10_fault_24 ?_
        refine lv_iconst (v := nI 0) hx hb dX10_fault_27 (by decide) ?_
        obtain ⟨g4, hX⟩ := gin_of hX
        refine r_iald (ci := 10) (o := 100) (k := 4) (n := 4) X hS (hN) rfl rfl g4 dX10_fault_28 ?_
        refine lv_goto (tgt := 33) hx hb dX10_fault_29 (by decide) ?_
        obtain rfl := some_of hX
        exact x_I (v := (gA M1 100 4 (ix (nI 0)))) X hS dX10_fault_33
    · have hX := if_t c2 hX
      refine lv_aload_n hx hb dX10_fault_9 rfl (lv_at hl 0 rfl) ?_
      refine fg_X10_17 X hS (hN) dX10_fault_10 ?_
      refine lv_iconst (v := nI 0) hx hb dX10_fault_13 (by decide) ?_
      obtain ⟨g5, hX⟩ := gin_of hX
      refine r_iald (ci := 10) (o := 100) (k := 3) (n := 4) X hS (hN) rfl rfl g5 dX10_fault_14 ?_
      refine lv_goto (tgt := 33) hx hb dX10_fault_15 (by decide) ?_
      obtain rfl := some_of hX
      exact x_I (v := (gA M1 100 3 (ix (nI 0)))) X hS dX10_fault_33
  rw [hH, hlo] at hgoal
  exact hgoal
theorem mv_X10_fault : Mv yX10_fault RX10 cX10_fault 2 ((some .int)) 1 := ⟨t6_211, t6_209, t6_210, t1_11, ⟨by decide, by decide⟩, by decide +kernel⟩
/-! SewnYearModel.of(I)I -/
def rm_X10_of : Room := { frames := 0, cells := 0, slots := 0, locals := 0 }
def f_X10_of (M : Mem) (a1 : Int32) : Option (Int32) :=
  gin (((nI 138) * (gI M 100 23)) + a1) 1104 <| some (gA M 100 6 (ix (((nI 138) * (gI M 100 23)) + a1)))
set_option maxRecDepth 100000 in
set_option maxHeartbeats 4000000 in
theorem m_X10_of {l : Launch} {D : va_G} {cy : Nat → ClassId} {ad : Nat → Nat → Nat} {ns : List (Nat × Nat)} {A : Nat → Prop} {M : Mem} (hN : Ob ns 10 100) {a1 : Int32} {r : Int32} (hX : f_X10_of M a1 = some r) : Ct l yX10_of cX10_of 2 ((some .int)) rm_X10_of D cy ad ns A [.ref (ad 100 0), .int a1] M M (some (.int r)) := by
  refine ct_of (lv := [(0, .ref (ad 100 0)), (1, .int a1)]) (by decide) (Nat.le_of_ble_eq_true rfl) rfl ?_
  intro p e s m args below meth c ls X hl hS
  obtain ⟨hx, hb, hml, hown, hts, hK, hr, hlk, hA, hG⟩ := id X
  obtain ⟨H, hH⟩ : ∃ z, z = s.heap := ⟨_, rfl⟩
  obtain ⟨locs, hlo⟩ : ∃ z : List Loc, z = [] := ⟨_, rfl⟩
  have hS : St D cy ad ns A M s.heap H locs := by rw [hH, hlo]; exact hS
  have hgoal : W p l e rm_X10_of s m args below meth c H locs 0 0 (MQ below (QC D cy ad ns A M (some (.int r))) args s 0 0 A) (F0 m 0 ls []) := by
    unfold f_X10_of at hX
    refine lv_aload_n hx hb dX10_of_0 rfl (lv_at hl 0 rfl) ?_
    refine fg_X10_26 X hS (hN) dX10_of_1 ?_
    refine lv_sipush (v := nI 138) hx hb dX10_of_4 (by decide) ?_
    refine lv_aload_n hx hb dX10_of_7 rfl (lv_at hl 0 rfl) ?_
    refine fg_X10_274 X hS (hN) dX10_of_8 ?_
    refine lv_imul hx hb dX10_of_11 ?_
    refine lv_iload_n hx hb dX10_of_12 rfl (lv_at hl 1 rfl) ?_
    refine lv_iadd hx hb dX10_of_13 ?_
    obtain ⟨g1, hX⟩ := gin_of hX
    refine r_iald (ci := 10) (o := 100) (k := 6) (n := 1104) X hS (hN) rfl rfl g1 dX10_of_14 ?_
    obtain rfl := some_of hX
    exact x_I (v := (gA M 100 6 (ix (((nI 138) * (gI M 100 23)) + a1)))) X hS dX10_of_15
  rw [hH, hlo] at hgoal
  exact hgoal
theorem mv_X10_of : Mv yX10_of RX10 cX10_of 2 ((some .int)) 1 := ⟨t6_223, t6_222, ts_32, t1_11, ⟨by decide, by decide⟩, by decide +kernel⟩
/-! SewnYearModel.hand(I)Z -/
def rm_X10_hand : Room := { frames := 2, cells := 0, slots := 0, locals := 44 }
def f_X10_hand (M : Mem) (a1 : Int32) : Option (Bool × Mem) :=
  bn (f_X10_is M (nI 0) a1) fun r2 => if r2 = true then (nm (sI M 100 23 a1) fun M4 => bn (f_X10_of M4 (nI 0)) fun r6 => nm (sI M4 100 24 r6) fun M7 => bn (f_X10_of M7 (nI 1)) fun r9 => nm (sI M7 100 25 r9) fun M10 => some (true, M10)) else (some (false, M))
set_option maxRecDepth 100000 in
set_option maxHeartbeats 4000000 in
theorem m_X10_hand {l : Launch} {D : va_G} {cy : Nat → ClassId} {ad : Nat → Nat → Nat} {ns : List (Nat × Nat)} {A : Nat → Prop} {M : Mem} (hN : Ob ns 10 100) {a1 : Int32} {r : Bool × Mem} (hX : f_X10_hand M a1 = some r) : Ct l yX10_hand cX10_hand 2 ((some .boolean)) rm_X10_hand D cy ad ns A [.ref (ad 100 0), .int a1] M r.2 (some (.int (b2i r.1))) := by
  refine ct_of (lv := [(0, .ref (ad 100 0)), (1, .int a1)]) (by decide) (Nat.le_of_ble_eq_true rfl) rfl ?_
  intro p e s m args below meth c ls X hl hS
  obtain ⟨hx, hb, hml, hown, hts, hK, hr, hlk, hA, hG⟩ := id X
  obtain ⟨H, hH⟩ : ∃ z, z = s.heap := ⟨_, rfl⟩
  obtain ⟨locs, hlo⟩ : ∃ z : List Loc, z = [] := ⟨_, rfl⟩
  have hS : St D cy ad ns A M s.heap H locs := by rw [hH, hlo]; exact hS
  have hgoal : W p l e rm_X10_hand s m args below meth c H locs 0 0 (MQ below (QC D cy ad ns A r.2 (some (.int (b2i r.1)))) args s 0 0 A) (F0 m 0 ls []) := by
    unfold f_X10_hand at hX
    refine lv_aload_n hx hb dX10_hand_0 rfl (lv_at hl 0 rfl) ?_
    refine lv_iconst (v := nI 0) hx hb dX10_hand_1 (by decide) ?_
    refine lv_iload_n hx hb dX10_hand_2 rfl (lv_at hl 1 rfl) ?_
    obtain ⟨r2, h1, hX⟩ := bn_of hX
    refine r_callV1 (v := .int (b2i r2)) (As := [.int (nI 0), .int a1]) (rest := []) X hS (m_X10_is hN h1) mv_X10_is rfl (hN) t6_88 ⟨rfl, rfl, Nat.le_of_ble_eq_true rfl, Nat.le_of_ble_eq_true rfl⟩ rfl hl.1 rfl (Nat.le_of_ble_eq_true rfl) ⟨Nat.zero_le _, Nat.zero_le _⟩ dX10_hand_3 (fun H locs hS => ?_)
    refine lv_if_ne (tgt := 11) hx hb dX10_hand_6 (by decide) (fun c3 => ?_) (fun c3 => ?_)
    · have hX := if_bt c3 hX
      refine lv_aload_n hx hb dX10_hand_11 rfl (lv_at hl 0 rfl) ?_
      refine lv_iload_n hx hb dX10_hand_12 rfl (lv_at hl 1 rfl) ?_
      refine fp_X10_274 X hS (hN) dX10_hand_13 (fun H locs hS => ?_)
      obtain ⟨M4, eM4, hS, hX⟩ := nm_mem hS hX
      refine lv_aload_n hx hb dX10_hand_16 rfl (lv_at hl 0 rfl) ?_
      refine lv_aload_n hx hb dX10_hand_17 rfl (lv_at hl 0 rfl) ?_
      refine lv_iconst (v := nI 0) hx hb dX10_hand_18 (by decide) ?_
      obtain ⟨r6, h5, hX⟩ := bn_of hX
      refine r_callV1 (v := .int r6) (As := [.int (nI 0)]) (rest := [.ref (ad 100 0)]) X hS (m_X10_of hN h5) mv_X10_of rfl (hN) t6_220 ⟨rfl, rfl, Nat.le_of_ble_eq_true rfl, Nat.le_of_ble_eq_true rfl⟩ rfl hl.1 rfl (Nat.le_of_ble_eq_true rfl) ⟨Nat.zero_le _, Nat.zero_le _⟩ dX10_hand_19 (fun H locs hS => ?_)
      refine fp_X10_281 X hS (hN) dX10_hand_22 (fun H locs hS => ?_)
      obtain ⟨M7, eM7, hS, hX⟩ := nm_mem hS hX
      refine lv_aload_n hx hb dX10_hand_25 rfl (lv_at hl 0 rfl) ?_
      refine lv_aload_n hx hb dX10_hand_26 rfl (lv_at hl 0 rfl) ?_
      refine lv_iconst (v := nI 1) hx hb dX10_hand_27 (by decide) ?_
      obtain ⟨r9, h8, hX⟩ := bn_of hX
      refine r_callV1 (v := .int r9) (As := [.int (nI 1)]) (rest := [.ref (ad 100 0)]) X hS (m_X10_of hN h8) mv_X10_of rfl (hN) t6_220 ⟨rfl, rfl, Nat.le_of_ble_eq_true rfl, Nat.le_of_ble_eq_true rfl⟩ rfl hl.1 rfl (Nat.le_of_ble_eq_true rfl) ⟨Nat.zero_le _, Nat.zero_le _⟩ dX10_hand_28 (fun H locs hS => ?_)
      refine fp_X10_284 X hS (hN) dX10_hand_31 (fun H locs hS => ?_)
      obtain ⟨M10, eM10, hS, hX⟩ := nm_mem hS hX
      refine lv_iconst (v := nI 1) hx hb dX10_hand_34 (by decide) ?_
      obtain rfl := some_of hX
      exact x_Z (v := true) X hS dX10_hand_35
    · have hX := if_bf c3 hX
      refine lv_iconst (v := nI 0) hx hb dX10_hand_9 (by decide) ?_
      obtain rfl := some_of hX
      exact x_Z (v := false) X hS dX10_hand_10
  rw [hH, hlo] at hgoal
  exact hgoal
theorem mv_X10_hand : Mv yX10_hand RX10 cX10_hand 2 ((some .boolean)) 1 := ⟨t6_219, t6_218, ts_31, t1_11, ⟨by decide, by decide⟩, by decide +kernel⟩
/-! SewnYearModel.isSeam(I)Z -/
def rm_X10_isSeam : Room := { frames := 1, cells := 0, slots := 0, locals := 22 }
def f_X10_isSeam (M : Mem) (a1 : Int32) : Option (Bool) :=
  bn (f_X10_in a1 (nI 0) ((gI M 100 24) - (nI 1))) fun r2 => some r2
set_option maxRecDepth 100000 in
set_option maxHeartbeats 4000000 in
theorem m_X10_isSeam {l : Launch} {D : va_G} {cy : Nat → ClassId} {ad : Nat → Nat → Nat} {ns : List (Nat × Nat)} {A : Nat → Prop} {M : Mem} (hN : Ob ns 10 100) {a1 : Int32} {r : Bool} (hX : f_X10_isSeam M a1 = some r) : Ct l yX10_isSeam cX10_isSeam 2 ((some .boolean)) rm_X10_isSeam D cy ad ns A [.ref (ad 100 0), .int a1] M M (some (.int (b2i r))) := by
  refine ct_of (lv := [(0, .ref (ad 100 0)), (1, .int a1)]) (by decide) (Nat.le_of_ble_eq_true rfl) rfl ?_
  intro p e s m args below meth c ls X hl hS
  obtain ⟨hx, hb, hml, hown, hts, hK, hr, hlk, hA, hG⟩ := id X
  obtain ⟨H, hH⟩ : ∃ z, z = s.heap := ⟨_, rfl⟩
  obtain ⟨locs, hlo⟩ : ∃ z : List Loc, z = [] := ⟨_, rfl⟩
  have hS : St D cy ad ns A M s.heap H locs := by rw [hH, hlo]; exact hS
  have hgoal : W p l e rm_X10_isSeam s m args below meth c H locs 0 0 (MQ below (QC D cy ad ns A M (some (.int (b2i r)))) args s 0 0 A) (F0 m 0 ls []) := by
    unfold f_X10_isSeam at hX
    refine lv_iload_n hx hb dX10_isSeam_0 rfl (lv_at hl 1 rfl) ?_
    refine lv_iconst (v := nI 0) hx hb dX10_isSeam_1 (by decide) ?_
    refine lv_aload_n hx hb dX10_isSeam_2 rfl (lv_at hl 0 rfl) ?_
    refine fg_X10_281 X hS (hN) dX10_isSeam_3 ?_
    refine lv_iconst (v := nI 1) hx hb dX10_isSeam_6 (by decide) ?_
    refine lv_isub hx hb dX10_isSeam_7 ?_
    obtain ⟨r2, h1, hX⟩ := bn_of hX
    refine r_callS1 (v := .int (b2i r2)) (As := [.int a1, .int (nI 0), .int ((gI M 100 24) - (nI 1))]) (rest := []) X hS (m_X10_in (M := M) hN h1) ms_X10_in t6_81 ⟨rfl, rfl, Nat.le_of_ble_eq_true rfl, Nat.le_of_ble_eq_true rfl⟩ rfl hl.1 rfl (Nat.le_of_ble_eq_true rfl) ⟨Nat.zero_le _, Nat.zero_le _⟩ dX10_isSeam_8 (fun H locs hS => ?_)
    obtain rfl := some_of hX
    exact x_Z (v := r2) X hS dX10_isSeam_11
  rw [hH, hlo] at hgoal
  exact hgoal
theorem mv_X10_isSeam : Mv yX10_isSeam RX10 cX10_isSeam 2 ((some .boolean)) 1 := ⟨t6_227, t6_226, ts_33, t1_11, ⟨by decide, by decide⟩, by decide +kernel⟩
/-! SewnYearModel.coat(II)I -/
def rm_X10_coat : Room := { frames := 3, cells := 0, slots := 0, locals := 65 }
def f_X10_coat (M : Mem) (a1 : Int32) (a2 : Int32) : Option (Int32 × Mem) :=
  nm (sI M 100 0 (nI 0)) fun M1 => bp (f_X10_hand M1 a1) fun r4 M3 => if r4 = true then (bn (f_X10_in a2 (nI 100) (nI 199)) fun r7 => if r7 = true then (bn (f_X10_of M3 (((nI 38) + a2) - (nI 100))) fun r26 => some (r26, M3)) else (bn (f_X10_in a2 (nI 10) (nI 49)) fun r10 => if r10 = true then (gnz (nI 10) <| bn (f_X10_isSeam M3 (a2 - a2 / (nI 10) * (nI 10))) fun r19 => if r19 = true then (gnz (nI 10) <| gnz (nI 10) <| bn (f_X10_of M3 (((nI 2) + ((nI 9) * ((a2 / (nI 10)) - (nI 1)))) + (a2 - a2 / (nI 10) * (nI 10)))) fun r24 => some (r24, M3)) else (some ((-1), M3))) else (bn (f_X10_in a2 (nI 0) (nI 1)) fun r13 => if r13 = true then (bn (f_X10_of M3 a2) fun r16 => some (r16, M3)) else (some ((-1), M3))))) else (some ((-1), M3))
set_option maxRecDepth 100000 in
set_option maxHeartbeats 4000000 in
theorem m_X10_coat {l : Launch} {D : va_G} {cy : Nat → ClassId} {ad : Nat → Nat → Nat} {ns : List (Nat × Nat)} {A : Nat → Prop} {M : Mem} (hN : Ob ns 10 100) {a1 : Int32} {a2 : Int32} {r : Int32 × Mem} (hX : f_X10_coat M a1 a2 = some r) : Ct l yX10_coat cX10_coat 3 ((some .int)) rm_X10_coat D cy ad ns A [.ref (ad 100 0), .int a1, .int a2] M r.2 (some (.int r.1)) := by
  refine ct_of (lv := [(0, .ref (ad 100 0)), (1, .int a1), (2, .int a2)]) (by decide) (Nat.le_of_ble_eq_true rfl) rfl ?_
  intro p e s m args below meth c ls X hl hS
  obtain ⟨hx, hb, hml, hown, hts, hK, hr, hlk, hA, hG⟩ := id X
  obtain ⟨H, hH⟩ : ∃ z, z = s.heap := ⟨_, rfl⟩
  obtain ⟨locs, hlo⟩ : ∃ z : List Loc, z = [] := ⟨_, rfl⟩
  have hS : St D cy ad ns A M s.heap H locs := by rw [hH, hlo]; exact hS
  have hgoal : W p l e rm_X10_coat s m args below meth c H locs 0 0 (MQ below (QC D cy ad ns A r.2 (some (.int r.1))) args s 0 0 A) (F0 m 0 ls []) := by
    unfold f_X10_coat at hX
    refine lv_aload_n hx hb dX10_coat_0 rfl (lv_at hl 0 rfl) ?_
    refine lv_iconst (v := nI 0) hx hb dX10_coat_1 (by decide) ?_
    refine fp_X10_94 X hS (hN) dX10_coat_2 (fun H locs hS => ?_)
    obtain ⟨M1, eM1, hS, hX⟩ := nm_mem hS hX
    refine lv_aload_n hx hb dX10_coat_5 rfl (lv_at hl 0 rfl) ?_
    refine lv_iload_n hx hb dX10_coat_6 rfl (lv_at hl 1 rfl) ?_
    obtain ⟨r4, M3, h2, hX⟩ := bp_of hX
    refine r_callV1 (v := .int (b2i r4)) (As := [.int a1]) (rest := []) X hS (m_X10_hand hN h2) mv_X10_hand rfl (hN) t6_216 ⟨rfl, rfl, Nat.le_of_ble_eq_true rfl, Nat.le_of_ble_eq_true rfl⟩ rfl hl.1 rfl (Nat.le_of_ble_eq_true rfl) ⟨Nat.zero_le _, Nat.zero_le _⟩ dX10_coat_7 (fun H locs hS => ?_)
    refine lv_if_ne (tgt := 15) hx hb dX10_coat_10 (by decide) (fun c5 => ?_) (fun c5 => ?_)
    · have hX := if_bt c5 hX
      refine lv_iload_n hx hb dX10_coat_15 rfl (lv_at hl 2 rfl) ?_
      refine lv_bipush (v := nI 100) hx hb dX10_coat_16 (by decide) ?_
      refine lv_sipush (v := nI 199) hx hb dX10_coat_18 (by decide) ?_
      obtain ⟨r7, h6, hX⟩ := bn_of hX
      refine r_callS1 (v := .int (b2i r7)) (As := [.int a2, .int (nI 100), .int (nI 199)]) (rest := []) X hS (m_X10_in (M := M3) hN h6) ms_X10_in t6_81 ⟨rfl, rfl, Nat.le_of_ble_eq_true rfl, Nat.le_of_ble_eq_true rfl⟩ rfl hl.1 rfl (Nat.le_of_ble_eq_true rfl) ⟨Nat.zero_le _, Nat.zero_le _⟩ dX10_coat_21 (fun H locs hS => ?_)
      refine lv_if_eq (tgt := 39) hx hb dX10_coat_24 (by decide) (fun c8 => ?_) (fun c8 => ?_)
      · have hX := if_bf c8 hX
        refine lv_iload_n hx hb dX10_coat_39 rfl (lv_at hl 2 rfl) ?_
        refine lv_bipush (v := nI 10) hx hb dX10_coat_40 (by decide) ?_
        refine lv_bipush (v := nI 49) hx hb dX10_coat_42 (by decide) ?_
        obtain ⟨r10, h9, hX⟩ := bn_of hX
        refine r_callS1 (v := .int (b2i r10)) (As := [.int a2, .int (nI 10), .int (nI 49)]) (rest := []) X hS (m_X10_in (M := M3) hN h9) ms_X10_in t6_81 ⟨rfl, rfl, Nat.le_of_ble_eq_true rfl, Nat.le_of_ble_eq_true rfl⟩ rfl hl.1 rfl (Nat.le_of_ble_eq_true rfl) ⟨Nat.zero_le _, Nat.zero_le _⟩ dX10_coat_44 (fun H locs hS => ?_)
        refine lv_if_eq (tgt := 86) hx hb dX10_coat_47 (by decide) (fun c11 => ?_) (fun c11 => ?_)
        · have hX := if_bf c11 hX
          refine lv_iload_n hx hb dX10_coat_86 rfl (lv_at hl 2 rfl) ?_
          refine lv_iconst (v := nI 0) hx hb dX10_coat_87 (by decide) ?_
          refine lv_iconst (v := nI 1) hx hb dX10_coat_88 (by decide) ?_
          obtain ⟨r13, h12, hX⟩ := bn_of hX
          refine r_callS1 (v := .int (b2i r13)) (As := [.int a2, .int (nI 0), .int (nI 1)]) (rest := []) X hS (m_X10_in (M := M3) hN h12) ms_X10_in t6_81 ⟨rfl, rfl, Nat.le_of_ble_eq_true rfl, Nat.le_of_ble_eq_true rfl⟩ rfl hl.1 rfl (Nat.le_of_ble_eq_true rfl) ⟨Nat.zero_le _, Nat.zero_le _⟩ dX10_coat_89 (fun H locs hS => ?_)
          refine lv_if_eq (tgt := 103) hx hb dX10_coat_92 (by decide) (fun c14 => ?_) (fun c14 => ?_)
          · have hX := if_bf c14 hX
            refine lv_iconst (v := (-1)) hx hb dX10_coat_103 (by decide) ?_
            obtain rfl := some_of hX
            exact x_I (v := (-1)) X hS dX10_coat_104
          · have hX := if_bt c14 hX
            refine lv_aload_n hx hb dX10_coat_95 rfl (lv_at hl 0 rfl) ?_
            refine lv_iload_n hx hb dX10_coat_96 rfl (lv_at hl 2 rfl) ?_
            obtain ⟨r16, h15, hX⟩ := bn_of hX
            refine r_callV1 (v := .int r16) (As := [.int a2]) (rest := []) X hS (m_X10_of hN h15) mv_X10_of rfl (hN) t6_220 ⟨rfl, rfl, Nat.le_of_ble_eq_true rfl, Nat.le_of_ble_eq_true rfl⟩ rfl hl.1 rfl (Nat.le_of_ble_eq_true rfl) ⟨Nat.zero_le _, Nat.zero_le _⟩ dX10_coat_97 (fun H locs hS => ?_)
            refine lv_goto (tgt := 104) hx hb dX10_coat_100 (by decide) ?_
            obtain rfl := some_of hX
            exact x_I (v := r16) X hS dX10_coat_104
        · have hX := if_bt c11 hX
          refine lv_aload_n hx hb dX10_coat_50 rfl (lv_at hl 0 rfl) ?_
          refine lv_iload_n hx hb dX10_coat_51 rfl (lv_at hl 2 rfl) ?_
          refine lv_bipush (v := nI 10) hx hb dX10_coat_52 (by decide) ?_
          obtain ⟨g17, hX⟩ := gnz_of hX
          refine lv_irem hx hb dX10_coat_54 g17 ?_
          obtain ⟨r19, h18, hX⟩ := bn_of hX
          refine r_callV1 (v := .int (b2i r19)) (As := [.int (a2 - a2 / (nI 10) * (nI 10))]) (rest := []) X hS (m_X10_isSeam hN h18) mv_X10_isSeam rfl (hN) t6_224 ⟨rfl, rfl, Nat.le_of_ble_eq_true rfl, Nat.le_of_ble_eq_true rfl⟩ rfl hl.1 rfl (Nat.le_of_ble_eq_true rfl) ⟨Nat.zero_le _, Nat.zero_le _⟩ dX10_coat_55 (fun H locs hS => ?_)
          refine lv_if_eq (tgt := 84) hx hb dX10_coat_58 (by decide) (fun c20 => ?_) (fun c20 => ?_)
          · have hX := if_bf c20 hX
            refine lv_iconst (v := (-1)) hx hb dX10_coat_84 (by decide) ?_
            obtain rfl := some_of hX
            exact x_I (v := (-1)) X hS dX10_coat_85
          · have hX := if_bt c20 hX
            refine lv_aload_n hx hb dX10_coat_61 rfl (lv_at hl 0 rfl) ?_
            refine lv_iconst (v := nI 2) hx hb dX10_coat_62 (by decide) ?_
            refine lv_bipush (v := nI 9) hx hb dX10_coat_63 (by decide) ?_
            refine lv_iload_n hx hb dX10_coat_65 rfl (lv_at hl 2 rfl) ?_
            refine lv_bipush (v := nI 10) hx hb dX10_coat_66 (by decide) ?_
            obtain ⟨g21, hX⟩ := gnz_of hX
            refine lv_idiv hx hb dX10_coat_68 g21 ?_
            refine lv_iconst (v := nI 1) hx hb dX10_coat_69 (by decide) ?_
            refine lv_isub hx hb dX10_coat_70 ?_
            refine lv_imul hx hb dX10_coat_71 ?_
            refine lv_iadd hx hb dX10_coat_72 ?_
            refine lv_iload_n hx hb dX10_coat_73 rfl (lv_at hl 2 rfl) ?_
            refine lv_bipush (v := nI 10) hx hb dX10_coat_74 (by decide) ?_
            obtain ⟨g22, hX⟩ := gnz_of hX
            refine lv_irem hx hb dX10_coat_76 g22 ?_
            refine lv_iadd hx hb dX10_coat_77 ?_
            obtain ⟨r24, h23, hX⟩ := bn_of hX
            refine r_callV1 (v := .int r24) (As := [.int (((nI 2) + ((nI 9) * ((a2 / (nI 10)) - (nI 1)))) + (a2 - a2 / (nI 10) * (nI 10)))]) (rest := []) X hS (m_X10_of hN h23) mv_X10_of rfl (hN) t6_220 ⟨rfl, rfl, Nat.le_of_ble_eq_true rfl, Nat.le_of_ble_eq_true rfl⟩ rfl hl.1 rfl (Nat.le_of_ble_eq_true rfl) ⟨Nat.zero_le _, Nat.zero_le _⟩ dX10_coat_78 (fun H locs hS => ?_)
            refine lv_goto (tgt := 85) hx hb dX10_coat_81 (by decide) ?_
            obtain rfl := some_of hX
            exact x_I (v := r24) X hS dX10_coat_85
      · have hX := if_bt c8 hX
        refine lv_aload_n hx hb dX10_coat_27 rfl (lv_at hl 0 rfl) ?_
        refine lv_bipush (v := nI 38) hx hb dX10_coat_28 (by decide) ?_
        refine lv_iload_n hx hb dX10_coat_30 rfl (lv_at hl 2 rfl) ?_
        refine lv_iadd hx hb dX10_coat_31 ?_
        refine lv_bipush (v := nI 100) hx hb dX10_coat_32 (by decide) ?_
        refine lv_isub hx hb dX10_coat_34 ?_
        obtain ⟨r26, h25, hX⟩ := bn_of hX
        refine r_callV1 (v := .int r26) (As := [.int (((nI 38) + a2) - (nI 100))]) (rest := []) X hS (m_X10_of hN h25) mv_X10_of rfl (hN) t6_220 ⟨rfl, rfl, Nat.le_of_ble_eq_true rfl, Nat.le_of_ble_eq_true rfl⟩ rfl hl.1 rfl (Nat.le_of_ble_eq_true rfl) ⟨Nat.zero_le _, Nat.zero_le _⟩ dX10_coat_35 (fun H locs hS => ?_)
        obtain rfl := some_of hX
        exact x_I (v := r26) X hS dX10_coat_38
    · have hX := if_bf c5 hX
      refine lv_iconst (v := (-1)) hx hb dX10_coat_13 (by decide) ?_
      obtain rfl := some_of hX
      exact x_I (v := (-1)) X hS dX10_coat_14
  rw [hH, hlo] at hgoal
  exact hgoal
theorem mv_X10_coat : Mv yX10_coat RX10 cX10_coat 3 ((some .int)) 2 := ⟨t6_215, t6_213, t6_214, t1_11, ⟨by decide, by decide⟩, by decide +kernel⟩
/-! SewnYearModel.deeds()I -/
def rm_X10_deeds : Room := { frames := 0, cells := 0, slots := 0, locals := 0 }
def f_X10_deeds (M : Mem) : Option (Int32) :=
  gin ((nI 81) * (gI M 100 26)) 648 <| some (gA M 100 7 (ix ((nI 81) * (gI M 100 26))))
set_option maxRecDepth 100000 in
set_option maxHeartbeats 4000000 in
theorem m_X10_deeds {l : Launch} {D : va_G} {cy : Nat → ClassId} {ad : Nat → Nat → Nat} {ns : List (Nat × Nat)} {A : Nat → Prop} {M : Mem} (hN : Ob ns 10 100) {r : Int32} (hX : f_X10_deeds M = some r) : Ct l yX10_deeds cX10_deeds 1 ((some .int)) rm_X10_deeds D cy ad ns A [.ref (ad 100 0)] M M (some (.int r)) := by
  refine ct_of (lv := [(0, .ref (ad 100 0))]) (by decide) (Nat.le_of_ble_eq_true rfl) rfl ?_
  intro p e s m args below meth c ls X hl hS
  obtain ⟨hx, hb, hml, hown, hts, hK, hr, hlk, hA, hG⟩ := id X
  obtain ⟨H, hH⟩ : ∃ z, z = s.heap := ⟨_, rfl⟩
  obtain ⟨locs, hlo⟩ : ∃ z : List Loc, z = [] := ⟨_, rfl⟩
  have hS : St D cy ad ns A M s.heap H locs := by rw [hH, hlo]; exact hS
  have hgoal : W p l e rm_X10_deeds s m args below meth c H locs 0 0 (MQ below (QC D cy ad ns A M (some (.int r))) args s 0 0 A) (F0 m 0 ls []) := by
    unfold f_X10_deeds at hX
    refine lv_aload_n hx hb dX10_deeds_0 rfl (lv_at hl 0 rfl) ?_
    refine fg_X10_29 X hS (hN) dX10_deeds_1 ?_
    refine lv_bipush (v := nI 81) hx hb dX10_deeds_4 (by decide) ?_
    refine lv_aload_n hx hb dX10_deeds_6 rfl (lv_at hl 0 rfl) ?_
    refine fg_X10_293 X hS (hN) dX10_deeds_7 ?_
    refine lv_imul hx hb dX10_deeds_10 ?_
    obtain ⟨g1, hX⟩ := gin_of hX
    refine r_iald (ci := 10) (o := 100) (k := 7) (n := 648) X hS (hN) rfl rfl g1 dX10_deeds_11 ?_
    obtain rfl := some_of hX
    exact x_I (v := (gA M 100 7 (ix ((nI 81) * (gI M 100 26))))) X hS dX10_deeds_12
  rw [hH, hlo] at hgoal
  exact hgoal
theorem mv_X10_deeds : Mv yX10_deeds RX10 cX10_deeds 1 ((some .int)) 0 := ⟨t6_239, t6_238, ts_35, t1_11, ⟨by decide, by decide⟩, by decide +kernel⟩
/-! SewnYearModel.deedOf(II)I -/
def rm_X10_deedOf : Room := { frames := 0, cells := 0, slots := 0, locals := 0 }
def f_X10_deedOf (M : Mem) (a1 : Int32) (a2 : Int32) : Option (Int32) :=
  gin (((((nI 81) * (gI M 100 26)) + (nI 1)) + ((nI 2) * a1)) + a2) 648 <| some (gA M 100 7 (ix (((((nI 81) * (gI M 100 26)) + (nI 1)) + ((nI 2) * a1)) + a2)))
set_option maxRecDepth 100000 in
set_option maxHeartbeats 4000000 in
theorem m_X10_deedOf {l : Launch} {D : va_G} {cy : Nat → ClassId} {ad : Nat → Nat → Nat} {ns : List (Nat × Nat)} {A : Nat → Prop} {M : Mem} (hN : Ob ns 10 100) {a1 : Int32} {a2 : Int32} {r : Int32} (hX : f_X10_deedOf M a1 a2 = some r) : Ct l yX10_deedOf cX10_deedOf 3 ((some .int)) rm_X10_deedOf D cy ad ns A [.ref (ad 100 0), .int a1, .int a2] M M (some (.int r)) := by
  refine ct_of (lv := [(0, .ref (ad 100 0)), (1, .int a1), (2, .int a2)]) (by decide) (Nat.le_of_ble_eq_true rfl) rfl ?_
  intro p e s m args below meth c ls X hl hS
  obtain ⟨hx, hb, hml, hown, hts, hK, hr, hlk, hA, hG⟩ := id X
  obtain ⟨H, hH⟩ : ∃ z, z = s.heap := ⟨_, rfl⟩
  obtain ⟨locs, hlo⟩ : ∃ z : List Loc, z = [] := ⟨_, rfl⟩
  have hS : St D cy ad ns A M s.heap H locs := by rw [hH, hlo]; exact hS
  have hgoal : W p l e rm_X10_deedOf s m args below meth c H locs 0 0 (MQ below (QC D cy ad ns A M (some (.int r))) args s 0 0 A) (F0 m 0 ls []) := by
    unfold f_X10_deedOf at hX
    refine lv_aload_n hx hb dX10_deedOf_0 rfl (lv_at hl 0 rfl) ?_
    refine fg_X10_29 X hS (hN) dX10_deedOf_1 ?_
    refine lv_bipush (v := nI 81) hx hb dX10_deedOf_4 (by decide) ?_
    refine lv_aload_n hx hb dX10_deedOf_6 rfl (lv_at hl 0 rfl) ?_
    refine fg_X10_293 X hS (hN) dX10_deedOf_7 ?_
    refine lv_imul hx hb dX10_deedOf_10 ?_
    refine lv_iconst (v := nI 1) hx hb dX10_deedOf_11 (by decide) ?_
    refine lv_iadd hx hb dX10_deedOf_12 ?_
    refine lv_iconst (v := nI 2) hx hb dX10_deedOf_13 (by decide) ?_
    refine lv_iload_n hx hb dX10_deedOf_14 rfl (lv_at hl 1 rfl) ?_
    refine lv_imul hx hb dX10_deedOf_15 ?_
    refine lv_iadd hx hb dX10_deedOf_16 ?_
    refine lv_iload_n hx hb dX10_deedOf_17 rfl (lv_at hl 2 rfl) ?_
    refine lv_iadd hx hb dX10_deedOf_18 ?_
    obtain ⟨g1, hX⟩ := gin_of hX
    refine r_iald (ci := 10) (o := 100) (k := 7) (n := 648) X hS (hN) rfl rfl g1 dX10_deedOf_19 ?_
    obtain rfl := some_of hX
    exact x_I (v := (gA M 100 7 (ix (((((nI 81) * (gI M 100 26)) + (nI 1)) + ((nI 2) * a1)) + a2)))) X hS dX10_deedOf_20
  rw [hH, hlo] at hgoal
  exact hgoal
theorem mv_X10_deedOf : Mv yX10_deedOf RX10 cX10_deedOf 3 ((some .int)) 2 := ⟨t7_3, t7_2, ts_36, t1_11, ⟨by decide, by decide⟩, by decide +kernel⟩
/-! SewnYearModel.hasLife(I)Z -/
def rm_X10_hasLife : Room := { frames := 2, cells := 0, slots := 0, locals := 44 }
def f_X10_hasLife (M : Mem) (a1 : Int32) : Option (Bool × Mem) :=
  nm (sI M 100 26 a1) fun M1 => bn (f_X10_is M1 (nI 1) a1) fun r3 => some (r3, M1)
set_option maxRecDepth 100000 in
set_option maxHeartbeats 4000000 in
theorem m_X10_hasLife {l : Launch} {D : va_G} {cy : Nat → ClassId} {ad : Nat → Nat → Nat} {ns : List (Nat × Nat)} {A : Nat → Prop} {M : Mem} (hN : Ob ns 10 100) {a1 : Int32} {r : Bool × Mem} (hX : f_X10_hasLife M a1 = some r) : Ct l yX10_hasLife cX10_hasLife 2 ((some .boolean)) rm_X10_hasLife D cy ad ns A [.ref (ad 100 0), .int a1] M r.2 (some (.int (b2i r.1))) := by
  refine ct_of (lv := [(0, .ref (ad 100 0)), (1, .int a1)]) (by decide) (Nat.le_of_ble_eq_true rfl) rfl ?_
  intro p e s m args below meth c ls X hl hS
  obtain ⟨hx, hb, hml, hown, hts, hK, hr, hlk, hA, hG⟩ := id X
  obtain ⟨H, hH⟩ : ∃ z, z = s.heap := ⟨_, rfl⟩
  obtain ⟨locs, hlo⟩ : ∃ z : List Loc, z = [] := ⟨_, rfl⟩
  have hS : St D cy ad ns A M s.heap H locs := by rw [hH, hlo]; exact hS
  have hgoal : W p l e rm_X10_hasLife s m args below meth c H locs 0 0 (MQ below (QC D cy ad ns A r.2 (some (.int (b2i r.1)))) args s 0 0 A) (F0 m 0 ls []) := by
    unfold f_X10_hasLife at hX
    refine lv_aload_n hx hb dX10_hasLife_0 rfl (lv_at hl 0 rfl) ?_
    refine lv_iload_n hx hb dX10_hasLife_1 rfl (lv_at hl 1 rfl) ?_
    refine fp_X10_293 X hS (hN) dX10_hasLife_2 (fun H locs hS => ?_)
    obtain ⟨M1, eM1, hS, hX⟩ := nm_mem hS hX
    refine lv_aload_n hx hb dX10_hasLife_5 rfl (lv_at hl 0 rfl) ?_
    refine lv_iconst (v := nI 1) hx hb dX10_hasLife_6 (by decide) ?_
    refine lv_iload_n hx hb dX10_hasLife_7 rfl (lv_at hl 1 rfl) ?_
    obtain ⟨r3, h2, hX⟩ := bn_of hX
    refine r_callV1 (v := .int (b2i r3)) (As := [.int (nI 1), .int a1]) (rest := []) X hS (m_X10_is hN h2) mv_X10_is rfl (hN) t6_88 ⟨rfl, rfl, Nat.le_of_ble_eq_true rfl, Nat.le_of_ble_eq_true rfl⟩ rfl hl.1 rfl (Nat.le_of_ble_eq_true rfl) ⟨Nat.zero_le _, Nat.zero_le _⟩ dX10_hasLife_8 (fun H locs hS => ?_)
    obtain rfl := some_of hX
    exact x_Z (v := r3) X hS dX10_hasLife_11
  rw [hH, hlo] at hgoal
  exact hgoal
theorem mv_X10_hasLife : Mv yX10_hasLife RX10 cX10_hasLife 2 ((some .boolean)) 1 := ⟨t6_235, t6_234, ts_34, t1_11, ⟨by decide, by decide⟩, by decide +kernel⟩
/-! SewnYearModel.deed(III)I -/
def rm_X10_deed : Room := { frames := 3, cells := 0, slots := 0, locals := 65 }
def f_X10_deed (M : Mem) (a1 : Int32) (a2 : Int32) (a3 : Int32) : Option (Int32 × Mem) :=
  nm (sI M 100 0 (nI 0)) fun M1 => bp (f_X10_hasLife M1 a1) fun r4 M3 => if r4 = true then (if a2 = (-1) then (if a3 = (nI 0) then (bn (f_X10_deeds M3) fun r19 => some (r19, M3)) else (some ((-2), M3))) else (bn (f_X10_deeds M3) fun r8 => bn (f_X10_in a2 (nI 0) (r8 - (nI 1))) fun r10 => if r10 = true then (bn (f_X10_in a3 (nI 0) (nI 1)) fun r13 => if r13 = true then (bn (f_X10_deedOf M3 a2 a3) fun r16 => some (r16, M3)) else (some ((-2), M3))) else (some ((-2), M3)))) else (some ((-2), M3))
set_option maxRecDepth 100000 in
set_option maxHeartbeats 4000000 in
theorem m_X10_deed {l : Launch} {D : va_G} {cy : Nat → ClassId} {ad : Nat → Nat → Nat} {ns : List (Nat × Nat)} {A : Nat → Prop} {M : Mem} (hN : Ob ns 10 100) {a1 : Int32} {a2 : Int32} {a3 : Int32} {r : Int32 × Mem} (hX : f_X10_deed M a1 a2 a3 = some r) : Ct l yX10_deed cX10_deed 4 ((some .int)) rm_X10_deed D cy ad ns A [.ref (ad 100 0), .int a1, .int a2, .int a3] M r.2 (some (.int r.1)) := by
  refine ct_of (lv := [(0, .ref (ad 100 0)), (1, .int a1), (2, .int a2), (3, .int a3)]) (by decide) (Nat.le_of_ble_eq_true rfl) rfl ?_
  intro p e s m args below meth c ls X hl hS
  obtain ⟨hx, hb, hml, hown, hts, hK, hr, hlk, hA, hG⟩ := id X
  obtain ⟨H, hH⟩ : ∃ z, z = s.heap := ⟨_, rfl⟩
  obtain ⟨locs, hlo⟩ : ∃ z : List Loc, z = [] := ⟨_, rfl⟩
  have hS : St D cy ad ns A M s.heap H locs := by rw [hH, hlo]; exact hS
  have hgoal : W p l e rm_X10_deed s m args below meth c H locs 0 0 (MQ below (QC D cy ad ns A r.2 (some (.int r.1))) args s 0 0 A) (F0 m 0 ls []) := by
    unfold f_X10_deed at hX
    refine lv_aload_n hx hb dX10_deed_0 rfl (lv_at hl 0 rfl) ?_
    refine lv_iconst (v := nI 0) hx hb dX10_deed_1 (by decide) ?_
    refine fp_X10_94 X hS (hN) dX10_deed_2 (fun H locs hS => ?_)
    obtain ⟨M1, eM1, hS, hX⟩ := nm_mem hS hX
    refine lv_aload_n hx hb dX10_deed_5 rfl (lv_at hl 0 rfl) ?_
    refine lv_iload_n hx hb dX10_deed_6 rfl (lv_at hl 1 rfl) ?_
    obtain ⟨r4, M3, h2, hX⟩ := bp_of hX
    refine r_callV1 (v := .int (b2i r4)) (As := [.int a1]) (rest := []) X hS (m_X10_hasLife hN h2) mv_X10_hasLife rfl (hN) t6_232 ⟨rfl, rfl, Nat.le_of_ble_eq_true rfl, Nat.le_of_ble_eq_true rfl⟩ rfl hl.1 rfl (Nat.le_of_ble_eq_true rfl) ⟨Nat.zero_le _, Nat.zero_le _⟩ dX10_deed_7 (fun H locs hS => ?_)
    refine lv_if_ne (tgt := 16) hx hb dX10_deed_10 (by decide) (fun c5 => ?_) (fun c5 => ?_)
    · have hX := if_bt c5 hX
      refine lv_iload_n hx hb dX10_deed_16 rfl (lv_at hl 2 rfl) ?_
      refine lv_iconst (v := (-1)) hx hb dX10_deed_17 (by decide) ?_
      refine lv_icmp_ne (tgt := 35) hx hb dX10_deed_18 (by decide) (fun c6 => ?_) (fun c6 => ?_)
      · have hX := if_f c6 hX
        refine lv_iload_n hx hb dX10_deed_35 rfl (lv_at hl 2 rfl) ?_
        refine lv_iconst (v := nI 0) hx hb dX10_deed_36 (by decide) ?_
        refine lv_aload_n hx hb dX10_deed_37 rfl (lv_at hl 0 rfl) ?_
        obtain ⟨r8, h7, hX⟩ := bn_of hX
        refine r_callV1 (v := .int r8) (As := []) (rest := [.int (nI 0), .int a2]) X hS (m_X10_deeds hN h7) mv_X10_deeds rfl (hN) t6_236 ⟨rfl, rfl, Nat.le_of_ble_eq_true rfl, Nat.le_of_ble_eq_true rfl⟩ rfl hl.1 rfl (Nat.le_of_ble_eq_true rfl) ⟨Nat.zero_le _, Nat.zero_le _⟩ dX10_deed_38 (fun H locs hS => ?_)
        refine lv_iconst (v := nI 1) hx hb dX10_deed_41 (by decide) ?_
        refine lv_isub hx hb dX10_deed_42 ?_
        obtain ⟨r10, h9, hX⟩ := bn_of hX
        refine r_callS1 (v := .int (b2i r10)) (As := [.int a2, .int (nI 0), .int (r8 - (nI 1))]) (rest := []) X hS (m_X10_in (M := M3) hN h9) ms_X10_in t6_81 ⟨rfl, rfl, Nat.le_of_ble_eq_true rfl, Nat.le_of_ble_eq_true rfl⟩ rfl hl.1 rfl (Nat.le_of_ble_eq_true rfl) ⟨Nat.zero_le _, Nat.zero_le _⟩ dX10_deed_43 (fun H locs hS => ?_)
        refine lv_if_eq (tgt := 67) hx hb dX10_deed_46 (by decide) (fun c11 => ?_) (fun c11 => ?_)
        · have hX := if_bf c11 hX
          refine lv_bipush (v := (-2)) hx hb dX10_deed_67 (by decide) ?_
          obtain rfl := some_of hX
          exact x_I (v := (-2)) X hS dX10_deed_69
        · have hX := if_bt c11 hX
          refine lv_iload_n hx hb dX10_deed_49 rfl (lv_at hl 3 rfl) ?_
          refine lv_iconst (v := nI 0) hx hb dX10_deed_50 (by decide) ?_
          refine lv_iconst (v := nI 1) hx hb dX10_deed_51 (by decide) ?_
          obtain ⟨r13, h12, hX⟩ := bn_of hX
          refine r_callS1 (v := .int (b2i r13)) (As := [.int a3, .int (nI 0), .int (nI 1)]) (rest := []) X hS (m_X10_in (M := M3) hN h12) ms_X10_in t6_81 ⟨rfl, rfl, Nat.le_of_ble_eq_true rfl, Nat.le_of_ble_eq_true rfl⟩ rfl hl.1 rfl (Nat.le_of_ble_eq_true rfl) ⟨Nat.zero_le _, Nat.zero_le _⟩ dX10_deed_52 (fun H locs hS => ?_)
          refine lv_if_eq (tgt := 67) hx hb dX10_deed_55 (by decide) (fun c14 => ?_) (fun c14 => ?_)
          · have hX := if_bf c14 hX
            refine lv_bipush (v := (-2)) hx hb dX10_deed_67 (by decide) ?_
            obtain rfl := some_of hX
            exact x_I (v := (-2)) X hS dX10_deed_69
          · have hX := if_bt c14 hX
            refine lv_aload_n hx hb dX10_deed_58 rfl (lv_at hl 0 rfl) ?_
            refine lv_iload_n hx hb dX10_deed_59 rfl (lv_at hl 2 rfl) ?_
            refine lv_iload_n hx hb dX10_deed_60 rfl (lv_at hl 3 rfl) ?_
            obtain ⟨r16, h15, hX⟩ := bn_of hX
            refine r_callV1 (v := .int r16) (As := [.int a2, .int a3]) (rest := []) X hS (m_X10_deedOf hN h15) mv_X10_deedOf rfl (hN) t7_0 ⟨rfl, rfl, Nat.le_of_ble_eq_true rfl, Nat.le_of_ble_eq_true rfl⟩ rfl hl.1 rfl (Nat.le_of_ble_eq_true rfl) ⟨Nat.zero_le _, Nat.zero_le _⟩ dX10_deed_61 (fun H locs hS => ?_)
            refine lv_goto (tgt := 69) hx hb dX10_deed_64 (by decide) ?_
            obtain rfl := some_of hX
            exact x_I (v := r16) X hS dX10_deed_69
      · have hX := if_t c6 hX
        refine lv_iload_n hx hb dX10_deed_21 rfl (lv_at hl 3 rfl) ?_
        refine lv_if_ne (tgt := 32) hx hb dX10_deed_22 (by decide) (fun c17 => ?_) (fun c17 => ?_)
        · have hX := if_f c17 hX
          refine lv_bipush (v := (-2)) hx hb dX10_deed_32 (by decide) ?_
          obtain rfl := some_of hX
          exact x_I (v := (-2)) X hS dX10_deed_34
        · have hX := if_t c17 hX
          refine lv_aload_n hx hb dX10_deed_25 rfl (lv_at hl 0 rfl) ?_
          obtain ⟨r19, h18, hX⟩ := bn_of hX
          refine r_callV1 (v := .int r19) (As := []) (rest := []) X hS (m_X10_deeds hN h18) mv_X10_deeds rfl (hN) t6_236 ⟨rfl, rfl, Nat.le_of_ble_eq_true rfl, Nat.le_of_ble_eq_true rfl⟩ rfl hl.1 rfl (Nat.le_of_ble_eq_true rfl) ⟨Nat.zero_le _, Nat.zero_le _⟩ dX10_deed_26 (fun H locs hS => ?_)
          refine lv_goto (tgt := 34) hx hb dX10_deed_29 (by decide) ?_
          obtain rfl := some_of hX
          exact x_I (v := r19) X hS dX10_deed_34
    · have hX := if_bf c5 hX
      refine lv_bipush (v := (-2)) hx hb dX10_deed_13 (by decide) ?_
      obtain rfl := some_of hX
      exact x_I (v := (-2)) X hS dX10_deed_15
  rw [hH, hlo] at hgoal
  exact hgoal
theorem mv_X10_deed : Mv yX10_deed RX10 cX10_deed 4 ((some .int)) 3 := ⟨t6_231, t6_229, t6_230, t1_11, ⟨by decide, by decide⟩, by decide +kernel⟩
/-! SewnYearModel.begin()V -/
def rm_X10_begin : Room := { frames := 1, cells := 0, slots := 0, locals := 21 }
def b_X10_begin_2 (rc : Int32 → Mem → Option (Mem)) (v_1 : Int32) (M : Mem) : Option (Mem) :=
  if (nI 9) ≤ v_1 then (nm (sI M 100 29 (nI 0)) fun M2 => bn (f_X10_of M2 (nI 38)) fun r4 => nm (sI M2 100 30 r4) fun M5 => nm (sI M5 100 31 (nI 0)) fun M6 => nm (sI M6 100 32 (nI 0)) fun M7 => nm (sI M7 100 33 (nI 0)) fun M8 => some M8) else (gin v_1 9 <| nm (sA M 100 27 (ix v_1) (nI 0)) fun M10 => gin v_1 9 <| nm (sA M10 100 28 (ix v_1) (-1000)) fun M12 => nm (v_1 + nI 1) fun v13 => rc v13 M12)
def f_X10_begin_2 : Nat → (Int32 × Mem) → Option (Mem) := lp (fun rc q => b_X10_begin_2 (fun x0 x1 => rc (x0, x1)) q.1 q.2)
def f_X10_begin (M : Mem) : Option (Mem) :=
  f_X10_begin_2 FU ((nI 0), M)
set_option maxRecDepth 100000 in
set_option maxHeartbeats 4000000 in
theorem n_X10_begin_2 (X : Cx p s m args meth c D cy ad A RX10 cX10_begin 2 ((none : Option Jvm.ClassFile.FieldType))) (hN : Ob ns 10 100) : ∀ (n : Nat) (v_1 : Int32) (M : Mem) (r : Mem), f_X10_begin_2 n (v_1, M) = some r → ∀ (ls : Array Slot) (H : Heap) (locs : List Loc), lv_has ls 2 [(0, .ref (ad 100 0)), (1, .int v_1)] → St D cy ad ns A M s.heap H locs → W p l e rm_X10_begin s m args below meth c H locs 0 0 (MQ below (QC D cy ad ns A r none) args s 0 0 A) (F0 m 2 ls []) := by
  obtain ⟨hx, hb, hml, hown, hts, hK, hr, hlk, hA, hG⟩ := id X
  intro n
  induction n with
  | zero => intro v_1 M r hX; cases (show (none : Option (Mem)) = some r from hX)
  | succ n ih =>
    intro v_1 M r hX ls H locs hl hS
    have hX : b_X10_begin_2 (fun x0 x1 => f_X10_begin_2 n (x0, x1)) v_1 M = some r := hX
    unfold b_X10_begin_2 at hX
    refine lv_iload_n hx hb dX10_begin_2 rfl (lv_at hl 1 rfl) ?_
    refine lv_bipush (v := nI 9) hx hb dX10_begin_3 (by decide) ?_
    refine lv_icmp_ge (tgt := 30) hx hb dX10_begin_5 (by decide) (fun c1 => ?_) (fun c1 => ?_)
    · have hX := if_t c1 hX
      refine lv_aload_n hx hb dX10_begin_30 rfl (lv_at hl 0 rfl) ?_
      refine lv_iconst (v := nI 0) hx hb dX10_begin_31 (by decide) ?_
      refine fp_X10_305 X hS (hN) dX10_begin_32 (fun H locs hS => ?_)
      obtain ⟨M2, eM2, hS, hX⟩ := nm_mem hS hX
      refine lv_aload_n hx hb dX10_begin_35 rfl (lv_at hl 0 rfl) ?_
      refine lv_aload_n hx hb dX10_begin_36 rfl (lv_at hl 0 rfl) ?_
      refine lv_bipush (v := nI 38) hx hb dX10_begin_37 (by decide) ?_
      obtain ⟨r4, h3, hX⟩ := bn_of hX
      refine r_callV1 (v := .int r4) (As := [.int (nI 38)]) (rest := [.ref (ad 100 0)]) X hS (m_X10_of hN h3) mv_X10_of rfl (hN) t6_220 ⟨rfl, rfl, Nat.le_of_ble_eq_true rfl, Nat.le_of_ble_eq_true rfl⟩ rfl hl.1 rfl (Nat.le_of_ble_eq_true rfl) ⟨Nat.zero_le _, Nat.zero_le _⟩ dX10_begin_39 (fun H locs hS => ?_)
      refine fp_X10_308 X hS (hN) dX10_begin_42 (fun H locs hS => ?_)
      obtain ⟨M5, eM5, hS, hX⟩ := nm_mem hS hX
      refine lv_aload_n hx hb dX10_begin_45 rfl (lv_at hl 0 rfl) ?_
      refine lv_iconst (v := nI 0) hx hb dX10_begin_46 (by decide) ?_
      refine fp_X10_311 X hS (hN) dX10_begin_47 (fun H locs hS => ?_)
      obtain ⟨M6, eM6, hS, hX⟩ := nm_mem hS hX
      refine lv_aload_n hx hb dX10_begin_50 rfl (lv_at hl 0 rfl) ?_
      refine lv_iconst (v := nI 0) hx hb dX10_begin_51 (by decide) ?_
      refine fp_X10_314 X hS (hN) dX10_begin_52 (fun H locs hS => ?_)
      obtain ⟨M7, eM7, hS, hX⟩ := nm_mem hS hX
      refine lv_aload_n hx hb dX10_begin_55 rfl (lv_at hl 0 rfl) ?_
      refine lv_iconst (v := nI 0) hx hb dX10_begin_56 (by decide) ?_
      refine fp_X10_317 X hS (hN) dX10_begin_57 (fun H locs hS => ?_)
      obtain ⟨M8, eM8, hS, hX⟩ := nm_mem hS hX
      obtain rfl := some_of hX
      exact x_V X hS dX10_begin_60
    · have hX := if_f c1 hX
      refine lv_aload_n hx hb dX10_begin_8 rfl (lv_at hl 0 rfl) ?_
      refine fg_X10_44 X hS (hN) dX10_begin_9 ?_
      refine lv_iload_n hx hb dX10_begin_12 rfl (lv_at hl 1 rfl) ?_
      refine lv_iconst (v := nI 0) hx hb dX10_begin_13 (by decide) ?_
      obtain ⟨g9, hX⟩ := gin_of hX
      refine r_iast (ci := 10) (o := 100) (k := 27) (n := 9) X hS (hN) rfl rfl g9 dX10_begin_14 (fun H locs hS => ?_)
      obtain ⟨M10, eM10, hS, hX⟩ := nm_mem hS hX
      refine lv_aload_n hx hb dX10_begin_15 rfl (lv_at hl 0 rfl) ?_
      refine fg_X10_47 X hS (hN) dX10_begin_16 ?_
      refine lv_iload_n hx hb dX10_begin_19 rfl (lv_at hl 1 rfl) ?_
      refine lv_sipush (v := (-1000)) hx hb dX10_begin_20 (by decide) ?_
      obtain ⟨g11, hX⟩ := gin_of hX
      refine r_iast (ci := 10) (o := 100) (k := 28) (n := 9) X hS (hN) rfl rfl g11 dX10_begin_23 (fun H locs hS => ?_)
      obtain ⟨M12, eM12, hS, hX⟩ := nm_mem hS hX
      obtain ⟨v13, ev13⟩ : ∃ y : Int32, y = (v_1 + nI 1) := ⟨_, rfl⟩
      have hX := nm_of ev13 hX
      refine lv_iinc (v := v13) (lv' := [(1, .int v13), (0, .ref (ad 100 0))]) hx hb dX10_begin_24 hl (k := 1) rfl (by rw [ev13]; rfl) (by decide) rfl (fun ls hl => ?_)
      refine lv_goto (tgt := 2) hx hb dX10_begin_27 (by decide) ?_
      exact ih _ _ _ hX _ _ _ (lv_sub hl [1, 0] rfl) hS
set_option maxRecDepth 100000 in
set_option maxHeartbeats 4000000 in
theorem m_X10_begin {l : Launch} {D : va_G} {cy : Nat → ClassId} {ad : Nat → Nat → Nat} {ns : List (Nat × Nat)} {A : Nat → Prop} {M : Mem} (hN : Ob ns 10 100) {r : Mem} (hX : f_X10_begin M = some r) : Ct l yX10_begin cX10_begin 2 ((none : Option Jvm.ClassFile.FieldType)) rm_X10_begin D cy ad ns A [.ref (ad 100 0)] M r none := by
  refine ct_of (lv := [(0, .ref (ad 100 0))]) (by decide) (Nat.le_of_ble_eq_true rfl) rfl ?_
  intro p e s m args below meth c ls X hl hS
  obtain ⟨hx, hb, hml, hown, hts, hK, hr, hlk, hA, hG⟩ := id X
  obtain ⟨H, hH⟩ : ∃ z, z = s.heap := ⟨_, rfl⟩
  obtain ⟨locs, hlo⟩ : ∃ z : List Loc, z = [] := ⟨_, rfl⟩
  have hS : St D cy ad ns A M s.heap H locs := by rw [hH, hlo]; exact hS
  have hgoal : W p l e rm_X10_begin s m args below meth c H locs 0 0 (MQ below (QC D cy ad ns A r none) args s 0 0 A) (F0 m 0 ls []) := by
    unfold f_X10_begin at hX
    refine lv_iconst (v := nI 0) hx hb dX10_begin_0 (by decide) ?_
    refine lv_istore_n (lv' := [(1, .int (nI 0)), (0, .ref (ad 100 0))]) hx hb dX10_begin_1 rfl hl (by decide) rfl (fun ls hl => ?_)
    exact n_X10_begin_2 X hN _ _ _ _ hX _ _ _ (lv_sub hl [1, 0] rfl) hS
  rw [hH, hlo] at hgoal
  exact hgoal
theorem mv_X10_begin : Mv yX10_begin RX10 cX10_begin 2 ((none : Option Jvm.ClassFile.FieldType)) 0 := ⟨t7_19, t7_18, ts_39, t1_11, ⟨by decide, by decide⟩, by decide +kernel⟩
/-! SewnYearModel.isWhole(I)Z -/
def rm_X10_isWhole : Room := { frames := 1, cells := 0, slots := 0, locals := 21 }
def f_X10_isWhole (M : Mem) (a1 : Int32) : Option (Bool) :=
  gin a1 9 <| bn (f_X10_of M ((nI 2) + a1)) fun r3 => if (gA M 100 27 (ix a1)) = r3 then (some true) else (some false)
set_option maxRecDepth 100000 in
set_option maxHeartbeats 4000000 in
theorem m_X10_isWhole {l : Launch} {D : va_G} {cy : Nat → ClassId} {ad : Nat → Nat → Nat} {ns : List (Nat × Nat)} {A : Nat → Prop} {M : Mem} (hN : Ob ns 10 100) {a1 : Int32} {r : Bool} (hX : f_X10_isWhole M a1 = some r) : Ct l yX10_isWhole cX10_isWhole 2 ((some .boolean)) rm_X10_isWhole D cy ad ns A [.ref (ad 100 0), .int a1] M M (some (.int (b2i r))) := by
  refine ct_of (lv := [(0, .ref (ad 100 0)), (1, .int a1)]) (by decide) (Nat.le_of_ble_eq_true rfl) rfl ?_
  intro p e s m args below meth c ls X hl hS
  obtain ⟨hx, hb, hml, hown, hts, hK, hr, hlk, hA, hG⟩ := id X
  obtain ⟨H, hH⟩ : ∃ z, z = s.heap := ⟨_, rfl⟩
  obtain ⟨locs, hlo⟩ : ∃ z : List Loc, z = [] := ⟨_, rfl⟩
  have hS : St D cy ad ns A M s.heap H locs := by rw [hH, hlo]; exact hS
  have hgoal : W p l e rm_X10_isWhole s m args below meth c H locs 0 0 (MQ below (QC D cy ad ns A M (some (.int (b2i r)))) args s 0 0 A) (F0 m 0 ls []) := by
    unfold f_X10_isWhole at hX
    refine lv_aload_n hx hb dX10_isWhole_0 rfl (lv_at hl 0 rfl) ?_
    refine fg_X10_44 X hS (hN) dX10_isWhole_1 ?_
    refine lv_iload_n hx hb dX10_isWhole_4 rfl (lv_at hl 1 rfl) ?_
    obtain ⟨g1, hX⟩ := gin_of hX
    refine r_iald (ci := 10) (o := 100) (k := 27) (n := 9) X hS (hN) rfl rfl g1 dX10_isWhole_5 ?_
    refine lv_aload_n hx hb dX10_isWhole_6 rfl (lv_at hl 0 rfl) ?_
    refine lv_iconst (v := nI 2) hx hb dX10_isWhole_7 (by decide) ?_
    refine lv_iload_n hx hb dX10_isWhole_8 rfl (lv_at hl 1 rfl) ?_
    refine lv_iadd hx hb dX10_isWhole_9 ?_
    obtain ⟨r3, h2, hX⟩ := bn_of hX
    refine r_callV1 (v := .int r3) (As := [.int ((nI 2) + a1)]) (rest := [.int (gA M 100 27 (ix a1))]) X hS (m_X10_of hN h2) mv_X10_of rfl (hN) t6_220 ⟨rfl, rfl, Nat.le_of_ble_eq_true rfl, Nat.le_of_ble_eq_true rfl⟩ rfl hl.1 rfl (Nat.le_of_ble_eq_true rfl) ⟨Nat.zero_le _, Nat.zero_le _⟩ dX10_isWhole_10 (fun H locs hS => ?_)
    refine lv_icmp_ne (tgt := 20) hx hb dX10_isWhole_13 (by decide) (fun c4 => ?_) (fun c4 => ?_)
    · have hX := if_f c4 hX
      refine lv_iconst (v := nI 0) hx hb dX10_isWhole_20 (by decide) ?_
      obtain rfl := some_of hX
      exact x_Z (v := false) X hS dX10_isWhole_21
    · have hX := if_t c4 hX
      refine lv_iconst (v := nI 1) hx hb dX10_isWhole_16 (by decide) ?_
      refine lv_goto (tgt := 21) hx hb dX10_isWhole_17 (by decide) ?_
      obtain rfl := some_of hX
      exact x_Z (v := true) X hS dX10_isWhole_21
  rw [hH, hlo] at hgoal
  exact hgoal
theorem mv_X10_isWhole : Mv yX10_isWhole RX10 cX10_isWhole 2 ((some .boolean)) 1 := ⟨t7_31, t7_30, ts_42, t1_11, ⟨by decide, by decide⟩, by decide +kernel⟩
/-! SewnYearModel.areWhole(I)Z -/
def rm_X10_areWhole : Room := { frames := 2, cells := 0, slots := 0, locals := 42 }
def f_X10_areWhole_28 (M : Mem) (a1 : Int32) (k_2 : Int32 → Option (Bool)) (v_2 : Int32) : Option (Bool) :=
  nm (v_2 + nI 1) fun v1 => k_2 v1
def b_X10_areWhole_2 (M : Mem) (a1 : Int32) (rc : Int32 → Option (Bool)) (v_2 : Int32) : Option (Bool) :=
  if (gI M 100 24) ≤ v_2 then (some true) else (bn (f_X10_has a1 v_2) fun r4 => if r4 = true then (bn (f_X10_isWhole M v_2) fun r7 => if r7 = true then (f_X10_areWhole_28 M a1 rc v_2) else (some false)) else (f_X10_areWhole_28 M a1 rc v_2))
def f_X10_areWhole_2 (M : Mem) (a1 : Int32) : Nat → Int32 → Option (Bool) := lp (fun rc q => b_X10_areWhole_2 M a1 (fun x0 => rc x0) q)
def f_X10_areWhole (M : Mem) (a1 : Int32) : Option (Bool) :=
  f_X10_areWhole_2 M a1 FU (nI 0)
set_option maxRecDepth 100000 in
set_option maxHeartbeats 4000000 in
theorem n_X10_areWhole_28 {a1 : Int32} (X : Cx p s m args meth c D cy ad A RX10 cX10_areWhole 3 ((some .boolean))) (hN : Ob ns 10 100) {M : Mem} {k_2 : Int32 → Option (Bool)} {v_2 : Int32} {r : Bool} (hX : f_X10_areWhole_28 M a1 k_2 v_2 = some r) : (∀ (v_2 : Int32) (r : Bool), k_2 v_2 = some r → ∀ (ls : Array Slot) (H : Heap) (locs : List Loc), lv_has ls 3 [(0, .ref (ad 100 0)), (1, .int a1), (2, .int v_2)] → St D cy ad ns A M s.heap H locs → W p l e rm_X10_areWhole s m args below meth c H locs 0 0 (MQ below (QC D cy ad ns A M (some (.int (b2i r)))) args s 0 0 A) (F0 m 2 ls [])) → ∀ (ls : Array Slot) (H : Heap) (locs : List Loc), lv_has ls 3 [(0, .ref (ad 100 0)), (1, .int a1), (2, .int v_2)] → St D cy ad ns A M s.heap H locs → W p l e rm_X10_areWhole s m args below meth c H locs 0 0 (MQ below (QC D cy ad ns A M (some (.int (b2i r)))) args s 0 0 A) (F0 m 28 ls []) := by
  obtain ⟨hx, hb, hml, hown, hts, hK, hr, hlk, hA, hG⟩ := id X
  intro hk_2 ls H locs hl hS
  unfold f_X10_areWhole_28 at hX
  obtain ⟨v1, ev1⟩ : ∃ y : Int32, y = (v_2 + nI 1) := ⟨_, rfl⟩
  have hX := nm_of ev1 hX
  refine lv_iinc (v := v1) (lv' := [(2, .int v1), (0, .ref (ad 100 0)), (1, .int a1)]) hx hb dX10_areWhole_28 hl (k := 2) rfl (by rw [ev1]; rfl) (by decide) rfl (fun ls hl => ?_)
  refine lv_goto (tgt := 2) hx hb dX10_areWhole_31 (by decide) ?_
  exact hk_2 _ _ hX _ _ _ (lv_sub hl [1, 2, 0] rfl) hS
set_option maxRecDepth 100000 in
set_option maxHeartbeats 4000000 in
theorem n_X10_areWhole_2 {a1 : Int32} (X : Cx p s m args meth c D cy ad A RX10 cX10_areWhole 3 ((some .boolean))) (hN : Ob ns 10 100) {M : Mem} : ∀ (n : Nat) (v_2 : Int32) (r : Bool), f_X10_areWhole_2 M a1 n v_2 = some r → ∀ (ls : Array Slot) (H : Heap) (locs : List Loc), lv_has ls 3 [(0, .ref (ad 100 0)), (1, .int a1), (2, .int v_2)] → St D cy ad ns A M s.heap H locs → W p l e rm_X10_areWhole s m args below meth c H locs 0 0 (MQ below (QC D cy ad ns A M (some (.int (b2i r)))) args s 0 0 A) (F0 m 2 ls []) := by
  obtain ⟨hx, hb, hml, hown, hts, hK, hr, hlk, hA, hG⟩ := id X
  intro n
  induction n with
  | zero => intro v_2 r hX; cases (show (none : Option (Bool)) = some r from hX)
  | succ n ih =>
    intro v_2 r hX ls H locs hl hS
    have hX : b_X10_areWhole_2 M a1 (fun x0 => f_X10_areWhole_2 M a1 n x0) v_2 = some r := hX
    unfold b_X10_areWhole_2 at hX
    refine lv_iload_n hx hb dX10_areWhole_2 rfl (lv_at hl 2 rfl) ?_
    refine lv_aload_n hx hb dX10_areWhole_3 rfl (lv_at hl 0 rfl) ?_
    refine fg_X10_281 X hS (hN) dX10_areWhole_4 ?_
    refine lv_icmp_ge (tgt := 34) hx hb dX10_areWhole_7 (by decide) (fun c2 => ?_) (fun c2 => ?_)
    · have hX := if_t c2 hX
      refine lv_iconst (v := nI 1) hx hb dX10_areWhole_34 (by decide) ?_
      obtain rfl := some_of hX
      exact x_Z (v := true) X hS dX10_areWhole_35
    · have hX := if_f c2 hX
      refine lv_iload_n hx hb dX10_areWhole_10 rfl (lv_at hl 1 rfl) ?_
      refine lv_iload_n hx hb dX10_areWhole_11 rfl (lv_at hl 2 rfl) ?_
      obtain ⟨r4, h3, hX⟩ := bn_of hX
      refine r_callS1 (v := .int (b2i r4)) (As := [.int a1, .int v_2]) (rest := []) X hS (m_X10_has (M := M) hN h3) ms_X10_has t7_36 ⟨rfl, rfl, Nat.le_of_ble_eq_true rfl, Nat.le_of_ble_eq_true rfl⟩ rfl hl.1 rfl (Nat.le_of_ble_eq_true rfl) ⟨Nat.zero_le _, Nat.zero_le _⟩ dX10_areWhole_12 (fun H locs hS => ?_)
      refine lv_if_eq (tgt := 28) hx hb dX10_areWhole_15 (by decide) (fun c5 => ?_) (fun c5 => ?_)
      · have hX := if_bf c5 hX
        exact n_X10_areWhole_28 X hN hX (fun z0 r h ls H locs hl hS => ih z0 r h ls H locs hl hS) _ _ _ (lv_sub hl [0, 1, 2] rfl) hS
      · have hX := if_bt c5 hX
        refine lv_aload_n hx hb dX10_areWhole_18 rfl (lv_at hl 0 rfl) ?_
        refine lv_iload_n hx hb dX10_areWhole_19 rfl (lv_at hl 2 rfl) ?_
        obtain ⟨r7, h6, hX⟩ := bn_of hX
        refine r_callV1 (v := .int (b2i r7)) (As := [.int v_2]) (rest := []) X hS (m_X10_isWhole hN h6) mv_X10_isWhole rfl (hN) t7_28 ⟨rfl, rfl, Nat.le_of_ble_eq_true rfl, Nat.le_of_ble_eq_true rfl⟩ rfl hl.1 rfl (Nat.le_of_ble_eq_true rfl) ⟨Nat.zero_le _, Nat.zero_le _⟩ dX10_areWhole_20 (fun H locs hS => ?_)
        refine lv_if_ne (tgt := 28) hx hb dX10_areWhole_23 (by decide) (fun c8 => ?_) (fun c8 => ?_)
        · have hX := if_bt c8 hX
          exact n_X10_areWhole_28 X hN hX (fun z0 r h ls H locs hl hS => ih z0 r h ls H locs hl hS) _ _ _ (lv_sub hl [0, 1, 2] rfl) hS
        · have hX := if_bf c8 hX
          refine lv_iconst (v := nI 0) hx hb dX10_areWhole_26 (by decide) ?_
          obtain rfl := some_of hX
          exact x_Z (v := false) X hS dX10_areWhole_27
set_option maxRecDepth 100000 in
set_option maxHeartbeats 4000000 in
theorem m_X10_areWhole {l : Launch} {D : va_G} {cy : Nat → ClassId} {ad : Nat → Nat → Nat} {ns : List (Nat × Nat)} {A : Nat → Prop} {M : Mem} (hN : Ob ns 10 100) {a1 : Int32} {r : Bool} (hX : f_X10_areWhole M a1 = some r) : Ct l yX10_areWhole cX10_areWhole 3 ((some .boolean)) rm_X10_areWhole D cy ad ns A [.ref (ad 100 0), .int a1] M M (some (.int (b2i r))) := by
  refine ct_of (lv := [(0, .ref (ad 100 0)), (1, .int a1)]) (by decide) (Nat.le_of_ble_eq_true rfl) rfl ?_
  intro p e s m args below meth c ls X hl hS
  obtain ⟨hx, hb, hml, hown, hts, hK, hr, hlk, hA, hG⟩ := id X
  obtain ⟨H, hH⟩ : ∃ z, z = s.heap := ⟨_, rfl⟩
  obtain ⟨locs, hlo⟩ : ∃ z : List Loc, z = [] := ⟨_, rfl⟩
  have hS : St D cy ad ns A M s.heap H locs := by rw [hH, hlo]; exact hS
  have hgoal : W p l e rm_X10_areWhole s m args below meth c H locs 0 0 (MQ below (QC D cy ad ns A M (some (.int (b2i r)))) args s 0 0 A) (F0 m 0 ls []) := by
    unfold f_X10_areWhole at hX
    refine lv_iconst (v := nI 0) hx hb dX10_areWhole_0 (by decide) ?_
    refine lv_istore_n (lv' := [(2, .int (nI 0)), (0, .ref (ad 100 0)), (1, .int a1)]) hx hb dX10_areWhole_1 rfl hl (by decide) rfl (fun ls hl => ?_)
    exact n_X10_areWhole_2 X hN _ _ _ hX _ _ _ (lv_sub hl [1, 2, 0] rfl) hS
  rw [hH, hlo] at hgoal
  exact hgoal
theorem mv_X10_areWhole : Mv yX10_areWhole RX10 cX10_areWhole 3 ((some .boolean)) 1 := ⟨t7_35, t7_34, ts_43, t1_11, ⟨by decide, by decide⟩, by decide +kernel⟩
/-! SewnYearModel.loses(II)V -/
def rm_X10_loses : Room := { frames := 0, cells := 0, slots := 0, locals := 0 }
def f_X10_loses (M : Mem) (a1 : Int32) (a2 : Int32) : Option (Mem) :=
  gin a1 9 <| gin a1 9 <| nm (sA M 100 27 (ix a1) ((gA M 100 27 (ix a1)) - a2)) fun M3 => nm (sI M3 100 33 ((gI M3 100 33) + a2)) fun M4 => gin a1 9 <| nm (sA M4 100 28 (ix a1) (-1000)) fun M6 => some M6
set_option maxRecDepth 100000 in
set_option maxHeartbeats 4000000 in
theorem m_X10_loses {l : Launch} {D : va_G} {cy : Nat → ClassId} {ad : Nat → Nat → Nat} {ns : List (Nat × Nat)} {A : Nat → Prop} {M : Mem} (hN : Ob ns 10 100) {a1 : Int32} {a2 : Int32} {r : Mem} (hX : f_X10_loses M a1 a2 = some r) : Ct l yX10_loses cX10_loses 3 ((none : Option Jvm.ClassFile.FieldType)) rm_X10_loses D cy ad ns A [.ref (ad 100 0), .int a1, .int a2] M r none := by
  refine ct_of (lv := [(0, .ref (ad 100 0)), (1, .int a1), (2, .int a2)]) (by decide) (Nat.le_of_ble_eq_true rfl) rfl ?_
  intro p e s m args below meth c ls X hl hS
  obtain ⟨hx, hb, hml, hown, hts, hK, hr, hlk, hA, hG⟩ := id X
  obtain ⟨H, hH⟩ : ∃ z, z = s.heap := ⟨_, rfl⟩
  obtain ⟨locs, hlo⟩ : ∃ z : List Loc, z = [] := ⟨_, rfl⟩
  have hS : St D cy ad ns A M s.heap H locs := by rw [hH, hlo]; exact hS
  have hgoal : W p l e rm_X10_loses s m args below meth c H locs 0 0 (MQ below (QC D cy ad ns A r none) args s 0 0 A) (F0 m 0 ls []) := by
    unfold f_X10_loses at hX
    refine lv_aload_n hx hb dX10_loses_0 rfl (lv_at hl 0 rfl) ?_
    refine fg_X10_44 X hS (hN) dX10_loses_1 ?_
    refine lv_iload_n hx hb dX10_loses_4 rfl (lv_at hl 1 rfl) ?_
    refine lv_dup2_11 hx hb dX10_loses_5 rfl rfl ?_
    obtain ⟨g1, hX⟩ := gin_of hX
    refine r_iald (ci := 10) (o := 100) (k := 27) (n := 9) X hS (hN) rfl rfl g1 dX10_loses_6 ?_
    refine lv_iload_n hx hb dX10_loses_7 rfl (lv_at hl 2 rfl) ?_
    refine lv_isub hx hb dX10_loses_8 ?_
    obtain ⟨g2, hX⟩ := gin_of hX
    refine r_iast (ci := 10) (o := 100) (k := 27) (n := 9) X hS (hN) rfl rfl g2 dX10_loses_9 (fun H locs hS => ?_)
    obtain ⟨M3, eM3, hS, hX⟩ := nm_mem hS hX
    refine lv_aload_n hx hb dX10_loses_10 rfl (lv_at hl 0 rfl) ?_
    refine lv_dup hx hb dX10_loses_11 rfl ?_
    refine fg_X10_317 X hS (hN) dX10_loses_12 ?_
    refine lv_iload_n hx hb dX10_loses_15 rfl (lv_at hl 2 rfl) ?_
    refine lv_iadd hx hb dX10_loses_16 ?_
    refine fp_X10_317 X hS (hN) dX10_loses_17 (fun H locs hS => ?_)
    obtain ⟨M4, eM4, hS, hX⟩ := nm_mem hS hX
    refine lv_aload_n hx hb dX10_loses_20 rfl (lv_at hl 0 rfl) ?_
    refine fg_X10_47 X hS (hN) dX10_loses_21 ?_
    refine lv_iload_n hx hb dX10_loses_24 rfl (lv_at hl 1 rfl) ?_
    refine lv_sipush (v := (-1000)) hx hb dX10_loses_25 (by decide) ?_
    obtain ⟨g5, hX⟩ := gin_of hX
    refine r_iast (ci := 10) (o := 100) (k := 28) (n := 9) X hS (hN) rfl rfl g5 dX10_loses_28 (fun H locs hS => ?_)
    obtain ⟨M6, eM6, hS, hX⟩ := nm_mem hS hX
    obtain rfl := some_of hX
    exact x_V X hS dX10_loses_29
  rw [hH, hlo] at hgoal
  exact hgoal
theorem mv_X10_loses : Mv yX10_loses RX10 cX10_loses 3 ((none : Option Jvm.ClassFile.FieldType)) 2 := ⟨t7_49, t7_48, ts_45, t1_11, ⟨by decide, by decide⟩, by decide +kernel⟩
/-! SewnYearModel.sews(I)Z -/
def rm_X10_sews : Room := { frames := 3, cells := 0, slots := 0, locals := 64 }
def f_X10_sews (M : Mem) (a1 : Int32) : Option (Bool × Mem) :=
  bn (f_X10_isSeam M a1) fun r2 => if r2 = true then (bn (f_X10_isWhole M a1) fun r5 => if r5 = true then (some (false, M)) else (if (gI M 100 31) = (gI M 100 25) then (some (false, M)) else (bn (f_X10_of M ((nI 29) + a1)) fun r9 => bn (f_X10_areWhole M r9) fun r11 => if r11 = true then (gin a1 9 <| gin a1 9 <| nm (sA M 100 27 (ix a1) ((gA M 100 27 (ix a1)) + (nI 1))) fun M15 => nm (sI M15 100 31 ((gI M15 100 31) + (nI 1))) fun M16 => bn (f_X10_isWhole M16 a1) fun r18 => if r18 = true then (gin a1 9 <| nm (sA M16 100 28 (ix a1) (gI M16 100 30)) fun M23 => some (true, M23)) else (gin a1 9 <| nm (sA M16 100 28 (ix a1) (-1000)) fun M21 => some (true, M21))) else (some (false, M))))) else (some (false, M))
set_option maxRecDepth 100000 in
set_option maxHeartbeats 4000000 in
theorem m_X10_sews {l : Launch} {D : va_G} {cy : Nat → ClassId} {ad : Nat → Nat → Nat} {ns : List (Nat × Nat)} {A : Nat → Prop} {M : Mem} (hN : Ob ns 10 100) {a1 : Int32} {r : Bool × Mem} (hX : f_X10_sews M a1 = some r) : Ct l yX10_sews cX10_sews 2 ((some .boolean)) rm_X10_sews D cy ad ns A [.ref (ad 100 0), .int a1] M r.2 (some (.int (b2i r.1))) := by
  refine ct_of (lv := [(0, .ref (ad 100 0)), (1, .int a1)]) (by decide) (Nat.le_of_ble_eq_true rfl) rfl ?_
  intro p e s m args below meth c ls X hl hS
  obtain ⟨hx, hb, hml, hown, hts, hK, hr, hlk, hA, hG⟩ := id X
  obtain ⟨H, hH⟩ : ∃ z, z = s.heap := ⟨_, rfl⟩
  obtain ⟨locs, hlo⟩ : ∃ z : List Loc, z = [] := ⟨_, rfl⟩
  have hS : St D cy ad ns A M s.heap H locs := by rw [hH, hlo]; exact hS
  have hgoal : W p l e rm_X10_sews s m args below meth c H locs 0 0 (MQ below (QC D cy ad ns A r.2 (some (.int (b2i r.1)))) args s 0 0 A) (F0 m 0 ls []) := by
    unfold f_X10_sews at hX
    refine lv_aload_n hx hb dX10_sews_0 rfl (lv_at hl 0 rfl) ?_
    refine lv_iload_n hx hb dX10_sews_1 rfl (lv_at hl 1 rfl) ?_
    obtain ⟨r2, h1, hX⟩ := bn_of hX
    refine r_callV1 (v := .int (b2i r2)) (As := [.int a1]) (rest := []) X hS (m_X10_isSeam hN h1) mv_X10_isSeam rfl (hN) t6_224 ⟨rfl, rfl, Nat.le_of_ble_eq_true rfl, Nat.le_of_ble_eq_true rfl⟩ rfl hl.1 rfl (Nat.le_of_ble_eq_true rfl) ⟨Nat.zero_le _, Nat.zero_le _⟩ dX10_sews_2 (fun H locs hS => ?_)
    refine lv_if_eq (tgt := 42) hx hb dX10_sews_5 (by decide) (fun c3 => ?_) (fun c3 => ?_)
    · have hX := if_bf c3 hX
      refine lv_iconst (v := nI 0) hx hb dX10_sews_42 (by decide) ?_
      obtain rfl := some_of hX
      exact x_Z (v := false) X hS dX10_sews_43
    · have hX := if_bt c3 hX
      refine lv_aload_n hx hb dX10_sews_8 rfl (lv_at hl 0 rfl) ?_
      refine lv_iload_n hx hb dX10_sews_9 rfl (lv_at hl 1 rfl) ?_
      obtain ⟨r5, h4, hX⟩ := bn_of hX
      refine r_callV1 (v := .int (b2i r5)) (As := [.int a1]) (rest := []) X hS (m_X10_isWhole hN h4) mv_X10_isWhole rfl (hN) t7_28 ⟨rfl, rfl, Nat.le_of_ble_eq_true rfl, Nat.le_of_ble_eq_true rfl⟩ rfl hl.1 rfl (Nat.le_of_ble_eq_true rfl) ⟨Nat.zero_le _, Nat.zero_le _⟩ dX10_sews_10 (fun H locs hS => ?_)
      refine lv_if_ne (tgt := 42) hx hb dX10_sews_13 (by decide) (fun c6 => ?_) (fun c6 => ?_)
      · have hX := if_bt c6 hX
        refine lv_iconst (v := nI 0) hx hb dX10_sews_42 (by decide) ?_
        obtain rfl := some_of hX
        exact x_Z (v := false) X hS dX10_sews_43
      · have hX := if_bf c6 hX
        refine lv_aload_n hx hb dX10_sews_16 rfl (lv_at hl 0 rfl) ?_
        refine fg_X10_311 X hS (hN) dX10_sews_17 ?_
        refine lv_aload_n hx hb dX10_sews_20 rfl (lv_at hl 0 rfl) ?_
        refine fg_X10_284 X hS (hN) dX10_sews_21 ?_
        refine lv_icmp_eq (tgt := 42) hx hb dX10_sews_24 (by decide) (fun c7 => ?_) (fun c7 => ?_)
        · have hX := if_t c7 hX
          refine lv_iconst (v := nI 0) hx hb dX10_sews_42 (by decide) ?_
          obtain rfl := some_of hX
          exact x_Z (v := false) X hS dX10_sews_43
        · have hX := if_f c7 hX
          refine lv_aload_n hx hb dX10_sews_27 rfl (lv_at hl 0 rfl) ?_
          refine lv_aload_n hx hb dX10_sews_28 rfl (lv_at hl 0 rfl) ?_
          refine lv_bipush (v := nI 29) hx hb dX10_sews_29 (by decide) ?_
          refine lv_iload_n hx hb dX10_sews_31 rfl (lv_at hl 1 rfl) ?_
          refine lv_iadd hx hb dX10_sews_32 ?_
          obtain ⟨r9, h8, hX⟩ := bn_of hX
          refine r_callV1 (v := .int r9) (As := [.int ((nI 29) + a1)]) (rest := [.ref (ad 100 0)]) X hS (m_X10_of hN h8) mv_X10_of rfl (hN) t6_220 ⟨rfl, rfl, Nat.le_of_ble_eq_true rfl, Nat.le_of_ble_eq_true rfl⟩ rfl hl.1 rfl (Nat.le_of_ble_eq_true rfl) ⟨Nat.zero_le _, Nat.zero_le _⟩ dX10_sews_33 (fun H locs hS => ?_)
          obtain ⟨r11, h10, hX⟩ := bn_of hX
          refine r_callV1 (v := .int (b2i r11)) (As := [.int r9]) (rest := []) X hS (m_X10_areWhole hN h10) mv_X10_areWhole rfl (hN) t7_32 ⟨rfl, rfl, Nat.le_of_ble_eq_true rfl, Nat.le_of_ble_eq_true rfl⟩ rfl hl.1 rfl (Nat.le_of_ble_eq_true rfl) ⟨Nat.zero_le _, Nat.zero_le _⟩ dX10_sews_36 (fun H locs hS => ?_)
          refine lv_if_ne (tgt := 44) hx hb dX10_sews_39 (by decide) (fun c12 => ?_) (fun c12 => ?_)
          · have hX := if_bt c12 hX
            refine lv_aload_n hx hb dX10_sews_44 rfl (lv_at hl 0 rfl) ?_
            refine fg_X10_44 X hS (hN) dX10_sews_45 ?_
            refine lv_iload_n hx hb dX10_sews_48 rfl (lv_at hl 1 rfl) ?_
            refine lv_dup2_11 hx hb dX10_sews_49 rfl rfl ?_
            obtain ⟨g13, hX⟩ := gin_of hX
            refine r_iald (ci := 10) (o := 100) (k := 27) (n := 9) X hS (hN) rfl rfl g13 dX10_sews_50 ?_
            refine lv_iconst (v := nI 1) hx hb dX10_sews_51 (by decide) ?_
            refine lv_iadd hx hb dX10_sews_52 ?_
            obtain ⟨g14, hX⟩ := gin_of hX
            refine r_iast (ci := 10) (o := 100) (k := 27) (n := 9) X hS (hN) rfl rfl g14 dX10_sews_53 (fun H locs hS => ?_)
            obtain ⟨M15, eM15, hS, hX⟩ := nm_mem hS hX
            refine lv_aload_n hx hb dX10_sews_54 rfl (lv_at hl 0 rfl) ?_
            refine lv_dup hx hb dX10_sews_55 rfl ?_
            refine fg_X10_311 X hS (hN) dX10_sews_56 ?_
            refine lv_iconst (v := nI 1) hx hb dX10_sews_59 (by decide) ?_
            refine lv_iadd hx hb dX10_sews_60 ?_
            refine fp_X10_311 X hS (hN) dX10_sews_61 (fun H locs hS => ?_)
            obtain ⟨M16, eM16, hS, hX⟩ := nm_mem hS hX
            refine lv_aload_n hx hb dX10_sews_64 rfl (lv_at hl 0 rfl) ?_
            refine fg_X10_47 X hS (hN) dX10_sews_65 ?_
            refine lv_iload_n hx hb dX10_sews_68 rfl (lv_at hl 1 rfl) ?_
            refine lv_aload_n hx hb dX10_sews_69 rfl (lv_at hl 0 rfl) ?_
            refine lv_iload_n hx hb dX10_sews_70 rfl (lv_at hl 1 rfl) ?_
            obtain ⟨r18, h17, hX⟩ := bn_of hX
            refine r_callV1 (v := .int (b2i r18)) (As := [.int a1]) (rest := [.int a1, .ref (ad 100 (28 + 1))]) X hS (m_X10_isWhole hN h17) mv_X10_isWhole rfl (hN) t7_28 ⟨rfl, rfl, Nat.le_of_ble_eq_true rfl, Nat.le_of_ble_eq_true rfl⟩ rfl hl.1 rfl (Nat.le_of_ble_eq_true rfl) ⟨Nat.zero_le _, Nat.zero_le _⟩ dX10_sews_71 (fun H locs hS => ?_)
            refine lv_if_eq (tgt := 84) hx hb dX10_sews_74 (by decide) (fun c19 => ?_) (fun c19 => ?_)
            · have hX := if_bf c19 hX
              refine lv_sipush (v := (-1000)) hx hb dX10_sews_84 (by decide) ?_
              obtain ⟨g20, hX⟩ := gin_of hX
              refine r_iast (ci := 10) (o := 100) (k := 28) (n := 9) X hS (hN) rfl rfl g20 dX10_sews_87 (fun H locs hS => ?_)
              obtain ⟨M21, eM21, hS, hX⟩ := nm_mem hS hX
              refine lv_iconst (v := nI 1) hx hb dX10_sews_88 (by decide) ?_
              obtain rfl := some_of hX
              exact x_Z (v := true) X hS dX10_sews_89
            · have hX := if_bt c19 hX
              refine lv_aload_n hx hb dX10_sews_77 rfl (lv_at hl 0 rfl) ?_
              refine fg_X10_308 X hS (hN) dX10_sews_78 ?_
              refine lv_goto (tgt := 87) hx hb dX10_sews_81 (by decide) ?_
              obtain ⟨g22, hX⟩ := gin_of hX
              refine r_iast (ci := 10) (o := 100) (k := 28) (n := 9) X hS (hN) rfl rfl g22 dX10_sews_87 (fun H locs hS => ?_)
              obtain ⟨M23, eM23, hS, hX⟩ := nm_mem hS hX
              refine lv_iconst (v := nI 1) hx hb dX10_sews_88 (by decide) ?_
              obtain rfl := some_of hX
              exact x_Z (v := true) X hS dX10_sews_89
          · have hX := if_bf c12 hX
            refine lv_iconst (v := nI 0) hx hb dX10_sews_42 (by decide) ?_
            obtain rfl := some_of hX
            exact x_Z (v := false) X hS dX10_sews_43
  rw [hH, hlo] at hgoal
  exact hgoal
theorem mv_X10_sews : Mv yX10_sews RX10 cX10_sews 2 ((some .boolean)) 1 := ⟨t7_27, t7_26, ts_41, t1_11, ⟨by decide, by decide⟩, by decide +kernel⟩
/-! SewnYearModel.unpicks(I)Z -/
def rm_X10_unpicks : Room := { frames := 2, cells := 0, slots := 0, locals := 43 }
def f_X10_unpicks_55 (a1 : Int32) (k_21 : Int32 → Mem → Option (Bool × Mem)) (v_2 : Int32) (M : Mem) : Option (Bool × Mem) :=
  nm (v_2 + nI 1) fun v1 => k_21 v1 M
def b_X10_unpicks_21 (a1 : Int32) (rc : Int32 → Mem → Option (Bool × Mem)) (v_2 : Int32) (M : Mem) : Option (Bool × Mem) :=
  if (gI M 100 24) ≤ v_2 then (gin a1 9 <| bn (f_X10_lesser (nI 2) (gA M 100 27 (ix a1))) fun r5 => bn (f_X10_loses M a1 r5) fun M7 => some (true, M7)) else (bn (f_X10_of M ((nI 29) + v_2)) fun r9 => bn (f_X10_has r9 a1) fun r11 => if r11 = true then (gin v_2 9 <| if (gA M 100 27 (ix v_2)) ≤ (nI 0) then (f_X10_unpicks_55 a1 rc v_2 M) else (some (false, M))) else (f_X10_unpicks_55 a1 rc v_2 M))
def f_X10_unpicks_21 (a1 : Int32) : Nat → (Int32 × Mem) → Option (Bool × Mem) := lp (fun rc q => b_X10_unpicks_21 a1 (fun x0 x1 => rc (x0, x1)) q.1 q.2)
def f_X10_unpicks (M : Mem) (a1 : Int32) : Option (Bool × Mem) :=
  bn (f_X10_isSeam M a1) fun r16 => if r16 = true then (gin a1 9 <| if (gA M 100 27 (ix a1)) = (nI 0) then (some (false, M)) else (f_X10_unpicks_21 a1 FU ((nI 0), M))) else (some (false, M))
set_option maxRecDepth 100000 in
set_option maxHeartbeats 4000000 in
theorem n_X10_unpicks_55 {a1 : Int32} (X : Cx p s m args meth c D cy ad A RX10 cX10_unpicks 3 ((some .boolean))) (hN : Ob ns 10 100) {k_21 : Int32 → Mem → Option (Bool × Mem)} {v_2 : Int32} {M : Mem} {r : Bool × Mem} (hX : f_X10_unpicks_55 a1 k_21 v_2 M = some r) : (∀ (v_2 : Int32) (M : Mem) (r : Bool × Mem), k_21 v_2 M = some r → ∀ (ls : Array Slot) (H : Heap) (locs : List Loc), lv_has ls 3 [(0, .ref (ad 100 0)), (1, .int a1), (2, .int v_2)] → St D cy ad ns A M s.heap H locs → W p l e rm_X10_unpicks s m args below meth c H locs 0 0 (MQ below (QC D cy ad ns A r.2 (some (.int (b2i r.1)))) args s 0 0 A) (F0 m 21 ls [])) → ∀ (ls : Array Slot) (H : Heap) (locs : List Loc), lv_has ls 3 [(0, .ref (ad 100 0)), (1, .int a1), (2, .int v_2)] → St D cy ad ns A M s.heap H locs → W p l e rm_X10_unpicks s m args below meth c H locs 0 0 (MQ below (QC D cy ad ns A r.2 (some (.int (b2i r.1)))) args s 0 0 A) (F0 m 55 ls []) := by
  obtain ⟨hx, hb, hml, hown, hts, hK, hr, hlk, hA, hG⟩ := id X
  intro hk_21 ls H locs hl hS
  unfold f_X10_unpicks_55 at hX
  obtain ⟨v1, ev1⟩ : ∃ y : Int32, y = (v_2 + nI 1) := ⟨_, rfl⟩
  have hX := nm_of ev1 hX
  refine lv_iinc (v := v1) (lv' := [(2, .int v1), (0, .ref (ad 100 0)), (1, .int a1)]) hx hb dX10_unpicks_55 hl (k := 2) rfl (by rw [ev1]; rfl) (by decide) rfl (fun ls hl => ?_)
  refine lv_goto (tgt := 21) hx hb dX10_unpicks_58 (by decide) ?_
  exact hk_21 _ _ _ hX _ _ _ (lv_sub hl [1, 2, 0] rfl) hS
set_option maxRecDepth 100000 in
set_option maxHeartbeats 4000000 in
theorem n_X10_unpicks_21 {a1 : Int32} (X : Cx p s m args meth c D cy ad A RX10 cX10_unpicks 3 ((some .boolean))) (hN : Ob ns 10 100) : ∀ (n : Nat) (v_2 : Int32) (M : Mem) (r : Bool × Mem), f_X10_unpicks_21 a1 n (v_2, M) = some r → ∀ (ls : Array Slot) (H : Heap) (locs : List Loc), lv_has ls 3 [(0, .ref (ad 100 0)), (1, .int a1), (2, .int v_2)] → St D cy ad ns A M s.heap H locs → W p l e rm_X10_unpicks s m args below meth c H locs 0 0 (MQ below (QC D cy ad ns A r.2 (some (.int (b2i r.1)))) args s 0 0 A) (F0 m 21 ls []) := by
  obtain ⟨hx, hb, hml, hown, hts, hK, hr, hlk, hA, hG⟩ := id X
  intro n
  induction n with
  | zero => intro v_2 M r hX; cases (show (none : Option (Bool × Mem)) = some r from hX)
  | succ n ih =>
    intro v_2 M r hX ls H locs hl hS
    have hX : b_X10_unpicks_21 a1 (fun x0 x1 => f_X10_unpicks_21 a1 n (x0, x1)) v_2 M = some r := hX
    unfold b_X10_unpicks_21 at hX
    refine lv_iload_n hx hb dX10_unpicks_21 rfl (lv_at hl 2 rfl) ?_
    refine lv_aload_n hx hb dX10_unpicks_22 rfl (lv_at hl 0 rfl) ?_
    refine fg_X10_281 X hS (hN) dX10_unpicks_23 ?_
    refine lv_icmp_ge (tgt := 61) hx hb dX10_unpicks_26 (by decide) (fun c2 => ?_) (fun c2 => ?_)
    · have hX := if_t c2 hX
      refine lv_aload_n hx hb dX10_unpicks_61 rfl (lv_at hl 0 rfl) ?_
      refine lv_iload_n hx hb dX10_unpicks_62 rfl (lv_at hl 1 rfl) ?_
      refine lv_iconst (v := nI 2) hx hb dX10_unpicks_63 (by decide) ?_
      refine lv_aload_n hx hb dX10_unpicks_64 rfl (lv_at hl 0 rfl) ?_
      refine fg_X10_44 X hS (hN) dX10_unpicks_65 ?_
      refine lv_iload_n hx hb dX10_unpicks_68 rfl (lv_at hl 1 rfl) ?_
      obtain ⟨g3, hX⟩ := gin_of hX
      refine r_iald (ci := 10) (o := 100) (k := 27) (n := 9) X hS (hN) rfl rfl g3 dX10_unpicks_69 ?_
      obtain ⟨r5, h4, hX⟩ := bn_of hX
      refine r_callS1 (v := .int r5) (As := [.int (nI 2), .int (gA M 100 27 (ix a1))]) (rest := [.int a1, .ref (ad 100 0)]) X hS (m_X10_lesser (M := M) hN h4) ms_X10_lesser t7_43 ⟨rfl, rfl, Nat.le_of_ble_eq_true rfl, Nat.le_of_ble_eq_true rfl⟩ rfl hl.1 rfl (Nat.le_of_ble_eq_true rfl) ⟨Nat.zero_le _, Nat.zero_le _⟩ dX10_unpicks_70 (fun H locs hS => ?_)
      obtain ⟨M7, h6, hX⟩ := bn_of hX
      refine r_callV0 (As := [.int a1, .int r5]) (rest := []) X hS (m_X10_loses hN h6) mv_X10_loses rfl (hN) t7_46 ⟨rfl, rfl, Nat.le_of_ble_eq_true rfl, Nat.le_of_ble_eq_true rfl⟩ rfl hl.1 rfl (Nat.le_of_ble_eq_true rfl) ⟨Nat.zero_le _, Nat.zero_le _⟩ dX10_unpicks_73 (fun H locs hS => ?_)
      refine lv_iconst (v := nI 1) hx hb dX10_unpicks_76 (by decide) ?_
      obtain rfl := some_of hX
      exact x_Z (v := true) X hS dX10_unpicks_77
    · have hX := if_f c2 hX
      refine lv_aload_n hx hb dX10_unpicks_29 rfl (lv_at hl 0 rfl) ?_
      refine lv_bipush (v := nI 29) hx hb dX10_unpicks_30 (by decide) ?_
      refine lv_iload_n hx hb dX10_unpicks_32 rfl (lv_at hl 2 rfl) ?_
      refine lv_iadd hx hb dX10_unpicks_33 ?_
      obtain ⟨r9, h8, hX⟩ := bn_of hX
      refine r_callV1 (v := .int r9) (As := [.int ((nI 29) + v_2)]) (rest := []) X hS (m_X10_of hN h8) mv_X10_of rfl (hN) t6_220 ⟨rfl, rfl, Nat.le_of_ble_eq_true rfl, Nat.le_of_ble_eq_true rfl⟩ rfl hl.1 rfl (Nat.le_of_ble_eq_true rfl) ⟨Nat.zero_le _, Nat.zero_le _⟩ dX10_unpicks_34 (fun H locs hS => ?_)
      refine lv_iload_n hx hb dX10_unpicks_37 rfl (lv_at hl 1 rfl) ?_
      obtain ⟨r11, h10, hX⟩ := bn_of hX
      refine r_callS1 (v := .int (b2i r11)) (As := [.int r9, .int a1]) (rest := []) X hS (m_X10_has (M := M) hN h10) ms_X10_has t7_36 ⟨rfl, rfl, Nat.le_of_ble_eq_true rfl, Nat.le_of_ble_eq_true rfl⟩ rfl hl.1 rfl (Nat.le_of_ble_eq_true rfl) ⟨Nat.zero_le _, Nat.zero_le _⟩ dX10_unpicks_38 (fun H locs hS => ?_)
      refine lv_if_eq (tgt := 55) hx hb dX10_unpicks_41 (by decide) (fun c12 => ?_) (fun c12 => ?_)
      · have hX := if_bf c12 hX
        exact n_X10_unpicks_55 X hN hX (fun z0 z1 r h ls H locs hl hS => ih z0 z1 r h ls H locs hl hS) _ _ _ (lv_sub hl [0, 1, 2] rfl) hS
      · have hX := if_bt c12 hX
        refine lv_aload_n hx hb dX10_unpicks_44 rfl (lv_at hl 0 rfl) ?_
        refine fg_X10_44 X hS (hN) dX10_unpicks_45 ?_
        refine lv_iload_n hx hb dX10_unpicks_48 rfl (lv_at hl 2 rfl) ?_
        obtain ⟨g13, hX⟩ := gin_of hX
        refine r_iald (ci := 10) (o := 100) (k := 27) (n := 9) X hS (hN) rfl rfl g13 dX10_unpicks_49 ?_
        refine lv_if_le (tgt := 55) hx hb dX10_unpicks_50 (by decide) (fun c14 => ?_) (fun c14 => ?_)
        · have hX := if_t c14 hX
          exact n_X10_unpicks_55 X hN hX (fun z0 z1 r h ls H locs hl hS => ih z0 z1 r h ls H locs hl hS) _ _ _ (lv_sub hl [0, 1, 2] rfl) hS
        · have hX := if_f c14 hX
          refine lv_iconst (v := nI 0) hx hb dX10_unpicks_53 (by decide) ?_
          obtain rfl := some_of hX
          exact x_Z (v := false) X hS dX10_unpicks_54
set_option maxRecDepth 100000 in
set_option maxHeartbeats 4000000 in
theorem m_X10_unpicks {l : Launch} {D : va_G} {cy : Nat → ClassId} {ad : Nat → Nat → Nat} {ns : List (Nat × Nat)} {A : Nat → Prop} {M : Mem} (hN : Ob ns 10 100) {a1 : Int32} {r : Bool × Mem} (hX : f_X10_unpicks M a1 = some r) : Ct l yX10_unpicks cX10_unpicks 3 ((some .boolean)) rm_X10_unpicks D cy ad ns A [.ref (ad 100 0), .int a1] M r.2 (some (.int (b2i r.1))) := by
  refine ct_of (lv := [(0, .ref (ad 100 0)), (1, .int a1)]) (by decide) (Nat.le_of_ble_eq_true rfl) rfl ?_
  intro p e s m args below meth c ls X hl hS
  obtain ⟨hx, hb, hml, hown, hts, hK, hr, hlk, hA, hG⟩ := id X
  obtain ⟨H, hH⟩ : ∃ z, z = s.heap := ⟨_, rfl⟩
  obtain ⟨locs, hlo⟩ : ∃ z : List Loc, z = [] := ⟨_, rfl⟩
  have hS : St D cy ad ns A M s.heap H locs := by rw [hH, hlo]; exact hS
  have hgoal : W p l e rm_X10_unpicks s m args below meth c H locs 0 0 (MQ below (QC D cy ad ns A r.2 (some (.int (b2i r.1)))) args s 0 0 A) (F0 m 0 ls []) := by
    unfold f_X10_unpicks at hX
    refine lv_aload_n hx hb dX10_unpicks_0 rfl (lv_at hl 0 rfl) ?_
    refine lv_iload_n hx hb dX10_unpicks_1 rfl (lv_at hl 1 rfl) ?_
    obtain ⟨r16, h15, hX⟩ := bn_of hX
    refine r_callV1 (v := .int (b2i r16)) (As := [.int a1]) (rest := []) X hS (m_X10_isSeam hN h15) mv_X10_isSeam rfl (hN) t6_224 ⟨rfl, rfl, Nat.le_of_ble_eq_true rfl, Nat.le_of_ble_eq_true rfl⟩ rfl hl.1 rfl (Nat.le_of_ble_eq_true rfl) ⟨Nat.zero_le _, Nat.zero_le _⟩ dX10_unpicks_2 (fun H locs hS => ?_)
    refine lv_if_eq (tgt := 17) hx hb dX10_unpicks_5 (by decide) (fun c17 => ?_) (fun c17 => ?_)
    · have hX := if_bf c17 hX
      refine lv_iconst (v := nI 0) hx hb dX10_unpicks_17 (by decide) ?_
      obtain rfl := some_of hX
      exact x_Z (v := false) X hS dX10_unpicks_18
    · have hX := if_bt c17 hX
      refine lv_aload_n hx hb dX10_unpicks_8 rfl (lv_at hl 0 rfl) ?_
      refine fg_X10_44 X hS (hN) dX10_unpicks_9 ?_
      refine lv_iload_n hx hb dX10_unpicks_12 rfl (lv_at hl 1 rfl) ?_
      obtain ⟨g18, hX⟩ := gin_of hX
      refine r_iald (ci := 10) (o := 100) (k := 27) (n := 9) X hS (hN) rfl rfl g18 dX10_unpicks_13 ?_
      refine lv_if_ne (tgt := 19) hx hb dX10_unpicks_14 (by decide) (fun c19 => ?_) (fun c19 => ?_)
      · have hX := if_f c19 hX
        refine lv_iconst (v := nI 0) hx hb dX10_unpicks_19 (by decide) ?_
        refine lv_istore_n (lv' := [(2, .int (nI 0)), (0, .ref (ad 100 0)), (1, .int a1)]) hx hb dX10_unpicks_20 rfl hl (by decide) rfl (fun ls hl => ?_)
        exact n_X10_unpicks_21 X hN _ _ _ _ hX _ _ _ (lv_sub hl [1, 2, 0] rfl) hS
      · have hX := if_t c19 hX
        refine lv_iconst (v := nI 0) hx hb dX10_unpicks_17 (by decide) ?_
        obtain rfl := some_of hX
        exact x_Z (v := false) X hS dX10_unpicks_18
  rw [hH, hlo] at hgoal
  exact hgoal
theorem mv_X10_unpicks : Mv yX10_unpicks RX10 cX10_unpicks 3 ((some .boolean)) 1 := ⟨t7_42, t7_41, ts_44, t1_11, ⟨by decide, by decide⟩, by decide +kernel⟩
/-! SewnYearModel.tears(I)Z -/
def rm_X10_tears : Room := { frames := 2, cells := 0, slots := 0, locals := 43 }
def f_X10_tears (M : Mem) (a1 : Int32) : Option (Bool × Mem) :=
  bn (f_X10_isSeam M a1) fun r2 => if r2 = true then (gin a1 9 <| if (gA M 100 27 (ix a1)) = (nI 0) then (some (false, M)) else (gin a1 9 <| bn (f_X10_loses M a1 (gA M 100 27 (ix a1))) fun M8 => some (true, M8))) else (some (false, M))
set_option maxRecDepth 100000 in
set_option maxHeartbeats 4000000 in
theorem m_X10_tears {l : Launch} {D : va_G} {cy : Nat → ClassId} {ad : Nat → Nat → Nat} {ns : List (Nat × Nat)} {A : Nat → Prop} {M : Mem} (hN : Ob ns 10 100) {a1 : Int32} {r : Bool × Mem} (hX : f_X10_tears M a1 = some r) : Ct l yX10_tears cX10_tears 2 ((some .boolean)) rm_X10_tears D cy ad ns A [.ref (ad 100 0), .int a1] M r.2 (some (.int (b2i r.1))) := by
  refine ct_of (lv := [(0, .ref (ad 100 0)), (1, .int a1)]) (by decide) (Nat.le_of_ble_eq_true rfl) rfl ?_
  intro p e s m args below meth c ls X hl hS
  obtain ⟨hx, hb, hml, hown, hts, hK, hr, hlk, hA, hG⟩ := id X
  obtain ⟨H, hH⟩ : ∃ z, z = s.heap := ⟨_, rfl⟩
  obtain ⟨locs, hlo⟩ : ∃ z : List Loc, z = [] := ⟨_, rfl⟩
  have hS : St D cy ad ns A M s.heap H locs := by rw [hH, hlo]; exact hS
  have hgoal : W p l e rm_X10_tears s m args below meth c H locs 0 0 (MQ below (QC D cy ad ns A r.2 (some (.int (b2i r.1)))) args s 0 0 A) (F0 m 0 ls []) := by
    unfold f_X10_tears at hX
    refine lv_aload_n hx hb dX10_tears_0 rfl (lv_at hl 0 rfl) ?_
    refine lv_iload_n hx hb dX10_tears_1 rfl (lv_at hl 1 rfl) ?_
    obtain ⟨r2, h1, hX⟩ := bn_of hX
    refine r_callV1 (v := .int (b2i r2)) (As := [.int a1]) (rest := []) X hS (m_X10_isSeam hN h1) mv_X10_isSeam rfl (hN) t6_224 ⟨rfl, rfl, Nat.le_of_ble_eq_true rfl, Nat.le_of_ble_eq_true rfl⟩ rfl hl.1 rfl (Nat.le_of_ble_eq_true rfl) ⟨Nat.zero_le _, Nat.zero_le _⟩ dX10_tears_2 (fun H locs hS => ?_)
    refine lv_if_eq (tgt := 17) hx hb dX10_tears_5 (by decide) (fun c3 => ?_) (fun c3 => ?_)
    · have hX := if_bf c3 hX
      refine lv_iconst (v := nI 0) hx hb dX10_tears_17 (by decide) ?_
      obtain rfl := some_of hX
      exact x_Z (v := false) X hS dX10_tears_18
    · have hX := if_bt c3 hX
      refine lv_aload_n hx hb dX10_tears_8 rfl (lv_at hl 0 rfl) ?_
      refine fg_X10_44 X hS (hN) dX10_tears_9 ?_
      refine lv_iload_n hx hb dX10_tears_12 rfl (lv_at hl 1 rfl) ?_
      obtain ⟨g4, hX⟩ := gin_of hX
      refine r_iald (ci := 10) (o := 100) (k := 27) (n := 9) X hS (hN) rfl rfl g4 dX10_tears_13 ?_
      refine lv_if_ne (tgt := 19) hx hb dX10_tears_14 (by decide) (fun c5 => ?_) (fun c5 => ?_)
      · have hX := if_f c5 hX
        refine lv_aload_n hx hb dX10_tears_19 rfl (lv_at hl 0 rfl) ?_
        refine lv_iload_n hx hb dX10_tears_20 rfl (lv_at hl 1 rfl) ?_
        refine lv_aload_n hx hb dX10_tears_21 rfl (lv_at hl 0 rfl) ?_
        refine fg_X10_44 X hS (hN) dX10_tears_22 ?_
        refine lv_iload_n hx hb dX10_tears_25 rfl (lv_at hl 1 rfl) ?_
        obtain ⟨g6, hX⟩ := gin_of hX
        refine r_iald (ci := 10) (o := 100) (k := 27) (n := 9) X hS (hN) rfl rfl g6 dX10_tears_26 ?_
        obtain ⟨M8, h7, hX⟩ := bn_of hX
        refine r_callV0 (As := [.int a1, .int (gA M 100 27 (ix a1))]) (rest := []) X hS (m_X10_loses hN h7) mv_X10_loses rfl (hN) t7_46 ⟨rfl, rfl, Nat.le_of_ble_eq_true rfl, Nat.le_of_ble_eq_true rfl⟩ rfl hl.1 rfl (Nat.le_of_ble_eq_true rfl) ⟨Nat.zero_le _, Nat.zero_le _⟩ dX10_tears_27 (fun H locs hS => ?_)
        refine lv_iconst (v := nI 1) hx hb dX10_tears_30 (by decide) ?_
        obtain rfl := some_of hX
        exact x_Z (v := true) X hS dX10_tears_31
      · have hX := if_t c5 hX
        refine lv_iconst (v := nI 0) hx hb dX10_tears_17 (by decide) ?_
        obtain rfl := some_of hX
        exact x_Z (v := false) X hS dX10_tears_18
  rw [hH, hlo] at hgoal
  exact hgoal
theorem mv_X10_tears : Mv yX10_tears RX10 cX10_tears 2 ((some .boolean)) 1 := ⟨t7_53, t7_52, ts_46, t1_11, ⟨by decide, by decide⟩, by decide +kernel⟩
/-! SewnYearModel.grows(I)V -/
def rm_X10_grows : Room := { frames := 2, cells := 0, slots := 0, locals := 42 }
def f_X10_grows_71 (a1 : Int32) (k_12 : Int32 → Mem → Option (Mem)) (v_2 : Int32) (M : Mem) : Option (Mem) :=
  nm (v_2 + nI 1) fun v1 => k_12 v1 M
def b_X10_grows_12 (a1 : Int32) (rc : Int32 → Mem → Option (Mem)) (v_2 : Int32) (M : Mem) : Option (Mem) :=
  if (gI M 100 24) ≤ v_2 then (some M) else (bn (f_X10_isWhole M v_2) fun r4 => if r4 = true then (gin v_2 9 <| bn (f_X10_of M ((nI 20) + v_2)) fun r8 => if ((gI M 100 30) - (gA M 100 28 (ix v_2))) ≤ r8 then (f_X10_grows_71 a1 rc v_2 M) else (nm (sI M 100 32 ((gI M 100 32) + (nI 1))) fun M10 => gin v_2 9 <| bn (f_X10_loses M10 v_2 (gA M10 100 27 (ix v_2))) fun M13 => f_X10_grows_71 a1 rc v_2 M13)) else (f_X10_grows_71 a1 rc v_2 M))
def f_X10_grows_12 (a1 : Int32) : Nat → (Int32 × Mem) → Option (Mem) := lp (fun rc q => b_X10_grows_12 a1 (fun x0 x1 => rc (x0, x1)) q.1 q.2)
def f_X10_grows (M : Mem) (a1 : Int32) : Option (Mem) :=
  nm (sI M 100 30 ((gI M 100 30) + a1)) fun M14 => f_X10_grows_12 a1 FU ((nI 0), M14)
set_option maxRecDepth 100000 in
set_option maxHeartbeats 4000000 in
theorem n_X10_grows_71 {a1 : Int32} (X : Cx p s m args meth c D cy ad A RX10 cX10_grows 3 ((none : Option Jvm.ClassFile.FieldType))) (hN : Ob ns 10 100) {k_12 : Int32 → Mem → Option (Mem)} {v_2 : Int32} {M : Mem} {r : Mem} (hX : f_X10_grows_71 a1 k_12 v_2 M = some r) : (∀ (v_2 : Int32) (M : Mem) (r : Mem), k_12 v_2 M = some r → ∀ (ls : Array Slot) (H : Heap) (locs : List Loc), lv_has ls 3 [(0, .ref (ad 100 0)), (2, .int v_2)] → St D cy ad ns A M s.heap H locs → W p l e rm_X10_grows s m args below meth c H locs 0 0 (MQ below (QC D cy ad ns A r none) args s 0 0 A) (F0 m 12 ls [])) → ∀ (ls : Array Slot) (H : Heap) (locs : List Loc), lv_has ls 3 [(0, .ref (ad 100 0)), (2, .int v_2)] → St D cy ad ns A M s.heap H locs → W p l e rm_X10_grows s m args below meth c H locs 0 0 (MQ below (QC D cy ad ns A r none) args s 0 0 A) (F0 m 71 ls []) := by
  obtain ⟨hx, hb, hml, hown, hts, hK, hr, hlk, hA, hG⟩ := id X
  intro hk_12 ls H locs hl hS
  unfold f_X10_grows_71 at hX
  obtain ⟨v1, ev1⟩ : ∃ y : Int32, y = (v_2 + nI 1) := ⟨_, rfl⟩
  have hX := nm_of ev1 hX
  refine lv_iinc (v := v1) (lv' := [(2, .int v1), (0, .ref (ad 100 0))]) hx hb dX10_grows_71 hl (k := 1) rfl (by rw [ev1]; rfl) (by decide) rfl (fun ls hl => ?_)
  refine lv_goto (tgt := 12) hx hb dX10_grows_74 (by decide) ?_
  exact hk_12 _ _ _ hX _ _ _ (lv_sub hl [1, 0] rfl) hS
set_option maxRecDepth 100000 in
set_option maxHeartbeats 4000000 in
theorem n_X10_grows_12 {a1 : Int32} (X : Cx p s m args meth c D cy ad A RX10 cX10_grows 3 ((none : Option Jvm.ClassFile.FieldType))) (hN : Ob ns 10 100) : ∀ (n : Nat) (v_2 : Int32) (M : Mem) (r : Mem), f_X10_grows_12 a1 n (v_2, M) = some r → ∀ (ls : Array Slot) (H : Heap) (locs : List Loc), lv_has ls 3 [(0, .ref (ad 100 0)), (2, .int v_2)] → St D cy ad ns A M s.heap H locs → W p l e rm_X10_grows s m args below meth c H locs 0 0 (MQ below (QC D cy ad ns A r none) args s 0 0 A) (F0 m 12 ls []) := by
  obtain ⟨hx, hb, hml, hown, hts, hK, hr, hlk, hA, hG⟩ := id X
  intro n
  induction n with
  | zero => intro v_2 M r hX; cases (show (none : Option (Mem)) = some r from hX)
  | succ n ih =>
    intro v_2 M r hX ls H locs hl hS
    have hX : b_X10_grows_12 a1 (fun x0 x1 => f_X10_grows_12 a1 n (x0, x1)) v_2 M = some r := hX
    unfold b_X10_grows_12 at hX
    refine lv_iload_n hx hb dX10_grows_12 rfl (lv_at hl 1 rfl) ?_
    refine lv_aload_n hx hb dX10_grows_13 rfl (lv_at hl 0 rfl) ?_
    refine fg_X10_281 X hS (hN) dX10_grows_14 ?_
    refine lv_icmp_ge (tgt := 77) hx hb dX10_grows_17 (by decide) (fun c2 => ?_) (fun c2 => ?_)
    · have hX := if_t c2 hX
      obtain rfl := some_of hX
      exact x_V X hS dX10_grows_77
    · have hX := if_f c2 hX
      refine lv_aload_n hx hb dX10_grows_20 rfl (lv_at hl 0 rfl) ?_
      refine lv_iload_n hx hb dX10_grows_21 rfl (lv_at hl 1 rfl) ?_
      obtain ⟨r4, h3, hX⟩ := bn_of hX
      refine r_callV1 (v := .int (b2i r4)) (As := [.int v_2]) (rest := []) X hS (m_X10_isWhole hN h3) mv_X10_isWhole rfl (hN) t7_28 ⟨rfl, rfl, Nat.le_of_ble_eq_true rfl, Nat.le_of_ble_eq_true rfl⟩ rfl hl.1 rfl (Nat.le_of_ble_eq_true rfl) ⟨Nat.zero_le _, Nat.zero_le _⟩ dX10_grows_22 (fun H locs hS => ?_)
      refine lv_if_eq (tgt := 71) hx hb dX10_grows_25 (by decide) (fun c5 => ?_) (fun c5 => ?_)
      · have hX := if_bf c5 hX
        exact n_X10_grows_71 X hN hX (fun z0 z1 r h ls H locs hl hS => ih z0 z1 r h ls H locs hl hS) _ _ _ (lv_sub hl [0, 1] rfl) hS
      · have hX := if_bt c5 hX
        refine lv_aload_n hx hb dX10_grows_28 rfl (lv_at hl 0 rfl) ?_
        refine fg_X10_308 X hS (hN) dX10_grows_29 ?_
        refine lv_aload_n hx hb dX10_grows_32 rfl (lv_at hl 0 rfl) ?_
        refine fg_X10_47 X hS (hN) dX10_grows_33 ?_
        refine lv_iload_n hx hb dX10_grows_36 rfl (lv_at hl 1 rfl) ?_
        obtain ⟨g6, hX⟩ := gin_of hX
        refine r_iald (ci := 10) (o := 100) (k := 28) (n := 9) X hS (hN) rfl rfl g6 dX10_grows_37 ?_
        refine lv_isub hx hb dX10_grows_38 ?_
        refine lv_aload_n hx hb dX10_grows_39 rfl (lv_at hl 0 rfl) ?_
        refine lv_bipush (v := nI 20) hx hb dX10_grows_40 (by decide) ?_
        refine lv_iload_n hx hb dX10_grows_42 rfl (lv_at hl 1 rfl) ?_
        refine lv_iadd hx hb dX10_grows_43 ?_
        obtain ⟨r8, h7, hX⟩ := bn_of hX
        refine r_callV1 (v := .int r8) (As := [.int ((nI 20) + v_2)]) (rest := [.int ((gI M 100 30) - (gA M 100 28 (ix v_2)))]) X hS (m_X10_of hN h7) mv_X10_of rfl (hN) t6_220 ⟨rfl, rfl, Nat.le_of_ble_eq_true rfl, Nat.le_of_ble_eq_true rfl⟩ rfl hl.1 rfl (Nat.le_of_ble_eq_true rfl) ⟨Nat.zero_le _, Nat.zero_le _⟩ dX10_grows_44 (fun H locs hS => ?_)
        refine lv_icmp_le (tgt := 71) hx hb dX10_grows_47 (by decide) (fun c9 => ?_) (fun c9 => ?_)
        · have hX := if_t c9 hX
          exact n_X10_grows_71 X hN hX (fun z0 z1 r h ls H locs hl hS => ih z0 z1 r h ls H locs hl hS) _ _ _ (lv_sub hl [0, 1] rfl) hS
        · have hX := if_f c9 hX
          refine lv_aload_n hx hb dX10_grows_50 rfl (lv_at hl 0 rfl) ?_
          refine lv_dup hx hb dX10_grows_51 rfl ?_
          refine fg_X10_314 X hS (hN) dX10_grows_52 ?_
          refine lv_iconst (v := nI 1) hx hb dX10_grows_55 (by decide) ?_
          refine lv_iadd hx hb dX10_grows_56 ?_
          refine fp_X10_314 X hS (hN) dX10_grows_57 (fun H locs hS => ?_)
          obtain ⟨M10, eM10, hS, hX⟩ := nm_mem hS hX
          refine lv_aload_n hx hb dX10_grows_60 rfl (lv_at hl 0 rfl) ?_
          refine lv_iload_n hx hb dX10_grows_61 rfl (lv_at hl 1 rfl) ?_
          refine lv_aload_n hx hb dX10_grows_62 rfl (lv_at hl 0 rfl) ?_
          refine fg_X10_44 X hS (hN) dX10_grows_63 ?_
          refine lv_iload_n hx hb dX10_grows_66 rfl (lv_at hl 1 rfl) ?_
          obtain ⟨g11, hX⟩ := gin_of hX
          refine r_iald (ci := 10) (o := 100) (k := 27) (n := 9) X hS (hN) rfl rfl g11 dX10_grows_67 ?_
          obtain ⟨M13, h12, hX⟩ := bn_of hX
          refine r_callV0 (As := [.int v_2, .int (gA M10 100 27 (ix v_2))]) (rest := []) X hS (m_X10_loses hN h12) mv_X10_loses rfl (hN) t7_46 ⟨rfl, rfl, Nat.le_of_ble_eq_true rfl, Nat.le_of_ble_eq_true rfl⟩ rfl hl.1 rfl (Nat.le_of_ble_eq_true rfl) ⟨Nat.zero_le _, Nat.zero_le _⟩ dX10_grows_68 (fun H locs hS => ?_)
          exact n_X10_grows_71 X hN hX (fun z0 z1 r h ls H locs hl hS => ih z0 z1 r h ls H locs hl hS) _ _ _ (lv_sub hl [0, 1] rfl) hS
set_option maxRecDepth 100000 in
set_option maxHeartbeats 4000000 in
theorem m_X10_grows {l : Launch} {D : va_G} {cy : Nat → ClassId} {ad : Nat → Nat → Nat} {ns : List (Nat × Nat)} {A : Nat → Prop} {M : Mem} (hN : Ob ns 10 100) {a1 : Int32} {r : Mem} (hX : f_X10_grows M a1 = some r) : Ct l yX10_grows cX10_grows 3 ((none : Option Jvm.ClassFile.FieldType)) rm_X10_grows D cy ad ns A [.ref (ad 100 0), .int a1] M r none := by
  refine ct_of (lv := [(0, .ref (ad 100 0)), (1, .int a1)]) (by decide) (Nat.le_of_ble_eq_true rfl) rfl ?_
  intro p e s m args below meth c ls X hl hS
  obtain ⟨hx, hb, hml, hown, hts, hK, hr, hlk, hA, hG⟩ := id X
  obtain ⟨H, hH⟩ : ∃ z, z = s.heap := ⟨_, rfl⟩
  obtain ⟨locs, hlo⟩ : ∃ z : List Loc, z = [] := ⟨_, rfl⟩
  have hS : St D cy ad ns A M s.heap H locs := by rw [hH, hlo]; exact hS
  have hgoal : W p l e rm_X10_grows s m args below meth c H locs 0 0 (MQ below (QC D cy ad ns A r none) args s 0 0 A) (F0 m 0 ls []) := by
    unfold f_X10_grows at hX
    refine lv_aload_n hx hb dX10_grows_0 rfl (lv_at hl 0 rfl) ?_
    refine lv_dup hx hb dX10_grows_1 rfl ?_
    refine fg_X10_308 X hS (hN) dX10_grows_2 ?_
    refine lv_iload_n hx hb dX10_grows_5 rfl (lv_at hl 1 rfl) ?_
    refine lv_iadd hx hb dX10_grows_6 ?_
    refine fp_X10_308 X hS (hN) dX10_grows_7 (fun H locs hS => ?_)
    obtain ⟨M14, eM14, hS, hX⟩ := nm_mem hS hX
    refine lv_iconst (v := nI 0) hx hb dX10_grows_10 (by decide) ?_
    refine lv_istore_n (lv' := [(2, .int (nI 0)), (0, .ref (ad 100 0)), (1, .int a1)]) hx hb dX10_grows_11 rfl hl (by decide) rfl (fun ls hl => ?_)
    exact n_X10_grows_12 X hN _ _ _ _ hX _ _ _ (lv_sub hl [1, 0] rfl) hS
  rw [hH, hlo] at hgoal
  exact hgoal
theorem mv_X10_grows : Mv yX10_grows RX10 cX10_grows 3 ((none : Option Jvm.ClassFile.FieldType)) 1 := ⟨t7_57, t7_56, ts_47, t1_11, ⟨by decide, by decide⟩, by decide +kernel⟩
/-! SewnYearModel.goesOn()Z -/
def rm_X10_goesOn : Room := { frames := 3, cells := 0, slots := 0, locals := 64 }
def f_X10_goesOn (M : Mem) : Option (Bool × Mem) :=
  if (gI M 100 29) = (nI 99) then (some (false, M)) else (nm (sI M 100 29 ((gI M 100 29) + (nI 1))) fun M2 => nm (sI M2 100 31 (nI 0)) fun M3 => bn (f_X10_of M3 ((nI 38) + (gI M3 100 29))) fun r5 => bn (f_X10_grows M3 r5) fun M7 => some (true, M7))
set_option maxRecDepth 100000 in
set_option maxHeartbeats 4000000 in
theorem m_X10_goesOn {l : Launch} {D : va_G} {cy : Nat → ClassId} {ad : Nat → Nat → Nat} {ns : List (Nat × Nat)} {A : Nat → Prop} {M : Mem} (hN : Ob ns 10 100) {r : Bool × Mem} (hX : f_X10_goesOn M = some r) : Ct l yX10_goesOn cX10_goesOn 1 ((some .boolean)) rm_X10_goesOn D cy ad ns A [.ref (ad 100 0)] M r.2 (some (.int (b2i r.1))) := by
  refine ct_of (lv := [(0, .ref (ad 100 0))]) (by decide) (Nat.le_of_ble_eq_true rfl) rfl ?_
  intro p e s m args below meth c ls X hl hS
  obtain ⟨hx, hb, hml, hown, hts, hK, hr, hlk, hA, hG⟩ := id X
  obtain ⟨H, hH⟩ : ∃ z, z = s.heap := ⟨_, rfl⟩
  obtain ⟨locs, hlo⟩ : ∃ z : List Loc, z = [] := ⟨_, rfl⟩
  have hS : St D cy ad ns A M s.heap H locs := by rw [hH, hlo]; exact hS
  have hgoal : W p l e rm_X10_goesOn s m args below meth c H locs 0 0 (MQ below (QC D cy ad ns A r.2 (some (.int (b2i r.1)))) args s 0 0 A) (F0 m 0 ls []) := by
    unfold f_X10_goesOn at hX
    refine lv_aload_n hx hb dX10_goesOn_0 rfl (lv_at hl 0 rfl) ?_
    refine fg_X10_305 X hS (hN) dX10_goesOn_1 ?_
    refine lv_bipush (v := nI 99) hx hb dX10_goesOn_4 (by decide) ?_
    refine lv_icmp_ne (tgt := 11) hx hb dX10_goesOn_6 (by decide) (fun c1 => ?_) (fun c1 => ?_)
    · have hX := if_f c1 hX
      refine lv_aload_n hx hb dX10_goesOn_11 rfl (lv_at hl 0 rfl) ?_
      refine lv_dup hx hb dX10_goesOn_12 rfl ?_
      refine fg_X10_305 X hS (hN) dX10_goesOn_13 ?_
      refine lv_iconst (v := nI 1) hx hb dX10_goesOn_16 (by decide) ?_
      refine lv_iadd hx hb dX10_goesOn_17 ?_
      refine fp_X10_305 X hS (hN) dX10_goesOn_18 (fun H locs hS => ?_)
      obtain ⟨M2, eM2, hS, hX⟩ := nm_mem hS hX
      refine lv_aload_n hx hb dX10_goesOn_21 rfl (lv_at hl 0 rfl) ?_
      refine lv_iconst (v := nI 0) hx hb dX10_goesOn_22 (by decide) ?_
      refine fp_X10_311 X hS (hN) dX10_goesOn_23 (fun H locs hS => ?_)
      obtain ⟨M3, eM3, hS, hX⟩ := nm_mem hS hX
      refine lv_aload_n hx hb dX10_goesOn_26 rfl (lv_at hl 0 rfl) ?_
      refine lv_aload_n hx hb dX10_goesOn_27 rfl (lv_at hl 0 rfl) ?_
      refine lv_bipush (v := nI 38) hx hb dX10_goesOn_28 (by decide) ?_
      refine lv_aload_n hx hb dX10_goesOn_30 rfl (lv_at hl 0 rfl) ?_
      refine fg_X10_305 X hS (hN) dX10_goesOn_31 ?_
      refine lv_iadd hx hb dX10_goesOn_34 ?_
      obtain ⟨r5, h4, hX⟩ := bn_of hX
      refine r_callV1 (v := .int r5) (As := [.int ((nI 38) + (gI M3 100 29))]) (rest := [.ref (ad 100 0)]) X hS (m_X10_of hN h4) mv_X10_of rfl (hN) t6_220 ⟨rfl, rfl, Nat.le_of_ble_eq_true rfl, Nat.le_of_ble_eq_true rfl⟩ rfl hl.1 rfl (Nat.le_of_ble_eq_true rfl) ⟨Nat.zero_le _, Nat.zero_le _⟩ dX10_goesOn_35 (fun H locs hS => ?_)
      obtain ⟨M7, h6, hX⟩ := bn_of hX
      refine r_callV0 (As := [.int r5]) (rest := []) X hS (m_X10_grows hN h6) mv_X10_grows rfl (hN) t7_54 ⟨rfl, rfl, Nat.le_of_ble_eq_true rfl, Nat.le_of_ble_eq_true rfl⟩ rfl hl.1 rfl (Nat.le_of_ble_eq_true rfl) ⟨Nat.zero_le _, Nat.zero_le _⟩ dX10_goesOn_38 (fun H locs hS => ?_)
      refine lv_iconst (v := nI 1) hx hb dX10_goesOn_41 (by decide) ?_
      obtain rfl := some_of hX
      exact x_Z (v := true) X hS dX10_goesOn_42
    · have hX := if_t c1 hX
      refine lv_iconst (v := nI 0) hx hb dX10_goesOn_9 (by decide) ?_
      obtain rfl := some_of hX
      exact x_Z (v := false) X hS dX10_goesOn_10
  rw [hH, hlo] at hgoal
  exact hgoal
theorem mv_X10_goesOn : Mv yX10_goesOn RX10 cX10_goesOn 1 ((some .boolean)) 0 := ⟨t7_61, t7_60, ts_48, t1_11, ⟨by decide, by decide⟩, by decide +kernel⟩
/-! SewnYearModel.does(I)Z -/
def rm_X10_does : Room := { frames := 4, cells := 0, slots := 0, locals := 85 }
def f_X10_does (M : Mem) (a1 : Int32) : Option (Bool × Mem) :=
  bn (f_X10_deedOf M a1 (nI 1)) fun r2 => bn (f_X10_deedOf M a1 (nI 0)) fun r4 => if r4 = nI 0 then (bp (f_X10_sews M r2) fun r8 M7 => some (r8, M7)) else if r4 = nI 1 then (bp (f_X10_unpicks M r2) fun r12 M11 => some (r12, M11)) else if r4 = nI 2 then (bp (f_X10_tears M r2) fun r16 M15 => some (r16, M15)) else if r4 = nI 3 then (bn (f_X10_grows M r2) fun M19 => some (true, M19)) else if r4 = nI 4 then (bn (f_X10_grows M (-r2)) fun M22 => some (true, M22)) else (bp (f_X10_goesOn M) fun r25 M24 => some (r25, M24))
set_option maxRecDepth 100000 in
set_option maxHeartbeats 4000000 in
theorem m_X10_does {l : Launch} {D : va_G} {cy : Nat → ClassId} {ad : Nat → Nat → Nat} {ns : List (Nat × Nat)} {A : Nat → Prop} {M : Mem} (hN : Ob ns 10 100) {a1 : Int32} {r : Bool × Mem} (hX : f_X10_does M a1 = some r) : Ct l yX10_does cX10_does 3 ((some .boolean)) rm_X10_does D cy ad ns A [.ref (ad 100 0), .int a1] M r.2 (some (.int (b2i r.1))) := by
  refine ct_of (lv := [(0, .ref (ad 100 0)), (1, .int a1)]) (by decide) (Nat.le_of_ble_eq_true rfl) rfl ?_
  intro p e s m args below meth c ls X hl hS
  obtain ⟨hx, hb, hml, hown, hts, hK, hr, hlk, hA, hG⟩ := id X
  obtain ⟨H, hH⟩ : ∃ z, z = s.heap := ⟨_, rfl⟩
  obtain ⟨locs, hlo⟩ : ∃ z : List Loc, z = [] := ⟨_, rfl⟩
  have hS : St D cy ad ns A M s.heap H locs := by rw [hH, hlo]; exact hS
  have hgoal : W p l e rm_X10_does s m args below meth c H locs 0 0 (MQ below (QC D cy ad ns A r.2 (some (.int (b2i r.1)))) args s 0 0 A) (F0 m 0 ls []) := by
    unfold f_X10_does at hX
    refine lv_aload_n hx hb dX10_does_0 rfl (lv_at hl 0 rfl) ?_
    refine lv_iload_n hx hb dX10_does_1 rfl (lv_at hl 1 rfl) ?_
    refine lv_iconst (v := nI 1) hx hb dX10_does_2 (by decide) ?_
    obtain ⟨r2, h1, hX⟩ := bn_of hX
    refine r_callV1 (v := .int r2) (As := [.int a1, .int (nI 1)]) (rest := []) X hS (m_X10_deedOf hN h1) mv_X10_deedOf rfl (hN) t7_0 ⟨rfl, rfl, Nat.le_of_ble_eq_true rfl, Nat.le_of_ble_eq_true rfl⟩ rfl hl.1 rfl (Nat.le_of_ble_eq_true rfl) ⟨Nat.zero_le _, Nat.zero_le _⟩ dX10_does_3 (fun H locs hS => ?_)
    refine lv_istore_n (lv' := [(2, .int r2), (0, .ref (ad 100 0)), (1, .int a1)]) hx hb dX10_does_6 rfl hl (by decide) rfl (fun ls hl => ?_)
    refine lv_aload_n hx hb dX10_does_7 rfl (lv_at hl 1 rfl) ?_
    refine lv_iload_n hx hb dX10_does_8 rfl (lv_at hl 2 rfl) ?_
    refine lv_iconst (v := nI 0) hx hb dX10_does_9 (by decide) ?_
    obtain ⟨r4, h3, hX⟩ := bn_of hX
    refine r_callV1 (v := .int r4) (As := [.int a1, .int (nI 0)]) (rest := []) X hS (m_X10_deedOf hN h3) mv_X10_deedOf rfl (hN) t7_0 ⟨rfl, rfl, Nat.le_of_ble_eq_true rfl, Nat.le_of_ble_eq_true rfl⟩ rfl hl.1 rfl (Nat.le_of_ble_eq_true rfl) ⟨Nat.zero_le _, Nat.zero_le _⟩ dX10_does_10 (fun H locs hS => ?_)
    by_cases c5 : r4 = nI 0
    · have hX := if_t c5 hX
      refine r_tabIn c5 (off := 35) (tgt := 48) hx hb dX10_does_13 (by decide) (by decide) (by decide) (by decide) ?_
      refine lv_aload_n hx hb dX10_does_48 rfl (lv_at hl 1 rfl) ?_
      refine lv_iload_n hx hb dX10_does_49 rfl (lv_at hl 0 rfl) ?_
      obtain ⟨r8, M7, h6, hX⟩ := bp_of hX
      refine r_callV1 (v := .int (b2i r8)) (As := [.int r2]) (rest := []) X hS (m_X10_sews hN h6) mv_X10_sews rfl (hN) t7_24 ⟨rfl, rfl, Nat.le_of_ble_eq_true rfl, Nat.le_of_ble_eq_true rfl⟩ rfl hl.1 rfl (Nat.le_of_ble_eq_true rfl) ⟨Nat.zero_le _, Nat.zero_le _⟩ dX10_does_50 (fun H locs hS => ?_)
      obtain rfl := some_of hX
      exact x_Z (v := r8) X hS dX10_does_53
    have hX := if_f c5 hX
    by_cases c9 : r4 = nI 1
    · have hX := if_t c9 hX
      refine r_tabIn c9 (off := 41) (tgt := 54) hx hb dX10_does_13 (by decide) (by decide) (by decide) (by decide) ?_
      refine lv_aload_n hx hb dX10_does_54 rfl (lv_at hl 1 rfl) ?_
      refine lv_iload_n hx hb dX10_does_55 rfl (lv_at hl 0 rfl) ?_
      obtain ⟨r12, M11, h10, hX⟩ := bp_of hX
      refine r_callV1 (v := .int (b2i r12)) (As := [.int r2]) (rest := []) X hS (m_X10_unpicks hN h10) mv_X10_unpicks rfl (hN) t7_39 ⟨rfl, rfl, Nat.le_of_ble_eq_true rfl, Nat.le_of_ble_eq_true rfl⟩ rfl hl.1 rfl (Nat.le_of_ble_eq_true rfl) ⟨Nat.zero_le _, Nat.zero_le _⟩ dX10_does_56 (fun H locs hS => ?_)
      obtain rfl := some_of hX
      exact x_Z (v := r12) X hS dX10_does_59
    have hX := if_f c9 hX
    by_cases c13 : r4 = nI 2
    · have hX := if_t c13 hX
      refine r_tabIn c13 (off := 47) (tgt := 60) hx hb dX10_does_13 (by decide) (by decide) (by decide) (by decide) ?_
      refine lv_aload_n hx hb dX10_does_60 rfl (lv_at hl 1 rfl) ?_
      refine lv_iload_n hx hb dX10_does_61 rfl (lv_at hl 0 rfl) ?_
      obtain ⟨r16, M15, h14, hX⟩ := bp_of hX
      refine r_callV1 (v := .int (b2i r16)) (As := [.int r2]) (rest := []) X hS (m_X10_tears hN h14) mv_X10_tears rfl (hN) t7_50 ⟨rfl, rfl, Nat.le_of_ble_eq_true rfl, Nat.le_of_ble_eq_true rfl⟩ rfl hl.1 rfl (Nat.le_of_ble_eq_true rfl) ⟨Nat.zero_le _, Nat.zero_le _⟩ dX10_does_62 (fun H locs hS => ?_)
      obtain rfl := some_of hX
      exact x_Z (v := r16) X hS dX10_does_65
    have hX := if_f c13 hX
    by_cases c17 : r4 = nI 3
    · have hX := if_t c17 hX
      refine r_tabIn c17 (off := 53) (tgt := 66) hx hb dX10_does_13 (by decide) (by decide) (by decide) (by decide) ?_
      refine lv_aload_n hx hb dX10_does_66 rfl (lv_at hl 1 rfl) ?_
      refine lv_iload_n hx hb dX10_does_67 rfl (lv_at hl 0 rfl) ?_
      obtain ⟨M19, h18, hX⟩ := bn_of hX
      refine r_callV0 (As := [.int r2]) (rest := []) X hS (m_X10_grows hN h18) mv_X10_grows rfl (hN) t7_54 ⟨rfl, rfl, Nat.le_of_ble_eq_true rfl, Nat.le_of_ble_eq_true rfl⟩ rfl hl.1 rfl (Nat.le_of_ble_eq_true rfl) ⟨Nat.zero_le _, Nat.zero_le _⟩ dX10_does_68 (fun H locs hS => ?_)
      refine lv_iconst (v := nI 1) hx hb dX10_does_71 (by decide) ?_
      obtain rfl := some_of hX
      exact x_Z (v := true) X hS dX10_does_72
    have hX := if_f c17 hX
    by_cases c20 : r4 = nI 4
    · have hX := if_t c20 hX
      refine r_tabIn c20 (off := 60) (tgt := 73) hx hb dX10_does_13 (by decide) (by decide) (by decide) (by decide) ?_
      refine lv_aload_n hx hb dX10_does_73 rfl (lv_at hl 1 rfl) ?_
      refine lv_iload_n hx hb dX10_does_74 rfl (lv_at hl 0 rfl) ?_
      refine lv_ineg hx hb dX10_does_75 ?_
      obtain ⟨M22, h21, hX⟩ := bn_of hX
      refine r_callV0 (As := [.int (-r2)]) (rest := []) X hS (m_X10_grows hN h21) mv_X10_grows rfl (hN) t7_54 ⟨rfl, rfl, Nat.le_of_ble_eq_true rfl, Nat.le_of_ble_eq_true rfl⟩ rfl hl.1 rfl (Nat.le_of_ble_eq_true rfl) ⟨Nat.zero_le _, Nat.zero_le _⟩ dX10_does_76 (fun H locs hS => ?_)
      refine lv_iconst (v := nI 1) hx hb dX10_does_79 (by decide) ?_
      obtain rfl := some_of hX
      exact x_Z (v := true) X hS dX10_does_80
    have hX := if_f c20 hX
    have ic5 : ¬ r4.toInt = 0 := lv_neT c5 rfl
    have ic9 : ¬ r4.toInt = 1 := lv_neT c9 rfl
    have ic13 : ¬ r4.toInt = 2 := lv_neT c13 rfl
    have ic17 : ¬ r4.toInt = 3 := lv_neT c17 rfl
    have ic20 : ¬ r4.toInt = 4 := lv_neT c20 rfl
    refine lv_tableOut (tgt := 81) hx hb dX10_does_13 (by omega) (by decide) ?_
    refine lv_aload_n hx hb dX10_does_81 rfl (lv_at hl 1 rfl) ?_
    obtain ⟨r25, M24, h23, hX⟩ := bp_of hX
    refine r_callV1 (v := .int (b2i r25)) (As := []) (rest := []) X hS (m_X10_goesOn hN h23) mv_X10_goesOn rfl (hN) t7_58 ⟨rfl, rfl, Nat.le_of_ble_eq_true rfl, Nat.le_of_ble_eq_true rfl⟩ rfl hl.1 rfl (Nat.le_of_ble_eq_true rfl) ⟨Nat.zero_le _, Nat.zero_le _⟩ dX10_does_82 (fun H locs hS => ?_)
    obtain rfl := some_of hX
    exact x_Z (v := r25) X hS dX10_does_85
  rw [hH, hlo] at hgoal
  exact hgoal
theorem mv_X10_does : Mv yX10_does RX10 cX10_does 3 ((some .boolean)) 1 := ⟨t7_23, t7_22, ts_40, t1_11, ⟨by decide, by decide⟩, by decide +kernel⟩
/-! SewnYearModel.play(I)I -/
def rm_X10_play : Room := { frames := 5, cells := 0, slots := 0, locals := 107 }
def b_X10_play_6 (a1 : Int32) (rc : Int32 → Mem → Option (Int32 × Mem)) (v_2 : Int32) (M : Mem) : Option (Int32 × Mem) :=
  if a1 ≤ v_2 then (some (v_2, M)) else (bp (f_X10_does M v_2) fun r4 M3 => if r4 = true then (nm (v_2 + nI 1) fun v6 => rc v6 M3) else (some (v_2, M3)))
def f_X10_play_6 (a1 : Int32) : Nat → (Int32 × Mem) → Option (Int32 × Mem) := lp (fun rc q => b_X10_play_6 a1 (fun x0 x1 => rc (x0, x1)) q.1 q.2)
def f_X10_play (M : Mem) (a1 : Int32) : Option (Int32 × Mem) :=
  bn (f_X10_begin M) fun M8 => f_X10_play_6 a1 FU ((nI 0), M8)
set_option maxRecDepth 100000 in
set_option maxHeartbeats 4000000 in
theorem n_X10_play_6 {a1 : Int32} (X : Cx p s m args meth c D cy ad A RX10 cX10_play 3 ((some .int))) (hN : Ob ns 10 100) : ∀ (n : Nat) (v_2 : Int32) (M : Mem) (r : Int32 × Mem), f_X10_play_6 a1 n (v_2, M) = some r → ∀ (ls : Array Slot) (H : Heap) (locs : List Loc), lv_has ls 3 [(0, .ref (ad 100 0)), (1, .int a1), (2, .int v_2)] → St D cy ad ns A M s.heap H locs → W p l e rm_X10_play s m args below meth c H locs 0 0 (MQ below (QC D cy ad ns A r.2 (some (.int r.1))) args s 0 0 A) (F0 m 6 ls []) := by
  obtain ⟨hx, hb, hml, hown, hts, hK, hr, hlk, hA, hG⟩ := id X
  intro n
  induction n with
  | zero => intro v_2 M r hX; cases (show (none : Option (Int32 × Mem)) = some r from hX)
  | succ n ih =>
    intro v_2 M r hX ls H locs hl hS
    have hX : b_X10_play_6 a1 (fun x0 x1 => f_X10_play_6 a1 n (x0, x1)) v_2 M = some r := hX
    unfold b_X10_play_6 at hX
    refine lv_iload_n hx hb dX10_play_6 rfl (lv_at hl 2 rfl) ?_
    refine lv_iload_n hx hb dX10_play_7 rfl (lv_at hl 1 rfl) ?_
    refine lv_icmp_ge (tgt := 25) hx hb dX10_play_8 (by decide) (fun c1 => ?_) (fun c1 => ?_)
    · have hX := if_t c1 hX
      refine lv_iload_n hx hb dX10_play_25 rfl (lv_at hl 2 rfl) ?_
      obtain rfl := some_of hX
      exact x_I (v := v_2) X hS dX10_play_26
    · have hX := if_f c1 hX
      refine lv_aload_n hx hb dX10_play_11 rfl (lv_at hl 0 rfl) ?_
      refine lv_iload_n hx hb dX10_play_12 rfl (lv_at hl 2 rfl) ?_
      obtain ⟨r4, M3, h2, hX⟩ := bp_of hX
      refine r_callV1 (v := .int (b2i r4)) (As := [.int v_2]) (rest := []) X hS (m_X10_does hN h2) mv_X10_does rfl (hN) t7_20 ⟨rfl, rfl, Nat.le_of_ble_eq_true rfl, Nat.le_of_ble_eq_true rfl⟩ rfl hl.1 rfl (Nat.le_of_ble_eq_true rfl) ⟨Nat.zero_le _, Nat.zero_le _⟩ dX10_play_13 (fun H locs hS => ?_)
      refine lv_if_eq (tgt := 25) hx hb dX10_play_16 (by decide) (fun c5 => ?_) (fun c5 => ?_)
      · have hX := if_bf c5 hX
        refine lv_iload_n hx hb dX10_play_25 rfl (lv_at hl 2 rfl) ?_
        obtain rfl := some_of hX
        exact x_I (v := v_2) X hS dX10_play_26
      · have hX := if_bt c5 hX
        obtain ⟨v6, ev6⟩ : ∃ y : Int32, y = (v_2 + nI 1) := ⟨_, rfl⟩
        have hX := nm_of ev6 hX
        refine lv_iinc (v := v6) (lv' := [(2, .int v6), (0, .ref (ad 100 0)), (1, .int a1)]) hx hb dX10_play_19 hl (k := 2) rfl (by rw [ev6]; rfl) (by decide) rfl (fun ls hl => ?_)
        refine lv_goto (tgt := 6) hx hb dX10_play_22 (by decide) ?_
        exact ih _ _ _ hX _ _ _ (lv_sub hl [1, 2, 0] rfl) hS
set_option maxRecDepth 100000 in
set_option maxHeartbeats 4000000 in
theorem m_X10_play {l : Launch} {D : va_G} {cy : Nat → ClassId} {ad : Nat → Nat → Nat} {ns : List (Nat × Nat)} {A : Nat → Prop} {M : Mem} (hN : Ob ns 10 100) {a1 : Int32} {r : Int32 × Mem} (hX : f_X10_play M a1 = some r) : Ct l yX10_play cX10_play 3 ((some .int)) rm_X10_play D cy ad ns A [.ref (ad 100 0), .int a1] M r.2 (some (.int r.1)) := by
  refine ct_of (lv := [(0, .ref (ad 100 0)), (1, .int a1)]) (by decide) (Nat.le_of_ble_eq_true rfl) rfl ?_
  intro p e s m args below meth c ls X hl hS
  obtain ⟨hx, hb, hml, hown, hts, hK, hr, hlk, hA, hG⟩ := id X
  obtain ⟨H, hH⟩ : ∃ z, z = s.heap := ⟨_, rfl⟩
  obtain ⟨locs, hlo⟩ : ∃ z : List Loc, z = [] := ⟨_, rfl⟩
  have hS : St D cy ad ns A M s.heap H locs := by rw [hH, hlo]; exact hS
  have hgoal : W p l e rm_X10_play s m args below meth c H locs 0 0 (MQ below (QC D cy ad ns A r.2 (some (.int r.1))) args s 0 0 A) (F0 m 0 ls []) := by
    unfold f_X10_play at hX
    refine lv_aload_n hx hb dX10_play_0 rfl (lv_at hl 0 rfl) ?_
    obtain ⟨M8, h7, hX⟩ := bn_of hX
    refine r_callV0 (As := []) (rest := []) X hS (m_X10_begin hN h7) mv_X10_begin rfl (hN) t7_16 ⟨rfl, rfl, Nat.le_of_ble_eq_true rfl, Nat.le_of_ble_eq_true rfl⟩ rfl hl.1 rfl (Nat.le_of_ble_eq_true rfl) ⟨Nat.zero_le _, Nat.zero_le _⟩ dX10_play_1 (fun H locs hS => ?_)
    refine lv_iconst (v := nI 0) hx hb dX10_play_4 (by decide) ?_
    refine lv_istore_n (lv' := [(2, .int (nI 0)), (0, .ref (ad 100 0)), (1, .int a1)]) hx hb dX10_play_5 rfl hl (by decide) rfl (fun ls hl => ?_)
    exact n_X10_play_6 X hN _ _ _ _ hX _ _ _ (lv_sub hl [1, 2, 0] rfl) hS
  rw [hH, hlo] at hgoal
  exact hgoal
theorem mv_X10_play : Mv yX10_play RX10 cX10_play 3 ((some .int)) 1 := ⟨t7_15, t7_14, ts_38, t1_11, ⟨by decide, by decide⟩, by decide +kernel⟩
/-! SewnYearModel.layAll(II)Z -/
def rm_X10_layAll : Room := { frames := 3, cells := 0, slots := 0, locals := 65 }
def f_X10_layAll (M : Mem) (a1 : Int32) (a2 : Int32) : Option (Bool × Mem) :=
  bp (f_X10_hasLife M a2) fun r3 M2 => if r3 = true then (bp (f_X10_hand M2 a1) fun r7 M6 => if r7 = true then (some (true, M6)) else (some (false, M6))) else (some (false, M2))
set_option maxRecDepth 100000 in
set_option maxHeartbeats 4000000 in
theorem m_X10_layAll {l : Launch} {D : va_G} {cy : Nat → ClassId} {ad : Nat → Nat → Nat} {ns : List (Nat × Nat)} {A : Nat → Prop} {M : Mem} (hN : Ob ns 10 100) {a1 : Int32} {a2 : Int32} {r : Bool × Mem} (hX : f_X10_layAll M a1 a2 = some r) : Ct l yX10_layAll cX10_layAll 3 ((some .boolean)) rm_X10_layAll D cy ad ns A [.ref (ad 100 0), .int a1, .int a2] M r.2 (some (.int (b2i r.1))) := by
  refine ct_of (lv := [(0, .ref (ad 100 0)), (1, .int a1), (2, .int a2)]) (by decide) (Nat.le_of_ble_eq_true rfl) rfl ?_
  intro p e s m args below meth c ls X hl hS
  obtain ⟨hx, hb, hml, hown, hts, hK, hr, hlk, hA, hG⟩ := id X
  obtain ⟨H, hH⟩ : ∃ z, z = s.heap := ⟨_, rfl⟩
  obtain ⟨locs, hlo⟩ : ∃ z : List Loc, z = [] := ⟨_, rfl⟩
  have hS : St D cy ad ns A M s.heap H locs := by rw [hH, hlo]; exact hS
  have hgoal : W p l e rm_X10_layAll s m args below meth c H locs 0 0 (MQ below (QC D cy ad ns A r.2 (some (.int (b2i r.1)))) args s 0 0 A) (F0 m 0 ls []) := by
    unfold f_X10_layAll at hX
    refine lv_aload_n hx hb dX10_layAll_0 rfl (lv_at hl 0 rfl) ?_
    refine lv_iload_n hx hb dX10_layAll_1 rfl (lv_at hl 2 rfl) ?_
    obtain ⟨r3, M2, h1, hX⟩ := bp_of hX
    refine r_callV1 (v := .int (b2i r3)) (As := [.int a2]) (rest := []) X hS (m_X10_hasLife hN h1) mv_X10_hasLife rfl (hN) t6_232 ⟨rfl, rfl, Nat.le_of_ble_eq_true rfl, Nat.le_of_ble_eq_true rfl⟩ rfl hl.1 rfl (Nat.le_of_ble_eq_true rfl) ⟨Nat.zero_le _, Nat.zero_le _⟩ dX10_layAll_2 (fun H locs hS => ?_)
    refine lv_if_eq (tgt := 20) hx hb dX10_layAll_5 (by decide) (fun c4 => ?_) (fun c4 => ?_)
    · have hX := if_bf c4 hX
      refine lv_iconst (v := nI 0) hx hb dX10_layAll_20 (by decide) ?_
      obtain rfl := some_of hX
      exact x_Z (v := false) X hS dX10_layAll_21
    · have hX := if_bt c4 hX
      refine lv_aload_n hx hb dX10_layAll_8 rfl (lv_at hl 0 rfl) ?_
      refine lv_iload_n hx hb dX10_layAll_9 rfl (lv_at hl 1 rfl) ?_
      obtain ⟨r7, M6, h5, hX⟩ := bp_of hX
      refine r_callV1 (v := .int (b2i r7)) (As := [.int a1]) (rest := []) X hS (m_X10_hand hN h5) mv_X10_hand rfl (hN) t6_216 ⟨rfl, rfl, Nat.le_of_ble_eq_true rfl, Nat.le_of_ble_eq_true rfl⟩ rfl hl.1 rfl (Nat.le_of_ble_eq_true rfl) ⟨Nat.zero_le _, Nat.zero_le _⟩ dX10_layAll_10 (fun H locs hS => ?_)
      refine lv_if_eq (tgt := 20) hx hb dX10_layAll_13 (by decide) (fun c8 => ?_) (fun c8 => ?_)
      · have hX := if_bf c8 hX
        refine lv_iconst (v := nI 0) hx hb dX10_layAll_20 (by decide) ?_
        obtain rfl := some_of hX
        exact x_Z (v := false) X hS dX10_layAll_21
      · have hX := if_bt c8 hX
        refine lv_iconst (v := nI 1) hx hb dX10_layAll_16 (by decide) ?_
        refine lv_goto (tgt := 21) hx hb dX10_layAll_17 (by decide) ?_
        obtain rfl := some_of hX
        exact x_Z (v := true) X hS dX10_layAll_21
  rw [hH, hlo] at hgoal
  exact hgoal
theorem mv_X10_layAll : Mv yX10_layAll RX10 cX10_layAll 3 ((some .boolean)) 2 := ⟨t7_11, t7_10, ts_37, t1_11, ⟨by decide, by decide⟩, by decide +kernel⟩
/-! SewnYearModel.stop(II)I -/
def rm_X10_stop : Room := { frames := 6, cells := 0, slots := 0, locals := 129 }
def f_X10_stop (M : Mem) (a1 : Int32) (a2 : Int32) : Option (Int32 × Mem) :=
  nm (sI M 100 0 (nI 0)) fun M1 => bp (f_X10_layAll M1 a1 a2) fun r4 M3 => if r4 = true then (bn (f_X10_deeds M3) fun r7 => bp (f_X10_play M3 r7) fun r10 M9 => some (r10, M9)) else (some ((-1), M3))
set_option maxRecDepth 100000 in
set_option maxHeartbeats 4000000 in
theorem m_X10_stop {l : Launch} {D : va_G} {cy : Nat → ClassId} {ad : Nat → Nat → Nat} {ns : List (Nat × Nat)} {A : Nat → Prop} {M : Mem} (hN : Ob ns 10 100) {a1 : Int32} {a2 : Int32} {r : Int32 × Mem} (hX : f_X10_stop M a1 a2 = some r) : Ct l yX10_stop cX10_stop 3 ((some .int)) rm_X10_stop D cy ad ns A [.ref (ad 100 0), .int a1, .int a2] M r.2 (some (.int r.1)) := by
  refine ct_of (lv := [(0, .ref (ad 100 0)), (1, .int a1), (2, .int a2)]) (by decide) (Nat.le_of_ble_eq_true rfl) rfl ?_
  intro p e s m args below meth c ls X hl hS
  obtain ⟨hx, hb, hml, hown, hts, hK, hr, hlk, hA, hG⟩ := id X
  obtain ⟨H, hH⟩ : ∃ z, z = s.heap := ⟨_, rfl⟩
  obtain ⟨locs, hlo⟩ : ∃ z : List Loc, z = [] := ⟨_, rfl⟩
  have hS : St D cy ad ns A M s.heap H locs := by rw [hH, hlo]; exact hS
  have hgoal : W p l e rm_X10_stop s m args below meth c H locs 0 0 (MQ below (QC D cy ad ns A r.2 (some (.int r.1))) args s 0 0 A) (F0 m 0 ls []) := by
    unfold f_X10_stop at hX
    refine lv_aload_n hx hb dX10_stop_0 rfl (lv_at hl 0 rfl) ?_
    refine lv_iconst (v := nI 0) hx hb dX10_stop_1 (by decide) ?_
    refine fp_X10_94 X hS (hN) dX10_stop_2 (fun H locs hS => ?_)
    obtain ⟨M1, eM1, hS, hX⟩ := nm_mem hS hX
    refine lv_aload_n hx hb dX10_stop_5 rfl (lv_at hl 0 rfl) ?_
    refine lv_iload_n hx hb dX10_stop_6 rfl (lv_at hl 1 rfl) ?_
    refine lv_iload_n hx hb dX10_stop_7 rfl (lv_at hl 2 rfl) ?_
    obtain ⟨r4, M3, h2, hX⟩ := bp_of hX
    refine r_callV1 (v := .int (b2i r4)) (As := [.int a1, .int a2]) (rest := []) X hS (m_X10_layAll hN h2) mv_X10_layAll rfl (hN) t7_8 ⟨rfl, rfl, Nat.le_of_ble_eq_true rfl, Nat.le_of_ble_eq_true rfl⟩ rfl hl.1 rfl (Nat.le_of_ble_eq_true rfl) ⟨Nat.zero_le _, Nat.zero_le _⟩ dX10_stop_8 (fun H locs hS => ?_)
    refine lv_if_eq (tgt := 25) hx hb dX10_stop_11 (by decide) (fun c5 => ?_) (fun c5 => ?_)
    · have hX := if_bf c5 hX
      refine lv_iconst (v := (-1)) hx hb dX10_stop_25 (by decide) ?_
      obtain rfl := some_of hX
      exact x_I (v := (-1)) X hS dX10_stop_26
    · have hX := if_bt c5 hX
      refine lv_aload_n hx hb dX10_stop_14 rfl (lv_at hl 0 rfl) ?_
      refine lv_aload_n hx hb dX10_stop_15 rfl (lv_at hl 0 rfl) ?_
      obtain ⟨r7, h6, hX⟩ := bn_of hX
      refine r_callV1 (v := .int r7) (As := []) (rest := [.ref (ad 100 0)]) X hS (m_X10_deeds hN h6) mv_X10_deeds rfl (hN) t6_236 ⟨rfl, rfl, Nat.le_of_ble_eq_true rfl, Nat.le_of_ble_eq_true rfl⟩ rfl hl.1 rfl (Nat.le_of_ble_eq_true rfl) ⟨Nat.zero_le _, Nat.zero_le _⟩ dX10_stop_16 (fun H locs hS => ?_)
      obtain ⟨r10, M9, h8, hX⟩ := bp_of hX
      refine r_callV1 (v := .int r10) (As := [.int r7]) (rest := []) X hS (m_X10_play hN h8) mv_X10_play rfl (hN) t7_12 ⟨rfl, rfl, Nat.le_of_ble_eq_true rfl, Nat.le_of_ble_eq_true rfl⟩ rfl hl.1 rfl (Nat.le_of_ble_eq_true rfl) ⟨Nat.zero_le _, Nat.zero_le _⟩ dX10_stop_19 (fun H locs hS => ?_)
      refine lv_goto (tgt := 26) hx hb dX10_stop_22 (by decide) ?_
      obtain rfl := some_of hX
      exact x_I (v := r10) X hS dX10_stop_26
  rw [hH, hlo] at hgoal
  exact hgoal
theorem mv_X10_stop : Mv yX10_stop RX10 cX10_stop 3 ((some .int)) 2 := ⟨t7_7, t7_5, t7_6, t1_11, ⟨by decide, by decide⟩, by decide +kernel⟩
/-! SewnYearModel.ofState(I)I -/
def rm_X10_ofState : Room := { frames := 2, cells := 0, slots := 0, locals := 42 }
def f_X10_ofState_80 (M : Mem) (a1 : Int32) (k_56 : Int32 → Int32 → Option (Int32)) (v_3 : Int32) (s_0 : Int32) (s_1 : Int32) : Option (Int32) :=
  nm (s_0 ||| s_1) fun v1 => nm (v_3 + nI 1) fun v2 => k_56 v1 v2
def b_X10_ofState_56 (M : Mem) (a1 : Int32) (rc : Int32 → Int32 → Option (Int32)) (v_2 : Int32) (v_3 : Int32) : Option (Int32) :=
  if (gI M 100 24) ≤ v_3 then (if a1 = nI 0 then (some (gI M 100 29)) else if a1 = nI 1 then (some (gI M 100 30)) else if a1 = nI 2 then (some (gI M 100 31)) else if a1 = nI 3 then (some (gI M 100 32)) else if a1 = nI 4 then (some (gI M 100 33)) else if a1 = nI 5 then (some v_2) else (some (-1000))) else (bn (f_X10_isWhole M v_3) fun r11 => if r11 = true then (f_X10_ofState_80 M a1 rc v_3 v_2 ((nI 1) <<< (v_3 &&& 31))) else (f_X10_ofState_80 M a1 rc v_3 v_2 (nI 0)))
def f_X10_ofState_56 (M : Mem) (a1 : Int32) : Nat → (Int32 × Int32) → Option (Int32) := lp (fun rc q => b_X10_ofState_56 M a1 (fun x0 x1 => rc (x0, x1)) q.1 q.2)
def f_X10_ofState (M : Mem) (a1 : Int32) : Option (Int32) :=
  bn (f_X10_in a1 (nI 10) ((nI 9) + (gI M 100 24))) fun r14 => if r14 = true then (gin (a1 - (nI 10)) 9 <| some (gA M 100 27 (ix (a1 - (nI 10))))) else (bn (f_X10_in a1 (nI 20) ((nI 19) + (gI M 100 24))) fun r17 => if r17 = true then (gin (a1 - (nI 20)) 9 <| some (gA M 100 28 (ix (a1 - (nI 20))))) else (f_X10_ofState_56 M a1 FU ((nI 0), (nI 0))))
set_option maxRecDepth 100000 in
set_option maxHeartbeats 4000000 in
theorem n_X10_ofState_80 {a1 : Int32} (X : Cx p s m args meth c D cy ad A RX10 cX10_ofState 4 ((some .int))) (hN : Ob ns 10 100) {M : Mem} {k_56 : Int32 → Int32 → Option (Int32)} {v_3 : Int32} {s_0 : Int32} {s_1 : Int32} {r : Int32} (hX : f_X10_ofState_80 M a1 k_56 v_3 s_0 s_1 = some r) : (∀ (v_2 : Int32) (v_3 : Int32) (r : Int32), k_56 v_2 v_3 = some r → ∀ (ls : Array Slot) (H : Heap) (locs : List Loc), lv_has ls 4 [(0, .ref (ad 100 0)), (1, .int a1), (2, .int v_2), (3, .int v_3)] → St D cy ad ns A M s.heap H locs → W p l e rm_X10_ofState s m args below meth c H locs 0 0 (MQ below (QC D cy ad ns A M (some (.int r))) args s 0 0 A) (F0 m 56 ls [])) → ∀ (ls : Array Slot) (H : Heap) (locs : List Loc), lv_has ls 4 [(0, .ref (ad 100 0)), (1, .int a1), (3, .int v_3)] → St D cy ad ns A M s.heap H locs → W p l e rm_X10_ofState s m args below meth c H locs 0 0 (MQ below (QC D cy ad ns A M (some (.int r))) args s 0 0 A) (F0 m 80 ls [.int s_1, .int s_0]) := by
  obtain ⟨hx, hb, hml, hown, hts, hK, hr, hlk, hA, hG⟩ := id X
  intro hk_56 ls H locs hl hS
  unfold f_X10_ofState_80 at hX
  refine lv_ior hx hb dX10_ofState_80 ?_
  refine lv_topi (fun v1 ev1 => ?_)
  have hX := nm_of ev1 hX
  refine lv_istore_n (lv' := [(2, .int v1), (0, .ref (ad 100 0)), (1, .int a1), (3, .int v_3)]) hx hb dX10_ofState_81 rfl hl (by decide) rfl (fun ls hl => ?_)
  obtain ⟨v2, ev2⟩ : ∃ y : Int32, y = (v_3 + nI 1) := ⟨_, rfl⟩
  have hX := nm_of ev2 hX
  refine lv_iinc (v := v2) (lv' := [(3, .int v2), (2, .int v1), (0, .ref (ad 100 0)), (1, .int a1)]) hx hb dX10_ofState_82 hl (k := 3) rfl (by rw [ev2]; rfl) (by decide) rfl (fun ls hl => ?_)
  refine lv_goto (tgt := 56) hx hb dX10_ofState_85 (by decide) ?_
  exact hk_56 _ _ _ hX _ _ _ (lv_sub hl [2, 3, 1, 0] rfl) hS
set_option maxRecDepth 100000 in
set_option maxHeartbeats 4000000 in
theorem n_X10_ofState_56 {a1 : Int32} (X : Cx p s m args meth c D cy ad A RX10 cX10_ofState 4 ((some .int))) (hN : Ob ns 10 100) {M : Mem} : ∀ (n : Nat) (v_2 : Int32) (v_3 : Int32) (r : Int32), f_X10_ofState_56 M a1 n (v_2, v_3) = some r → ∀ (ls : Array Slot) (H : Heap) (locs : List Loc), lv_has ls 4 [(0, .ref (ad 100 0)), (1, .int a1), (2, .int v_2), (3, .int v_3)] → St D cy ad ns A M s.heap H locs → W p l e rm_X10_ofState s m args below meth c H locs 0 0 (MQ below (QC D cy ad ns A M (some (.int r))) args s 0 0 A) (F0 m 56 ls []) := by
  obtain ⟨hx, hb, hml, hown, hts, hK, hr, hlk, hA, hG⟩ := id X
  intro n
  induction n with
  | zero => intro v_2 v_3 r hX; cases (show (none : Option (Int32)) = some r from hX)
  | succ n ih =>
    intro v_2 v_3 r hX ls H locs hl hS
    have hX : b_X10_ofState_56 M a1 (fun x0 x1 => f_X10_ofState_56 M a1 n (x0, x1)) v_2 v_3 = some r := hX
    unfold b_X10_ofState_56 at hX
    refine lv_iload_n hx hb dX10_ofState_56 rfl (lv_at hl 3 rfl) ?_
    refine lv_aload_n hx hb dX10_ofState_57 rfl (lv_at hl 0 rfl) ?_
    refine fg_X10_281 X hS (hN) dX10_ofState_58 ?_
    refine lv_icmp_ge (tgt := 88) hx hb dX10_ofState_61 (by decide) (fun c3 => ?_) (fun c3 => ?_)
    · have hX := if_t c3 hX
      refine lv_iload_n hx hb dX10_ofState_88 rfl (lv_at hl 1 rfl) ?_
      by_cases c4 : a1 = nI 0
      · have hX := if_t c4 hX
        refine r_tabIn c4 (off := 39) (tgt := 128) hx hb dX10_ofState_89 (by decide) (by decide) (by decide) (by decide) ?_
        refine lv_aload_n hx hb dX10_ofState_128 rfl (lv_at hl 0 rfl) ?_
        refine fg_X10_305 X hS (hN) dX10_ofState_129 ?_
        obtain rfl := some_of hX
        exact x_I (v := (gI M 100 29)) X hS dX10_ofState_132
      have hX := if_f c4 hX
      by_cases c5 : a1 = nI 1
      · have hX := if_t c5 hX
        refine r_tabIn c5 (off := 44) (tgt := 133) hx hb dX10_ofState_89 (by decide) (by decide) (by decide) (by decide) ?_
        refine lv_aload_n hx hb dX10_ofState_133 rfl (lv_at hl 0 rfl) ?_
        refine fg_X10_308 X hS (hN) dX10_ofState_134 ?_
        obtain rfl := some_of hX
        exact x_I (v := (gI M 100 30)) X hS dX10_ofState_137
      have hX := if_f c5 hX
      by_cases c6 : a1 = nI 2
      · have hX := if_t c6 hX
        refine r_tabIn c6 (off := 49) (tgt := 138) hx hb dX10_ofState_89 (by decide) (by decide) (by decide) (by decide) ?_
        refine lv_aload_n hx hb dX10_ofState_138 rfl (lv_at hl 0 rfl) ?_
        refine fg_X10_311 X hS (hN) dX10_ofState_139 ?_
        obtain rfl := some_of hX
        exact x_I (v := (gI M 100 31)) X hS dX10_ofState_142
      have hX := if_f c6 hX
      by_cases c7 : a1 = nI 3
      · have hX := if_t c7 hX
        refine r_tabIn c7 (off := 54) (tgt := 143) hx hb dX10_ofState_89 (by decide) (by decide) (by decide) (by decide) ?_
        refine lv_aload_n hx hb dX10_ofState_143 rfl (lv_at hl 0 rfl) ?_
        refine fg_X10_314 X hS (hN) dX10_ofState_144 ?_
        obtain rfl := some_of hX
        exact x_I (v := (gI M 100 32)) X hS dX10_ofState_147
      have hX := if_f c7 hX
      by_cases c8 : a1 = nI 4
      · have hX := if_t c8 hX
        refine r_tabIn c8 (off := 59) (tgt := 148) hx hb dX10_ofState_89 (by decide) (by decide) (by decide) (by decide) ?_
        refine lv_aload_n hx hb dX10_ofState_148 rfl (lv_at hl 0 rfl) ?_
        refine fg_X10_317 X hS (hN) dX10_ofState_149 ?_
        obtain rfl := some_of hX
        exact x_I (v := (gI M 100 33)) X hS dX10_ofState_152
      have hX := if_f c8 hX
      by_cases c9 : a1 = nI 5
      · have hX := if_t c9 hX
        refine r_tabIn c9 (off := 64) (tgt := 153) hx hb dX10_ofState_89 (by decide) (by decide) (by decide) (by decide) ?_
        refine lv_iload_n hx hb dX10_ofState_153 rfl (lv_at hl 2 rfl) ?_
        obtain rfl := some_of hX
        exact x_I (v := v_2) X hS dX10_ofState_154
      have hX := if_f c9 hX
      have ic4 : ¬ a1.toInt = 0 := lv_neT c4 rfl
      have ic5 : ¬ a1.toInt = 1 := lv_neT c5 rfl
      have ic6 : ¬ a1.toInt = 2 := lv_neT c6 rfl
      have ic7 : ¬ a1.toInt = 3 := lv_neT c7 rfl
      have ic8 : ¬ a1.toInt = 4 := lv_neT c8 rfl
      have ic9 : ¬ a1.toInt = 5 := lv_neT c9 rfl
      refine lv_tableOut (tgt := 155) hx hb dX10_ofState_89 (by omega) (by decide) ?_
      refine lv_sipush (v := (-1000)) hx hb dX10_ofState_155 (by decide) ?_
      obtain rfl := some_of hX
      exact x_I (v := (-1000)) X hS dX10_ofState_158
    · have hX := if_f c3 hX
      refine lv_iload_n hx hb dX10_ofState_64 rfl (lv_at hl 2 rfl) ?_
      refine lv_aload_n hx hb dX10_ofState_65 rfl (lv_at hl 0 rfl) ?_
      refine lv_iload_n hx hb dX10_ofState_66 rfl (lv_at hl 3 rfl) ?_
      obtain ⟨r11, h10, hX⟩ := bn_of hX
      refine r_callV1 (v := .int (b2i r11)) (As := [.int v_3]) (rest := [.int v_2]) X hS (m_X10_isWhole hN h10) mv_X10_isWhole rfl (hN) t7_28 ⟨rfl, rfl, Nat.le_of_ble_eq_true rfl, Nat.le_of_ble_eq_true rfl⟩ rfl hl.1 rfl (Nat.le_of_ble_eq_true rfl) ⟨Nat.zero_le _, Nat.zero_le _⟩ dX10_ofState_67 (fun H locs hS => ?_)
      refine lv_if_eq (tgt := 79) hx hb dX10_ofState_70 (by decide) (fun c12 => ?_) (fun c12 => ?_)
      · have hX := if_bf c12 hX
        refine lv_iconst (v := nI 0) hx hb dX10_ofState_79 (by decide) ?_
        exact n_X10_ofState_80 X hN hX (fun z0 z1 r h ls H locs hl hS => ih z0 z1 r h ls H locs hl hS) _ _ _ (lv_sub hl [0, 1, 3] rfl) hS
      · have hX := if_bt c12 hX
        refine lv_iconst (v := nI 1) hx hb dX10_ofState_73 (by decide) ?_
        refine lv_iload_n hx hb dX10_ofState_74 rfl (lv_at hl 3 rfl) ?_
        refine lv_ishl hx hb dX10_ofState_75 ?_
        refine lv_goto (tgt := 80) hx hb dX10_ofState_76 (by decide) ?_
        exact n_X10_ofState_80 X hN hX (fun z0 z1 r h ls H locs hl hS => ih z0 z1 r h ls H locs hl hS) _ _ _ (lv_sub hl [0, 1, 3] rfl) hS
set_option maxRecDepth 100000 in
set_option maxHeartbeats 4000000 in
theorem m_X10_ofState {l : Launch} {D : va_G} {cy : Nat → ClassId} {ad : Nat → Nat → Nat} {ns : List (Nat × Nat)} {A : Nat → Prop} {M : Mem} (hN : Ob ns 10 100) {a1 : Int32} {r : Int32} (hX : f_X10_ofState M a1 = some r) : Ct l yX10_ofState cX10_ofState 4 ((some .int)) rm_X10_ofState D cy ad ns A [.ref (ad 100 0), .int a1] M M (some (.int r)) := by
  refine ct_of (lv := [(0, .ref (ad 100 0)), (1, .int a1)]) (by decide) (Nat.le_of_ble_eq_true rfl) rfl ?_
  intro p e s m args below meth c ls X hl hS
  obtain ⟨hx, hb, hml, hown, hts, hK, hr, hlk, hA, hG⟩ := id X
  obtain ⟨H, hH⟩ : ∃ z, z = s.heap := ⟨_, rfl⟩
  obtain ⟨locs, hlo⟩ : ∃ z : List Loc, z = [] := ⟨_, rfl⟩
  have hS : St D cy ad ns A M s.heap H locs := by rw [hH, hlo]; exact hS
  have hgoal : W p l e rm_X10_ofState s m args below meth c H locs 0 0 (MQ below (QC D cy ad ns A M (some (.int r))) args s 0 0 A) (F0 m 0 ls []) := by
    unfold f_X10_ofState at hX
    refine lv_iload_n hx hb dX10_ofState_0 rfl (lv_at hl 1 rfl) ?_
    refine lv_bipush (v := nI 10) hx hb dX10_ofState_1 (by decide) ?_
    refine lv_bipush (v := nI 9) hx hb dX10_ofState_3 (by decide) ?_
    refine lv_aload_n hx hb dX10_ofState_5 rfl (lv_at hl 0 rfl) ?_
    refine fg_X10_281 X hS (hN) dX10_ofState_6 ?_
    refine lv_iadd hx hb dX10_ofState_9 ?_
    obtain ⟨r14, h13, hX⟩ := bn_of hX
    refine r_callS1 (v := .int (b2i r14)) (As := [.int a1, .int (nI 10), .int ((nI 9) + (gI M 100 24))]) (rest := []) X hS (m_X10_in (M := M) hN h13) ms_X10_in t6_81 ⟨rfl, rfl, Nat.le_of_ble_eq_true rfl, Nat.le_of_ble_eq_true rfl⟩ rfl hl.1 rfl (Nat.le_of_ble_eq_true rfl) ⟨Nat.zero_le _, Nat.zero_le _⟩ dX10_ofState_10 (fun H locs hS => ?_)
    refine lv_if_eq (tgt := 26) hx hb dX10_ofState_13 (by decide) (fun c15 => ?_) (fun c15 => ?_)
    · have hX := if_bf c15 hX
      refine lv_iload_n hx hb dX10_ofState_26 rfl (lv_at hl 1 rfl) ?_
      refine lv_bipush (v := nI 20) hx hb dX10_ofState_27 (by decide) ?_
      refine lv_bipush (v := nI 19) hx hb dX10_ofState_29 (by decide) ?_
      refine lv_aload_n hx hb dX10_ofState_31 rfl (lv_at hl 0 rfl) ?_
      refine fg_X10_281 X hS (hN) dX10_ofState_32 ?_
      refine lv_iadd hx hb dX10_ofState_35 ?_
      obtain ⟨r17, h16, hX⟩ := bn_of hX
      refine r_callS1 (v := .int (b2i r17)) (As := [.int a1, .int (nI 20), .int ((nI 19) + (gI M 100 24))]) (rest := []) X hS (m_X10_in (M := M) hN h16) ms_X10_in t6_81 ⟨rfl, rfl, Nat.le_of_ble_eq_true rfl, Nat.le_of_ble_eq_true rfl⟩ rfl hl.1 rfl (Nat.le_of_ble_eq_true rfl) ⟨Nat.zero_le _, Nat.zero_le _⟩ dX10_ofState_36 (fun H locs hS => ?_)
      refine lv_if_eq (tgt := 52) hx hb dX10_ofState_39 (by decide) (fun c18 => ?_) (fun c18 => ?_)
      · have hX := if_bf c18 hX
        refine lv_iconst (v := nI 0) hx hb dX10_ofState_52 (by decide) ?_
        refine lv_istore_n (lv' := [(2, .int (nI 0)), (0, .ref (ad 100 0)), (1, .int a1)]) hx hb dX10_ofState_53 rfl hl (by decide) rfl (fun ls hl => ?_)
        refine lv_iconst (v := nI 0) hx hb dX10_ofState_54 (by decide) ?_
        refine lv_istore_n (lv' := [(3, .int (nI 0)), (2, .int (nI 0)), (0, .ref (ad 100 0)), (1, .int a1)]) hx hb dX10_ofState_55 rfl hl (by decide) rfl (fun ls hl => ?_)
        exact n_X10_ofState_56 X hN _ _ _ _ hX _ _ _ (lv_sub hl [2, 3, 1, 0] rfl) hS
      · have hX := if_bt c18 hX
        refine lv_aload_n hx hb dX10_ofState_42 rfl (lv_at hl 0 rfl) ?_
        refine fg_X10_47 X hS (hN) dX10_ofState_43 ?_
        refine lv_iload_n hx hb dX10_ofState_46 rfl (lv_at hl 1 rfl) ?_
        refine lv_bipush (v := nI 20) hx hb dX10_ofState_47 (by decide) ?_
        refine lv_isub hx hb dX10_ofState_49 ?_
        obtain ⟨g19, hX⟩ := gin_of hX
        refine r_iald (ci := 10) (o := 100) (k := 28) (n := 9) X hS (hN) rfl rfl g19 dX10_ofState_50 ?_
        obtain rfl := some_of hX
        exact x_I (v := (gA M 100 28 (ix (a1 - (nI 20))))) X hS dX10_ofState_51
    · have hX := if_bt c15 hX
      refine lv_aload_n hx hb dX10_ofState_16 rfl (lv_at hl 0 rfl) ?_
      refine fg_X10_44 X hS (hN) dX10_ofState_17 ?_
      refine lv_iload_n hx hb dX10_ofState_20 rfl (lv_at hl 1 rfl) ?_
      refine lv_bipush (v := nI 10) hx hb dX10_ofState_21 (by decide) ?_
      refine lv_isub hx hb dX10_ofState_23 ?_
      obtain ⟨g20, hX⟩ := gin_of hX
      refine r_iald (ci := 10) (o := 100) (k := 27) (n := 9) X hS (hN) rfl rfl g20 dX10_ofState_24 ?_
      obtain rfl := some_of hX
      exact x_I (v := (gA M 100 27 (ix (a1 - (nI 10))))) X hS dX10_ofState_25
  rw [hH, hlo] at hgoal
  exact hgoal
theorem mv_X10_ofState : Mv yX10_ofState RX10 cX10_ofState 4 ((some .int)) 1 := ⟨t7_69, t7_68, ts_49, t1_11, ⟨by decide, by decide⟩, by decide +kernel⟩
/-! SewnYearModel.state(IIII)I -/
def rm_X10_state : Room := { frames := 6, cells := 0, slots := 0, locals := 129 }
def f_X10_state (M : Mem) (a1 : Int32) (a2 : Int32) (a3 : Int32) (a4 : Int32) : Option (Int32 × Mem) :=
  nm (sI M 100 0 (nI 0)) fun M1 => bp (f_X10_layAll M1 a1 a2) fun r4 M3 => if r4 = true then (bn (f_X10_deeds M3) fun r7 => bn (f_X10_in a3 (nI 0) r7) fun r9 => if r9 = true then (bp (f_X10_play M3 a3) fun r13 M12 => if r13 = a3 then (bn (f_X10_ofState M12 a4) fun r16 => some (r16, M12)) else (some ((-1000), M12))) else (some ((-1000), M3))) else (some ((-1000), M3))
set_option maxRecDepth 100000 in
set_option maxHeartbeats 4000000 in
theorem m_X10_state {l : Launch} {D : va_G} {cy : Nat → ClassId} {ad : Nat → Nat → Nat} {ns : List (Nat × Nat)} {A : Nat → Prop} {M : Mem} (hN : Ob ns 10 100) {a1 : Int32} {a2 : Int32} {a3 : Int32} {a4 : Int32} {r : Int32 × Mem} (hX : f_X10_state M a1 a2 a3 a4 = some r) : Ct l yX10_state cX10_state 5 ((some .int)) rm_X10_state D cy ad ns A [.ref (ad 100 0), .int a1, .int a2, .int a3, .int a4] M r.2 (some (.int r.1)) := by
  refine ct_of (lv := [(0, .ref (ad 100 0)), (1, .int a1), (2, .int a2), (3, .int a3), (4, .int a4)]) (by decide) (Nat.le_of_ble_eq_true rfl) rfl ?_
  intro p e s m args below meth c ls X hl hS
  obtain ⟨hx, hb, hml, hown, hts, hK, hr, hlk, hA, hG⟩ := id X
  obtain ⟨H, hH⟩ : ∃ z, z = s.heap := ⟨_, rfl⟩
  obtain ⟨locs, hlo⟩ : ∃ z : List Loc, z = [] := ⟨_, rfl⟩
  have hS : St D cy ad ns A M s.heap H locs := by rw [hH, hlo]; exact hS
  have hgoal : W p l e rm_X10_state s m args below meth c H locs 0 0 (MQ below (QC D cy ad ns A r.2 (some (.int r.1))) args s 0 0 A) (F0 m 0 ls []) := by
    unfold f_X10_state at hX
    refine lv_aload_n hx hb dX10_state_0 rfl (lv_at hl 0 rfl) ?_
    refine lv_iconst (v := nI 0) hx hb dX10_state_1 (by decide) ?_
    refine fp_X10_94 X hS (hN) dX10_state_2 (fun H locs hS => ?_)
    obtain ⟨M1, eM1, hS, hX⟩ := nm_mem hS hX
    refine lv_aload_n hx hb dX10_state_5 rfl (lv_at hl 0 rfl) ?_
    refine lv_iload_n hx hb dX10_state_6 rfl (lv_at hl 1 rfl) ?_
    refine lv_iload_n hx hb dX10_state_7 rfl (lv_at hl 2 rfl) ?_
    obtain ⟨r4, M3, h2, hX⟩ := bp_of hX
    refine r_callV1 (v := .int (b2i r4)) (As := [.int a1, .int a2]) (rest := []) X hS (m_X10_layAll hN h2) mv_X10_layAll rfl (hN) t7_8 ⟨rfl, rfl, Nat.le_of_ble_eq_true rfl, Nat.le_of_ble_eq_true rfl⟩ rfl hl.1 rfl (Nat.le_of_ble_eq_true rfl) ⟨Nat.zero_le _, Nat.zero_le _⟩ dX10_state_8 (fun H locs hS => ?_)
    refine lv_if_eq (tgt := 44) hx hb dX10_state_11 (by decide) (fun c5 => ?_) (fun c5 => ?_)
    · have hX := if_bf c5 hX
      refine lv_sipush (v := (-1000)) hx hb dX10_state_44 (by decide) ?_
      obtain rfl := some_of hX
      exact x_I (v := (-1000)) X hS dX10_state_47
    · have hX := if_bt c5 hX
      refine lv_iload_n hx hb dX10_state_14 rfl (lv_at hl 3 rfl) ?_
      refine lv_iconst (v := nI 0) hx hb dX10_state_15 (by decide) ?_
      refine lv_aload_n hx hb dX10_state_16 rfl (lv_at hl 0 rfl) ?_
      obtain ⟨r7, h6, hX⟩ := bn_of hX
      refine r_callV1 (v := .int r7) (As := []) (rest := [.int (nI 0), .int a3]) X hS (m_X10_deeds hN h6) mv_X10_deeds rfl (hN) t6_236 ⟨rfl, rfl, Nat.le_of_ble_eq_true rfl, Nat.le_of_ble_eq_true rfl⟩ rfl hl.1 rfl (Nat.le_of_ble_eq_true rfl) ⟨Nat.zero_le _, Nat.zero_le _⟩ dX10_state_17 (fun H locs hS => ?_)
      obtain ⟨r9, h8, hX⟩ := bn_of hX
      refine r_callS1 (v := .int (b2i r9)) (As := [.int a3, .int (nI 0), .int r7]) (rest := []) X hS (m_X10_in (M := M3) hN h8) ms_X10_in t6_81 ⟨rfl, rfl, Nat.le_of_ble_eq_true rfl, Nat.le_of_ble_eq_true rfl⟩ rfl hl.1 rfl (Nat.le_of_ble_eq_true rfl) ⟨Nat.zero_le _, Nat.zero_le _⟩ dX10_state_20 (fun H locs hS => ?_)
      refine lv_if_eq (tgt := 44) hx hb dX10_state_23 (by decide) (fun c10 => ?_) (fun c10 => ?_)
      · have hX := if_bf c10 hX
        refine lv_sipush (v := (-1000)) hx hb dX10_state_44 (by decide) ?_
        obtain rfl := some_of hX
        exact x_I (v := (-1000)) X hS dX10_state_47
      · have hX := if_bt c10 hX
        refine lv_aload_n hx hb dX10_state_26 rfl (lv_at hl 0 rfl) ?_
        refine lv_iload_n hx hb dX10_state_27 rfl (lv_at hl 3 rfl) ?_
        obtain ⟨r13, M12, h11, hX⟩ := bp_of hX
        refine r_callV1 (v := .int r13) (As := [.int a3]) (rest := []) X hS (m_X10_play hN h11) mv_X10_play rfl (hN) t7_12 ⟨rfl, rfl, Nat.le_of_ble_eq_true rfl, Nat.le_of_ble_eq_true rfl⟩ rfl hl.1 rfl (Nat.le_of_ble_eq_true rfl) ⟨Nat.zero_le _, Nat.zero_le _⟩ dX10_state_28 (fun H locs hS => ?_)
        refine lv_iload_n hx hb dX10_state_31 rfl (lv_at hl 3 rfl) ?_
        refine lv_icmp_ne (tgt := 44) hx hb dX10_state_32 (by decide) (fun c14 => ?_) (fun c14 => ?_)
        · have hX := if_f c14 hX
          refine lv_sipush (v := (-1000)) hx hb dX10_state_44 (by decide) ?_
          obtain rfl := some_of hX
          exact x_I (v := (-1000)) X hS dX10_state_47
        · have hX := if_t c14 hX
          refine lv_aload_n hx hb dX10_state_35 rfl (lv_at hl 0 rfl) ?_
          refine lv_iload hx hb dX10_state_36 (lv_at hl 4 rfl) ?_
          obtain ⟨r16, h15, hX⟩ := bn_of hX
          refine r_callV1 (v := .int r16) (As := [.int a4]) (rest := []) X hS (m_X10_ofState hN h15) mv_X10_ofState rfl (hN) t7_66 ⟨rfl, rfl, Nat.le_of_ble_eq_true rfl, Nat.le_of_ble_eq_true rfl⟩ rfl hl.1 rfl (Nat.le_of_ble_eq_true rfl) ⟨Nat.zero_le _, Nat.zero_le _⟩ dX10_state_38 (fun H locs hS => ?_)
          refine lv_goto (tgt := 47) hx hb dX10_state_41 (by decide) ?_
          obtain rfl := some_of hX
          exact x_I (v := r16) X hS dX10_state_47
  rw [hH, hlo] at hgoal
  exact hgoal
theorem mv_X10_state : Mv yX10_state RX10 cX10_state 5 ((some .int)) 4 := ⟨t7_65, t7_63, t7_64, t1_11, ⟨by decide, by decide⟩, by decide +kernel⟩
/-! SewnYearModel.mayNext(II)Z -/
def rm_X10_mayNext : Room := { frames := 1, cells := 0, slots := 0, locals := 21 }
def f_X10_mayNext (M : Mem) (a1 : Int32) (a2 : Int32) : Option (Bool) :=
  bn (f_X10_has a1 a2) fun r2 => if r2 = true then (some false) else (bn (f_X10_of M ((nI 29) + a2)) fun r5 => if (r5 &&& (a1 ^^^ (-1))) = (nI 0) then (some true) else (some false))
set_option maxRecDepth 100000 in
set_option maxHeartbeats 4000000 in
theorem m_X10_mayNext {l : Launch} {D : va_G} {cy : Nat → ClassId} {ad : Nat → Nat → Nat} {ns : List (Nat × Nat)} {A : Nat → Prop} {M : Mem} (hN : Ob ns 10 100) {a1 : Int32} {a2 : Int32} {r : Bool} (hX : f_X10_mayNext M a1 a2 = some r) : Ct l yX10_mayNext cX10_mayNext 3 ((some .boolean)) rm_X10_mayNext D cy ad ns A [.ref (ad 100 0), .int a1, .int a2] M M (some (.int (b2i r))) := by
  refine ct_of (lv := [(0, .ref (ad 100 0)), (1, .int a1), (2, .int a2)]) (by decide) (Nat.le_of_ble_eq_true rfl) rfl ?_
  intro p e s m args below meth c ls X hl hS
  obtain ⟨hx, hb, hml, hown, hts, hK, hr, hlk, hA, hG⟩ := id X
  obtain ⟨H, hH⟩ : ∃ z, z = s.heap := ⟨_, rfl⟩
  obtain ⟨locs, hlo⟩ : ∃ z : List Loc, z = [] := ⟨_, rfl⟩
  have hS : St D cy ad ns A M s.heap H locs := by rw [hH, hlo]; exact hS
  have hgoal : W p l e rm_X10_mayNext s m args below meth c H locs 0 0 (MQ below (QC D cy ad ns A M (some (.int (b2i r)))) args s 0 0 A) (F0 m 0 ls []) := by
    unfold f_X10_mayNext at hX
    refine lv_iload_n hx hb dX10_mayNext_0 rfl (lv_at hl 1 rfl) ?_
    refine lv_iload_n hx hb dX10_mayNext_1 rfl (lv_at hl 2 rfl) ?_
    obtain ⟨r2, h1, hX⟩ := bn_of hX
    refine r_callS1 (v := .int (b2i r2)) (As := [.int a1, .int a2]) (rest := []) X hS (m_X10_has (M := M) hN h1) ms_X10_has t7_36 ⟨rfl, rfl, Nat.le_of_ble_eq_true rfl, Nat.le_of_ble_eq_true rfl⟩ rfl hl.1 rfl (Nat.le_of_ble_eq_true rfl) ⟨Nat.zero_le _, Nat.zero_le _⟩ dX10_mayNext_2 (fun H locs hS => ?_)
    refine lv_if_ne (tgt := 27) hx hb dX10_mayNext_5 (by decide) (fun c3 => ?_) (fun c3 => ?_)
    · have hX := if_bt c3 hX
      refine lv_iconst (v := nI 0) hx hb dX10_mayNext_27 (by decide) ?_
      obtain rfl := some_of hX
      exact x_Z (v := false) X hS dX10_mayNext_28
    · have hX := if_bf c3 hX
      refine lv_aload_n hx hb dX10_mayNext_8 rfl (lv_at hl 0 rfl) ?_
      refine lv_bipush (v := nI 29) hx hb dX10_mayNext_9 (by decide) ?_
      refine lv_iload_n hx hb dX10_mayNext_11 rfl (lv_at hl 2 rfl) ?_
      refine lv_iadd hx hb dX10_mayNext_12 ?_
      obtain ⟨r5, h4, hX⟩ := bn_of hX
      refine r_callV1 (v := .int r5) (As := [.int ((nI 29) + a2)]) (rest := []) X hS (m_X10_of hN h4) mv_X10_of rfl (hN) t6_220 ⟨rfl, rfl, Nat.le_of_ble_eq_true rfl, Nat.le_of_ble_eq_true rfl⟩ rfl hl.1 rfl (Nat.le_of_ble_eq_true rfl) ⟨Nat.zero_le _, Nat.zero_le _⟩ dX10_mayNext_13 (fun H locs hS => ?_)
      refine lv_iload_n hx hb dX10_mayNext_16 rfl (lv_at hl 1 rfl) ?_
      refine lv_iconst (v := (-1)) hx hb dX10_mayNext_17 (by decide) ?_
      refine lv_ixor hx hb dX10_mayNext_18 ?_
      refine lv_iand hx hb dX10_mayNext_19 ?_
      refine lv_if_ne (tgt := 27) hx hb dX10_mayNext_20 (by decide) (fun c6 => ?_) (fun c6 => ?_)
      · have hX := if_f c6 hX
        refine lv_iconst (v := nI 0) hx hb dX10_mayNext_27 (by decide) ?_
        obtain rfl := some_of hX
        exact x_Z (v := false) X hS dX10_mayNext_28
      · have hX := if_t c6 hX
        refine lv_iconst (v := nI 1) hx hb dX10_mayNext_23 (by decide) ?_
        refine lv_goto (tgt := 28) hx hb dX10_mayNext_24 (by decide) ?_
        obtain rfl := some_of hX
        exact x_Z (v := true) X hS dX10_mayNext_28
  rw [hH, hlo] at hgoal
  exact hgoal
theorem mv_X10_mayNext : Mv yX10_mayNext RX10 cX10_mayNext 3 ((some .boolean)) 2 := ⟨t7_82, t7_81, ts_51, t1_11, ⟨by decide, by decide⟩, by decide +kernel⟩
/-! SewnYearModel.findOrders()Z -/
def rm_X10_findOrders : Room := { frames := 2, cells := 0, slots := 0, locals := 43 }
def f_X10_findOrders_73 (v_1 : Int32) (k_38 : Int64 → Int32 → Mem → Option (Bool × Mem)) (v_4 : Int32) (s_0 : Int64) (s_1 : Int64) (M : Mem) : Option (Bool × Mem) :=
  nm (s_0 + s_1) fun v1 => nm (v_4 + nI 1) fun v2 => k_38 v1 v2 M
def b_X10_findOrders_38 (k_29 : Int32 → Mem → Option (Bool × Mem)) (v_1 : Int32) (rc : Int64 → Int32 → Mem → Option (Bool × Mem)) (v_2 : Int64) (v_4 : Int32) (M : Mem) : Option (Bool × Mem) :=
  if (gI M 100 24) ≤ v_4 then (gin v_1 512 <| nm (sB M 100 34 (ix v_1) v_2) fun M5 => nm (v_1 + (-1)) fun v6 => k_29 v6 M5) else (bn (f_X10_mayNext M v_1 v_4) fun r8 => if r8 = true then (gin (v_1 ||| ((nI 1) <<< (v_4 &&& 31))) 512 <| f_X10_findOrders_73 v_1 rc v_4 v_2 (gB M 100 34 (ix (v_1 ||| ((nI 1) <<< (v_4 &&& 31))))) M) else (f_X10_findOrders_73 v_1 rc v_4 v_2 (lN 0) M))
def f_X10_findOrders_38 (k_29 : Int32 → Mem → Option (Bool × Mem)) (v_1 : Int32) : Nat → (Int64 × Int32 × Mem) → Option (Bool × Mem) := lp (fun rc q => b_X10_findOrders_38 k_29 v_1 (fun x0 x1 x2 => rc (x0, x1, x2)) q.1 q.2.1 q.2.2)
def b_X10_findOrders_29 (rc : Int32 → Mem → Option (Bool × Mem)) (v_1 : Int32) (M : Mem) : Option (Bool × Mem) :=
  if v_1 < (nI 0) then (gin (nI 0) 512 <| if (lg_cmp (gB M 100 34 (ix (nI 0))) (lN 0)) ≤ (nI 0) then (some (false, M)) else (some (true, M))) else (nm (lN 0) fun v14 => f_X10_findOrders_38 rc v_1 FU (v14, (nI 0), M))
def f_X10_findOrders_29 : Nat → (Int32 × Mem) → Option (Bool × Mem) := lp (fun rc q => b_X10_findOrders_29 (fun x0 x1 => rc (x0, x1)) q.1 q.2)
def f_X10_findOrders (M : Mem) : Option (Bool × Mem) :=
  nm (sI M 100 35 (((nI 1) <<< ((gI M 100 24) &&& 31)) - (nI 1))) fun M15 => gin (gI M15 100 35) 512 <| nm (sB M15 100 34 (ix (gI M15 100 35)) (lN 1)) fun M17 => nm ((gI M17 100 35) - (nI 1)) fun v18 => f_X10_findOrders_29 FU (v18, M17)
set_option maxRecDepth 100000 in
set_option maxHeartbeats 4000000 in
theorem n_X10_findOrders_73 {v_1 : Int32} (X : Cx p s m args meth c D cy ad A RX10 cX10_findOrders 5 ((some .boolean))) (hN : Ob ns 10 100) {k_38 : Int64 → Int32 → Mem → Option (Bool × Mem)} {v_4 : Int32} {s_0 : Int64} {s_1 : Int64} {M : Mem} {r : Bool × Mem} (hX : f_X10_findOrders_73 v_1 k_38 v_4 s_0 s_1 M = some r) : (∀ (v_2 : Int64) (v_4 : Int32) (M : Mem) (r : Bool × Mem), k_38 v_2 v_4 M = some r → ∀ (ls : Array Slot) (H : Heap) (locs : List Loc), lv_has ls 5 [(0, .ref (ad 100 0)), (1, .int v_1), (2, .long v_2), (4, .int v_4)] → St D cy ad ns A M s.heap H locs → W p l e rm_X10_findOrders s m args below meth c H locs 0 0 (MQ below (QC D cy ad ns A r.2 (some (.int (b2i r.1)))) args s 0 0 A) (F0 m 38 ls [])) → ∀ (ls : Array Slot) (H : Heap) (locs : List Loc), lv_has ls 5 [(0, .ref (ad 100 0)), (1, .int v_1), (4, .int v_4)] → St D cy ad ns A M s.heap H locs → W p l e rm_X10_findOrders s m args below meth c H locs 0 0 (MQ below (QC D cy ad ns A r.2 (some (.int (b2i r.1)))) args s 0 0 A) (F0 m 73 ls [.long s_1, .long s_0]) := by
  obtain ⟨hx, hb, hml, hown, hts, hK, hr, hlk, hA, hG⟩ := id X
  intro hk_38 ls H locs hl hS
  unfold f_X10_findOrders_73 at hX
  refine lv_ladd hx hb dX10_findOrders_73 ?_
  refine lv_topl (fun v1 ev1 => ?_)
  have hX := nm_of ev1 hX
  refine lv_lstore_n (lv' := [(2, .long v1), (0, .ref (ad 100 0)), (1, .int v_1), (4, .int v_4)]) hx hb dX10_findOrders_74 rfl hl (by decide) rfl (fun ls hl => ?_)
  obtain ⟨v2, ev2⟩ : ∃ y : Int32, y = (v_4 + nI 1) := ⟨_, rfl⟩
  have hX := nm_of ev2 hX
  refine lv_iinc (v := v2) (lv' := [(4, .int v2), (2, .long v1), (0, .ref (ad 100 0)), (1, .int v_1)]) hx hb dX10_findOrders_75 hl (k := 3) rfl (by rw [ev2]; rfl) (by decide) rfl (fun ls hl => ?_)
  refine lv_goto (tgt := 38) hx hb dX10_findOrders_78 (by decide) ?_
  exact hk_38 _ _ _ _ hX _ _ _ (lv_sub hl [2, 3, 1, 0] rfl) hS
set_option maxRecDepth 100000 in
set_option maxHeartbeats 4000000 in
theorem n_X10_findOrders_38 (X : Cx p s m args meth c D cy ad A RX10 cX10_findOrders 5 ((some .boolean))) (hN : Ob ns 10 100) {k_29 : Int32 → Mem → Option (Bool × Mem)} {v_1 : Int32} : ∀ (n : Nat) (v_2 : Int64) (v_4 : Int32) (M : Mem) (r : Bool × Mem), f_X10_findOrders_38 k_29 v_1 n (v_2, v_4, M) = some r → (∀ (v_1 : Int32) (M : Mem) (r : Bool × Mem), k_29 v_1 M = some r → ∀ (ls : Array Slot) (H : Heap) (locs : List Loc), lv_has ls 5 [(0, .ref (ad 100 0)), (1, .int v_1)] → St D cy ad ns A M s.heap H locs → W p l e rm_X10_findOrders s m args below meth c H locs 0 0 (MQ below (QC D cy ad ns A r.2 (some (.int (b2i r.1)))) args s 0 0 A) (F0 m 29 ls [])) → ∀ (ls : Array Slot) (H : Heap) (locs : List Loc), lv_has ls 5 [(0, .ref (ad 100 0)), (1, .int v_1), (2, .long v_2), (4, .int v_4)] → St D cy ad ns A M s.heap H locs → W p l e rm_X10_findOrders s m args below meth c H locs 0 0 (MQ below (QC D cy ad ns A r.2 (some (.int (b2i r.1)))) args s 0 0 A) (F0 m 38 ls []) := by
  obtain ⟨hx, hb, hml, hown, hts, hK, hr, hlk, hA, hG⟩ := id X
  intro n
  induction n with
  | zero => intro v_2 v_4 M r hX; cases (show (none : Option (Bool × Mem)) = some r from hX)
  | succ n ih =>
    intro v_2 v_4 M r hX hk_29 ls H locs hl hS
    have hX : b_X10_findOrders_38 k_29 v_1 (fun x0 x1 x2 => f_X10_findOrders_38 k_29 v_1 n (x0, x1, x2)) v_2 v_4 M = some r := hX
    unfold b_X10_findOrders_38 at hX
    refine lv_iload hx hb dX10_findOrders_38 (lv_at hl 3 rfl) ?_
    refine lv_aload_n hx hb dX10_findOrders_40 rfl (lv_at hl 0 rfl) ?_
    refine fg_X10_281 X hS (hN) dX10_findOrders_41 ?_
    refine lv_icmp_ge (tgt := 81) hx hb dX10_findOrders_44 (by decide) (fun c3 => ?_) (fun c3 => ?_)
    · have hX := if_t c3 hX
      refine lv_aload_n hx hb dX10_findOrders_81 rfl (lv_at hl 0 rfl) ?_
      refine fg_X10_50 X hS (hN) dX10_findOrders_82 ?_
      refine lv_iload_n hx hb dX10_findOrders_85 rfl (lv_at hl 1 rfl) ?_
      refine lv_lload_n hx hb dX10_findOrders_86 rfl (lv_at hl 2 rfl) ?_
      obtain ⟨g4, hX⟩ := gin_of hX
      refine r_last (ci := 10) (o := 100) (k := 34) (n := 512) X hS (hN) rfl rfl g4 dX10_findOrders_87 (fun H locs hS => ?_)
      obtain ⟨M5, eM5, hS, hX⟩ := nm_mem hS hX
      obtain ⟨v6, ev6⟩ : ∃ y : Int32, y = (v_1 + (-1)) := ⟨_, rfl⟩
      have hX := nm_of ev6 hX
      refine lv_iinc (v := v6) (lv' := [(1, .int v6), (0, .ref (ad 100 0)), (2, .long v_2), (4, .int v_4)]) hx hb dX10_findOrders_88 hl (k := 1) rfl (by rw [ev6]; rfl) (by decide) rfl (fun ls hl => ?_)
      refine lv_goto (tgt := 29) hx hb dX10_findOrders_91 (by decide) ?_
      exact hk_29 _ _ _ hX _ _ _ (lv_sub hl [1, 0] rfl) hS
    · have hX := if_f c3 hX
      refine lv_lload_n hx hb dX10_findOrders_47 rfl (lv_at hl 2 rfl) ?_
      refine lv_aload_n hx hb dX10_findOrders_48 rfl (lv_at hl 0 rfl) ?_
      refine lv_iload_n hx hb dX10_findOrders_49 rfl (lv_at hl 1 rfl) ?_
      refine lv_iload hx hb dX10_findOrders_50 (lv_at hl 3 rfl) ?_
      obtain ⟨r8, h7, hX⟩ := bn_of hX
      refine r_callV1 (v := .int (b2i r8)) (As := [.int v_1, .int v_4]) (rest := [.long v_2]) X hS (m_X10_mayNext hN h7) mv_X10_mayNext rfl (hN) t7_79 ⟨rfl, rfl, Nat.le_of_ble_eq_true rfl, Nat.le_of_ble_eq_true rfl⟩ rfl hl.1 rfl (Nat.le_of_ble_eq_true rfl) ⟨Nat.zero_le _, Nat.zero_le _⟩ dX10_findOrders_52 (fun H locs hS => ?_)
      refine lv_if_eq (tgt := 72) hx hb dX10_findOrders_55 (by decide) (fun c9 => ?_) (fun c9 => ?_)
      · have hX := if_bf c9 hX
        refine lv_lconst (v := lN 0) hx hb dX10_findOrders_72 (by decide) ?_
        exact n_X10_findOrders_73 X hN hX (fun z0 z1 z2 r h ls H locs hl hS => ih z0 z1 z2 r h hk_29 ls H locs hl hS) _ _ _ (lv_sub hl [0, 1, 3] rfl) hS
      · have hX := if_bt c9 hX
        refine lv_aload_n hx hb dX10_findOrders_58 rfl (lv_at hl 0 rfl) ?_
        refine fg_X10_50 X hS (hN) dX10_findOrders_59 ?_
        refine lv_iload_n hx hb dX10_findOrders_62 rfl (lv_at hl 1 rfl) ?_
        refine lv_iconst (v := nI 1) hx hb dX10_findOrders_63 (by decide) ?_
        refine lv_iload hx hb dX10_findOrders_64 (lv_at hl 3 rfl) ?_
        refine lv_ishl hx hb dX10_findOrders_66 ?_
        refine lv_ior hx hb dX10_findOrders_67 ?_
        obtain ⟨g10, hX⟩ := gin_of hX
        refine r_lald (ci := 10) (o := 100) (k := 34) (n := 512) X hS (hN) rfl rfl g10 dX10_findOrders_68 ?_
        refine lv_goto (tgt := 73) hx hb dX10_findOrders_69 (by decide) ?_
        exact n_X10_findOrders_73 X hN hX (fun z0 z1 z2 r h ls H locs hl hS => ih z0 z1 z2 r h hk_29 ls H locs hl hS) _ _ _ (lv_sub hl [0, 1, 3] rfl) hS
set_option maxRecDepth 100000 in
set_option maxHeartbeats 4000000 in
theorem n_X10_findOrders_29 (X : Cx p s m args meth c D cy ad A RX10 cX10_findOrders 5 ((some .boolean))) (hN : Ob ns 10 100) : ∀ (n : Nat) (v_1 : Int32) (M : Mem) (r : Bool × Mem), f_X10_findOrders_29 n (v_1, M) = some r → ∀ (ls : Array Slot) (H : Heap) (locs : List Loc), lv_has ls 5 [(0, .ref (ad 100 0)), (1, .int v_1)] → St D cy ad ns A M s.heap H locs → W p l e rm_X10_findOrders s m args below meth c H locs 0 0 (MQ below (QC D cy ad ns A r.2 (some (.int (b2i r.1)))) args s 0 0 A) (F0 m 29 ls []) := by
  obtain ⟨hx, hb, hml, hown, hts, hK, hr, hlk, hA, hG⟩ := id X
  intro n
  induction n with
  | zero => intro v_1 M r hX; cases (show (none : Option (Bool × Mem)) = some r from hX)
  | succ n ih =>
    intro v_1 M r hX ls H locs hl hS
    have hX : b_X10_findOrders_29 (fun x0 x1 => f_X10_findOrders_29 n (x0, x1)) v_1 M = some r := hX
    unfold b_X10_findOrders_29 at hX
    refine lv_iload_n hx hb dX10_findOrders_29 rfl (lv_at hl 1 rfl) ?_
    refine lv_if_lt (tgt := 94) hx hb dX10_findOrders_30 (by decide) (fun c11 => ?_) (fun c11 => ?_)
    · have hX := if_t c11 hX
      refine lv_aload_n hx hb dX10_findOrders_94 rfl (lv_at hl 0 rfl) ?_
      refine fg_X10_50 X hS (hN) dX10_findOrders_95 ?_
      refine lv_iconst (v := nI 0) hx hb dX10_findOrders_98 (by decide) ?_
      obtain ⟨g12, hX⟩ := gin_of hX
      refine r_lald (ci := 10) (o := 100) (k := 34) (n := 512) X hS (hN) rfl rfl g12 dX10_findOrders_99 ?_
      refine lv_lconst (v := lN 0) hx hb dX10_findOrders_100 (by decide) ?_
      refine W.lcmp hx hb dX10_findOrders_101 ?_
      refine lv_if_le (tgt := 109) hx hb dX10_findOrders_102 (by decide) (fun c13 => ?_) (fun c13 => ?_)
      · have hX := if_t c13 hX
        refine lv_iconst (v := nI 0) hx hb dX10_findOrders_109 (by decide) ?_
        obtain rfl := some_of hX
        exact x_Z (v := false) X hS dX10_findOrders_110
      · have hX := if_f c13 hX
        refine lv_iconst (v := nI 1) hx hb dX10_findOrders_105 (by decide) ?_
        refine lv_goto (tgt := 110) hx hb dX10_findOrders_106 (by decide) ?_
        obtain rfl := some_of hX
        exact x_Z (v := true) X hS dX10_findOrders_110
    · have hX := if_f c11 hX
      refine lv_lconst (v := lN 0) hx hb dX10_findOrders_33 (by decide) ?_
      refine lv_topl (fun v14 ev14 => ?_)
      have hX := nm_of ev14 hX
      refine lv_lstore_n (lv' := [(2, .long v14), (0, .ref (ad 100 0)), (1, .int v_1)]) hx hb dX10_findOrders_34 rfl hl (by decide) rfl (fun ls hl => ?_)
      refine lv_iconst (v := nI 0) hx hb dX10_findOrders_35 (by decide) ?_
      refine lv_istore (lv' := [(4, .int (nI 0)), (2, .long v14), (0, .ref (ad 100 0)), (1, .int v_1)]) hx hb dX10_findOrders_36 hl (by decide) rfl (fun ls hl => ?_)
      exact n_X10_findOrders_38 X hN _ _ _ _ _ hX (fun z0 z1 r h ls H locs hl hS => ih z0 z1 r h ls H locs hl hS) _ _ _ (lv_sub hl [2, 3, 1, 0] rfl) hS
set_option maxRecDepth 100000 in
set_option maxHeartbeats 4000000 in
theorem m_X10_findOrders {l : Launch} {D : va_G} {cy : Nat → ClassId} {ad : Nat → Nat → Nat} {ns : List (Nat × Nat)} {A : Nat → Prop} {M : Mem} (hN : Ob ns 10 100) {r : Bool × Mem} (hX : f_X10_findOrders M = some r) : Ct l yX10_findOrders cX10_findOrders 5 ((some .boolean)) rm_X10_findOrders D cy ad ns A [.ref (ad 100 0)] M r.2 (some (.int (b2i r.1))) := by
  refine ct_of (lv := [(0, .ref (ad 100 0))]) (by decide) (Nat.le_of_ble_eq_true rfl) rfl ?_
  intro p e s m args below meth c ls X hl hS
  obtain ⟨hx, hb, hml, hown, hts, hK, hr, hlk, hA, hG⟩ := id X
  obtain ⟨H, hH⟩ : ∃ z, z = s.heap := ⟨_, rfl⟩
  obtain ⟨locs, hlo⟩ : ∃ z : List Loc, z = [] := ⟨_, rfl⟩
  have hS : St D cy ad ns A M s.heap H locs := by rw [hH, hlo]; exact hS
  have hgoal : W p l e rm_X10_findOrders s m args below meth c H locs 0 0 (MQ below (QC D cy ad ns A r.2 (some (.int (b2i r.1)))) args s 0 0 A) (F0 m 0 ls []) := by
    unfold f_X10_findOrders at hX
    refine lv_aload_n hx hb dX10_findOrders_0 rfl (lv_at hl 0 rfl) ?_
    refine lv_iconst (v := nI 1) hx hb dX10_findOrders_1 (by decide) ?_
    refine lv_aload_n hx hb dX10_findOrders_2 rfl (lv_at hl 0 rfl) ?_
    refine fg_X10_281 X hS (hN) dX10_findOrders_3 ?_
    refine lv_ishl hx hb dX10_findOrders_6 ?_
    refine lv_iconst (v := nI 1) hx hb dX10_findOrders_7 (by decide) ?_
    refine lv_isub hx hb dX10_findOrders_8 ?_
    refine fp_X10_362 X hS (hN) dX10_findOrders_9 (fun H locs hS => ?_)
    obtain ⟨M15, eM15, hS, hX⟩ := nm_mem hS hX
    refine lv_aload_n hx hb dX10_findOrders_12 rfl (lv_at hl 0 rfl) ?_
    refine fg_X10_50 X hS (hN) dX10_findOrders_13 ?_
    refine lv_aload_n hx hb dX10_findOrders_16 rfl (lv_at hl 0 rfl) ?_
    refine fg_X10_362 X hS (hN) dX10_findOrders_17 ?_
    refine lv_lconst (v := lN 1) hx hb dX10_findOrders_20 (by decide) ?_
    obtain ⟨g16, hX⟩ := gin_of hX
    refine r_last (ci := 10) (o := 100) (k := 34) (n := 512) X hS (hN) rfl rfl g16 dX10_findOrders_21 (fun H locs hS => ?_)
    obtain ⟨M17, eM17, hS, hX⟩ := nm_mem hS hX
    refine lv_aload_n hx hb dX10_findOrders_22 rfl (lv_at hl 0 rfl) ?_
    refine fg_X10_362 X hS (hN) dX10_findOrders_23 ?_
    refine lv_iconst (v := nI 1) hx hb dX10_findOrders_26 (by decide) ?_
    refine lv_isub hx hb dX10_findOrders_27 ?_
    refine lv_topi (fun v18 ev18 => ?_)
    have hX := nm_of ev18 hX
    refine lv_istore_n (lv' := [(1, .int v18), (0, .ref (ad 100 0))]) hx hb dX10_findOrders_28 rfl hl (by decide) rfl (fun ls hl => ?_)
    exact n_X10_findOrders_29 X hN _ _ _ _ hX _ _ _ (lv_sub hl [1, 0] rfl) hS
  rw [hH, hlo] at hgoal
  exact hgoal
theorem mv_X10_findOrders : Mv yX10_findOrders RX10 cX10_findOrders 5 ((some .boolean)) 0 := ⟨t7_78, t7_77, ts_50, t1_11, ⟨by decide, by decide⟩, by decide +kernel⟩
/-! SewnYearModel.orders(I)J -/
def rm_X10_orders : Room := { frames := 3, cells := 0, slots := 0, locals := 67 }
def f_X10_orders (M : Mem) (a1 : Int32) : Option (Int64 × Mem) :=
  nm (sI M 100 0 (nI 0)) fun M1 => bp (f_X10_hand M1 a1) fun r4 M3 => if r4 = true then (bp (f_X10_findOrders M3) fun r8 M7 => gin (nI 0) 512 <| some ((gB M7 100 34 (ix (nI 0))), M7)) else (some ((-1 : Int64), M3))
set_option maxRecDepth 100000 in
set_option maxHeartbeats 4000000 in
theorem m_X10_orders {l : Launch} {D : va_G} {cy : Nat → ClassId} {ad : Nat → Nat → Nat} {ns : List (Nat × Nat)} {A : Nat → Prop} {M : Mem} (hN : Ob ns 10 100) {a1 : Int32} {r : Int64 × Mem} (hX : f_X10_orders M a1 = some r) : Ct l yX10_orders cX10_orders 2 ((some .long)) rm_X10_orders D cy ad ns A [.ref (ad 100 0), .int a1] M r.2 (some (.long r.1)) := by
  refine ct_of (lv := [(0, .ref (ad 100 0)), (1, .int a1)]) (by decide) (Nat.le_of_ble_eq_true rfl) rfl ?_
  intro p e s m args below meth c ls X hl hS
  obtain ⟨hx, hb, hml, hown, hts, hK, hr, hlk, hA, hG⟩ := id X
  obtain ⟨H, hH⟩ : ∃ z, z = s.heap := ⟨_, rfl⟩
  obtain ⟨locs, hlo⟩ : ∃ z : List Loc, z = [] := ⟨_, rfl⟩
  have hS : St D cy ad ns A M s.heap H locs := by rw [hH, hlo]; exact hS
  have hgoal : W p l e rm_X10_orders s m args below meth c H locs 0 0 (MQ below (QC D cy ad ns A r.2 (some (.long r.1))) args s 0 0 A) (F0 m 0 ls []) := by
    unfold f_X10_orders at hX
    refine lv_aload_n hx hb dX10_orders_0 rfl (lv_at hl 0 rfl) ?_
    refine lv_iconst (v := nI 0) hx hb dX10_orders_1 (by decide) ?_
    refine fp_X10_94 X hS (hN) dX10_orders_2 (fun H locs hS => ?_)
    obtain ⟨M1, eM1, hS, hX⟩ := nm_mem hS hX
    refine lv_aload_n hx hb dX10_orders_5 rfl (lv_at hl 0 rfl) ?_
    refine lv_iload_n hx hb dX10_orders_6 rfl (lv_at hl 1 rfl) ?_
    obtain ⟨r4, M3, h2, hX⟩ := bp_of hX
    refine r_callV1 (v := .int (b2i r4)) (As := [.int a1]) (rest := []) X hS (m_X10_hand hN h2) mv_X10_hand rfl (hN) t6_216 ⟨rfl, rfl, Nat.le_of_ble_eq_true rfl, Nat.le_of_ble_eq_true rfl⟩ rfl hl.1 rfl (Nat.le_of_ble_eq_true rfl) ⟨Nat.zero_le _, Nat.zero_le _⟩ dX10_orders_7 (fun H locs hS => ?_)
    refine lv_if_ne (tgt := 17) hx hb dX10_orders_10 (by decide) (fun c5 => ?_) (fun c5 => ?_)
    · have hX := if_bt c5 hX
      refine lv_aload_n hx hb dX10_orders_17 rfl (lv_at hl 0 rfl) ?_
      obtain ⟨r8, M7, h6, hX⟩ := bp_of hX
      refine r_callV1 (v := .int (b2i r8)) (As := []) (rest := []) X hS (m_X10_findOrders hN h6) mv_X10_findOrders rfl (hN) t7_75 ⟨rfl, rfl, Nat.le_of_ble_eq_true rfl, Nat.le_of_ble_eq_true rfl⟩ rfl hl.1 rfl (Nat.le_of_ble_eq_true rfl) ⟨Nat.zero_le _, Nat.zero_le _⟩ dX10_orders_18 (fun H locs hS => ?_)
      refine lv_pop hx hb dX10_orders_21 rfl ?_
      refine lv_aload_n hx hb dX10_orders_22 rfl (lv_at hl 0 rfl) ?_
      refine fg_X10_50 X hS (hN) dX10_orders_23 ?_
      refine lv_iconst (v := nI 0) hx hb dX10_orders_26 (by decide) ?_
      obtain ⟨g9, hX⟩ := gin_of hX
      refine r_lald (ci := 10) (o := 100) (k := 34) (n := 512) X hS (hN) rfl rfl g9 dX10_orders_27 ?_
      obtain rfl := some_of hX
      exact x_L (v := (gB M7 100 34 (ix (nI 0)))) X hS dX10_orders_28
    · have hX := if_bf c5 hX
      refine lv_ldc2 hx hb (own := RX10) hown (hts _ t7_74) dX10_orders_13 ?_
      obtain rfl := some_of hX
      exact x_L (v := (-1 : Int64)) X hS dX10_orders_16
  rw [hH, hlo] at hgoal
  exact hgoal
theorem mv_X10_orders : Mv yX10_orders RX10 cX10_orders 2 ((some .long)) 1 := ⟨t7_73, t7_71, t7_72, t1_11, ⟨by decide, by decide⟩, by decide +kernel⟩
/-! SewnYearModel.firstAt(I)I -/
def rm_X10_firstAt : Room := { frames := 2, cells := 0, slots := 0, locals := 43 }
def f_X10_firstAt_42 (M : Mem) (a1 : Int32) (v_2 : Int32) (v_4 : Int32) (k_16 : Int32 → Option (Int32)) (v_5 : Int32) : Option (Int32) :=
  nm (v_5 + nI 1) fun v1 => k_16 v1
def b_X10_firstAt_16 (M : Mem) (a1 : Int32) (k_7 : Int32 → Int32 → Int32 → Option (Int32)) (v_2 : Int32) (v_4 : Int32) (rc : Int32 → Option (Int32)) (v_5 : Int32) : Option (Int32) :=
  bn (f_X10_mayNext M v_2 v_5) fun r3 => if r3 = true then (gin (v_2 ||| ((nI 1) <<< (v_5 &&& 31))) 512 <| if (lg_cmp (gB M 100 34 (ix (v_2 ||| ((nI 1) <<< (v_5 &&& 31))))) (lN 0)) = (nI 0) then (f_X10_firstAt_42 M a1 v_2 v_4 rc v_5) else (nm (v_2 ||| ((nI 1) <<< (v_5 &&& 31))) fun v7 => nm (v_4 + nI 1) fun v8 => k_7 v7 v_5 v8)) else (f_X10_firstAt_42 M a1 v_2 v_4 rc v_5)
def f_X10_firstAt_16 (M : Mem) (a1 : Int32) (k_7 : Int32 → Int32 → Int32 → Option (Int32)) (v_2 : Int32) (v_4 : Int32) : Nat → Int32 → Option (Int32) := lp (fun rc q => b_X10_firstAt_16 M a1 k_7 v_2 v_4 (fun x0 => rc x0) q)
def b_X10_firstAt_7 (M : Mem) (a1 : Int32) (rc : Int32 → Int32 → Int32 → Option (Int32)) (v_2 : Int32) (v_3 : Int32) (v_4 : Int32) : Option (Int32) :=
  if a1 < v_4 then (some v_3) else (f_X10_firstAt_16 M a1 rc v_2 v_4 FU (nI 0))
def f_X10_firstAt_7 (M : Mem) (a1 : Int32) : Nat → (Int32 × Int32 × Int32) → Option (Int32) := lp (fun rc q => b_X10_firstAt_7 M a1 (fun x0 x1 x2 => rc (x0, x1, x2)) q.1 q.2.1 q.2.2)
def f_X10_firstAt (M : Mem) (a1 : Int32) : Option (Int32) :=
  f_X10_firstAt_7 M a1 FU ((nI 0), (-1), (nI 0))
set_option maxRecDepth 100000 in
set_option maxHeartbeats 4000000 in
theorem n_X10_firstAt_42 {a1 : Int32} {v_2 : Int32} {v_4 : Int32} (X : Cx p s m args meth c D cy ad A RX10 cX10_firstAt 6 ((some .int))) (hN : Ob ns 10 100) {M : Mem} {k_16 : Int32 → Option (Int32)} {v_5 : Int32} {r : Int32} (hX : f_X10_firstAt_42 M a1 v_2 v_4 k_16 v_5 = some r) : (∀ (v_5 : Int32) (r : Int32), k_16 v_5 = some r → ∀ (ls : Array Slot) (H : Heap) (locs : List Loc), lv_has ls 6 [(0, .ref (ad 100 0)), (1, .int a1), (2, .int v_2), (4, .int v_4), (5, .int v_5)] → St D cy ad ns A M s.heap H locs → W p l e rm_X10_firstAt s m args below meth c H locs 0 0 (MQ below (QC D cy ad ns A M (some (.int r))) args s 0 0 A) (F0 m 16 ls [])) → ∀ (ls : Array Slot) (H : Heap) (locs : List Loc), lv_has ls 6 [(0, .ref (ad 100 0)), (1, .int a1), (2, .int v_2), (4, .int v_4), (5, .int v_5)] → St D cy ad ns A M s.heap H locs → W p l e rm_X10_firstAt s m args below meth c H locs 0 0 (MQ below (QC D cy ad ns A M (some (.int r))) args s 0 0 A) (F0 m 42 ls []) := by
  obtain ⟨hx, hb, hml, hown, hts, hK, hr, hlk, hA, hG⟩ := id X
  intro hk_16 ls H locs hl hS
  unfold f_X10_firstAt_42 at hX
  obtain ⟨v1, ev1⟩ : ∃ y : Int32, y = (v_5 + nI 1) := ⟨_, rfl⟩
  have hX := nm_of ev1 hX
  refine lv_iinc (v := v1) (lv' := [(5, .int v1), (0, .ref (ad 100 0)), (1, .int a1), (2, .int v_2), (4, .int v_4)]) hx hb dX10_firstAt_42 hl (k := 4) rfl (by rw [ev1]; rfl) (by decide) rfl (fun ls hl => ?_)
  refine lv_goto (tgt := 16) hx hb dX10_firstAt_45 (by decide) ?_
  exact hk_16 _ _ hX _ _ _ (lv_sub hl [1, 2, 3, 4, 0] rfl) hS
set_option maxRecDepth 100000 in
set_option maxHeartbeats 4000000 in
theorem n_X10_firstAt_16 {a1 : Int32} (X : Cx p s m args meth c D cy ad A RX10 cX10_firstAt 6 ((some .int))) (hN : Ob ns 10 100) {M : Mem} {k_7 : Int32 → Int32 → Int32 → Option (Int32)} {v_2 : Int32} {v_4 : Int32} : ∀ (n : Nat) (v_5 : Int32) (r : Int32), f_X10_firstAt_16 M a1 k_7 v_2 v_4 n v_5 = some r → (∀ (v_2 : Int32) (v_3 : Int32) (v_4 : Int32) (r : Int32), k_7 v_2 v_3 v_4 = some r → ∀ (ls : Array Slot) (H : Heap) (locs : List Loc), lv_has ls 6 [(0, .ref (ad 100 0)), (1, .int a1), (2, .int v_2), (3, .int v_3), (4, .int v_4)] → St D cy ad ns A M s.heap H locs → W p l e rm_X10_firstAt s m args below meth c H locs 0 0 (MQ below (QC D cy ad ns A M (some (.int r))) args s 0 0 A) (F0 m 7 ls [])) → ∀ (ls : Array Slot) (H : Heap) (locs : List Loc), lv_has ls 6 [(0, .ref (ad 100 0)), (1, .int a1), (2, .int v_2), (4, .int v_4), (5, .int v_5)] → St D cy ad ns A M s.heap H locs → W p l e rm_X10_firstAt s m args below meth c H locs 0 0 (MQ below (QC D cy ad ns A M (some (.int r))) args s 0 0 A) (F0 m 16 ls []) := by
  obtain ⟨hx, hb, hml, hown, hts, hK, hr, hlk, hA, hG⟩ := id X
  intro n
  induction n with
  | zero => intro v_5 r hX; cases (show (none : Option (Int32)) = some r from hX)
  | succ n ih =>
    intro v_5 r hX hk_7 ls H locs hl hS
    have hX : b_X10_firstAt_16 M a1 k_7 v_2 v_4 (fun x0 => f_X10_firstAt_16 M a1 k_7 v_2 v_4 n x0) v_5 = some r := hX
    unfold b_X10_firstAt_16 at hX
    refine lv_aload_n hx hb dX10_firstAt_16 rfl (lv_at hl 0 rfl) ?_
    refine lv_iload_n hx hb dX10_firstAt_17 rfl (lv_at hl 2 rfl) ?_
    refine lv_iload hx hb dX10_firstAt_18 (lv_at hl 4 rfl) ?_
    obtain ⟨r3, h2, hX⟩ := bn_of hX
    refine r_callV1 (v := .int (b2i r3)) (As := [.int v_2, .int v_5]) (rest := []) X hS (m_X10_mayNext hN h2) mv_X10_mayNext rfl (hN) t7_79 ⟨rfl, rfl, Nat.le_of_ble_eq_true rfl, Nat.le_of_ble_eq_true rfl⟩ rfl hl.1 rfl (Nat.le_of_ble_eq_true rfl) ⟨Nat.zero_le _, Nat.zero_le _⟩ dX10_firstAt_20 (fun H locs hS => ?_)
    refine lv_if_eq (tgt := 42) hx hb dX10_firstAt_23 (by decide) (fun c4 => ?_) (fun c4 => ?_)
    · have hX := if_bf c4 hX
      exact n_X10_firstAt_42 X hN hX (fun z0 r h ls H locs hl hS => ih z0 r h hk_7 ls H locs hl hS) _ _ _ (lv_sub hl [0, 1, 2, 3, 4] rfl) hS
    · have hX := if_bt c4 hX
      refine lv_aload_n hx hb dX10_firstAt_26 rfl (lv_at hl 0 rfl) ?_
      refine fg_X10_50 X hS (hN) dX10_firstAt_27 ?_
      refine lv_iload_n hx hb dX10_firstAt_30 rfl (lv_at hl 2 rfl) ?_
      refine lv_iconst (v := nI 1) hx hb dX10_firstAt_31 (by decide) ?_
      refine lv_iload hx hb dX10_firstAt_32 (lv_at hl 4 rfl) ?_
      refine lv_ishl hx hb dX10_firstAt_34 ?_
      refine lv_ior hx hb dX10_firstAt_35 ?_
      obtain ⟨g5, hX⟩ := gin_of hX
      refine r_lald (ci := 10) (o := 100) (k := 34) (n := 512) X hS (hN) rfl rfl g5 dX10_firstAt_36 ?_
      refine lv_lconst (v := lN 0) hx hb dX10_firstAt_37 (by decide) ?_
      refine W.lcmp hx hb dX10_firstAt_38 ?_
      refine lv_if_ne (tgt := 48) hx hb dX10_firstAt_39 (by decide) (fun c6 => ?_) (fun c6 => ?_)
      · have hX := if_f c6 hX
        refine lv_iload hx hb dX10_firstAt_48 (lv_at hl 4 rfl) ?_
        refine lv_istore_n (lv' := [(3, .int v_5), (0, .ref (ad 100 0)), (1, .int a1), (2, .int v_2), (4, .int v_4), (5, .int v_5)]) hx hb dX10_firstAt_50 rfl hl (by decide) rfl (fun ls hl => ?_)
        refine lv_iload_n hx hb dX10_firstAt_51 rfl (lv_at hl 3 rfl) ?_
        refine lv_iconst (v := nI 1) hx hb dX10_firstAt_52 (by decide) ?_
        refine lv_iload hx hb dX10_firstAt_53 (lv_at hl 5 rfl) ?_
        refine lv_ishl hx hb dX10_firstAt_55 ?_
        refine lv_ior hx hb dX10_firstAt_56 ?_
        refine lv_topi (fun v7 ev7 => ?_)
        have hX := nm_of ev7 hX
        refine lv_istore_n (lv' := [(2, .int v7), (3, .int v_5), (0, .ref (ad 100 0)), (1, .int a1), (4, .int v_4), (5, .int v_5)]) hx hb dX10_firstAt_57 rfl hl (by decide) rfl (fun ls hl => ?_)
        obtain ⟨v8, ev8⟩ : ∃ y : Int32, y = (v_4 + nI 1) := ⟨_, rfl⟩
        have hX := nm_of ev8 hX
        refine lv_iinc (v := v8) (lv' := [(4, .int v8), (2, .int v7), (3, .int v_5), (0, .ref (ad 100 0)), (1, .int a1), (5, .int v_5)]) hx hb dX10_firstAt_58 hl (k := 4) rfl (by rw [ev8]; rfl) (by decide) rfl (fun ls hl => ?_)
        refine lv_goto (tgt := 7) hx hb dX10_firstAt_61 (by decide) ?_
        exact hk_7 _ _ _ _ hX _ _ _ (lv_sub hl [3, 4, 1, 2, 0] rfl) hS
      · have hX := if_t c6 hX
        exact n_X10_firstAt_42 X hN hX (fun z0 r h ls H locs hl hS => ih z0 r h hk_7 ls H locs hl hS) _ _ _ (lv_sub hl [0, 1, 2, 3, 4] rfl) hS
set_option maxRecDepth 100000 in
set_option maxHeartbeats 4000000 in
theorem n_X10_firstAt_7 {a1 : Int32} (X : Cx p s m args meth c D cy ad A RX10 cX10_firstAt 6 ((some .int))) (hN : Ob ns 10 100) {M : Mem} : ∀ (n : Nat) (v_2 : Int32) (v_3 : Int32) (v_4 : Int32) (r : Int32), f_X10_firstAt_7 M a1 n (v_2, v_3, v_4) = some r → ∀ (ls : Array Slot) (H : Heap) (locs : List Loc), lv_has ls 6 [(0, .ref (ad 100 0)), (1, .int a1), (2, .int v_2), (3, .int v_3), (4, .int v_4)] → St D cy ad ns A M s.heap H locs → W p l e rm_X10_firstAt s m args below meth c H locs 0 0 (MQ below (QC D cy ad ns A M (some (.int r))) args s 0 0 A) (F0 m 7 ls []) := by
  obtain ⟨hx, hb, hml, hown, hts, hK, hr, hlk, hA, hG⟩ := id X
  intro n
  induction n with
  | zero => intro v_2 v_3 v_4 r hX; cases (show (none : Option (Int32)) = some r from hX)
  | succ n ih =>
    intro v_2 v_3 v_4 r hX ls H locs hl hS
    have hX : b_X10_firstAt_7 M a1 (fun x0 x1 x2 => f_X10_firstAt_7 M a1 n (x0, x1, x2)) v_2 v_3 v_4 = some r := hX
    unfold b_X10_firstAt_7 at hX
    refine lv_iload hx hb dX10_firstAt_7 (lv_at hl 4 rfl) ?_
    refine lv_iload_n hx hb dX10_firstAt_9 rfl (lv_at hl 1 rfl) ?_
    refine lv_icmp_gt (tgt := 64) hx hb dX10_firstAt_10 (by decide) (fun c9 => ?_) (fun c9 => ?_)
    · have hX := if_t c9 hX
      refine lv_iload_n hx hb dX10_firstAt_64 rfl (lv_at hl 3 rfl) ?_
      obtain rfl := some_of hX
      exact x_I (v := v_3) X hS dX10_firstAt_65
    · have hX := if_f c9 hX
      refine lv_iconst (v := nI 0) hx hb dX10_firstAt_13 (by decide) ?_
      refine lv_istore (lv' := [(5, .int (nI 0)), (0, .ref (ad 100 0)), (1, .int a1), (2, .int v_2), (3, .int v_3), (4, .int v_4)]) hx hb dX10_firstAt_14 hl (by decide) rfl (fun ls hl => ?_)
      exact n_X10_firstAt_16 X hN _ _ _ hX (fun z0 z1 z2 r h ls H locs hl hS => ih z0 z1 z2 r h ls H locs hl hS) _ _ _ (lv_sub hl [1, 2, 3, 5, 0] rfl) hS
set_option maxRecDepth 100000 in
set_option maxHeartbeats 4000000 in
theorem m_X10_firstAt {l : Launch} {D : va_G} {cy : Nat → ClassId} {ad : Nat → Nat → Nat} {ns : List (Nat × Nat)} {A : Nat → Prop} {M : Mem} (hN : Ob ns 10 100) {a1 : Int32} {r : Int32} (hX : f_X10_firstAt M a1 = some r) : Ct l yX10_firstAt cX10_firstAt 6 ((some .int)) rm_X10_firstAt D cy ad ns A [.ref (ad 100 0), .int a1] M M (some (.int r)) := by
  refine ct_of (lv := [(0, .ref (ad 100 0)), (1, .int a1)]) (by decide) (Nat.le_of_ble_eq_true rfl) rfl ?_
  intro p e s m args below meth c ls X hl hS
  obtain ⟨hx, hb, hml, hown, hts, hK, hr, hlk, hA, hG⟩ := id X
  obtain ⟨H, hH⟩ : ∃ z, z = s.heap := ⟨_, rfl⟩
  obtain ⟨locs, hlo⟩ : ∃ z : List Loc, z = [] := ⟨_, rfl⟩
  have hS : St D cy ad ns A M s.heap H locs := by rw [hH, hlo]; exact hS
  have hgoal : W p l e rm_X10_firstAt s m args below meth c H locs 0 0 (MQ below (QC D cy ad ns A M (some (.int r))) args s 0 0 A) (F0 m 0 ls []) := by
    unfold f_X10_firstAt at hX
    refine lv_iconst (v := nI 0) hx hb dX10_firstAt_0 (by decide) ?_
    refine lv_istore_n (lv' := [(2, .int (nI 0)), (0, .ref (ad 100 0)), (1, .int a1)]) hx hb dX10_firstAt_1 rfl hl (by decide) rfl (fun ls hl => ?_)
    refine lv_iconst (v := (-1)) hx hb dX10_firstAt_2 (by decide) ?_
    refine lv_istore_n (lv' := [(3, .int (-1)), (2, .int (nI 0)), (0, .ref (ad 100 0)), (1, .int a1)]) hx hb dX10_firstAt_3 rfl hl (by decide) rfl (fun ls hl => ?_)
    refine lv_iconst (v := nI 0) hx hb dX10_firstAt_4 (by decide) ?_
    refine lv_istore (lv' := [(4, .int (nI 0)), (3, .int (-1)), (2, .int (nI 0)), (0, .ref (ad 100 0)), (1, .int a1)]) hx hb dX10_firstAt_5 hl (by decide) rfl (fun ls hl => ?_)
    exact n_X10_firstAt_7 X hN _ _ _ _ _ hX _ _ _ (lv_sub hl [3, 4, 2, 1, 0] rfl) hS
  rw [hH, hlo] at hgoal
  exact hgoal
theorem mv_X10_firstAt : Mv yX10_firstAt RX10 cX10_firstAt 6 ((some .int)) 1 := ⟨t7_90, t7_89, ts_52, t1_11, ⟨by decide, by decide⟩, by decide +kernel⟩
/-! SewnYearModel.ahead(I)I -/
def rm_X10_ahead : Room := { frames := 1, cells := 0, slots := 0, locals := 21 }
def f_X10_ahead_52 (M : Mem) (a1 : Int32) (v_3 : Int32) (k_20 : Int32 → Int32 → Option (Int32)) (v_4 : Int32) (s_0 : Int32) (s_1 : Int32) : Option (Int32) :=
  nm (s_0 ||| s_1) fun v1 => nm (v_4 + nI 1) fun v2 => k_20 v1 v2
def b_X10_ahead_20 (M : Mem) (a1 : Int32) (k_11 : Int32 → Int32 → Option (Int32)) (v_3 : Int32) (rc : Int32 → Int32 → Option (Int32)) (v_2 : Int32) (v_4 : Int32) : Option (Int32) :=
  if (gI M 100 24) ≤ v_4 then (nm (v_3 + nI 1) fun v4 => k_11 v_2 v4) else (bn (f_X10_has v_2 v_4) fun r6 => if r6 = true then (bn (f_X10_of M ((nI 29) + v_4)) fun r9 => f_X10_ahead_52 M a1 v_3 rc v_4 v_2 r9) else (f_X10_ahead_52 M a1 v_3 rc v_4 v_2 (nI 0)))
def f_X10_ahead_20 (M : Mem) (a1 : Int32) (k_11 : Int32 → Int32 → Option (Int32)) (v_3 : Int32) : Nat → (Int32 × Int32) → Option (Int32) := lp (fun rc q => b_X10_ahead_20 M a1 k_11 v_3 (fun x0 x1 => rc (x0, x1)) q.1 q.2)
def b_X10_ahead_11 (M : Mem) (a1 : Int32) (rc : Int32 → Int32 → Option (Int32)) (v_2 : Int32) (v_3 : Int32) : Option (Int32) :=
  if (nI 9) ≤ v_3 then (some v_2) else (f_X10_ahead_20 M a1 rc v_3 FU (v_2, (nI 0)))
def f_X10_ahead_11 (M : Mem) (a1 : Int32) : Nat → (Int32 × Int32) → Option (Int32) := lp (fun rc q => b_X10_ahead_11 M a1 (fun x0 x1 => rc (x0, x1)) q.1 q.2)
def f_X10_ahead (M : Mem) (a1 : Int32) : Option (Int32) :=
  bn (f_X10_of M ((nI 29) + a1)) fun r12 => f_X10_ahead_11 M a1 FU (r12, (nI 0))
set_option maxRecDepth 100000 in
set_option maxHeartbeats 4000000 in
theorem n_X10_ahead_52 {a1 : Int32} {v_3 : Int32} (X : Cx p s m args meth c D cy ad A RX10 cX10_ahead 5 ((some .int))) (hN : Ob ns 10 100) {M : Mem} {k_20 : Int32 → Int32 → Option (Int32)} {v_4 : Int32} {s_0 : Int32} {s_1 : Int32} {r : Int32} (hX : f_X10_ahead_52 M a1 v_3 k_20 v_4 s_0 s_1 = some r) : (∀ (v_2 : Int32) (v_4 : Int32) (r : Int32), k_20 v_2 v_4 = some r → ∀ (ls : Array Slot) (H : Heap) (locs : List Loc), lv_has ls 5 [(0, .ref (ad 100 0)), (2, .int v_2), (3, .int v_3), (4, .int v_4)] → St D cy ad ns A M s.heap H locs → W p l e rm_X10_ahead s m args below meth c H locs 0 0 (MQ below (QC D cy ad ns A M (some (.int r))) args s 0 0 A) (F0 m 20 ls [])) → ∀ (ls : Array Slot) (H : Heap) (locs : List Loc), lv_has ls 5 [(0, .ref (ad 100 0)), (3, .int v_3), (4, .int v_4)] → St D cy ad ns A M s.heap H locs → W p l e rm_X10_ahead s m args below meth c H locs 0 0 (MQ below (QC D cy ad ns A M (some (.int r))) args s 0 0 A) (F0 m 52 ls [.int s_1, .int s_0]) := by
  obtain ⟨hx, hb, hml, hown, hts, hK, hr, hlk, hA, hG⟩ := id X
  intro hk_20 ls H locs hl hS
  unfold f_X10_ahead_52 at hX
  refine lv_ior hx hb dX10_ahead_52 ?_
  refine lv_topi (fun v1 ev1 => ?_)
  have hX := nm_of ev1 hX
  refine lv_istore_n (lv' := [(2, .int v1), (0, .ref (ad 100 0)), (3, .int v_3), (4, .int v_4)]) hx hb dX10_ahead_53 rfl hl (by decide) rfl (fun ls hl => ?_)
  obtain ⟨v2, ev2⟩ : ∃ y : Int32, y = (v_4 + nI 1) := ⟨_, rfl⟩
  have hX := nm_of ev2 hX
  refine lv_iinc (v := v2) (lv' := [(4, .int v2), (2, .int v1), (0, .ref (ad 100 0)), (3, .int v_3)]) hx hb dX10_ahead_54 hl (k := 3) rfl (by rw [ev2]; rfl) (by decide) rfl (fun ls hl => ?_)
  refine lv_goto (tgt := 20) hx hb dX10_ahead_57 (by decide) ?_
  exact hk_20 _ _ _ hX _ _ _ (lv_sub hl [2, 1, 3, 0] rfl) hS
set_option maxRecDepth 100000 in
set_option maxHeartbeats 4000000 in
theorem n_X10_ahead_20 {a1 : Int32} (X : Cx p s m args meth c D cy ad A RX10 cX10_ahead 5 ((some .int))) (hN : Ob ns 10 100) {M : Mem} {k_11 : Int32 → Int32 → Option (Int32)} {v_3 : Int32} : ∀ (n : Nat) (v_2 : Int32) (v_4 : Int32) (r : Int32), f_X10_ahead_20 M a1 k_11 v_3 n (v_2, v_4) = some r → (∀ (v_2 : Int32) (v_3 : Int32) (r : Int32), k_11 v_2 v_3 = some r → ∀ (ls : Array Slot) (H : Heap) (locs : List Loc), lv_has ls 5 [(0, .ref (ad 100 0)), (2, .int v_2), (3, .int v_3)] → St D cy ad ns A M s.heap H locs → W p l e rm_X10_ahead s m args below meth c H locs 0 0 (MQ below (QC D cy ad ns A M (some (.int r))) args s 0 0 A) (F0 m 11 ls [])) → ∀ (ls : Array Slot) (H : Heap) (locs : List Loc), lv_has ls 5 [(0, .ref (ad 100 0)), (2, .int v_2), (3, .int v_3), (4, .int v_4)] → St D cy ad ns A M s.heap H locs → W p l e rm_X10_ahead s m args below meth c H locs 0 0 (MQ below (QC D cy ad ns A M (some (.int r))) args s 0 0 A) (F0 m 20 ls []) := by
  obtain ⟨hx, hb, hml, hown, hts, hK, hr, hlk, hA, hG⟩ := id X
  intro n
  induction n with
  | zero => intro v_2 v_4 r hX; cases (show (none : Option (Int32)) = some r from hX)
  | succ n ih =>
    intro v_2 v_4 r hX hk_11 ls H locs hl hS
    have hX : b_X10_ahead_20 M a1 k_11 v_3 (fun x0 x1 => f_X10_ahead_20 M a1 k_11 v_3 n (x0, x1)) v_2 v_4 = some r := hX
    unfold b_X10_ahead_20 at hX
    refine lv_iload hx hb dX10_ahead_20 (lv_at hl 3 rfl) ?_
    refine lv_aload_n hx hb dX10_ahead_22 rfl (lv_at hl 0 rfl) ?_
    refine fg_X10_281 X hS (hN) dX10_ahead_23 ?_
    refine lv_icmp_ge (tgt := 60) hx hb dX10_ahead_26 (by decide) (fun c3 => ?_) (fun c3 => ?_)
    · have hX := if_t c3 hX
      obtain ⟨v4, ev4⟩ : ∃ y : Int32, y = (v_3 + nI 1) := ⟨_, rfl⟩
      have hX := nm_of ev4 hX
      refine lv_iinc (v := v4) (lv' := [(3, .int v4), (0, .ref (ad 100 0)), (2, .int v_2), (4, .int v_4)]) hx hb dX10_ahead_60 hl (k := 2) rfl (by rw [ev4]; rfl) (by decide) rfl (fun ls hl => ?_)
      refine lv_goto (tgt := 11) hx hb dX10_ahead_63 (by decide) ?_
      exact hk_11 _ _ _ hX _ _ _ (lv_sub hl [1, 2, 0] rfl) hS
    · have hX := if_f c3 hX
      refine lv_iload_n hx hb dX10_ahead_29 rfl (lv_at hl 1 rfl) ?_
      refine lv_iload_n hx hb dX10_ahead_30 rfl (lv_at hl 1 rfl) ?_
      refine lv_iload hx hb dX10_ahead_31 (lv_at hl 3 rfl) ?_
      obtain ⟨r6, h5, hX⟩ := bn_of hX
      refine r_callS1 (v := .int (b2i r6)) (As := [.int v_2, .int v_4]) (rest := [.int v_2]) X hS (m_X10_has (M := M) hN h5) ms_X10_has t7_36 ⟨rfl, rfl, Nat.le_of_ble_eq_true rfl, Nat.le_of_ble_eq_true rfl⟩ rfl hl.1 rfl (Nat.le_of_ble_eq_true rfl) ⟨Nat.zero_le _, Nat.zero_le _⟩ dX10_ahead_33 (fun H locs hS => ?_)
      refine lv_if_eq (tgt := 51) hx hb dX10_ahead_36 (by decide) (fun c7 => ?_) (fun c7 => ?_)
      · have hX := if_bf c7 hX
        refine lv_iconst (v := nI 0) hx hb dX10_ahead_51 (by decide) ?_
        exact n_X10_ahead_52 X hN hX (fun z0 z1 r h ls H locs hl hS => ih z0 z1 r h hk_11 ls H locs hl hS) _ _ _ (lv_sub hl [0, 2, 3] rfl) hS
      · have hX := if_bt c7 hX
        refine lv_aload_n hx hb dX10_ahead_39 rfl (lv_at hl 0 rfl) ?_
        refine lv_bipush (v := nI 29) hx hb dX10_ahead_40 (by decide) ?_
        refine lv_iload hx hb dX10_ahead_42 (lv_at hl 3 rfl) ?_
        refine lv_iadd hx hb dX10_ahead_44 ?_
        obtain ⟨r9, h8, hX⟩ := bn_of hX
        refine r_callV1 (v := .int r9) (As := [.int ((nI 29) + v_4)]) (rest := [.int v_2]) X hS (m_X10_of hN h8) mv_X10_of rfl (hN) t6_220 ⟨rfl, rfl, Nat.le_of_ble_eq_true rfl, Nat.le_of_ble_eq_true rfl⟩ rfl hl.1 rfl (Nat.le_of_ble_eq_true rfl) ⟨Nat.zero_le _, Nat.zero_le _⟩ dX10_ahead_45 (fun H locs hS => ?_)
        refine lv_goto (tgt := 52) hx hb dX10_ahead_48 (by decide) ?_
        exact n_X10_ahead_52 X hN hX (fun z0 z1 r h ls H locs hl hS => ih z0 z1 r h hk_11 ls H locs hl hS) _ _ _ (lv_sub hl [0, 2, 3] rfl) hS
set_option maxRecDepth 100000 in
set_option maxHeartbeats 4000000 in
theorem n_X10_ahead_11 {a1 : Int32} (X : Cx p s m args meth c D cy ad A RX10 cX10_ahead 5 ((some .int))) (hN : Ob ns 10 100) {M : Mem} : ∀ (n : Nat) (v_2 : Int32) (v_3 : Int32) (r : Int32), f_X10_ahead_11 M a1 n (v_2, v_3) = some r → ∀ (ls : Array Slot) (H : Heap) (locs : List Loc), lv_has ls 5 [(0, .ref (ad 100 0)), (2, .int v_2), (3, .int v_3)] → St D cy ad ns A M s.heap H locs → W p l e rm_X10_ahead s m args below meth c H locs 0 0 (MQ below (QC D cy ad ns A M (some (.int r))) args s 0 0 A) (F0 m 11 ls []) := by
  obtain ⟨hx, hb, hml, hown, hts, hK, hr, hlk, hA, hG⟩ := id X
  intro n
  induction n with
  | zero => intro v_2 v_3 r hX; cases (show (none : Option (Int32)) = some r from hX)
  | succ n ih =>
    intro v_2 v_3 r hX ls H locs hl hS
    have hX : b_X10_ahead_11 M a1 (fun x0 x1 => f_X10_ahead_11 M a1 n (x0, x1)) v_2 v_3 = some r := hX
    unfold b_X10_ahead_11 at hX
    refine lv_iload_n hx hb dX10_ahead_11 rfl (lv_at hl 2 rfl) ?_
    refine lv_bipush (v := nI 9) hx hb dX10_ahead_12 (by decide) ?_
    refine lv_icmp_ge (tgt := 66) hx hb dX10_ahead_14 (by decide) (fun c10 => ?_) (fun c10 => ?_)
    · have hX := if_t c10 hX
      refine lv_iload_n hx hb dX10_ahead_66 rfl (lv_at hl 1 rfl) ?_
      obtain rfl := some_of hX
      exact x_I (v := v_2) X hS dX10_ahead_67
    · have hX := if_f c10 hX
      refine lv_iconst (v := nI 0) hx hb dX10_ahead_17 (by decide) ?_
      refine lv_istore (lv' := [(4, .int (nI 0)), (0, .ref (ad 100 0)), (2, .int v_2), (3, .int v_3)]) hx hb dX10_ahead_18 hl (by decide) rfl (fun ls hl => ?_)
      exact n_X10_ahead_20 X hN _ _ _ _ hX (fun z0 z1 r h ls H locs hl hS => ih z0 z1 r h ls H locs hl hS) _ _ _ (lv_sub hl [1, 2, 3, 0] rfl) hS
set_option maxRecDepth 100000 in
set_option maxHeartbeats 4000000 in
theorem m_X10_ahead {l : Launch} {D : va_G} {cy : Nat → ClassId} {ad : Nat → Nat → Nat} {ns : List (Nat × Nat)} {A : Nat → Prop} {M : Mem} (hN : Ob ns 10 100) {a1 : Int32} {r : Int32} (hX : f_X10_ahead M a1 = some r) : Ct l yX10_ahead cX10_ahead 5 ((some .int)) rm_X10_ahead D cy ad ns A [.ref (ad 100 0), .int a1] M M (some (.int r)) := by
  refine ct_of (lv := [(0, .ref (ad 100 0)), (1, .int a1)]) (by decide) (Nat.le_of_ble_eq_true rfl) rfl ?_
  intro p e s m args below meth c ls X hl hS
  obtain ⟨hx, hb, hml, hown, hts, hK, hr, hlk, hA, hG⟩ := id X
  obtain ⟨H, hH⟩ : ∃ z, z = s.heap := ⟨_, rfl⟩
  obtain ⟨locs, hlo⟩ : ∃ z : List Loc, z = [] := ⟨_, rfl⟩
  have hS : St D cy ad ns A M s.heap H locs := by rw [hH, hlo]; exact hS
  have hgoal : W p l e rm_X10_ahead s m args below meth c H locs 0 0 (MQ below (QC D cy ad ns A M (some (.int r))) args s 0 0 A) (F0 m 0 ls []) := by
    unfold f_X10_ahead at hX
    refine lv_aload_n hx hb dX10_ahead_0 rfl (lv_at hl 0 rfl) ?_
    refine lv_bipush (v := nI 29) hx hb dX10_ahead_1 (by decide) ?_
    refine lv_iload_n hx hb dX10_ahead_3 rfl (lv_at hl 1 rfl) ?_
    refine lv_iadd hx hb dX10_ahead_4 ?_
    obtain ⟨r12, h11, hX⟩ := bn_of hX
    refine r_callV1 (v := .int r12) (As := [.int ((nI 29) + a1)]) (rest := []) X hS (m_X10_of hN h11) mv_X10_of rfl (hN) t6_220 ⟨rfl, rfl, Nat.le_of_ble_eq_true rfl, Nat.le_of_ble_eq_true rfl⟩ rfl hl.1 rfl (Nat.le_of_ble_eq_true rfl) ⟨Nat.zero_le _, Nat.zero_le _⟩ dX10_ahead_5 (fun H locs hS => ?_)
    refine lv_istore_n (lv' := [(2, .int r12), (0, .ref (ad 100 0)), (1, .int a1)]) hx hb dX10_ahead_8 rfl hl (by decide) rfl (fun ls hl => ?_)
    refine lv_iconst (v := nI 0) hx hb dX10_ahead_9 (by decide) ?_
    refine lv_istore_n (lv' := [(3, .int (nI 0)), (2, .int r12), (0, .ref (ad 100 0)), (1, .int a1)]) hx hb dX10_ahead_10 rfl hl (by decide) rfl (fun ls hl => ?_)
    exact n_X10_ahead_11 X hN _ _ _ _ hX _ _ _ (lv_sub hl [2, 1, 0] rfl) hS
  rw [hH, hlo] at hgoal
  exact hgoal
theorem mv_X10_ahead : Mv yX10_ahead RX10 cX10_ahead 5 ((some .int)) 1 := ⟨t7_94, t7_93, ts_53, t1_11, ⟨by decide, by decide⟩, by decide +kernel⟩
/-! SewnYearModel.behind(I)I -/
def rm_X10_behind : Room := { frames := 2, cells := 0, slots := 0, locals := 45 }
def f_X10_behind_32 (M : Mem) (a1 : Int32) (k_4 : Int32 → Int32 → Option (Int32)) (v_3 : Int32) (s_0 : Int32) (s_1 : Int32) : Option (Int32) :=
  nm (s_0 ||| s_1) fun v1 => nm (v_3 + nI 1) fun v2 => k_4 v1 v2
def b_X10_behind_4 (M : Mem) (a1 : Int32) (rc : Int32 → Int32 → Option (Int32)) (v_2 : Int32) (v_3 : Int32) : Option (Int32) :=
  if (gI M 100 24) ≤ v_3 then (some v_2) else (bn (f_X10_ahead M v_3) fun r5 => bn (f_X10_has r5 a1) fun r7 => if r7 = true then (f_X10_behind_32 M a1 rc v_3 v_2 ((nI 1) <<< (v_3 &&& 31))) else (f_X10_behind_32 M a1 rc v_3 v_2 (nI 0)))
def f_X10_behind_4 (M : Mem) (a1 : Int32) : Nat → (Int32 × Int32) → Option (Int32) := lp (fun rc q => b_X10_behind_4 M a1 (fun x0 x1 => rc (x0, x1)) q.1 q.2)
def f_X10_behind (M : Mem) (a1 : Int32) : Option (Int32) :=
  f_X10_behind_4 M a1 FU ((nI 0), (nI 0))
set_option maxRecDepth 100000 in
set_option maxHeartbeats 4000000 in
theorem n_X10_behind_32 {a1 : Int32} (X : Cx p s m args meth c D cy ad A RX10 cX10_behind 4 ((some .int))) (hN : Ob ns 10 100) {M : Mem} {k_4 : Int32 → Int32 → Option (Int32)} {v_3 : Int32} {s_0 : Int32} {s_1 : Int32} {r : Int32} (hX : f_X10_behind_32 M a1 k_4 v_3 s_0 s_1 = some r) : (∀ (v_2 : Int32) (v_3 : Int32) (r : Int32), k_4 v_2 v_3 = some r → ∀ (ls : Array Slot) (H : Heap) (locs : List Loc), lv_has ls 4 [(0, .ref (ad 100 0)), (1, .int a1), (2, .int v_2), (3, .int v_3)] → St D cy ad ns A M s.heap H locs → W p l e rm_X10_behind s m args below meth c H locs 0 0 (MQ below (QC D cy ad ns A M (some (.int r))) args s 0 0 A) (F0 m 4 ls [])) → ∀ (ls : Array Slot) (H : Heap) (locs : List Loc), lv_has ls 4 [(0, .ref (ad 100 0)), (1, .int a1), (3, .int v_3)] → St D cy ad ns A M s.heap H locs → W p l e rm_X10_behind s m args below meth c H locs 0 0 (MQ below (QC D cy ad ns A M (some (.int r))) args s 0 0 A) (F0 m 32 ls [.int s_1, .int s_0]) := by
  obtain ⟨hx, hb, hml, hown, hts, hK, hr, hlk, hA, hG⟩ := id X
  intro hk_4 ls H locs hl hS
  unfold f_X10_behind_32 at hX
  refine lv_ior hx hb dX10_behind_32 ?_
  refine lv_topi (fun v1 ev1 => ?_)
  have hX := nm_of ev1 hX
  refine lv_istore_n (lv' := [(2, .int v1), (0, .ref (ad 100 0)), (1, .int a1), (3, .int v_3)]) hx hb dX10_behind_33 rfl hl (by decide) rfl (fun ls hl => ?_)
  obtain ⟨v2, ev2⟩ : ∃ y : Int32, y = (v_3 + nI 1) := ⟨_, rfl⟩
  have hX := nm_of ev2 hX
  refine lv_iinc (v := v2) (lv' := [(3, .int v2), (2, .int v1), (0, .ref (ad 100 0)), (1, .int a1)]) hx hb dX10_behind_34 hl (k := 3) rfl (by rw [ev2]; rfl) (by decide) rfl (fun ls hl => ?_)
  refine lv_goto (tgt := 4) hx hb dX10_behind_37 (by decide) ?_
  exact hk_4 _ _ _ hX _ _ _ (lv_sub hl [2, 3, 1, 0] rfl) hS
set_option maxRecDepth 100000 in
set_option maxHeartbeats 4000000 in
theorem n_X10_behind_4 {a1 : Int32} (X : Cx p s m args meth c D cy ad A RX10 cX10_behind 4 ((some .int))) (hN : Ob ns 10 100) {M : Mem} : ∀ (n : Nat) (v_2 : Int32) (v_3 : Int32) (r : Int32), f_X10_behind_4 M a1 n (v_2, v_3) = some r → ∀ (ls : Array Slot) (H : Heap) (locs : List Loc), lv_has ls 4 [(0, .ref (ad 100 0)), (1, .int a1), (2, .int v_2), (3, .int v_3)] → St D cy ad ns A M s.heap H locs → W p l e rm_X10_behind s m args below meth c H locs 0 0 (MQ below (QC D cy ad ns A M (some (.int r))) args s 0 0 A) (F0 m 4 ls []) := by
  obtain ⟨hx, hb, hml, hown, hts, hK, hr, hlk, hA, hG⟩ := id X
  intro n
  induction n with
  | zero => intro v_2 v_3 r hX; cases (show (none : Option (Int32)) = some r from hX)
  | succ n ih =>
    intro v_2 v_3 r hX ls H locs hl hS
    have hX : b_X10_behind_4 M a1 (fun x0 x1 => f_X10_behind_4 M a1 n (x0, x1)) v_2 v_3 = some r := hX
    unfold b_X10_behind_4 at hX
    refine lv_iload_n hx hb dX10_behind_4 rfl (lv_at hl 3 rfl) ?_
    refine lv_aload_n hx hb dX10_behind_5 rfl (lv_at hl 0 rfl) ?_
    refine fg_X10_281 X hS (hN) dX10_behind_6 ?_
    refine lv_icmp_ge (tgt := 40) hx hb dX10_behind_9 (by decide) (fun c3 => ?_) (fun c3 => ?_)
    · have hX := if_t c3 hX
      refine lv_iload_n hx hb dX10_behind_40 rfl (lv_at hl 2 rfl) ?_
      obtain rfl := some_of hX
      exact x_I (v := v_2) X hS dX10_behind_41
    · have hX := if_f c3 hX
      refine lv_iload_n hx hb dX10_behind_12 rfl (lv_at hl 2 rfl) ?_
      refine lv_aload_n hx hb dX10_behind_13 rfl (lv_at hl 0 rfl) ?_
      refine lv_iload_n hx hb dX10_behind_14 rfl (lv_at hl 3 rfl) ?_
      obtain ⟨r5, h4, hX⟩ := bn_of hX
      refine r_callV1 (v := .int r5) (As := [.int v_3]) (rest := [.int v_2]) X hS (m_X10_ahead hN h4) mv_X10_ahead rfl (hN) t7_91 ⟨rfl, rfl, Nat.le_of_ble_eq_true rfl, Nat.le_of_ble_eq_true rfl⟩ rfl hl.1 rfl (Nat.le_of_ble_eq_true rfl) ⟨Nat.zero_le _, Nat.zero_le _⟩ dX10_behind_15 (fun H locs hS => ?_)
      refine lv_iload_n hx hb dX10_behind_18 rfl (lv_at hl 1 rfl) ?_
      obtain ⟨r7, h6, hX⟩ := bn_of hX
      refine r_callS1 (v := .int (b2i r7)) (As := [.int r5, .int a1]) (rest := [.int v_2]) X hS (m_X10_has (M := M) hN h6) ms_X10_has t7_36 ⟨rfl, rfl, Nat.le_of_ble_eq_true rfl, Nat.le_of_ble_eq_true rfl⟩ rfl hl.1 rfl (Nat.le_of_ble_eq_true rfl) ⟨Nat.zero_le _, Nat.zero_le _⟩ dX10_behind_19 (fun H locs hS => ?_)
      refine lv_if_eq (tgt := 31) hx hb dX10_behind_22 (by decide) (fun c8 => ?_) (fun c8 => ?_)
      · have hX := if_bf c8 hX
        refine lv_iconst (v := nI 0) hx hb dX10_behind_31 (by decide) ?_
        exact n_X10_behind_32 X hN hX (fun z0 z1 r h ls H locs hl hS => ih z0 z1 r h ls H locs hl hS) _ _ _ (lv_sub hl [0, 1, 3] rfl) hS
      · have hX := if_bt c8 hX
        refine lv_iconst (v := nI 1) hx hb dX10_behind_25 (by decide) ?_
        refine lv_iload_n hx hb dX10_behind_26 rfl (lv_at hl 3 rfl) ?_
        refine lv_ishl hx hb dX10_behind_27 ?_
        refine lv_goto (tgt := 32) hx hb dX10_behind_28 (by decide) ?_
        exact n_X10_behind_32 X hN hX (fun z0 z1 r h ls H locs hl hS => ih z0 z1 r h ls H locs hl hS) _ _ _ (lv_sub hl [0, 1, 3] rfl) hS
set_option maxRecDepth 100000 in
set_option maxHeartbeats 4000000 in
theorem m_X10_behind {l : Launch} {D : va_G} {cy : Nat → ClassId} {ad : Nat → Nat → Nat} {ns : List (Nat × Nat)} {A : Nat → Prop} {M : Mem} (hN : Ob ns 10 100) {a1 : Int32} {r : Int32} (hX : f_X10_behind M a1 = some r) : Ct l yX10_behind cX10_behind 4 ((some .int)) rm_X10_behind D cy ad ns A [.ref (ad 100 0), .int a1] M M (some (.int r)) := by
  refine ct_of (lv := [(0, .ref (ad 100 0)), (1, .int a1)]) (by decide) (Nat.le_of_ble_eq_true rfl) rfl ?_
  intro p e s m args below meth c ls X hl hS
  obtain ⟨hx, hb, hml, hown, hts, hK, hr, hlk, hA, hG⟩ := id X
  obtain ⟨H, hH⟩ : ∃ z, z = s.heap := ⟨_, rfl⟩
  obtain ⟨locs, hlo⟩ : ∃ z : List Loc, z = [] := ⟨_, rfl⟩
  have hS : St D cy ad ns A M s.heap H locs := by rw [hH, hlo]; exact hS
  have hgoal : W p l e rm_X10_behind s m args below meth c H locs 0 0 (MQ below (QC D cy ad ns A M (some (.int r))) args s 0 0 A) (F0 m 0 ls []) := by
    unfold f_X10_behind at hX
    refine lv_iconst (v := nI 0) hx hb dX10_behind_0 (by decide) ?_
    refine lv_istore_n (lv' := [(2, .int (nI 0)), (0, .ref (ad 100 0)), (1, .int a1)]) hx hb dX10_behind_1 rfl hl (by decide) rfl (fun ls hl => ?_)
    refine lv_iconst (v := nI 0) hx hb dX10_behind_2 (by decide) ?_
    refine lv_istore_n (lv' := [(3, .int (nI 0)), (2, .int (nI 0)), (0, .ref (ad 100 0)), (1, .int a1)]) hx hb dX10_behind_3 rfl hl (by decide) rfl (fun ls hl => ?_)
    exact n_X10_behind_4 X hN _ _ _ _ hX _ _ _ (lv_sub hl [2, 3, 1, 0] rfl) hS
  rw [hH, hlo] at hgoal
  exact hgoal
theorem mv_X10_behind : Mv yX10_behind RX10 cX10_behind 4 ((some .int)) 1 := ⟨t7_101, t7_100, ts_54, t1_11, ⟨by decide, by decide⟩, by decide +kernel⟩
/-! SewnYearModel.stitches(I)I -/
def rm_X10_stitches : Room := { frames := 1, cells := 0, slots := 0, locals := 21 }
def f_X10_stitches_32 (M : Mem) (a1 : Int32) (k_4 : Int32 → Int32 → Option (Int32)) (v_3 : Int32) (s_0 : Int32) (s_1 : Int32) : Option (Int32) :=
  nm (s_0 + s_1) fun v1 => nm (v_3 + nI 1) fun v2 => k_4 v1 v2
def b_X10_stitches_4 (M : Mem) (a1 : Int32) (rc : Int32 → Int32 → Option (Int32)) (v_2 : Int32) (v_3 : Int32) : Option (Int32) :=
  if (gI M 100 24) ≤ v_3 then (some v_2) else (bn (f_X10_has a1 v_3) fun r5 => if r5 = true then (bn (f_X10_of M ((nI 2) + v_3)) fun r8 => f_X10_stitches_32 M a1 rc v_3 v_2 r8) else (f_X10_stitches_32 M a1 rc v_3 v_2 (nI 0)))
def f_X10_stitches_4 (M : Mem) (a1 : Int32) : Nat → (Int32 × Int32) → Option (Int32) := lp (fun rc q => b_X10_stitches_4 M a1 (fun x0 x1 => rc (x0, x1)) q.1 q.2)
def f_X10_stitches (M : Mem) (a1 : Int32) : Option (Int32) :=
  f_X10_stitches_4 M a1 FU ((nI 0), (nI 0))
set_option maxRecDepth 100000 in
set_option maxHeartbeats 4000000 in
theorem n_X10_stitches_32 {a1 : Int32} (X : Cx p s m args meth c D cy ad A RX10 cX10_stitches 4 ((some .int))) (hN : Ob ns 10 100) {M : Mem} {k_4 : Int32 → Int32 → Option (Int32)} {v_3 : Int32} {s_0 : Int32} {s_1 : Int32} {r : Int32} (hX : f_X10_stitches_32 M a1 k_4 v_3 s_0 s_1 = some r) : (∀ (v_2 : Int32) (v_3 : Int32) (r : Int32), k_4 v_2 v_3 = some r → ∀ (ls : Array Slot) (H : Heap) (locs : List Loc), lv_has ls 4 [(0, .ref (ad 100 0)), (1, .int a1), (2, .int v_2), (3, .int v_3)] → St D cy ad ns A M s.heap H locs → W p l e rm_X10_stitches s m args below meth c H locs 0 0 (MQ below (QC D cy ad ns A M (some (.int r))) args s 0 0 A) (F0 m 4 ls [])) → ∀ (ls : Array Slot) (H : Heap) (locs : List Loc), lv_has ls 4 [(0, .ref (ad 100 0)), (1, .int a1), (3, .int v_3)] → St D cy ad ns A M s.heap H locs → W p l e rm_X10_stitches s m args below meth c H locs 0 0 (MQ below (QC D cy ad ns A M (some (.int r))) args s 0 0 A) (F0 m 32 ls [.int s_1, .int s_0]) := by
  obtain ⟨hx, hb, hml, hown, hts, hK, hr, hlk, hA, hG⟩ := id X
  intro hk_4 ls H locs hl hS
  unfold f_X10_stitches_32 at hX
  refine lv_iadd hx hb dX10_stitches_32 ?_
  refine lv_topi (fun v1 ev1 => ?_)
  have hX := nm_of ev1 hX
  refine lv_istore_n (lv' := [(2, .int v1), (0, .ref (ad 100 0)), (1, .int a1), (3, .int v_3)]) hx hb dX10_stitches_33 rfl hl (by decide) rfl (fun ls hl => ?_)
  obtain ⟨v2, ev2⟩ : ∃ y : Int32, y = (v_3 + nI 1) := ⟨_, rfl⟩
  have hX := nm_of ev2 hX
  refine lv_iinc (v := v2) (lv' := [(3, .int v2), (2, .int v1), (0, .ref (ad 100 0)), (1, .int a1)]) hx hb dX10_stitches_34 hl (k := 3) rfl (by rw [ev2]; rfl) (by decide) rfl (fun ls hl => ?_)
  refine lv_goto (tgt := 4) hx hb dX10_stitches_37 (by decide) ?_
  exact hk_4 _ _ _ hX _ _ _ (lv_sub hl [2, 3, 1, 0] rfl) hS
set_option maxRecDepth 100000 in
set_option maxHeartbeats 4000000 in
theorem n_X10_stitches_4 {a1 : Int32} (X : Cx p s m args meth c D cy ad A RX10 cX10_stitches 4 ((some .int))) (hN : Ob ns 10 100) {M : Mem} : ∀ (n : Nat) (v_2 : Int32) (v_3 : Int32) (r : Int32), f_X10_stitches_4 M a1 n (v_2, v_3) = some r → ∀ (ls : Array Slot) (H : Heap) (locs : List Loc), lv_has ls 4 [(0, .ref (ad 100 0)), (1, .int a1), (2, .int v_2), (3, .int v_3)] → St D cy ad ns A M s.heap H locs → W p l e rm_X10_stitches s m args below meth c H locs 0 0 (MQ below (QC D cy ad ns A M (some (.int r))) args s 0 0 A) (F0 m 4 ls []) := by
  obtain ⟨hx, hb, hml, hown, hts, hK, hr, hlk, hA, hG⟩ := id X
  intro n
  induction n with
  | zero => intro v_2 v_3 r hX; cases (show (none : Option (Int32)) = some r from hX)
  | succ n ih =>
    intro v_2 v_3 r hX ls H locs hl hS
    have hX : b_X10_stitches_4 M a1 (fun x0 x1 => f_X10_stitches_4 M a1 n (x0, x1)) v_2 v_3 = some r := hX
    unfold b_X10_stitches_4 at hX
    refine lv_iload_n hx hb dX10_stitches_4 rfl (lv_at hl 3 rfl) ?_
    refine lv_aload_n hx hb dX10_stitches_5 rfl (lv_at hl 0 rfl) ?_
    refine fg_X10_281 X hS (hN) dX10_stitches_6 ?_
    refine lv_icmp_ge (tgt := 40) hx hb dX10_stitches_9 (by decide) (fun c3 => ?_) (fun c3 => ?_)
    · have hX := if_t c3 hX
      refine lv_iload_n hx hb dX10_stitches_40 rfl (lv_at hl 2 rfl) ?_
      obtain rfl := some_of hX
      exact x_I (v := v_2) X hS dX10_stitches_41
    · have hX := if_f c3 hX
      refine lv_iload_n hx hb dX10_stitches_12 rfl (lv_at hl 2 rfl) ?_
      refine lv_iload_n hx hb dX10_stitches_13 rfl (lv_at hl 1 rfl) ?_
      refine lv_iload_n hx hb dX10_stitches_14 rfl (lv_at hl 3 rfl) ?_
      obtain ⟨r5, h4, hX⟩ := bn_of hX
      refine r_callS1 (v := .int (b2i r5)) (As := [.int a1, .int v_3]) (rest := [.int v_2]) X hS (m_X10_has (M := M) hN h4) ms_X10_has t7_36 ⟨rfl, rfl, Nat.le_of_ble_eq_true rfl, Nat.le_of_ble_eq_true rfl⟩ rfl hl.1 rfl (Nat.le_of_ble_eq_true rfl) ⟨Nat.zero_le _, Nat.zero_le _⟩ dX10_stitches_15 (fun H locs hS => ?_)
      refine lv_if_eq (tgt := 31) hx hb dX10_stitches_18 (by decide) (fun c6 => ?_) (fun c6 => ?_)
      · have hX := if_bf c6 hX
        refine lv_iconst (v := nI 0) hx hb dX10_stitches_31 (by decide) ?_
        exact n_X10_stitches_32 X hN hX (fun z0 z1 r h ls H locs hl hS => ih z0 z1 r h ls H locs hl hS) _ _ _ (lv_sub hl [0, 1, 3] rfl) hS
      · have hX := if_bt c6 hX
        refine lv_aload_n hx hb dX10_stitches_21 rfl (lv_at hl 0 rfl) ?_
        refine lv_iconst (v := nI 2) hx hb dX10_stitches_22 (by decide) ?_
        refine lv_iload_n hx hb dX10_stitches_23 rfl (lv_at hl 3 rfl) ?_
        refine lv_iadd hx hb dX10_stitches_24 ?_
        obtain ⟨r8, h7, hX⟩ := bn_of hX
        refine r_callV1 (v := .int r8) (As := [.int ((nI 2) + v_3)]) (rest := [.int v_2]) X hS (m_X10_of hN h7) mv_X10_of rfl (hN) t6_220 ⟨rfl, rfl, Nat.le_of_ble_eq_true rfl, Nat.le_of_ble_eq_true rfl⟩ rfl hl.1 rfl (Nat.le_of_ble_eq_true rfl) ⟨Nat.zero_le _, Nat.zero_le _⟩ dX10_stitches_25 (fun H locs hS => ?_)
        refine lv_goto (tgt := 32) hx hb dX10_stitches_28 (by decide) ?_
        exact n_X10_stitches_32 X hN hX (fun z0 z1 r h ls H locs hl hS => ih z0 z1 r h ls H locs hl hS) _ _ _ (lv_sub hl [0, 1, 3] rfl) hS
set_option maxRecDepth 100000 in
set_option maxHeartbeats 4000000 in
theorem m_X10_stitches {l : Launch} {D : va_G} {cy : Nat → ClassId} {ad : Nat → Nat → Nat} {ns : List (Nat × Nat)} {A : Nat → Prop} {M : Mem} (hN : Ob ns 10 100) {a1 : Int32} {r : Int32} (hX : f_X10_stitches M a1 = some r) : Ct l yX10_stitches cX10_stitches 4 ((some .int)) rm_X10_stitches D cy ad ns A [.ref (ad 100 0), .int a1] M M (some (.int r)) := by
  refine ct_of (lv := [(0, .ref (ad 100 0)), (1, .int a1)]) (by decide) (Nat.le_of_ble_eq_true rfl) rfl ?_
  intro p e s m args below meth c ls X hl hS
  obtain ⟨hx, hb, hml, hown, hts, hK, hr, hlk, hA, hG⟩ := id X
  obtain ⟨H, hH⟩ : ∃ z, z = s.heap := ⟨_, rfl⟩
  obtain ⟨locs, hlo⟩ : ∃ z : List Loc, z = [] := ⟨_, rfl⟩
  have hS : St D cy ad ns A M s.heap H locs := by rw [hH, hlo]; exact hS
  have hgoal : W p l e rm_X10_stitches s m args below meth c H locs 0 0 (MQ below (QC D cy ad ns A M (some (.int r))) args s 0 0 A) (F0 m 0 ls []) := by
    unfold f_X10_stitches at hX
    refine lv_iconst (v := nI 0) hx hb dX10_stitches_0 (by decide) ?_
    refine lv_istore_n (lv' := [(2, .int (nI 0)), (0, .ref (ad 100 0)), (1, .int a1)]) hx hb dX10_stitches_1 rfl hl (by decide) rfl (fun ls hl => ?_)
    refine lv_iconst (v := nI 0) hx hb dX10_stitches_2 (by decide) ?_
    refine lv_istore_n (lv' := [(3, .int (nI 0)), (2, .int (nI 0)), (0, .ref (ad 100 0)), (1, .int a1)]) hx hb dX10_stitches_3 rfl hl (by decide) rfl (fun ls hl => ?_)
    exact n_X10_stitches_4 X hN _ _ _ _ hX _ _ _ (lv_sub hl [2, 3, 1, 0] rfl) hS
  rw [hH, hlo] at hgoal
  exact hgoal
theorem mv_X10_stitches : Mv yX10_stitches RX10 cX10_stitches 4 ((some .int)) 1 := ⟨t7_114, t7_113, ts_57, t1_11, ⟨by decide, by decide⟩, by decide +kernel⟩
/-! SewnYearModel.growthBehind(I)I -/
def rm_X10_growthBehind : Room := { frames := 1, cells := 0, slots := 0, locals := 21 }
def b_X10_growthBehind_6 (M : Mem) (a1 : Int32) (rc : Int32 → Int32 → Option (Int32)) (v_2 : Int32) (v_3 : Int32) : Option (Int32) :=
  if (nI 99) < v_3 then (some v_2) else (bn (f_X10_of M ((nI 38) + v_3)) fun r3 => nm (v_2 + r3) fun v4 => nm (v_3 + nI 1) fun v5 => rc v4 v5)
def f_X10_growthBehind_6 (M : Mem) (a1 : Int32) : Nat → (Int32 × Int32) → Option (Int32) := lp (fun rc q => b_X10_growthBehind_6 M a1 (fun x0 x1 => rc (x0, x1)) q.1 q.2)
def f_X10_growthBehind (M : Mem) (a1 : Int32) : Option (Int32) :=
  nm (a1 + (nI 1)) fun v6 => f_X10_growthBehind_6 M a1 FU ((nI 0), v6)
set_option maxRecDepth 100000 in
set_option maxHeartbeats 4000000 in
theorem n_X10_growthBehind_6 {a1 : Int32} (X : Cx p s m args meth c D cy ad A RX10 cX10_growthBehind 4 ((some .int))) (hN : Ob ns 10 100) {M : Mem} : ∀ (n : Nat) (v_2 : Int32) (v_3 : Int32) (r : Int32), f_X10_growthBehind_6 M a1 n (v_2, v_3) = some r → ∀ (ls : Array Slot) (H : Heap) (locs : List Loc), lv_has ls 4 [(0, .ref (ad 100 0)), (2, .int v_2), (3, .int v_3)] → St D cy ad ns A M s.heap H locs → W p l e rm_X10_growthBehind s m args below meth c H locs 0 0 (MQ below (QC D cy ad ns A M (some (.int r))) args s 0 0 A) (F0 m 6 ls []) := by
  obtain ⟨hx, hb, hml, hown, hts, hK, hr, hlk, hA, hG⟩ := id X
  intro n
  induction n with
  | zero => intro v_2 v_3 r hX; cases (show (none : Option (Int32)) = some r from hX)
  | succ n ih =>
    intro v_2 v_3 r hX ls H locs hl hS
    have hX : b_X10_growthBehind_6 M a1 (fun x0 x1 => f_X10_growthBehind_6 M a1 n (x0, x1)) v_2 v_3 = some r := hX
    unfold b_X10_growthBehind_6 at hX
    refine lv_iload_n hx hb dX10_growthBehind_6 rfl (lv_at hl 2 rfl) ?_
    refine lv_bipush (v := nI 99) hx hb dX10_growthBehind_7 (by decide) ?_
    refine lv_icmp_gt (tgt := 29) hx hb dX10_growthBehind_9 (by decide) (fun c1 => ?_) (fun c1 => ?_)
    · have hX := if_t c1 hX
      refine lv_iload_n hx hb dX10_growthBehind_29 rfl (lv_at hl 1 rfl) ?_
      obtain rfl := some_of hX
      exact x_I (v := v_2) X hS dX10_growthBehind_30
    · have hX := if_f c1 hX
      refine lv_iload_n hx hb dX10_growthBehind_12 rfl (lv_at hl 1 rfl) ?_
      refine lv_aload_n hx hb dX10_growthBehind_13 rfl (lv_at hl 0 rfl) ?_
      refine lv_bipush (v := nI 38) hx hb dX10_growthBehind_14 (by decide) ?_
      refine lv_iload_n hx hb dX10_growthBehind_16 rfl (lv_at hl 2 rfl) ?_
      refine lv_iadd hx hb dX10_growthBehind_17 ?_
      obtain ⟨r3, h2, hX⟩ := bn_of hX
      refine r_callV1 (v := .int r3) (As := [.int ((nI 38) + v_3)]) (rest := [.int v_2]) X hS (m_X10_of hN h2) mv_X10_of rfl (hN) t6_220 ⟨rfl, rfl, Nat.le_of_ble_eq_true rfl, Nat.le_of_ble_eq_true rfl⟩ rfl hl.1 rfl (Nat.le_of_ble_eq_true rfl) ⟨Nat.zero_le _, Nat.zero_le _⟩ dX10_growthBehind_18 (fun H locs hS => ?_)
      refine lv_iadd hx hb dX10_growthBehind_21 ?_
      refine lv_topi (fun v4 ev4 => ?_)
      have hX := nm_of ev4 hX
      refine lv_istore_n (lv' := [(2, .int v4), (0, .ref (ad 100 0)), (3, .int v_3)]) hx hb dX10_growthBehind_22 rfl hl (by decide) rfl (fun ls hl => ?_)
      obtain ⟨v5, ev5⟩ : ∃ y : Int32, y = (v_3 + nI 1) := ⟨_, rfl⟩
      have hX := nm_of ev5 hX
      refine lv_iinc (v := v5) (lv' := [(3, .int v5), (2, .int v4), (0, .ref (ad 100 0))]) hx hb dX10_growthBehind_23 hl (k := 2) rfl (by rw [ev5]; rfl) (by decide) rfl (fun ls hl => ?_)
      refine lv_goto (tgt := 6) hx hb dX10_growthBehind_26 (by decide) ?_
      exact ih _ _ _ hX _ _ _ (lv_sub hl [2, 1, 0] rfl) hS
set_option maxRecDepth 100000 in
set_option maxHeartbeats 4000000 in
theorem m_X10_growthBehind {l : Launch} {D : va_G} {cy : Nat → ClassId} {ad : Nat → Nat → Nat} {ns : List (Nat × Nat)} {A : Nat → Prop} {M : Mem} (hN : Ob ns 10 100) {a1 : Int32} {r : Int32} (hX : f_X10_growthBehind M a1 = some r) : Ct l yX10_growthBehind cX10_growthBehind 4 ((some .int)) rm_X10_growthBehind D cy ad ns A [.ref (ad 100 0), .int a1] M M (some (.int r)) := by
  refine ct_of (lv := [(0, .ref (ad 100 0)), (1, .int a1)]) (by decide) (Nat.le_of_ble_eq_true rfl) rfl ?_
  intro p e s m args below meth c ls X hl hS
  obtain ⟨hx, hb, hml, hown, hts, hK, hr, hlk, hA, hG⟩ := id X
  obtain ⟨H, hH⟩ : ∃ z, z = s.heap := ⟨_, rfl⟩
  obtain ⟨locs, hlo⟩ : ∃ z : List Loc, z = [] := ⟨_, rfl⟩
  have hS : St D cy ad ns A M s.heap H locs := by rw [hH, hlo]; exact hS
  have hgoal : W p l e rm_X10_growthBehind s m args below meth c H locs 0 0 (MQ below (QC D cy ad ns A M (some (.int r))) args s 0 0 A) (F0 m 0 ls []) := by
    unfold f_X10_growthBehind at hX
    refine lv_iconst (v := nI 0) hx hb dX10_growthBehind_0 (by decide) ?_
    refine lv_istore_n (lv' := [(2, .int (nI 0)), (0, .ref (ad 100 0)), (1, .int a1)]) hx hb dX10_growthBehind_1 rfl hl (by decide) rfl (fun ls hl => ?_)
    refine lv_iload_n hx hb dX10_growthBehind_2 rfl (lv_at hl 2 rfl) ?_
    refine lv_iconst (v := nI 1) hx hb dX10_growthBehind_3 (by decide) ?_
    refine lv_iadd hx hb dX10_growthBehind_4 ?_
    refine lv_topi (fun v6 ev6 => ?_)
    have hX := nm_of ev6 hX
    refine lv_istore_n (lv' := [(3, .int v6), (2, .int (nI 0)), (0, .ref (ad 100 0)), (1, .int a1)]) hx hb dX10_growthBehind_5 rfl hl (by decide) rfl (fun ls hl => ?_)
    exact n_X10_growthBehind_6 X hN _ _ _ _ hX _ _ _ (lv_sub hl [2, 1, 0] rfl) hS
  rw [hH, hlo] at hgoal
  exact hgoal
theorem mv_X10_growthBehind : Mv yX10_growthBehind RX10 cX10_growthBehind 4 ((some .int)) 1 := ⟨t7_118, t7_117, ts_58, t1_11, ⟨by decide, by decide⟩, by decide +kernel⟩
/-! SewnYearModel.wouldBurst(II)I -/
def rm_X10_wouldBurst : Room := { frames := 2, cells := 0, slots := 0, locals := 44 }
def f_X10_wouldBurst (M : Mem) (a1 : Int32) (a2 : Int32) : Option (Int32) :=
  bn (f_X10_stitches M a1) fun r2 => gnz (gI M 100 25) <| bn (f_X10_growthBehind M ((r2 - (nI 1)) / (gI M 100 25))) fun r5 => bn (f_X10_of M ((nI 20) + a2)) fun r7 => if r5 ≤ r7 then (some (nI 0)) else (some (nI 1))
set_option maxRecDepth 100000 in
set_option maxHeartbeats 4000000 in
theorem m_X10_wouldBurst {l : Launch} {D : va_G} {cy : Nat → ClassId} {ad : Nat → Nat → Nat} {ns : List (Nat × Nat)} {A : Nat → Prop} {M : Mem} (hN : Ob ns 10 100) {a1 : Int32} {a2 : Int32} {r : Int32} (hX : f_X10_wouldBurst M a1 a2 = some r) : Ct l yX10_wouldBurst cX10_wouldBurst 3 ((some .int)) rm_X10_wouldBurst D cy ad ns A [.ref (ad 100 0), .int a1, .int a2] M M (some (.int r)) := by
  refine ct_of (lv := [(0, .ref (ad 100 0)), (1, .int a1), (2, .int a2)]) (by decide) (Nat.le_of_ble_eq_true rfl) rfl ?_
  intro p e s m args below meth c ls X hl hS
  obtain ⟨hx, hb, hml, hown, hts, hK, hr, hlk, hA, hG⟩ := id X
  obtain ⟨H, hH⟩ : ∃ z, z = s.heap := ⟨_, rfl⟩
  obtain ⟨locs, hlo⟩ : ∃ z : List Loc, z = [] := ⟨_, rfl⟩
  have hS : St D cy ad ns A M s.heap H locs := by rw [hH, hlo]; exact hS
  have hgoal : W p l e rm_X10_wouldBurst s m args below meth c H locs 0 0 (MQ below (QC D cy ad ns A M (some (.int r))) args s 0 0 A) (F0 m 0 ls []) := by
    unfold f_X10_wouldBurst at hX
    refine lv_aload_n hx hb dX10_wouldBurst_0 rfl (lv_at hl 0 rfl) ?_
    refine lv_aload_n hx hb dX10_wouldBurst_1 rfl (lv_at hl 0 rfl) ?_
    refine lv_iload_n hx hb dX10_wouldBurst_2 rfl (lv_at hl 1 rfl) ?_
    obtain ⟨r2, h1, hX⟩ := bn_of hX
    refine r_callV1 (v := .int r2) (As := [.int a1]) (rest := [.ref (ad 100 0)]) X hS (m_X10_stitches hN h1) mv_X10_stitches rfl (hN) t7_111 ⟨rfl, rfl, Nat.le_of_ble_eq_true rfl, Nat.le_of_ble_eq_true rfl⟩ rfl hl.1 rfl (Nat.le_of_ble_eq_true rfl) ⟨Nat.zero_le _, Nat.zero_le _⟩ dX10_wouldBurst_3 (fun H locs hS => ?_)
    refine lv_iconst (v := nI 1) hx hb dX10_wouldBurst_6 (by decide) ?_
    refine lv_isub hx hb dX10_wouldBurst_7 ?_
    refine lv_aload_n hx hb dX10_wouldBurst_8 rfl (lv_at hl 0 rfl) ?_
    refine fg_X10_284 X hS (hN) dX10_wouldBurst_9 ?_
    obtain ⟨g3, hX⟩ := gnz_of hX
    refine lv_idiv hx hb dX10_wouldBurst_12 g3 ?_
    obtain ⟨r5, h4, hX⟩ := bn_of hX
    refine r_callV1 (v := .int r5) (As := [.int ((r2 - (nI 1)) / (gI M 100 25))]) (rest := []) X hS (m_X10_growthBehind hN h4) mv_X10_growthBehind rfl (hN) t7_115 ⟨rfl, rfl, Nat.le_of_ble_eq_true rfl, Nat.le_of_ble_eq_true rfl⟩ rfl hl.1 rfl (Nat.le_of_ble_eq_true rfl) ⟨Nat.zero_le _, Nat.zero_le _⟩ dX10_wouldBurst_13 (fun H locs hS => ?_)
    refine lv_aload_n hx hb dX10_wouldBurst_16 rfl (lv_at hl 0 rfl) ?_
    refine lv_bipush (v := nI 20) hx hb dX10_wouldBurst_17 (by decide) ?_
    refine lv_iload_n hx hb dX10_wouldBurst_19 rfl (lv_at hl 2 rfl) ?_
    refine lv_iadd hx hb dX10_wouldBurst_20 ?_
    obtain ⟨r7, h6, hX⟩ := bn_of hX
    refine r_callV1 (v := .int r7) (As := [.int ((nI 20) + a2)]) (rest := [.int r5]) X hS (m_X10_of hN h6) mv_X10_of rfl (hN) t6_220 ⟨rfl, rfl, Nat.le_of_ble_eq_true rfl, Nat.le_of_ble_eq_true rfl⟩ rfl hl.1 rfl (Nat.le_of_ble_eq_true rfl) ⟨Nat.zero_le _, Nat.zero_le _⟩ dX10_wouldBurst_21 (fun H locs hS => ?_)
    refine lv_icmp_le (tgt := 31) hx hb dX10_wouldBurst_24 (by decide) (fun c8 => ?_) (fun c8 => ?_)
    · have hX := if_t c8 hX
      refine lv_iconst (v := nI 0) hx hb dX10_wouldBurst_31 (by decide) ?_
      obtain rfl := some_of hX
      exact x_I (v := (nI 0)) X hS dX10_wouldBurst_32
    · have hX := if_f c8 hX
      refine lv_iconst (v := nI 1) hx hb dX10_wouldBurst_27 (by decide) ?_
      refine lv_goto (tgt := 32) hx hb dX10_wouldBurst_28 (by decide) ?_
      obtain rfl := some_of hX
      exact x_I (v := (nI 1)) X hS dX10_wouldBurst_32
  rw [hH, hlo] at hgoal
  exact hgoal
theorem mv_X10_wouldBurst : Mv yX10_wouldBurst RX10 cX10_wouldBurst 3 ((some .int)) 2 := ⟨t7_110, t7_109, ts_56, t1_11, ⟨by decide, by decide⟩, by decide +kernel⟩
/-! SewnYearModel.findLeast()V -/
def rm_X10_findLeast : Room := { frames := 3, cells := 0, slots := 0, locals := 66 }
def f_X10_findLeast_91 (v_1 : Int32) (k_32 : Int32 → Mem → Option (Mem)) (v_2 : Int32) (s_1 : Int32) (s_2 : Int32) (M : Mem) : Option (Mem) :=
  gin s_1 512 <| nm (sA M 100 36 (ix s_1) s_2) fun M2 => nm (v_2 + nI 1) fun v3 => k_32 v3 M2
def b_X10_findLeast_32 (k_5 : Int32 → Mem → Option (Mem)) (v_1 : Int32) (rc : Int32 → Mem → Option (Mem)) (v_2 : Int32) (M : Mem) : Option (Mem) :=
  if (gI M 100 24) ≤ v_2 then (nm (v_1 + (-1)) fun v5 => k_5 v5 M) else (nm (v_1 ||| ((nI 1) <<< (v_2 &&& 31))) fun v6 => bn (f_X10_mayNext M v_1 v_2) fun r8 => if r8 = true then (gin v_1 512 <| gin v6 512 <| bn (f_X10_wouldBurst M v6 v_2) fun r14 => bn (f_X10_lesser (gA M 100 36 (ix v_1)) ((gA M 100 36 (ix v6)) + r14)) fun r16 => f_X10_findLeast_91 v_1 rc v_2 v_1 r16 M) else (gin v_1 512 <| f_X10_findLeast_91 v_1 rc v_2 v_1 (gA M 100 36 (ix v_1)) M))
def f_X10_findLeast_32 (k_5 : Int32 → Mem → Option (Mem)) (v_1 : Int32) : Nat → (Int32 × Mem) → Option (Mem) := lp (fun rc q => b_X10_findLeast_32 k_5 v_1 (fun x0 x1 => rc (x0, x1)) q.1 q.2)
def f_X10_findLeast_29 (k_5 : Int32 → Mem → Option (Mem)) (v_1 : Int32) (s_1 : Int32) (s_2 : Int32) (M : Mem) : Option (Mem) :=
  gin s_1 512 <| nm (sA M 100 36 (ix s_1) s_2) fun M18 => f_X10_findLeast_32 k_5 v_1 FU ((nI 0), M18)
def b_X10_findLeast_5 (rc : Int32 → Mem → Option (Mem)) (v_1 : Int32) (M : Mem) : Option (Mem) :=
  if v_1 < (nI 0) then (some M) else (if v_1 = (gI M 100 35) then (f_X10_findLeast_29 rc v_1 v_1 (nI 0) M) else (f_X10_findLeast_29 rc v_1 v_1 (nI 1000000) M))
def f_X10_findLeast_5 : Nat → (Int32 × Mem) → Option (Mem) := lp (fun rc q => b_X10_findLeast_5 (fun x0 x1 => rc (x0, x1)) q.1 q.2)
def f_X10_findLeast (M : Mem) : Option (Mem) :=
  nm (gI M 100 35) fun v21 => f_X10_findLeast_5 FU (v21, M)
set_option maxRecDepth 100000 in
set_option maxHeartbeats 4000000 in
theorem n_X10_findLeast_91 {v_1 : Int32} (X : Cx p s m args meth c D cy ad A RX10 cX10_findLeast 4 ((none : Option Jvm.ClassFile.FieldType))) (hN : Ob ns 10 100) {k_32 : Int32 → Mem → Option (Mem)} {v_2 : Int32} {s_1 : Int32} {s_2 : Int32} {M : Mem} {r : Mem} (hX : f_X10_findLeast_91 v_1 k_32 v_2 s_1 s_2 M = some r) : (∀ (v_2 : Int32) (M : Mem) (r : Mem), k_32 v_2 M = some r → ∀ (ls : Array Slot) (H : Heap) (locs : List Loc), lv_has ls 4 [(0, .ref (ad 100 0)), (1, .int v_1), (2, .int v_2)] → St D cy ad ns A M s.heap H locs → W p l e rm_X10_findLeast s m args below meth c H locs 0 0 (MQ below (QC D cy ad ns A r none) args s 0 0 A) (F0 m 32 ls [])) → ∀ (ls : Array Slot) (H : Heap) (locs : List Loc), lv_has ls 4 [(0, .ref (ad 100 0)), (1, .int v_1), (2, .int v_2)] → St D cy ad ns A M s.heap H locs → W p l e rm_X10_findLeast s m args below meth c H locs 0 0 (MQ below (QC D cy ad ns A r none) args s 0 0 A) (F0 m 91 ls [.int s_2, .int s_1, .ref (ad 100 (36 + 1))]) := by
  obtain ⟨hx, hb, hml, hown, hts, hK, hr, hlk, hA, hG⟩ := id X
  intro hk_32 ls H locs hl hS
  unfold f_X10_findLeast_91 at hX
  obtain ⟨g1, hX⟩ := gin_of hX
  refine r_iast (ci := 10) (o := 100) (k := 36) (n := 512) X hS (hN) rfl rfl g1 dX10_findLeast_91 (fun H locs hS => ?_)
  obtain ⟨M2, eM2, hS, hX⟩ := nm_mem hS hX
  obtain ⟨v3, ev3⟩ : ∃ y : Int32, y = (v_2 + nI 1) := ⟨_, rfl⟩
  have hX := nm_of ev3 hX
  refine lv_iinc (v := v3) (lv' := [(2, .int v3), (0, .ref (ad 100 0)), (1, .int v_1)]) hx hb dX10_findLeast_92 hl (k := 2) rfl (by rw [ev3]; rfl) (by decide) rfl (fun ls hl => ?_)
  refine lv_goto (tgt := 32) hx hb dX10_findLeast_95 (by decide) ?_
  exact hk_32 _ _ _ hX _ _ _ (lv_sub hl [1, 2, 0] rfl) hS
set_option maxRecDepth 100000 in
set_option maxHeartbeats 4000000 in
theorem n_X10_findLeast_32 (X : Cx p s m args meth c D cy ad A RX10 cX10_findLeast 4 ((none : Option Jvm.ClassFile.FieldType))) (hN : Ob ns 10 100) {k_5 : Int32 → Mem → Option (Mem)} {v_1 : Int32} : ∀ (n : Nat) (v_2 : Int32) (M : Mem) (r : Mem), f_X10_findLeast_32 k_5 v_1 n (v_2, M) = some r → (∀ (v_1 : Int32) (M : Mem) (r : Mem), k_5 v_1 M = some r → ∀ (ls : Array Slot) (H : Heap) (locs : List Loc), lv_has ls 4 [(0, .ref (ad 100 0)), (1, .int v_1)] → St D cy ad ns A M s.heap H locs → W p l e rm_X10_findLeast s m args below meth c H locs 0 0 (MQ below (QC D cy ad ns A r none) args s 0 0 A) (F0 m 5 ls [])) → ∀ (ls : Array Slot) (H : Heap) (locs : List Loc), lv_has ls 4 [(0, .ref (ad 100 0)), (1, .int v_1), (2, .int v_2)] → St D cy ad ns A M s.heap H locs → W p l e rm_X10_findLeast s m args below meth c H locs 0 0 (MQ below (QC D cy ad ns A r none) args s 0 0 A) (F0 m 32 ls []) := by
  obtain ⟨hx, hb, hml, hown, hts, hK, hr, hlk, hA, hG⟩ := id X
  intro n
  induction n with
  | zero => intro v_2 M r hX; cases (show (none : Option (Mem)) = some r from hX)
  | succ n ih =>
    intro v_2 M r hX hk_5 ls H locs hl hS
    have hX : b_X10_findLeast_32 k_5 v_1 (fun x0 x1 => f_X10_findLeast_32 k_5 v_1 n (x0, x1)) v_2 M = some r := hX
    unfold b_X10_findLeast_32 at hX
    refine lv_iload_n hx hb dX10_findLeast_32 rfl (lv_at hl 2 rfl) ?_
    refine lv_aload_n hx hb dX10_findLeast_33 rfl (lv_at hl 0 rfl) ?_
    refine fg_X10_281 X hS (hN) dX10_findLeast_34 ?_
    refine lv_icmp_ge (tgt := 98) hx hb dX10_findLeast_37 (by decide) (fun c4 => ?_) (fun c4 => ?_)
    · have hX := if_t c4 hX
      obtain ⟨v5, ev5⟩ : ∃ y : Int32, y = (v_1 + (-1)) := ⟨_, rfl⟩
      have hX := nm_of ev5 hX
      refine lv_iinc (v := v5) (lv' := [(1, .int v5), (0, .ref (ad 100 0)), (2, .int v_2)]) hx hb dX10_findLeast_98 hl (k := 1) rfl (by rw [ev5]; rfl) (by decide) rfl (fun ls hl => ?_)
      refine lv_goto (tgt := 5) hx hb dX10_findLeast_101 (by decide) ?_
      exact hk_5 _ _ _ hX _ _ _ (lv_sub hl [1, 0] rfl) hS
    · have hX := if_f c4 hX
      refine lv_iload_n hx hb dX10_findLeast_40 rfl (lv_at hl 1 rfl) ?_
      refine lv_iconst (v := nI 1) hx hb dX10_findLeast_41 (by decide) ?_
      refine lv_iload_n hx hb dX10_findLeast_42 rfl (lv_at hl 2 rfl) ?_
      refine lv_ishl hx hb dX10_findLeast_43 ?_
      refine lv_ior hx hb dX10_findLeast_44 ?_
      refine lv_topi (fun v6 ev6 => ?_)
      have hX := nm_of ev6 hX
      refine lv_istore_n (lv' := [(3, .int v6), (0, .ref (ad 100 0)), (1, .int v_1), (2, .int v_2)]) hx hb dX10_findLeast_45 rfl hl (by decide) rfl (fun ls hl => ?_)
      refine lv_aload_n hx hb dX10_findLeast_46 rfl (lv_at hl 1 rfl) ?_
      refine fg_X10_54 X hS (hN) dX10_findLeast_47 ?_
      refine lv_iload_n hx hb dX10_findLeast_50 rfl (lv_at hl 2 rfl) ?_
      refine lv_aload_n hx hb dX10_findLeast_51 rfl (lv_at hl 1 rfl) ?_
      refine lv_iload_n hx hb dX10_findLeast_52 rfl (lv_at hl 2 rfl) ?_
      refine lv_iload_n hx hb dX10_findLeast_53 rfl (lv_at hl 3 rfl) ?_
      obtain ⟨r8, h7, hX⟩ := bn_of hX
      refine r_callV1 (v := .int (b2i r8)) (As := [.int v_1, .int v_2]) (rest := [.int v_1, .ref (ad 100 (36 + 1))]) X hS (m_X10_mayNext hN h7) mv_X10_mayNext rfl (hN) t7_79 ⟨rfl, rfl, Nat.le_of_ble_eq_true rfl, Nat.le_of_ble_eq_true rfl⟩ rfl hl.1 rfl (Nat.le_of_ble_eq_true rfl) ⟨Nat.zero_le _, Nat.zero_le _⟩ dX10_findLeast_54 (fun H locs hS => ?_)
      refine lv_if_eq (tgt := 85) hx hb dX10_findLeast_57 (by decide) (fun c9 => ?_) (fun c9 => ?_)
      · have hX := if_bf c9 hX
        refine lv_aload_n hx hb dX10_findLeast_85 rfl (lv_at hl 1 rfl) ?_
        refine fg_X10_54 X hS (hN) dX10_findLeast_86 ?_
        refine lv_iload_n hx hb dX10_findLeast_89 rfl (lv_at hl 2 rfl) ?_
        obtain ⟨g10, hX⟩ := gin_of hX
        refine r_iald (ci := 10) (o := 100) (k := 36) (n := 512) X hS (hN) rfl rfl g10 dX10_findLeast_90 ?_
        exact n_X10_findLeast_91 X hN hX (fun z0 z1 r h ls H locs hl hS => ih z0 z1 r h hk_5 ls H locs hl hS) _ _ _ (lv_sub hl [1, 2, 3] rfl) hS
      · have hX := if_bt c9 hX
        refine lv_aload_n hx hb dX10_findLeast_60 rfl (lv_at hl 1 rfl) ?_
        refine fg_X10_54 X hS (hN) dX10_findLeast_61 ?_
        refine lv_iload_n hx hb dX10_findLeast_64 rfl (lv_at hl 2 rfl) ?_
        obtain ⟨g11, hX⟩ := gin_of hX
        refine r_iald (ci := 10) (o := 100) (k := 36) (n := 512) X hS (hN) rfl rfl g11 dX10_findLeast_65 ?_
        refine lv_aload_n hx hb dX10_findLeast_66 rfl (lv_at hl 1 rfl) ?_
        refine fg_X10_54 X hS (hN) dX10_findLeast_67 ?_
        refine lv_iload_n hx hb dX10_findLeast_70 rfl (lv_at hl 0 rfl) ?_
        obtain ⟨g12, hX⟩ := gin_of hX
        refine r_iald (ci := 10) (o := 100) (k := 36) (n := 512) X hS (hN) rfl rfl g12 dX10_findLeast_71 ?_
        refine lv_aload_n hx hb dX10_findLeast_72 rfl (lv_at hl 1 rfl) ?_
        refine lv_iload_n hx hb dX10_findLeast_73 rfl (lv_at hl 0 rfl) ?_
        refine lv_iload_n hx hb dX10_findLeast_74 rfl (lv_at hl 3 rfl) ?_
        obtain ⟨r14, h13, hX⟩ := bn_of hX
        refine r_callV1 (v := .int r14) (As := [.int v6, .int v_2]) (rest := [.int (gA M 100 36 (ix v6)), .int (gA M 100 36 (ix v_1)), .int v_1, .ref (ad 100 (36 + 1))]) X hS (m_X10_wouldBurst hN h13) mv_X10_wouldBurst rfl (hN) t7_107 ⟨rfl, rfl, Nat.le_of_ble_eq_true rfl, Nat.le_of_ble_eq_true rfl⟩ rfl hl.1 rfl (Nat.le_of_ble_eq_true rfl) ⟨Nat.zero_le _, Nat.zero_le _⟩ dX10_findLeast_75 (fun H locs hS => ?_)
        refine lv_iadd hx hb dX10_findLeast_78 ?_
        obtain ⟨r16, h15, hX⟩ := bn_of hX
        refine r_callS1 (v := .int r16) (As := [.int (gA M 100 36 (ix v_1)), .int ((gA M 100 36 (ix v6)) + r14)]) (rest := [.int v_1, .ref (ad 100 (36 + 1))]) X hS (m_X10_lesser (M := M) hN h15) ms_X10_lesser t7_43 ⟨rfl, rfl, Nat.le_of_ble_eq_true rfl, Nat.le_of_ble_eq_true rfl⟩ rfl hl.1 rfl (Nat.le_of_ble_eq_true rfl) ⟨Nat.zero_le _, Nat.zero_le _⟩ dX10_findLeast_79 (fun H locs hS => ?_)
        refine lv_goto (tgt := 91) hx hb dX10_findLeast_82 (by decide) ?_
        exact n_X10_findLeast_91 X hN hX (fun z0 z1 r h ls H locs hl hS => ih z0 z1 r h hk_5 ls H locs hl hS) _ _ _ (lv_sub hl [1, 2, 3] rfl) hS
set_option maxRecDepth 100000 in
set_option maxHeartbeats 4000000 in
theorem n_X10_findLeast_29 (X : Cx p s m args meth c D cy ad A RX10 cX10_findLeast 4 ((none : Option Jvm.ClassFile.FieldType))) (hN : Ob ns 10 100) {k_5 : Int32 → Mem → Option (Mem)} {v_1 : Int32} {s_1 : Int32} {s_2 : Int32} {M : Mem} {r : Mem} (hX : f_X10_findLeast_29 k_5 v_1 s_1 s_2 M = some r) : (∀ (v_1 : Int32) (M : Mem) (r : Mem), k_5 v_1 M = some r → ∀ (ls : Array Slot) (H : Heap) (locs : List Loc), lv_has ls 4 [(0, .ref (ad 100 0)), (1, .int v_1)] → St D cy ad ns A M s.heap H locs → W p l e rm_X10_findLeast s m args below meth c H locs 0 0 (MQ below (QC D cy ad ns A r none) args s 0 0 A) (F0 m 5 ls [])) → ∀ (ls : Array Slot) (H : Heap) (locs : List Loc), lv_has ls 4 [(0, .ref (ad 100 0)), (1, .int v_1)] → St D cy ad ns A M s.heap H locs → W p l e rm_X10_findLeast s m args below meth c H locs 0 0 (MQ below (QC D cy ad ns A r none) args s 0 0 A) (F0 m 29 ls [.int s_2, .int s_1, .ref (ad 100 (36 + 1))]) := by
  obtain ⟨hx, hb, hml, hown, hts, hK, hr, hlk, hA, hG⟩ := id X
  intro hk_5 ls H locs hl hS
  unfold f_X10_findLeast_29 at hX
  obtain ⟨g17, hX⟩ := gin_of hX
  refine r_iast (ci := 10) (o := 100) (k := 36) (n := 512) X hS (hN) rfl rfl g17 dX10_findLeast_29 (fun H locs hS => ?_)
  obtain ⟨M18, eM18, hS, hX⟩ := nm_mem hS hX
  refine lv_iconst (v := nI 0) hx hb dX10_findLeast_30 (by decide) ?_
  refine lv_istore_n (lv' := [(2, .int (nI 0)), (0, .ref (ad 100 0)), (1, .int v_1)]) hx hb dX10_findLeast_31 rfl hl (by decide) rfl (fun ls hl => ?_)
  exact n_X10_findLeast_32 X hN _ _ _ _ hX hk_5 _ _ _ (lv_sub hl [1, 2, 0] rfl) hS
set_option maxRecDepth 100000 in
set_option maxHeartbeats 4000000 in
theorem n_X10_findLeast_5 (X : Cx p s m args meth c D cy ad A RX10 cX10_findLeast 4 ((none : Option Jvm.ClassFile.FieldType))) (hN : Ob ns 10 100) : ∀ (n : Nat) (v_1 : Int32) (M : Mem) (r : Mem), f_X10_findLeast_5 n (v_1, M) = some r → ∀ (ls : Array Slot) (H : Heap) (locs : List Loc), lv_has ls 4 [(0, .ref (ad 100 0)), (1, .int v_1)] → St D cy ad ns A M s.heap H locs → W p l e rm_X10_findLeast s m args below meth c H locs 0 0 (MQ below (QC D cy ad ns A r none) args s 0 0 A) (F0 m 5 ls []) := by
  obtain ⟨hx, hb, hml, hown, hts, hK, hr, hlk, hA, hG⟩ := id X
  intro n
  induction n with
  | zero => intro v_1 M r hX; cases (show (none : Option (Mem)) = some r from hX)
  | succ n ih =>
    intro v_1 M r hX ls H locs hl hS
    have hX : b_X10_findLeast_5 (fun x0 x1 => f_X10_findLeast_5 n (x0, x1)) v_1 M = some r := hX
    unfold b_X10_findLeast_5 at hX
    refine lv_iload_n hx hb dX10_findLeast_5 rfl (lv_at hl 1 rfl) ?_
    refine lv_if_lt (tgt := 104) hx hb dX10_findLeast_6 (by decide) (fun c19 => ?_) (fun c19 => ?_)
    · have hX := if_t c19 hX
      obtain rfl := some_of hX
      exact x_V X hS dX10_findLeast_104
    · have hX := if_f c19 hX
      refine lv_aload_n hx hb dX10_findLeast_9 rfl (lv_at hl 0 rfl) ?_
      refine fg_X10_54 X hS (hN) dX10_findLeast_10 ?_
      refine lv_iload_n hx hb dX10_findLeast_13 rfl (lv_at hl 1 rfl) ?_
      refine lv_iload_n hx hb dX10_findLeast_14 rfl (lv_at hl 1 rfl) ?_
      refine lv_aload_n hx hb dX10_findLeast_15 rfl (lv_at hl 0 rfl) ?_
      refine fg_X10_362 X hS (hN) dX10_findLeast_16 ?_
      refine lv_icmp_ne (tgt := 26) hx hb dX10_findLeast_19 (by decide) (fun c20 => ?_) (fun c20 => ?_)
      · have hX := if_f c20 hX
        refine lv_ldcw hx hb (own := RX10) hown (hts _ t7_106) dX10_findLeast_26 ?_
        exact n_X10_findLeast_29 X hN hX (fun z0 z1 r h ls H locs hl hS => ih z0 z1 r h ls H locs hl hS) _ _ _ (lv_sub hl [0, 1] rfl) hS
      · have hX := if_t c20 hX
        refine lv_iconst (v := nI 0) hx hb dX10_findLeast_22 (by decide) ?_
        refine lv_goto (tgt := 29) hx hb dX10_findLeast_23 (by decide) ?_
        exact n_X10_findLeast_29 X hN hX (fun z0 z1 r h ls H locs hl hS => ih z0 z1 r h ls H locs hl hS) _ _ _ (lv_sub hl [0, 1] rfl) hS
set_option maxRecDepth 100000 in
set_option maxHeartbeats 4000000 in
theorem m_X10_findLeast {l : Launch} {D : va_G} {cy : Nat → ClassId} {ad : Nat → Nat → Nat} {ns : List (Nat × Nat)} {A : Nat → Prop} {M : Mem} (hN : Ob ns 10 100) {r : Mem} (hX : f_X10_findLeast M = some r) : Ct l yX10_findLeast cX10_findLeast 4 ((none : Option Jvm.ClassFile.FieldType)) rm_X10_findLeast D cy ad ns A [.ref (ad 100 0)] M r none := by
  refine ct_of (lv := [(0, .ref (ad 100 0))]) (by decide) (Nat.le_of_ble_eq_true rfl) rfl ?_
  intro p e s m args below meth c ls X hl hS
  obtain ⟨hx, hb, hml, hown, hts, hK, hr, hlk, hA, hG⟩ := id X
  obtain ⟨H, hH⟩ : ∃ z, z = s.heap := ⟨_, rfl⟩
  obtain ⟨locs, hlo⟩ : ∃ z : List Loc, z = [] := ⟨_, rfl⟩
  have hS : St D cy ad ns A M s.heap H locs := by rw [hH, hlo]; exact hS
  have hgoal : W p l e rm_X10_findLeast s m args below meth c H locs 0 0 (MQ below (QC D cy ad ns A r none) args s 0 0 A) (F0 m 0 ls []) := by
    unfold f_X10_findLeast at hX
    refine lv_aload_n hx hb dX10_findLeast_0 rfl (lv_at hl 0 rfl) ?_
    refine fg_X10_362 X hS (hN) dX10_findLeast_1 ?_
    refine lv_topi (fun v21 ev21 => ?_)
    have hX := nm_of ev21 hX
    refine lv_istore_n (lv' := [(1, .int v21), (0, .ref (ad 100 0))]) hx hb dX10_findLeast_4 rfl hl (by decide) rfl (fun ls hl => ?_)
    exact n_X10_findLeast_5 X hN _ _ _ _ hX _ _ _ (lv_sub hl [1, 0] rfl) hS
  rw [hH, hlo] at hgoal
  exact hgoal
theorem mv_X10_findLeast : Mv yX10_findLeast RX10 cX10_findLeast 4 ((none : Option Jvm.ClassFile.FieldType)) 0 := ⟨t7_105, t7_104, ts_55, t1_11, ⟨by decide, by decide⟩, by decide +kernel⟩
/-! SewnYearModel.leastAt(I)I -/
def rm_X10_leastAt : Room := { frames := 3, cells := 0, slots := 0, locals := 66 }
def f_X10_leastAt_59 (M : Mem) (a1 : Int32) (v_2 : Int32) (v_4 : Int32) (k_16 : Int32 → Option (Int32)) (v_5 : Int32) : Option (Int32) :=
  nm (v_5 + nI 1) fun v1 => k_16 v1
def b_X10_leastAt_16 (M : Mem) (a1 : Int32) (k_7 : Int32 → Int32 → Int32 → Option (Int32)) (v_2 : Int32) (v_4 : Int32) (rc : Int32 → Option (Int32)) (v_5 : Int32) : Option (Int32) :=
  bn (f_X10_mayNext M v_2 v_5) fun r3 => if r3 = true then (gin (v_2 ||| ((nI 1) <<< (v_5 &&& 31))) 512 <| bn (f_X10_wouldBurst M (v_2 ||| ((nI 1) <<< (v_5 &&& 31))) v_5) fun r7 => gin v_2 512 <| if ((gA M 100 36 (ix (v_2 ||| ((nI 1) <<< (v_5 &&& 31))))) + r7) = (gA M 100 36 (ix v_2)) then (nm (v_2 ||| ((nI 1) <<< (v_5 &&& 31))) fun v10 => nm (v_4 + nI 1) fun v11 => k_7 v10 v_5 v11) else (f_X10_leastAt_59 M a1 v_2 v_4 rc v_5)) else (f_X10_leastAt_59 M a1 v_2 v_4 rc v_5)
def f_X10_leastAt_16 (M : Mem) (a1 : Int32) (k_7 : Int32 → Int32 → Int32 → Option (Int32)) (v_2 : Int32) (v_4 : Int32) : Nat → Int32 → Option (Int32) := lp (fun rc q => b_X10_leastAt_16 M a1 k_7 v_2 v_4 (fun x0 => rc x0) q)
def b_X10_leastAt_7 (M : Mem) (a1 : Int32) (rc : Int32 → Int32 → Int32 → Option (Int32)) (v_2 : Int32) (v_3 : Int32) (v_4 : Int32) : Option (Int32) :=
  if a1 < v_4 then (some v_3) else (f_X10_leastAt_16 M a1 rc v_2 v_4 FU (nI 0))
def f_X10_leastAt_7 (M : Mem) (a1 : Int32) : Nat → (Int32 × Int32 × Int32) → Option (Int32) := lp (fun rc q => b_X10_leastAt_7 M a1 (fun x0 x1 x2 => rc (x0, x1, x2)) q.1 q.2.1 q.2.2)
def f_X10_leastAt (M : Mem) (a1 : Int32) : Option (Int32) :=
  f_X10_leastAt_7 M a1 FU ((nI 0), (-1), (nI 0))
set_option maxRecDepth 100000 in
set_option maxHeartbeats 4000000 in
theorem n_X10_leastAt_59 {a1 : Int32} {v_2 : Int32} {v_4 : Int32} (X : Cx p s m args meth c D cy ad A RX10 cX10_leastAt 6 ((some .int))) (hN : Ob ns 10 100) {M : Mem} {k_16 : Int32 → Option (Int32)} {v_5 : Int32} {r : Int32} (hX : f_X10_leastAt_59 M a1 v_2 v_4 k_16 v_5 = some r) : (∀ (v_5 : Int32) (r : Int32), k_16 v_5 = some r → ∀ (ls : Array Slot) (H : Heap) (locs : List Loc), lv_has ls 6 [(0, .ref (ad 100 0)), (1, .int a1), (2, .int v_2), (4, .int v_4), (5, .int v_5)] → St D cy ad ns A M s.heap H locs → W p l e rm_X10_leastAt s m args below meth c H locs 0 0 (MQ below (QC D cy ad ns A M (some (.int r))) args s 0 0 A) (F0 m 16 ls [])) → ∀ (ls : Array Slot) (H : Heap) (locs : List Loc), lv_has ls 6 [(0, .ref (ad 100 0)), (1, .int a1), (2, .int v_2), (4, .int v_4), (5, .int v_5)] → St D cy ad ns A M s.heap H locs → W p l e rm_X10_leastAt s m args below meth c H locs 0 0 (MQ below (QC D cy ad ns A M (some (.int r))) args s 0 0 A) (F0 m 59 ls []) := by
  obtain ⟨hx, hb, hml, hown, hts, hK, hr, hlk, hA, hG⟩ := id X
  intro hk_16 ls H locs hl hS
  unfold f_X10_leastAt_59 at hX
  obtain ⟨v1, ev1⟩ : ∃ y : Int32, y = (v_5 + nI 1) := ⟨_, rfl⟩
  have hX := nm_of ev1 hX
  refine lv_iinc (v := v1) (lv' := [(5, .int v1), (0, .ref (ad 100 0)), (1, .int a1), (2, .int v_2), (4, .int v_4)]) hx hb dX10_leastAt_59 hl (k := 4) rfl (by rw [ev1]; rfl) (by decide) rfl (fun ls hl => ?_)
  refine lv_goto (tgt := 16) hx hb dX10_leastAt_62 (by decide) ?_
  exact hk_16 _ _ hX _ _ _ (lv_sub hl [1, 2, 3, 4, 0] rfl) hS
set_option maxRecDepth 100000 in
set_option maxHeartbeats 4000000 in
theorem n_X10_leastAt_16 {a1 : Int32} (X : Cx p s m args meth c D cy ad A RX10 cX10_leastAt 6 ((some .int))) (hN : Ob ns 10 100) {M : Mem} {k_7 : Int32 → Int32 → Int32 → Option (Int32)} {v_2 : Int32} {v_4 : Int32} : ∀ (n : Nat) (v_5 : Int32) (r : Int32), f_X10_leastAt_16 M a1 k_7 v_2 v_4 n v_5 = some r → (∀ (v_2 : Int32) (v_3 : Int32) (v_4 : Int32) (r : Int32), k_7 v_2 v_3 v_4 = some r → ∀ (ls : Array Slot) (H : Heap) (locs : List Loc), lv_has ls 6 [(0, .ref (ad 100 0)), (1, .int a1), (2, .int v_2), (3, .int v_3), (4, .int v_4)] → St D cy ad ns A M s.heap H locs → W p l e rm_X10_leastAt s m args below meth c H locs 0 0 (MQ below (QC D cy ad ns A M (some (.int r))) args s 0 0 A) (F0 m 7 ls [])) → ∀ (ls : Array Slot) (H : Heap) (locs : List Loc), lv_has ls 6 [(0, .ref (ad 100 0)), (1, .int a1), (2, .int v_2), (4, .int v_4), (5, .int v_5)] → St D cy ad ns A M s.heap H locs → W p l e rm_X10_leastAt s m args below meth c H locs 0 0 (MQ below (QC D cy ad ns A M (some (.int r))) args s 0 0 A) (F0 m 16 ls []) := by
  obtain ⟨hx, hb, hml, hown, hts, hK, hr, hlk, hA, hG⟩ := id X
  intro n
  induction n with
  | zero => intro v_5 r hX; cases (show (none : Option (Int32)) = some r from hX)
  | succ n ih =>
    intro v_5 r hX hk_7 ls H locs hl hS
    have hX : b_X10_leastAt_16 M a1 k_7 v_2 v_4 (fun x0 => f_X10_leastAt_16 M a1 k_7 v_2 v_4 n x0) v_5 = some r := hX
    unfold b_X10_leastAt_16 at hX
    refine lv_aload_n hx hb dX10_leastAt_16 rfl (lv_at hl 0 rfl) ?_
    refine lv_iload_n hx hb dX10_leastAt_17 rfl (lv_at hl 2 rfl) ?_
    refine lv_iload hx hb dX10_leastAt_18 (lv_at hl 4 rfl) ?_
    obtain ⟨r3, h2, hX⟩ := bn_of hX
    refine r_callV1 (v := .int (b2i r3)) (As := [.int v_2, .int v_5]) (rest := []) X hS (m_X10_mayNext hN h2) mv_X10_mayNext rfl (hN) t7_79 ⟨rfl, rfl, Nat.le_of_ble_eq_true rfl, Nat.le_of_ble_eq_true rfl⟩ rfl hl.1 rfl (Nat.le_of_ble_eq_true rfl) ⟨Nat.zero_le _, Nat.zero_le _⟩ dX10_leastAt_20 (fun H locs hS => ?_)
    refine lv_if_eq (tgt := 59) hx hb dX10_leastAt_23 (by decide) (fun c4 => ?_) (fun c4 => ?_)
    · have hX := if_bf c4 hX
      exact n_X10_leastAt_59 X hN hX (fun z0 r h ls H locs hl hS => ih z0 r h hk_7 ls H locs hl hS) _ _ _ (lv_sub hl [0, 1, 2, 3, 4] rfl) hS
    · have hX := if_bt c4 hX
      refine lv_aload_n hx hb dX10_leastAt_26 rfl (lv_at hl 0 rfl) ?_
      refine fg_X10_54 X hS (hN) dX10_leastAt_27 ?_
      refine lv_iload_n hx hb dX10_leastAt_30 rfl (lv_at hl 2 rfl) ?_
      refine lv_iconst (v := nI 1) hx hb dX10_leastAt_31 (by decide) ?_
      refine lv_iload hx hb dX10_leastAt_32 (lv_at hl 4 rfl) ?_
      refine lv_ishl hx hb dX10_leastAt_34 ?_
      refine lv_ior hx hb dX10_leastAt_35 ?_
      obtain ⟨g5, hX⟩ := gin_of hX
      refine r_iald (ci := 10) (o := 100) (k := 36) (n := 512) X hS (hN) rfl rfl g5 dX10_leastAt_36 ?_
      refine lv_aload_n hx hb dX10_leastAt_37 rfl (lv_at hl 0 rfl) ?_
      refine lv_iload_n hx hb dX10_leastAt_38 rfl (lv_at hl 2 rfl) ?_
      refine lv_iconst (v := nI 1) hx hb dX10_leastAt_39 (by decide) ?_
      refine lv_iload hx hb dX10_leastAt_40 (lv_at hl 4 rfl) ?_
      refine lv_ishl hx hb dX10_leastAt_42 ?_
      refine lv_ior hx hb dX10_leastAt_43 ?_
      refine lv_iload hx hb dX10_leastAt_44 (lv_at hl 4 rfl) ?_
      obtain ⟨r7, h6, hX⟩ := bn_of hX
      refine r_callV1 (v := .int r7) (As := [.int (v_2 ||| ((nI 1) <<< (v_5 &&& 31))), .int v_5]) (rest := [.int (gA M 100 36 (ix (v_2 ||| ((nI 1) <<< (v_5 &&& 31)))))]) X hS (m_X10_wouldBurst hN h6) mv_X10_wouldBurst rfl (hN) t7_107 ⟨rfl, rfl, Nat.le_of_ble_eq_true rfl, Nat.le_of_ble_eq_true rfl⟩ rfl hl.1 rfl (Nat.le_of_ble_eq_true rfl) ⟨Nat.zero_le _, Nat.zero_le _⟩ dX10_leastAt_46 (fun H locs hS => ?_)
      refine lv_iadd hx hb dX10_leastAt_49 ?_
      refine lv_aload_n hx hb dX10_leastAt_50 rfl (lv_at hl 0 rfl) ?_
      refine fg_X10_54 X hS (hN) dX10_leastAt_51 ?_
      refine lv_iload_n hx hb dX10_leastAt_54 rfl (lv_at hl 2 rfl) ?_
      obtain ⟨g8, hX⟩ := gin_of hX
      refine r_iald (ci := 10) (o := 100) (k := 36) (n := 512) X hS (hN) rfl rfl g8 dX10_leastAt_55 ?_
      refine lv_icmp_eq (tgt := 65) hx hb dX10_leastAt_56 (by decide) (fun c9 => ?_) (fun c9 => ?_)
      · have hX := if_t c9 hX
        refine lv_iload hx hb dX10_leastAt_65 (lv_at hl 4 rfl) ?_
        refine lv_istore_n (lv' := [(3, .int v_5), (0, .ref (ad 100 0)), (1, .int a1), (2, .int v_2), (4, .int v_4), (5, .int v_5)]) hx hb dX10_leastAt_67 rfl hl (by decide) rfl (fun ls hl => ?_)
        refine lv_iload_n hx hb dX10_leastAt_68 rfl (lv_at hl 3 rfl) ?_
        refine lv_iconst (v := nI 1) hx hb dX10_leastAt_69 (by decide) ?_
        refine lv_iload hx hb dX10_leastAt_70 (lv_at hl 5 rfl) ?_
        refine lv_ishl hx hb dX10_leastAt_72 ?_
        refine lv_ior hx hb dX10_leastAt_73 ?_
        refine lv_topi (fun v10 ev10 => ?_)
        have hX := nm_of ev10 hX
        refine lv_istore_n (lv' := [(2, .int v10), (3, .int v_5), (0, .ref (ad 100 0)), (1, .int a1), (4, .int v_4), (5, .int v_5)]) hx hb dX10_leastAt_74 rfl hl (by decide) rfl (fun ls hl => ?_)
        obtain ⟨v11, ev11⟩ : ∃ y : Int32, y = (v_4 + nI 1) := ⟨_, rfl⟩
        have hX := nm_of ev11 hX
        refine lv_iinc (v := v11) (lv' := [(4, .int v11), (2, .int v10), (3, .int v_5), (0, .ref (ad 100 0)), (1, .int a1), (5, .int v_5)]) hx hb dX10_leastAt_75 hl (k := 4) rfl (by rw [ev11]; rfl) (by decide) rfl (fun ls hl => ?_)
        refine lv_goto (tgt := 7) hx hb dX10_leastAt_78 (by decide) ?_
        exact hk_7 _ _ _ _ hX _ _ _ (lv_sub hl [3, 4, 1, 2, 0] rfl) hS
      · have hX := if_f c9 hX
        exact n_X10_leastAt_59 X hN hX (fun z0 r h ls H locs hl hS => ih z0 r h hk_7 ls H locs hl hS) _ _ _ (lv_sub hl [0, 1, 2, 3, 4] rfl) hS
set_option maxRecDepth 100000 in
set_option maxHeartbeats 4000000 in
theorem n_X10_leastAt_7 {a1 : Int32} (X : Cx p s m args meth c D cy ad A RX10 cX10_leastAt 6 ((some .int))) (hN : Ob ns 10 100) {M : Mem} : ∀ (n : Nat) (v_2 : Int32) (v_3 : Int32) (v_4 : Int32) (r : Int32), f_X10_leastAt_7 M a1 n (v_2, v_3, v_4) = some r → ∀ (ls : Array Slot) (H : Heap) (locs : List Loc), lv_has ls 6 [(0, .ref (ad 100 0)), (1, .int a1), (2, .int v_2), (3, .int v_3), (4, .int v_4)] → St D cy ad ns A M s.heap H locs → W p l e rm_X10_leastAt s m args below meth c H locs 0 0 (MQ below (QC D cy ad ns A M (some (.int r))) args s 0 0 A) (F0 m 7 ls []) := by
  obtain ⟨hx, hb, hml, hown, hts, hK, hr, hlk, hA, hG⟩ := id X
  intro n
  induction n with
  | zero => intro v_2 v_3 v_4 r hX; cases (show (none : Option (Int32)) = some r from hX)
  | succ n ih =>
    intro v_2 v_3 v_4 r hX ls H locs hl hS
    have hX : b_X10_leastAt_7 M a1 (fun x0 x1 x2 => f_X10_leastAt_7 M a1 n (x0, x1, x2)) v_2 v_3 v_4 = some r := hX
    unfold b_X10_leastAt_7 at hX
    refine lv_iload hx hb dX10_leastAt_7 (lv_at hl 4 rfl) ?_
    refine lv_iload_n hx hb dX10_leastAt_9 rfl (lv_at hl 1 rfl) ?_
    refine lv_icmp_gt (tgt := 81) hx hb dX10_leastAt_10 (by decide) (fun c12 => ?_) (fun c12 => ?_)
    · have hX := if_t c12 hX
      refine lv_iload_n hx hb dX10_leastAt_81 rfl (lv_at hl 3 rfl) ?_
      obtain rfl := some_of hX
      exact x_I (v := v_3) X hS dX10_leastAt_82
    · have hX := if_f c12 hX
      refine lv_iconst (v := nI 0) hx hb dX10_leastAt_13 (by decide) ?_
      refine lv_istore (lv' := [(5, .int (nI 0)), (0, .ref (ad 100 0)), (1, .int a1), (2, .int v_2), (3, .int v_3), (4, .int v_4)]) hx hb dX10_leastAt_14 hl (by decide) rfl (fun ls hl => ?_)
      exact n_X10_leastAt_16 X hN _ _ _ hX (fun z0 z1 z2 r h ls H locs hl hS => ih z0 z1 z2 r h ls H locs hl hS) _ _ _ (lv_sub hl [1, 2, 3, 5, 0] rfl) hS
set_option maxRecDepth 100000 in
set_option maxHeartbeats 4000000 in
theorem m_X10_leastAt {l : Launch} {D : va_G} {cy : Nat → ClassId} {ad : Nat → Nat → Nat} {ns : List (Nat × Nat)} {A : Nat → Prop} {M : Mem} (hN : Ob ns 10 100) {a1 : Int32} {r : Int32} (hX : f_X10_leastAt M a1 = some r) : Ct l yX10_leastAt cX10_leastAt 6 ((some .int)) rm_X10_leastAt D cy ad ns A [.ref (ad 100 0), .int a1] M M (some (.int r)) := by
  refine ct_of (lv := [(0, .ref (ad 100 0)), (1, .int a1)]) (by decide) (Nat.le_of_ble_eq_true rfl) rfl ?_
  intro p e s m args below meth c ls X hl hS
  obtain ⟨hx, hb, hml, hown, hts, hK, hr, hlk, hA, hG⟩ := id X
  obtain ⟨H, hH⟩ : ∃ z, z = s.heap := ⟨_, rfl⟩
  obtain ⟨locs, hlo⟩ : ∃ z : List Loc, z = [] := ⟨_, rfl⟩
  have hS : St D cy ad ns A M s.heap H locs := by rw [hH, hlo]; exact hS
  have hgoal : W p l e rm_X10_leastAt s m args below meth c H locs 0 0 (MQ below (QC D cy ad ns A M (some (.int r))) args s 0 0 A) (F0 m 0 ls []) := by
    unfold f_X10_leastAt at hX
    refine lv_iconst (v := nI 0) hx hb dX10_leastAt_0 (by decide) ?_
    refine lv_istore_n (lv' := [(2, .int (nI 0)), (0, .ref (ad 100 0)), (1, .int a1)]) hx hb dX10_leastAt_1 rfl hl (by decide) rfl (fun ls hl => ?_)
    refine lv_iconst (v := (-1)) hx hb dX10_leastAt_2 (by decide) ?_
    refine lv_istore_n (lv' := [(3, .int (-1)), (2, .int (nI 0)), (0, .ref (ad 100 0)), (1, .int a1)]) hx hb dX10_leastAt_3 rfl hl (by decide) rfl (fun ls hl => ?_)
    refine lv_iconst (v := nI 0) hx hb dX10_leastAt_4 (by decide) ?_
    refine lv_istore (lv' := [(4, .int (nI 0)), (3, .int (-1)), (2, .int (nI 0)), (0, .ref (ad 100 0)), (1, .int a1)]) hx hb dX10_leastAt_5 hl (by decide) rfl (fun ls hl => ?_)
    exact n_X10_leastAt_7 X hN _ _ _ _ _ hX _ _ _ (lv_sub hl [3, 4, 2, 1, 0] rfl) hS
  rw [hH, hlo] at hgoal
  exact hgoal
theorem mv_X10_leastAt : Mv yX10_leastAt RX10 cX10_leastAt 6 ((some .int)) 1 := ⟨t7_122, t7_121, ts_59, t1_11, ⟨by decide, by decide⟩, by decide +kernel⟩
/-! SewnYearModel.change(II)I -/
def rm_X10_change : Room := { frames := 1, cells := 0, slots := 0, locals := 21 }
def f_X10_change (M : Mem) (a1 : Int32) (a2 : Int32) : Option (Int32) :=
  bn (f_X10_of M ((nI 11) + a1)) fun r2 => bn (f_X10_of M ((nI 11) + a2)) fun r4 => if r2 = r4 then (some (nI 0)) else (some (nI 1))
set_option maxRecDepth 100000 in
set_option maxHeartbeats 4000000 in
theorem m_X10_change {l : Launch} {D : va_G} {cy : Nat → ClassId} {ad : Nat → Nat → Nat} {ns : List (Nat × Nat)} {A : Nat → Prop} {M : Mem} (hN : Ob ns 10 100) {a1 : Int32} {a2 : Int32} {r : Int32} (hX : f_X10_change M a1 a2 = some r) : Ct l yX10_change cX10_change 3 ((some .int)) rm_X10_change D cy ad ns A [.ref (ad 100 0), .int a1, .int a2] M M (some (.int r)) := by
  refine ct_of (lv := [(0, .ref (ad 100 0)), (1, .int a1), (2, .int a2)]) (by decide) (Nat.le_of_ble_eq_true rfl) rfl ?_
  intro p e s m args below meth c ls X hl hS
  obtain ⟨hx, hb, hml, hown, hts, hK, hr, hlk, hA, hG⟩ := id X
  obtain ⟨H, hH⟩ : ∃ z, z = s.heap := ⟨_, rfl⟩
  obtain ⟨locs, hlo⟩ : ∃ z : List Loc, z = [] := ⟨_, rfl⟩
  have hS : St D cy ad ns A M s.heap H locs := by rw [hH, hlo]; exact hS
  have hgoal : W p l e rm_X10_change s m args below meth c H locs 0 0 (MQ below (QC D cy ad ns A M (some (.int r))) args s 0 0 A) (F0 m 0 ls []) := by
    unfold f_X10_change at hX
    refine lv_aload_n hx hb dX10_change_0 rfl (lv_at hl 0 rfl) ?_
    refine lv_bipush (v := nI 11) hx hb dX10_change_1 (by decide) ?_
    refine lv_iload_n hx hb dX10_change_3 rfl (lv_at hl 1 rfl) ?_
    refine lv_iadd hx hb dX10_change_4 ?_
    obtain ⟨r2, h1, hX⟩ := bn_of hX
    refine r_callV1 (v := .int r2) (As := [.int ((nI 11) + a1)]) (rest := []) X hS (m_X10_of hN h1) mv_X10_of rfl (hN) t6_220 ⟨rfl, rfl, Nat.le_of_ble_eq_true rfl, Nat.le_of_ble_eq_true rfl⟩ rfl hl.1 rfl (Nat.le_of_ble_eq_true rfl) ⟨Nat.zero_le _, Nat.zero_le _⟩ dX10_change_5 (fun H locs hS => ?_)
    refine lv_aload_n hx hb dX10_change_8 rfl (lv_at hl 0 rfl) ?_
    refine lv_bipush (v := nI 11) hx hb dX10_change_9 (by decide) ?_
    refine lv_iload_n hx hb dX10_change_11 rfl (lv_at hl 2 rfl) ?_
    refine lv_iadd hx hb dX10_change_12 ?_
    obtain ⟨r4, h3, hX⟩ := bn_of hX
    refine r_callV1 (v := .int r4) (As := [.int ((nI 11) + a2)]) (rest := [.int r2]) X hS (m_X10_of hN h3) mv_X10_of rfl (hN) t6_220 ⟨rfl, rfl, Nat.le_of_ble_eq_true rfl, Nat.le_of_ble_eq_true rfl⟩ rfl hl.1 rfl (Nat.le_of_ble_eq_true rfl) ⟨Nat.zero_le _, Nat.zero_le _⟩ dX10_change_13 (fun H locs hS => ?_)
    refine lv_icmp_ne (tgt := 23) hx hb dX10_change_16 (by decide) (fun c5 => ?_) (fun c5 => ?_)
    · have hX := if_f c5 hX
      refine lv_iconst (v := nI 1) hx hb dX10_change_23 (by decide) ?_
      obtain rfl := some_of hX
      exact x_I (v := (nI 1)) X hS dX10_change_24
    · have hX := if_t c5 hX
      refine lv_iconst (v := nI 0) hx hb dX10_change_19 (by decide) ?_
      refine lv_goto (tgt := 24) hx hb dX10_change_20 (by decide) ?_
      obtain rfl := some_of hX
      exact x_I (v := (nI 0)) X hS dX10_change_24
  rw [hH, hlo] at hgoal
  exact hgoal
theorem mv_X10_change : Mv yX10_change RX10 cX10_change 3 ((some .int)) 2 := ⟨t7_130, t7_129, ts_61, t1_11, ⟨by decide, by decide⟩, by decide +kernel⟩
/-! SewnYearModel.findChanges()V -/
def rm_X10_findChanges : Room := { frames := 2, cells := 0, slots := 0, locals := 43 }
def f_X10_findChanges_90 (v_1 : Int32) (v_2 : Int32) (k_38 : Int32 → Int32 → Mem → Option (Mem)) (v_4 : Int32) (s_0 : Int32) (M : Mem) : Option (Mem) :=
  nm (v_4 + nI 1) fun v1 => k_38 s_0 v1 M
def b_X10_findChanges_38 (v_1 : Int32) (k_11 : Int32 → Mem → Option (Mem)) (v_2 : Int32) (rc : Int32 → Int32 → Mem → Option (Mem)) (v_3 : Int32) (v_4 : Int32) (M : Mem) : Option (Mem) :=
  if (gI M 100 24) ≤ v_4 then (gin (((nI 9) * v_1) + v_2) 4608 <| nm (sA M 100 37 (ix (((nI 9) * v_1) + v_2)) v_3) fun M4 => nm (v_2 + nI 1) fun v5 => k_11 v5 M4) else (bn (f_X10_mayNext M v_1 v_4) fun r7 => if r7 = true then (gin (((nI 9) * (v_1 ||| ((nI 1) <<< (v_4 &&& 31)))) + v_4) 4608 <| bn (f_X10_change M v_2 v_4) fun r11 => bn (f_X10_lesser v_3 ((gA M 100 37 (ix (((nI 9) * (v_1 ||| ((nI 1) <<< (v_4 &&& 31)))) + v_4))) + r11)) fun r13 => f_X10_findChanges_90 v_1 v_2 rc v_4 r13 M) else (f_X10_findChanges_90 v_1 v_2 rc v_4 v_3 M))
def f_X10_findChanges_38 (v_1 : Int32) (k_11 : Int32 → Mem → Option (Mem)) (v_2 : Int32) : Nat → (Int32 × Int32 × Mem) → Option (Mem) := lp (fun rc q => b_X10_findChanges_38 v_1 k_11 v_2 (fun x0 x1 x2 => rc (x0, x1, x2)) q.1 q.2.1 q.2.2)
def f_X10_findChanges_34 (v_1 : Int32) (k_11 : Int32 → Mem → Option (Mem)) (v_2 : Int32) (s_0 : Int32) (M : Mem) : Option (Mem) :=
  f_X10_findChanges_38 v_1 k_11 v_2 FU (s_0, (nI 0), M)
def b_X10_findChanges_11 (k_5 : Int32 → Mem → Option (Mem)) (v_1 : Int32) (rc : Int32 → Mem → Option (Mem)) (v_2 : Int32) (M : Mem) : Option (Mem) :=
  if (gI M 100 24) ≤ v_2 then (nm (v_1 + (-1)) fun v15 => k_5 v15 M) else (if v_1 = (gI M 100 35) then (f_X10_findChanges_34 v_1 rc v_2 (nI 0) M) else (f_X10_findChanges_34 v_1 rc v_2 (nI 1000000) M))
def f_X10_findChanges_11 (k_5 : Int32 → Mem → Option (Mem)) (v_1 : Int32) : Nat → (Int32 × Mem) → Option (Mem) := lp (fun rc q => b_X10_findChanges_11 k_5 v_1 (fun x0 x1 => rc (x0, x1)) q.1 q.2)
def b_X10_findChanges_5 (rc : Int32 → Mem → Option (Mem)) (v_1 : Int32) (M : Mem) : Option (Mem) :=
  if v_1 ≤ (nI 0) then (some M) else (f_X10_findChanges_11 rc v_1 FU ((nI 0), M))
def f_X10_findChanges_5 : Nat → (Int32 × Mem) → Option (Mem) := lp (fun rc q => b_X10_findChanges_5 (fun x0 x1 => rc (x0, x1)) q.1 q.2)
def f_X10_findChanges (M : Mem) : Option (Mem) :=
  nm (gI M 100 35) fun v18 => f_X10_findChanges_5 FU (v18, M)
set_option maxRecDepth 100000 in
set_option maxHeartbeats 4000000 in
theorem n_X10_findChanges_90 {v_1 : Int32} {v_2 : Int32} (X : Cx p s m args meth c D cy ad A RX10 cX10_findChanges 5 ((none : Option Jvm.ClassFile.FieldType))) (hN : Ob ns 10 100) {k_38 : Int32 → Int32 → Mem → Option (Mem)} {v_4 : Int32} {s_0 : Int32} {M : Mem} {r : Mem} (hX : f_X10_findChanges_90 v_1 v_2 k_38 v_4 s_0 M = some r) : (∀ (v_3 : Int32) (v_4 : Int32) (M : Mem) (r : Mem), k_38 v_3 v_4 M = some r → ∀ (ls : Array Slot) (H : Heap) (locs : List Loc), lv_has ls 5 [(0, .ref (ad 100 0)), (1, .int v_1), (2, .int v_2), (3, .int v_3), (4, .int v_4)] → St D cy ad ns A M s.heap H locs → W p l e rm_X10_findChanges s m args below meth c H locs 0 0 (MQ below (QC D cy ad ns A r none) args s 0 0 A) (F0 m 38 ls [])) → ∀ (ls : Array Slot) (H : Heap) (locs : List Loc), lv_has ls 5 [(0, .ref (ad 100 0)), (1, .int v_1), (2, .int v_2), (4, .int v_4)] → St D cy ad ns A M s.heap H locs → W p l e rm_X10_findChanges s m args below meth c H locs 0 0 (MQ below (QC D cy ad ns A r none) args s 0 0 A) (F0 m 90 ls [.int s_0]) := by
  obtain ⟨hx, hb, hml, hown, hts, hK, hr, hlk, hA, hG⟩ := id X
  intro hk_38 ls H locs hl hS
  unfold f_X10_findChanges_90 at hX
  refine lv_istore_n (lv' := [(3, .int s_0), (0, .ref (ad 100 0)), (1, .int v_1), (2, .int v_2), (4, .int v_4)]) hx hb dX10_findChanges_90 rfl hl (by decide) rfl (fun ls hl => ?_)
  obtain ⟨v1, ev1⟩ : ∃ y : Int32, y = (v_4 + nI 1) := ⟨_, rfl⟩
  have hX := nm_of ev1 hX
  refine lv_iinc (v := v1) (lv' := [(4, .int v1), (3, .int s_0), (0, .ref (ad 100 0)), (1, .int v_1), (2, .int v_2)]) hx hb dX10_findChanges_91 hl (k := 4) rfl (by rw [ev1]; rfl) (by decide) rfl (fun ls hl => ?_)
  refine lv_goto (tgt := 38) hx hb dX10_findChanges_94 (by decide) ?_
  exact hk_38 _ _ _ _ hX _ _ _ (lv_sub hl [2, 3, 4, 1, 0] rfl) hS
set_option maxRecDepth 100000 in
set_option maxHeartbeats 4000000 in
theorem n_X10_findChanges_38 {v_1 : Int32} (X : Cx p s m args meth c D cy ad A RX10 cX10_findChanges 5 ((none : Option Jvm.ClassFile.FieldType))) (hN : Ob ns 10 100) {k_11 : Int32 → Mem → Option (Mem)} {v_2 : Int32} : ∀ (n : Nat) (v_3 : Int32) (v_4 : Int32) (M : Mem) (r : Mem), f_X10_findChanges_38 v_1 k_11 v_2 n (v_3, v_4, M) = some r → (∀ (v_2 : Int32) (M : Mem) (r : Mem), k_11 v_2 M = some r → ∀ (ls : Array Slot) (H : Heap) (locs : List Loc), lv_has ls 5 [(0, .ref (ad 100 0)), (1, .int v_1), (2, .int v_2)] → St D cy ad ns A M s.heap H locs → W p l e rm_X10_findChanges s m args below meth c H locs 0 0 (MQ below (QC D cy ad ns A r none) args s 0 0 A) (F0 m 11 ls [])) → ∀ (ls : Array Slot) (H : Heap) (locs : List Loc), lv_has ls 5 [(0, .ref (ad 100 0)), (1, .int v_1), (2, .int v_2), (3, .int v_3), (4, .int v_4)] → St D cy ad ns A M s.heap H locs → W p l e rm_X10_findChanges s m args below meth c H locs 0 0 (MQ below (QC D cy ad ns A r none) args s 0 0 A) (F0 m 38 ls []) := by
  obtain ⟨hx, hb, hml, hown, hts, hK, hr, hlk, hA, hG⟩ := id X
  intro n
  induction n with
  | zero => intro v_3 v_4 M r hX; cases (show (none : Option (Mem)) = some r from hX)
  | succ n ih =>
    intro v_3 v_4 M r hX hk_11 ls H locs hl hS
    have hX : b_X10_findChanges_38 v_1 k_11 v_2 (fun x0 x1 x2 => f_X10_findChanges_38 v_1 k_11 v_2 n (x0, x1, x2)) v_3 v_4 M = some r := hX
    unfold b_X10_findChanges_38 at hX
    refine lv_iload hx hb dX10_findChanges_38 (lv_at hl 4 rfl) ?_
    refine lv_aload_n hx hb dX10_findChanges_40 rfl (lv_at hl 0 rfl) ?_
    refine fg_X10_281 X hS (hN) dX10_findChanges_41 ?_
    refine lv_icmp_ge (tgt := 97) hx hb dX10_findChanges_44 (by decide) (fun c2 => ?_) (fun c2 => ?_)
    · have hX := if_t c2 hX
      refine lv_aload_n hx hb dX10_findChanges_97 rfl (lv_at hl 0 rfl) ?_
      refine fg_X10_57 X hS (hN) dX10_findChanges_98 ?_
      refine lv_bipush (v := nI 9) hx hb dX10_findChanges_101 (by decide) ?_
      refine lv_iload_n hx hb dX10_findChanges_103 rfl (lv_at hl 1 rfl) ?_
      refine lv_imul hx hb dX10_findChanges_104 ?_
      refine lv_iload_n hx hb dX10_findChanges_105 rfl (lv_at hl 2 rfl) ?_
      refine lv_iadd hx hb dX10_findChanges_106 ?_
      refine lv_iload_n hx hb dX10_findChanges_107 rfl (lv_at hl 3 rfl) ?_
      obtain ⟨g3, hX⟩ := gin_of hX
      refine r_iast (ci := 10) (o := 100) (k := 37) (n := 4608) X hS (hN) rfl rfl g3 dX10_findChanges_108 (fun H locs hS => ?_)
      obtain ⟨M4, eM4, hS, hX⟩ := nm_mem hS hX
      obtain ⟨v5, ev5⟩ : ∃ y : Int32, y = (v_2 + nI 1) := ⟨_, rfl⟩
      have hX := nm_of ev5 hX
      refine lv_iinc (v := v5) (lv' := [(2, .int v5), (0, .ref (ad 100 0)), (1, .int v_1), (3, .int v_3), (4, .int v_4)]) hx hb dX10_findChanges_109 hl (k := 2) rfl (by rw [ev5]; rfl) (by decide) rfl (fun ls hl => ?_)
      refine lv_goto (tgt := 11) hx hb dX10_findChanges_112 (by decide) ?_
      exact hk_11 _ _ _ hX _ _ _ (lv_sub hl [1, 2, 0] rfl) hS
    · have hX := if_f c2 hX
      refine lv_aload_n hx hb dX10_findChanges_47 rfl (lv_at hl 0 rfl) ?_
      refine lv_iload_n hx hb dX10_findChanges_48 rfl (lv_at hl 1 rfl) ?_
      refine lv_iload hx hb dX10_findChanges_49 (lv_at hl 4 rfl) ?_
      obtain ⟨r7, h6, hX⟩ := bn_of hX
      refine r_callV1 (v := .int (b2i r7)) (As := [.int v_1, .int v_4]) (rest := []) X hS (m_X10_mayNext hN h6) mv_X10_mayNext rfl (hN) t7_79 ⟨rfl, rfl, Nat.le_of_ble_eq_true rfl, Nat.le_of_ble_eq_true rfl⟩ rfl hl.1 rfl (Nat.le_of_ble_eq_true rfl) ⟨Nat.zero_le _, Nat.zero_le _⟩ dX10_findChanges_51 (fun H locs hS => ?_)
      refine lv_if_eq (tgt := 89) hx hb dX10_findChanges_54 (by decide) (fun c8 => ?_) (fun c8 => ?_)
      · have hX := if_bf c8 hX
        refine lv_iload_n hx hb dX10_findChanges_89 rfl (lv_at hl 3 rfl) ?_
        exact n_X10_findChanges_90 X hN hX (fun z0 z1 z2 r h ls H locs hl hS => ih z0 z1 z2 r h hk_11 ls H locs hl hS) _ _ _ (lv_sub hl [0, 1, 2, 4] rfl) hS
      · have hX := if_bt c8 hX
        refine lv_iload_n hx hb dX10_findChanges_57 rfl (lv_at hl 3 rfl) ?_
        refine lv_aload_n hx hb dX10_findChanges_58 rfl (lv_at hl 0 rfl) ?_
        refine fg_X10_57 X hS (hN) dX10_findChanges_59 ?_
        refine lv_bipush (v := nI 9) hx hb dX10_findChanges_62 (by decide) ?_
        refine lv_iload_n hx hb dX10_findChanges_64 rfl (lv_at hl 1 rfl) ?_
        refine lv_iconst (v := nI 1) hx hb dX10_findChanges_65 (by decide) ?_
        refine lv_iload hx hb dX10_findChanges_66 (lv_at hl 4 rfl) ?_
        refine lv_ishl hx hb dX10_findChanges_68 ?_
        refine lv_ior hx hb dX10_findChanges_69 ?_
        refine lv_imul hx hb dX10_findChanges_70 ?_
        refine lv_iload hx hb dX10_findChanges_71 (lv_at hl 4 rfl) ?_
        refine lv_iadd hx hb dX10_findChanges_73 ?_
        obtain ⟨g9, hX⟩ := gin_of hX
        refine r_iald (ci := 10) (o := 100) (k := 37) (n := 4608) X hS (hN) rfl rfl g9 dX10_findChanges_74 ?_
        refine lv_aload_n hx hb dX10_findChanges_75 rfl (lv_at hl 0 rfl) ?_
        refine lv_iload_n hx hb dX10_findChanges_76 rfl (lv_at hl 2 rfl) ?_
        refine lv_iload hx hb dX10_findChanges_77 (lv_at hl 4 rfl) ?_
        obtain ⟨r11, h10, hX⟩ := bn_of hX
        refine r_callV1 (v := .int r11) (As := [.int v_2, .int v_4]) (rest := [.int (gA M 100 37 (ix (((nI 9) * (v_1 ||| ((nI 1) <<< (v_4 &&& 31)))) + v_4))), .int v_3]) X hS (m_X10_change hN h10) mv_X10_change rfl (hN) t7_127 ⟨rfl, rfl, Nat.le_of_ble_eq_true rfl, Nat.le_of_ble_eq_true rfl⟩ rfl hl.1 rfl (Nat.le_of_ble_eq_true rfl) ⟨Nat.zero_le _, Nat.zero_le _⟩ dX10_findChanges_79 (fun H locs hS => ?_)
        refine lv_iadd hx hb dX10_findChanges_82 ?_
        obtain ⟨r13, h12, hX⟩ := bn_of hX
        refine r_callS1 (v := .int r13) (As := [.int v_3, .int ((gA M 100 37 (ix (((nI 9) * (v_1 ||| ((nI 1) <<< (v_4 &&& 31)))) + v_4))) + r11)]) (rest := []) X hS (m_X10_lesser (M := M) hN h12) ms_X10_lesser t7_43 ⟨rfl, rfl, Nat.le_of_ble_eq_true rfl, Nat.le_of_ble_eq_true rfl⟩ rfl hl.1 rfl (Nat.le_of_ble_eq_true rfl) ⟨Nat.zero_le _, Nat.zero_le _⟩ dX10_findChanges_83 (fun H locs hS => ?_)
        refine lv_goto (tgt := 90) hx hb dX10_findChanges_86 (by decide) ?_
        exact n_X10_findChanges_90 X hN hX (fun z0 z1 z2 r h ls H locs hl hS => ih z0 z1 z2 r h hk_11 ls H locs hl hS) _ _ _ (lv_sub hl [0, 1, 2, 4] rfl) hS
set_option maxRecDepth 100000 in
set_option maxHeartbeats 4000000 in
theorem n_X10_findChanges_34 {v_1 : Int32} (X : Cx p s m args meth c D cy ad A RX10 cX10_findChanges 5 ((none : Option Jvm.ClassFile.FieldType))) (hN : Ob ns 10 100) {k_11 : Int32 → Mem → Option (Mem)} {v_2 : Int32} {s_0 : Int32} {M : Mem} {r : Mem} (hX : f_X10_findChanges_34 v_1 k_11 v_2 s_0 M = some r) : (∀ (v_2 : Int32) (M : Mem) (r : Mem), k_11 v_2 M = some r → ∀ (ls : Array Slot) (H : Heap) (locs : List Loc), lv_has ls 5 [(0, .ref (ad 100 0)), (1, .int v_1), (2, .int v_2)] → St D cy ad ns A M s.heap H locs → W p l e rm_X10_findChanges s m args below meth c H locs 0 0 (MQ below (QC D cy ad ns A r none) args s 0 0 A) (F0 m 11 ls [])) → ∀ (ls : Array Slot) (H : Heap) (locs : List Loc), lv_has ls 5 [(0, .ref (ad 100 0)), (1, .int v_1), (2, .int v_2)] → St D cy ad ns A M s.heap H locs → W p l e rm_X10_findChanges s m args below meth c H locs 0 0 (MQ below (QC D cy ad ns A r none) args s 0 0 A) (F0 m 34 ls [.int s_0]) := by
  obtain ⟨hx, hb, hml, hown, hts, hK, hr, hlk, hA, hG⟩ := id X
  intro hk_11 ls H locs hl hS
  unfold f_X10_findChanges_34 at hX
  refine lv_istore_n (lv' := [(3, .int s_0), (0, .ref (ad 100 0)), (1, .int v_1), (2, .int v_2)]) hx hb dX10_findChanges_34 rfl hl (by decide) rfl (fun ls hl => ?_)
  refine lv_iconst (v := nI 0) hx hb dX10_findChanges_35 (by decide) ?_
  refine lv_istore (lv' := [(4, .int (nI 0)), (3, .int s_0), (0, .ref (ad 100 0)), (1, .int v_1), (2, .int v_2)]) hx hb dX10_findChanges_36 hl (by decide) rfl (fun ls hl => ?_)
  exact n_X10_findChanges_38 X hN _ _ _ _ _ hX hk_11 _ _ _ (lv_sub hl [2, 3, 4, 1, 0] rfl) hS
set_option maxRecDepth 100000 in
set_option maxHeartbeats 4000000 in
theorem n_X10_findChanges_11 (X : Cx p s m args meth c D cy ad A RX10 cX10_findChanges 5 ((none : Option Jvm.ClassFile.FieldType))) (hN : Ob ns 10 100) {k_5 : Int32 → Mem → Option (Mem)} {v_1 : Int32} : ∀ (n : Nat) (v_2 : Int32) (M : Mem) (r : Mem), f_X10_findChanges_11 k_5 v_1 n (v_2, M) = some r → (∀ (v_1 : Int32) (M : Mem) (r : Mem), k_5 v_1 M = some r → ∀ (ls : Array Slot) (H : Heap) (locs : List Loc), lv_has ls 5 [(0, .ref (ad 100 0)), (1, .int v_1)] → St D cy ad ns A M s.heap H locs → W p l e rm_X10_findChanges s m args below meth c H locs 0 0 (MQ below (QC D cy ad ns A r none) args s 0 0 A) (F0 m 5 ls [])) → ∀ (ls : Array Slot) (H : Heap) (locs : List Loc), lv_has ls 5 [(0, .ref (ad 100 0)), (1, .int v_1), (2, .int v_2)] → St D cy ad ns A M s.heap H locs → W p l e rm_X10_findChanges s m args below meth c H locs 0 0 (MQ below (QC D cy ad ns A r none) args s 0 0 A) (F0 m 11 ls []) := by
  obtain ⟨hx, hb, hml, hown, hts, hK, hr, hlk, hA, hG⟩ := id X
  intro n
  induction n with
  | zero => intro v_2 M r hX; cases (show (none : Option (Mem)) = some r from hX)
  | succ n ih =>
    intro v_2 M r hX hk_5 ls H locs hl hS
    have hX : b_X10_findChanges_11 k_5 v_1 (fun x0 x1 => f_X10_findChanges_11 k_5 v_1 n (x0, x1)) v_2 M = some r := hX
    unfold b_X10_findChanges_11 at hX
    refine lv_iload_n hx hb dX10_findChanges_11 rfl (lv_at hl 2 rfl) ?_
    refine lv_aload_n hx hb dX10_findChanges_12 rfl (lv_at hl 0 rfl) ?_
    refine fg_X10_281 X hS (hN) dX10_findChanges_13 ?_
    refine lv_icmp_ge (tgt := 115) hx hb dX10_findChanges_16 (by decide) (fun c14 => ?_) (fun c14 => ?_)
    · have hX := if_t c14 hX
      obtain ⟨v15, ev15⟩ : ∃ y : Int32, y = (v_1 + (-1)) := ⟨_, rfl⟩
      have hX := nm_of ev15 hX
      refine lv_iinc (v := v15) (lv' := [(1, .int v15), (0, .ref (ad 100 0)), (2, .int v_2)]) hx hb dX10_findChanges_115 hl (k := 1) rfl (by rw [ev15]; rfl) (by decide) rfl (fun ls hl => ?_)
      refine lv_goto (tgt := 5) hx hb dX10_findChanges_118 (by decide) ?_
      exact hk_5 _ _ _ hX _ _ _ (lv_sub hl [1, 0] rfl) hS
    · have hX := if_f c14 hX
      refine lv_iload_n hx hb dX10_findChanges_19 rfl (lv_at hl 1 rfl) ?_
      refine lv_aload_n hx hb dX10_findChanges_20 rfl (lv_at hl 0 rfl) ?_
      refine fg_X10_362 X hS (hN) dX10_findChanges_21 ?_
      refine lv_icmp_ne (tgt := 31) hx hb dX10_findChanges_24 (by decide) (fun c16 => ?_) (fun c16 => ?_)
      · have hX := if_f c16 hX
        refine lv_ldcw hx hb (own := RX10) hown (hts _ t7_106) dX10_findChanges_31 ?_
        exact n_X10_findChanges_34 X hN hX (fun z0 z1 r h ls H locs hl hS => ih z0 z1 r h hk_5 ls H locs hl hS) _ _ _ (lv_sub hl [0, 1, 2] rfl) hS
      · have hX := if_t c16 hX
        refine lv_iconst (v := nI 0) hx hb dX10_findChanges_27 (by decide) ?_
        refine lv_goto (tgt := 34) hx hb dX10_findChanges_28 (by decide) ?_
        exact n_X10_findChanges_34 X hN hX (fun z0 z1 r h ls H locs hl hS => ih z0 z1 r h hk_5 ls H locs hl hS) _ _ _ (lv_sub hl [0, 1, 2] rfl) hS
set_option maxRecDepth 100000 in
set_option maxHeartbeats 4000000 in
theorem n_X10_findChanges_5 (X : Cx p s m args meth c D cy ad A RX10 cX10_findChanges 5 ((none : Option Jvm.ClassFile.FieldType))) (hN : Ob ns 10 100) : ∀ (n : Nat) (v_1 : Int32) (M : Mem) (r : Mem), f_X10_findChanges_5 n (v_1, M) = some r → ∀ (ls : Array Slot) (H : Heap) (locs : List Loc), lv_has ls 5 [(0, .ref (ad 100 0)), (1, .int v_1)] → St D cy ad ns A M s.heap H locs → W p l e rm_X10_findChanges s m args below meth c H locs 0 0 (MQ below (QC D cy ad ns A r none) args s 0 0 A) (F0 m 5 ls []) := by
  obtain ⟨hx, hb, hml, hown, hts, hK, hr, hlk, hA, hG⟩ := id X
  intro n
  induction n with
  | zero => intro v_1 M r hX; cases (show (none : Option (Mem)) = some r from hX)
  | succ n ih =>
    intro v_1 M r hX ls H locs hl hS
    have hX : b_X10_findChanges_5 (fun x0 x1 => f_X10_findChanges_5 n (x0, x1)) v_1 M = some r := hX
    unfold b_X10_findChanges_5 at hX
    refine lv_iload_n hx hb dX10_findChanges_5 rfl (lv_at hl 1 rfl) ?_
    refine lv_if_le (tgt := 121) hx hb dX10_findChanges_6 (by decide) (fun c17 => ?_) (fun c17 => ?_)
    · have hX := if_t c17 hX
      obtain rfl := some_of hX
      exact x_V X hS dX10_findChanges_121
    · have hX := if_f c17 hX
      refine lv_iconst (v := nI 0) hx hb dX10_findChanges_9 (by decide) ?_
      refine lv_istore_n (lv' := [(2, .int (nI 0)), (0, .ref (ad 100 0)), (1, .int v_1)]) hx hb dX10_findChanges_10 rfl hl (by decide) rfl (fun ls hl => ?_)
      exact n_X10_findChanges_11 X hN _ _ _ _ hX (fun z0 z1 r h ls H locs hl hS => ih z0 z1 r h ls H locs hl hS) _ _ _ (lv_sub hl [1, 2, 0] rfl) hS
set_option maxRecDepth 100000 in
set_option maxHeartbeats 4000000 in
theorem m_X10_findChanges {l : Launch} {D : va_G} {cy : Nat → ClassId} {ad : Nat → Nat → Nat} {ns : List (Nat × Nat)} {A : Nat → Prop} {M : Mem} (hN : Ob ns 10 100) {r : Mem} (hX : f_X10_findChanges M = some r) : Ct l yX10_findChanges cX10_findChanges 5 ((none : Option Jvm.ClassFile.FieldType)) rm_X10_findChanges D cy ad ns A [.ref (ad 100 0)] M r none := by
  refine ct_of (lv := [(0, .ref (ad 100 0))]) (by decide) (Nat.le_of_ble_eq_true rfl) rfl ?_
  intro p e s m args below meth c ls X hl hS
  obtain ⟨hx, hb, hml, hown, hts, hK, hr, hlk, hA, hG⟩ := id X
  obtain ⟨H, hH⟩ : ∃ z, z = s.heap := ⟨_, rfl⟩
  obtain ⟨locs, hlo⟩ : ∃ z : List Loc, z = [] := ⟨_, rfl⟩
  have hS : St D cy ad ns A M s.heap H locs := by rw [hH, hlo]; exact hS
  have hgoal : W p l e rm_X10_findChanges s m args below meth c H locs 0 0 (MQ below (QC D cy ad ns A r none) args s 0 0 A) (F0 m 0 ls []) := by
    unfold f_X10_findChanges at hX
    refine lv_aload_n hx hb dX10_findChanges_0 rfl (lv_at hl 0 rfl) ?_
    refine fg_X10_362 X hS (hN) dX10_findChanges_1 ?_
    refine lv_topi (fun v18 ev18 => ?_)
    have hX := nm_of ev18 hX
    refine lv_istore_n (lv' := [(1, .int v18), (0, .ref (ad 100 0))]) hx hb dX10_findChanges_4 rfl hl (by decide) rfl (fun ls hl => ?_)
    exact n_X10_findChanges_5 X hN _ _ _ _ hX _ _ _ (lv_sub hl [1, 0] rfl) hS
  rw [hH, hlo] at hgoal
  exact hgoal
theorem mv_X10_findChanges : Mv yX10_findChanges RX10 cX10_findChanges 5 ((none : Option Jvm.ClassFile.FieldType)) 0 := ⟨t7_126, t7_125, ts_60, t1_11, ⟨by decide, by decide⟩, by decide +kernel⟩
/-! SewnYearModel.threads()I -/
def rm_X10_threads : Room := { frames := 2, cells := 0, slots := 0, locals := 43 }
def f_X10_threads_55 (M : Mem) (k_17 : Int32 → Int32 → Option (Int32)) (v_2 : Int32) (s_0 : Int32) : Option (Int32) :=
  nm (v_2 + nI 1) fun v1 => k_17 s_0 v1
def b_X10_threads_17 (M : Mem) (rc : Int32 → Int32 → Option (Int32)) (v_1 : Int32) (v_2 : Int32) : Option (Int32) :=
  if (gI M 100 24) ≤ v_2 then (some v_1) else (bn (f_X10_mayNext M (nI 0) v_2) fun r4 => if r4 = true then (gin (((nI 9) * ((nI 1) <<< (v_2 &&& 31))) + v_2) 4608 <| bn (f_X10_lesser v_1 (gA M 100 37 (ix (((nI 9) * ((nI 1) <<< (v_2 &&& 31))) + v_2)))) fun r8 => f_X10_threads_55 M rc v_2 r8) else (f_X10_threads_55 M rc v_2 v_1))
def f_X10_threads_17 (M : Mem) : Nat → (Int32 × Int32) → Option (Int32) := lp (fun rc q => b_X10_threads_17 M (fun x0 x1 => rc (x0, x1)) q.1 q.2)
def f_X10_threads_14 (M : Mem) (s_0 : Int32) : Option (Int32) :=
  f_X10_threads_17 M FU (s_0, (nI 0))
def f_X10_threads (M : Mem) : Option (Int32) :=
  if (gI M 100 24) = (nI 0) then (f_X10_threads_14 M (nI 0)) else (f_X10_threads_14 M (nI 1000000))
set_option maxRecDepth 100000 in
set_option maxHeartbeats 4000000 in
theorem n_X10_threads_55 (X : Cx p s m args meth c D cy ad A RX10 cX10_threads 3 ((some .int))) (hN : Ob ns 10 100) {M : Mem} {k_17 : Int32 → Int32 → Option (Int32)} {v_2 : Int32} {s_0 : Int32} {r : Int32} (hX : f_X10_threads_55 M k_17 v_2 s_0 = some r) : (∀ (v_1 : Int32) (v_2 : Int32) (r : Int32), k_17 v_1 v_2 = some r → ∀ (ls : Array Slot) (H : Heap) (locs : List Loc), lv_has ls 3 [(0, .ref (ad 100 0)), (1, .int v_1), (2, .int v_2)] → St D cy ad ns A M s.heap H locs → W p l e rm_X10_threads s m args below meth c H locs 0 0 (MQ below (QC D cy ad ns A M (some (.int r))) args s 0 0 A) (F0 m 17 ls [])) → ∀ (ls : Array Slot) (H : Heap) (locs : List Loc), lv_has ls 3 [(0, .ref (ad 100 0)), (2, .int v_2)] → St D cy ad ns A M s.heap H locs → W p l e rm_X10_threads s m args below meth c H locs 0 0 (MQ below (QC D cy ad ns A M (some (.int r))) args s 0 0 A) (F0 m 55 ls [.int s_0]) := by
  obtain ⟨hx, hb, hml, hown, hts, hK, hr, hlk, hA, hG⟩ := id X
  intro hk_17 ls H locs hl hS
  unfold f_X10_threads_55 at hX
  refine lv_istore_n (lv' := [(1, .int s_0), (0, .ref (ad 100 0)), (2, .int v_2)]) hx hb dX10_threads_55 rfl hl (by decide) rfl (fun ls hl => ?_)
  obtain ⟨v1, ev1⟩ : ∃ y : Int32, y = (v_2 + nI 1) := ⟨_, rfl⟩
  have hX := nm_of ev1 hX
  refine lv_iinc (v := v1) (lv' := [(2, .int v1), (1, .int s_0), (0, .ref (ad 100 0))]) hx hb dX10_threads_56 hl (k := 2) rfl (by rw [ev1]; rfl) (by decide) rfl (fun ls hl => ?_)
  refine lv_goto (tgt := 17) hx hb dX10_threads_59 (by decide) ?_
  exact hk_17 _ _ _ hX _ _ _ (lv_sub hl [2, 1, 0] rfl) hS
set_option maxRecDepth 100000 in
set_option maxHeartbeats 4000000 in
theorem n_X10_threads_17 (X : Cx p s m args meth c D cy ad A RX10 cX10_threads 3 ((some .int))) (hN : Ob ns 10 100) {M : Mem} : ∀ (n : Nat) (v_1 : Int32) (v_2 : Int32) (r : Int32), f_X10_threads_17 M n (v_1, v_2) = some r → ∀ (ls : Array Slot) (H : Heap) (locs : List Loc), lv_has ls 3 [(0, .ref (ad 100 0)), (1, .int v_1), (2, .int v_2)] → St D cy ad ns A M s.heap H locs → W p l e rm_X10_threads s m args below meth c H locs 0 0 (MQ below (QC D cy ad ns A M (some (.int r))) args s 0 0 A) (F0 m 17 ls []) := by
  obtain ⟨hx, hb, hml, hown, hts, hK, hr, hlk, hA, hG⟩ := id X
  intro n
  induction n with
  | zero => intro v_1 v_2 r hX; cases (show (none : Option (Int32)) = some r from hX)
  | succ n ih =>
    intro v_1 v_2 r hX ls H locs hl hS
    have hX : b_X10_threads_17 M (fun x0 x1 => f_X10_threads_17 M n (x0, x1)) v_1 v_2 = some r := hX
    unfold b_X10_threads_17 at hX
    refine lv_iload_n hx hb dX10_threads_17 rfl (lv_at hl 2 rfl) ?_
    refine lv_aload_n hx hb dX10_threads_18 rfl (lv_at hl 0 rfl) ?_
    refine fg_X10_281 X hS (hN) dX10_threads_19 ?_
    refine lv_icmp_ge (tgt := 62) hx hb dX10_threads_22 (by decide) (fun c2 => ?_) (fun c2 => ?_)
    · have hX := if_t c2 hX
      refine lv_iload_n hx hb dX10_threads_62 rfl (lv_at hl 1 rfl) ?_
      obtain rfl := some_of hX
      exact x_I (v := v_1) X hS dX10_threads_63
    · have hX := if_f c2 hX
      refine lv_aload_n hx hb dX10_threads_25 rfl (lv_at hl 0 rfl) ?_
      refine lv_iconst (v := nI 0) hx hb dX10_threads_26 (by decide) ?_
      refine lv_iload_n hx hb dX10_threads_27 rfl (lv_at hl 2 rfl) ?_
      obtain ⟨r4, h3, hX⟩ := bn_of hX
      refine r_callV1 (v := .int (b2i r4)) (As := [.int (nI 0), .int v_2]) (rest := []) X hS (m_X10_mayNext hN h3) mv_X10_mayNext rfl (hN) t7_79 ⟨rfl, rfl, Nat.le_of_ble_eq_true rfl, Nat.le_of_ble_eq_true rfl⟩ rfl hl.1 rfl (Nat.le_of_ble_eq_true rfl) ⟨Nat.zero_le _, Nat.zero_le _⟩ dX10_threads_28 (fun H locs hS => ?_)
      refine lv_if_eq (tgt := 54) hx hb dX10_threads_31 (by decide) (fun c5 => ?_) (fun c5 => ?_)
      · have hX := if_bf c5 hX
        refine lv_iload_n hx hb dX10_threads_54 rfl (lv_at hl 1 rfl) ?_
        exact n_X10_threads_55 X hN hX (fun z0 z1 r h ls H locs hl hS => ih z0 z1 r h ls H locs hl hS) _ _ _ (lv_sub hl [0, 2] rfl) hS
      · have hX := if_bt c5 hX
        refine lv_iload_n hx hb dX10_threads_34 rfl (lv_at hl 1 rfl) ?_
        refine lv_aload_n hx hb dX10_threads_35 rfl (lv_at hl 0 rfl) ?_
        refine fg_X10_57 X hS (hN) dX10_threads_36 ?_
        refine lv_bipush (v := nI 9) hx hb dX10_threads_39 (by decide) ?_
        refine lv_iconst (v := nI 1) hx hb dX10_threads_41 (by decide) ?_
        refine lv_iload_n hx hb dX10_threads_42 rfl (lv_at hl 2 rfl) ?_
        refine lv_ishl hx hb dX10_threads_43 ?_
        refine lv_imul hx hb dX10_threads_44 ?_
        refine lv_iload_n hx hb dX10_threads_45 rfl (lv_at hl 2 rfl) ?_
        refine lv_iadd hx hb dX10_threads_46 ?_
        obtain ⟨g6, hX⟩ := gin_of hX
        refine r_iald (ci := 10) (o := 100) (k := 37) (n := 4608) X hS (hN) rfl rfl g6 dX10_threads_47 ?_
        obtain ⟨r8, h7, hX⟩ := bn_of hX
        refine r_callS1 (v := .int r8) (As := [.int v_1, .int (gA M 100 37 (ix (((nI 9) * ((nI 1) <<< (v_2 &&& 31))) + v_2)))]) (rest := []) X hS (m_X10_lesser (M := M) hN h7) ms_X10_lesser t7_43 ⟨rfl, rfl, Nat.le_of_ble_eq_true rfl, Nat.le_of_ble_eq_true rfl⟩ rfl hl.1 rfl (Nat.le_of_ble_eq_true rfl) ⟨Nat.zero_le _, Nat.zero_le _⟩ dX10_threads_48 (fun H locs hS => ?_)
        refine lv_goto (tgt := 55) hx hb dX10_threads_51 (by decide) ?_
        exact n_X10_threads_55 X hN hX (fun z0 z1 r h ls H locs hl hS => ih z0 z1 r h ls H locs hl hS) _ _ _ (lv_sub hl [0, 2] rfl) hS
set_option maxRecDepth 100000 in
set_option maxHeartbeats 4000000 in
theorem n_X10_threads_14 (X : Cx p s m args meth c D cy ad A RX10 cX10_threads 3 ((some .int))) (hN : Ob ns 10 100) {M : Mem} {s_0 : Int32} {r : Int32} (hX : f_X10_threads_14 M s_0 = some r) : ∀ (ls : Array Slot) (H : Heap) (locs : List Loc), lv_has ls 3 [(0, .ref (ad 100 0))] → St D cy ad ns A M s.heap H locs → W p l e rm_X10_threads s m args below meth c H locs 0 0 (MQ below (QC D cy ad ns A M (some (.int r))) args s 0 0 A) (F0 m 14 ls [.int s_0]) := by
  obtain ⟨hx, hb, hml, hown, hts, hK, hr, hlk, hA, hG⟩ := id X
  intro ls H locs hl hS
  unfold f_X10_threads_14 at hX
  refine lv_istore_n (lv' := [(1, .int s_0), (0, .ref (ad 100 0))]) hx hb dX10_threads_14 rfl hl (by decide) rfl (fun ls hl => ?_)
  refine lv_iconst (v := nI 0) hx hb dX10_threads_15 (by decide) ?_
  refine lv_istore_n (lv' := [(2, .int (nI 0)), (1, .int s_0), (0, .ref (ad 100 0))]) hx hb dX10_threads_16 rfl hl (by decide) rfl (fun ls hl => ?_)
  exact n_X10_threads_17 X hN _ _ _ _ hX _ _ _ (lv_sub hl [2, 1, 0] rfl) hS
set_option maxRecDepth 100000 in
set_option maxHeartbeats 4000000 in
theorem m_X10_threads {l : Launch} {D : va_G} {cy : Nat → ClassId} {ad : Nat → Nat → Nat} {ns : List (Nat × Nat)} {A : Nat → Prop} {M : Mem} (hN : Ob ns 10 100) {r : Int32} (hX : f_X10_threads M = some r) : Ct l yX10_threads cX10_threads 3 ((some .int)) rm_X10_threads D cy ad ns A [.ref (ad 100 0)] M M (some (.int r)) := by
  refine ct_of (lv := [(0, .ref (ad 100 0))]) (by decide) (Nat.le_of_ble_eq_true rfl) rfl ?_
  intro p e s m args below meth c ls X hl hS
  obtain ⟨hx, hb, hml, hown, hts, hK, hr, hlk, hA, hG⟩ := id X
  obtain ⟨H, hH⟩ : ∃ z, z = s.heap := ⟨_, rfl⟩
  obtain ⟨locs, hlo⟩ : ∃ z : List Loc, z = [] := ⟨_, rfl⟩
  have hS : St D cy ad ns A M s.heap H locs := by rw [hH, hlo]; exact hS
  have hgoal : W p l e rm_X10_threads s m args below meth c H locs 0 0 (MQ below (QC D cy ad ns A M (some (.int r))) args s 0 0 A) (F0 m 0 ls []) := by
    unfold f_X10_threads at hX
    refine lv_aload_n hx hb dX10_threads_0 rfl (lv_at hl 0 rfl) ?_
    refine fg_X10_281 X hS (hN) dX10_threads_1 ?_
    refine lv_if_ne (tgt := 11) hx hb dX10_threads_4 (by decide) (fun c9 => ?_) (fun c9 => ?_)
    · have hX := if_f c9 hX
      refine lv_ldcw hx hb (own := RX10) hown (hts _ t7_106) dX10_threads_11 ?_
      exact n_X10_threads_14 X hN hX _ _ _ (lv_sub hl [0] rfl) hS
    · have hX := if_t c9 hX
      refine lv_iconst (v := nI 0) hx hb dX10_threads_7 (by decide) ?_
      refine lv_goto (tgt := 14) hx hb dX10_threads_8 (by decide) ?_
      exact n_X10_threads_14 X hN hX _ _ _ (lv_sub hl [0] rfl) hS
  rw [hH, hlo] at hgoal
  exact hgoal
theorem mv_X10_threads : Mv yX10_threads RX10 cX10_threads 3 ((some .int)) 0 := ⟨t7_138, t7_137, ts_63, t1_11, ⟨by decide, by decide⟩, by decide +kernel⟩
/-! SewnYearModel.threadedAt(I)I -/
def rm_X10_threadedAt : Room := { frames := 3, cells := 0, slots := 0, locals := 65 }
def f_X10_threadedAt_65 (M : Mem) (a1 : Int32) (v_2 : Int32) (v_3 : Int32) (v_4 : Int32) (v_5 : Int32) (k_13 : Int32 → Int32 → Int32 → Int32 → Option (Int32)) (k_71 : Int32 → Option (Int32)) (v_6 : Int32) (s_0 : Int32) (s_1 : Int32) : Option (Int32) :=
  if (s_0 + s_1) = v_4 then (nm (v_2 ||| ((nI 1) <<< (v_6 &&& 31))) fun v2 => gin (((nI 9) * v2) + v_6) 4608 <| nm (gA M 100 37 (ix (((nI 9) * v2) + v_6))) fun v4 => nm (v_5 + nI 1) fun v5 => k_13 v2 v_6 v4 v5) else (k_71 v_6)
def f_X10_threadedAt_71 (M : Mem) (a1 : Int32) (v_2 : Int32) (v_3 : Int32) (v_4 : Int32) (v_5 : Int32) (k_22 : Int32 → Option (Int32)) (v_6 : Int32) : Option (Int32) :=
  nm (v_6 + nI 1) fun v6 => k_22 v6
def b_X10_threadedAt_22 (M : Mem) (a1 : Int32) (k_13 : Int32 → Int32 → Int32 → Int32 → Option (Int32)) (v_2 : Int32) (v_3 : Int32) (v_4 : Int32) (v_5 : Int32) (rc : Int32 → Option (Int32)) (v_6 : Int32) : Option (Int32) :=
  bn (f_X10_mayNext M v_2 v_6) fun r8 => if r8 = true then (gin (((nI 9) * (v_2 ||| ((nI 1) <<< (v_6 &&& 31)))) + v_6) 4608 <| if v_3 = (-1) then (f_X10_threadedAt_65 M a1 v_2 v_3 v_4 v_5 k_13 (fun x0 => f_X10_threadedAt_71 M a1 v_2 v_3 v_4 v_5 rc x0) v_6 (gA M 100 37 (ix (((nI 9) * (v_2 ||| ((nI 1) <<< (v_6 &&& 31)))) + v_6))) (nI 0)) else (bn (f_X10_change M v_3 v_6) fun r13 => f_X10_threadedAt_65 M a1 v_2 v_3 v_4 v_5 k_13 (fun x0 => f_X10_threadedAt_71 M a1 v_2 v_3 v_4 v_5 rc x0) v_6 (gA M 100 37 (ix (((nI 9) * (v_2 ||| ((nI 1) <<< (v_6 &&& 31)))) + v_6))) r13)) else (f_X10_threadedAt_71 M a1 v_2 v_3 v_4 v_5 rc v_6)
def f_X10_threadedAt_22 (M : Mem) (a1 : Int32) (k_13 : Int32 → Int32 → Int32 → Int32 → Option (Int32)) (v_2 : Int32) (v_3 : Int32) (v_4 : Int32) (v_5 : Int32) : Nat → Int32 → Option (Int32) := lp (fun rc q => b_X10_threadedAt_22 M a1 k_13 v_2 v_3 v_4 v_5 (fun x0 => rc x0) q)
def b_X10_threadedAt_13 (M : Mem) (a1 : Int32) (rc : Int32 → Int32 → Int32 → Int32 → Option (Int32)) (v_2 : Int32) (v_3 : Int32) (v_4 : Int32) (v_5 : Int32) : Option (Int32) :=
  if a1 < v_5 then (some v_3) else (f_X10_threadedAt_22 M a1 rc v_2 v_3 v_4 v_5 FU (nI 0))
def f_X10_threadedAt_13 (M : Mem) (a1 : Int32) : Nat → (Int32 × Int32 × Int32 × Int32) → Option (Int32) := lp (fun rc q => b_X10_threadedAt_13 M a1 (fun x0 x1 x2 x3 => rc (x0, x1, x2, x3)) q.1 q.2.1 q.2.2.1 q.2.2.2)
def f_X10_threadedAt (M : Mem) (a1 : Int32) : Option (Int32) :=
  bn (f_X10_threads M) fun r16 => f_X10_threadedAt_13 M a1 FU ((nI 0), (-1), r16, (nI 0))
set_option maxRecDepth 100000 in
set_option maxHeartbeats 4000000 in
theorem n_X10_threadedAt_65 {a1 : Int32} {v_2 : Int32} {v_3 : Int32} {v_4 : Int32} {v_5 : Int32} (X : Cx p s m args meth c D cy ad A RX10 cX10_threadedAt 7 ((some .int))) (hN : Ob ns 10 100) {M : Mem} {k_13 : Int32 → Int32 → Int32 → Int32 → Option (Int32)} {k_71 : Int32 → Option (Int32)} {v_6 : Int32} {s_0 : Int32} {s_1 : Int32} {r : Int32} (hX : f_X10_threadedAt_65 M a1 v_2 v_3 v_4 v_5 k_13 k_71 v_6 s_0 s_1 = some r) : (∀ (v_2 : Int32) (v_3 : Int32) (v_4 : Int32) (v_5 : Int32) (r : Int32), k_13 v_2 v_3 v_4 v_5 = some r → ∀ (ls : Array Slot) (H : Heap) (locs : List Loc), lv_has ls 7 [(0, .ref (ad 100 0)), (1, .int a1), (2, .int v_2), (3, .int v_3), (4, .int v_4), (5, .int v_5)] → St D cy ad ns A M s.heap H locs → W p l e rm_X10_threadedAt s m args below meth c H locs 0 0 (MQ below (QC D cy ad ns A M (some (.int r))) args s 0 0 A) (F0 m 13 ls [])) → (∀ (v_6 : Int32) (r : Int32), k_71 v_6 = some r → ∀ (ls : Array Slot) (H : Heap) (locs : List Loc), lv_has ls 7 [(0, .ref (ad 100 0)), (1, .int a1), (2, .int v_2), (3, .int v_3), (4, .int v_4), (5, .int v_5), (6, .int v_6)] → St D cy ad ns A M s.heap H locs → W p l e rm_X10_threadedAt s m args below meth c H locs 0 0 (MQ below (QC D cy ad ns A M (some (.int r))) args s 0 0 A) (F0 m 71 ls [])) → ∀ (ls : Array Slot) (H : Heap) (locs : List Loc), lv_has ls 7 [(0, .ref (ad 100 0)), (1, .int a1), (2, .int v_2), (3, .int v_3), (4, .int v_4), (5, .int v_5), (6, .int v_6)] → St D cy ad ns A M s.heap H locs → W p l e rm_X10_threadedAt s m args below meth c H locs 0 0 (MQ below (QC D cy ad ns A M (some (.int r))) args s 0 0 A) (F0 m 65 ls [.int s_1, .int s_0]) := by
  obtain ⟨hx, hb, hml, hown, hts, hK, hr, hlk, hA, hG⟩ := id X
  intro hk_13 hk_71 ls H locs hl hS
  unfold f_X10_threadedAt_65 at hX
  refine lv_iadd hx hb dX10_threadedAt_65 ?_
  refine lv_iload hx hb dX10_threadedAt_66 (lv_at hl 4 rfl) ?_
  refine lv_icmp_eq (tgt := 77) hx hb dX10_threadedAt_68 (by decide) (fun c1 => ?_) (fun c1 => ?_)
  · have hX := if_t c1 hX
    refine lv_iload_n hx hb dX10_threadedAt_77 rfl (lv_at hl 2 rfl) ?_
    refine lv_iconst (v := nI 1) hx hb dX10_threadedAt_78 (by decide) ?_
    refine lv_iload hx hb dX10_threadedAt_79 (lv_at hl 6 rfl) ?_
    refine lv_ishl hx hb dX10_threadedAt_81 ?_
    refine lv_ior hx hb dX10_threadedAt_82 ?_
    refine lv_topi (fun v2 ev2 => ?_)
    have hX := nm_of ev2 hX
    refine lv_istore_n (lv' := [(2, .int v2), (0, .ref (ad 100 0)), (1, .int a1), (3, .int v_3), (4, .int v_4), (5, .int v_5), (6, .int v_6)]) hx hb dX10_threadedAt_83 rfl hl (by decide) rfl (fun ls hl => ?_)
    refine lv_aload_n hx hb dX10_threadedAt_84 rfl (lv_at hl 1 rfl) ?_
    refine fg_X10_57 X hS (hN) dX10_threadedAt_85 ?_
    refine lv_bipush (v := nI 9) hx hb dX10_threadedAt_88 (by decide) ?_
    refine lv_iload_n hx hb dX10_threadedAt_90 rfl (lv_at hl 0 rfl) ?_
    refine lv_imul hx hb dX10_threadedAt_91 ?_
    refine lv_iload hx hb dX10_threadedAt_92 (lv_at hl 6 rfl) ?_
    refine lv_iadd hx hb dX10_threadedAt_94 ?_
    obtain ⟨g3, hX⟩ := gin_of hX
    refine r_iald (ci := 10) (o := 100) (k := 37) (n := 4608) X hS (hN) rfl rfl g3 dX10_threadedAt_95 ?_
    refine lv_topi (fun v4 ev4 => ?_)
    have hX := nm_of ev4 hX
    refine lv_istore (lv' := [(4, .int v4), (2, .int v2), (0, .ref (ad 100 0)), (1, .int a1), (3, .int v_3), (5, .int v_5), (6, .int v_6)]) hx hb dX10_threadedAt_96 hl (by decide) rfl (fun ls hl => ?_)
    refine lv_iload hx hb dX10_threadedAt_98 (lv_at hl 6 rfl) ?_
    refine lv_istore_n (lv' := [(3, .int v_6), (4, .int v4), (2, .int v2), (0, .ref (ad 100 0)), (1, .int a1), (5, .int v_5), (6, .int v_6)]) hx hb dX10_threadedAt_100 rfl hl (by decide) rfl (fun ls hl => ?_)
    obtain ⟨v5, ev5⟩ : ∃ y : Int32, y = (v_5 + nI 1) := ⟨_, rfl⟩
    have hX := nm_of ev5 hX
    refine lv_iinc (v := v5) (lv' := [(5, .int v5), (3, .int v_6), (4, .int v4), (2, .int v2), (0, .ref (ad 100 0)), (1, .int a1), (6, .int v_6)]) hx hb dX10_threadedAt_101 hl (k := 5) rfl (by rw [ev5]; rfl) (by decide) rfl (fun ls hl => ?_)
    refine lv_goto (tgt := 13) hx hb dX10_threadedAt_104 (by decide) ?_
    exact hk_13 _ _ _ _ _ hX _ _ _ (lv_sub hl [4, 5, 3, 1, 2, 0] rfl) hS
  · have hX := if_f c1 hX
    exact hk_71 _ _ hX _ _ _ (lv_sub hl [0, 1, 2, 3, 4, 5, 6] rfl) hS
set_option maxRecDepth 100000 in
set_option maxHeartbeats 4000000 in
theorem n_X10_threadedAt_71 {a1 : Int32} {v_2 : Int32} {v_3 : Int32} {v_4 : Int32} {v_5 : Int32} (X : Cx p s m args meth c D cy ad A RX10 cX10_threadedAt 7 ((some .int))) (hN : Ob ns 10 100) {M : Mem} {k_22 : Int32 → Option (Int32)} {v_6 : Int32} {r : Int32} (hX : f_X10_threadedAt_71 M a1 v_2 v_3 v_4 v_5 k_22 v_6 = some r) : (∀ (v_6 : Int32) (r : Int32), k_22 v_6 = some r → ∀ (ls : Array Slot) (H : Heap) (locs : List Loc), lv_has ls 7 [(0, .ref (ad 100 0)), (1, .int a1), (2, .int v_2), (3, .int v_3), (4, .int v_4), (5, .int v_5), (6, .int v_6)] → St D cy ad ns A M s.heap H locs → W p l e rm_X10_threadedAt s m args below meth c H locs 0 0 (MQ below (QC D cy ad ns A M (some (.int r))) args s 0 0 A) (F0 m 22 ls [])) → ∀ (ls : Array Slot) (H : Heap) (locs : List Loc), lv_has ls 7 [(0, .ref (ad 100 0)), (1, .int a1), (2, .int v_2), (3, .int v_3), (4, .int v_4), (5, .int v_5), (6, .int v_6)] → St D cy ad ns A M s.heap H locs → W p l e rm_X10_threadedAt s m args below meth c H locs 0 0 (MQ below (QC D cy ad ns A M (some (.int r))) args s 0 0 A) (F0 m 71 ls []) := by
  obtain ⟨hx, hb, hml, hown, hts, hK, hr, hlk, hA, hG⟩ := id X
  intro hk_22 ls H locs hl hS
  unfold f_X10_threadedAt_71 at hX
  obtain ⟨v6, ev6⟩ : ∃ y : Int32, y = (v_6 + nI 1) := ⟨_, rfl⟩
  have hX := nm_of ev6 hX
  refine lv_iinc (v := v6) (lv' := [(6, .int v6), (0, .ref (ad 100 0)), (1, .int a1), (2, .int v_2), (3, .int v_3), (4, .int v_4), (5, .int v_5)]) hx hb dX10_threadedAt_71 hl (k := 6) rfl (by rw [ev6]; rfl) (by decide) rfl (fun ls hl => ?_)
  refine lv_goto (tgt := 22) hx hb dX10_threadedAt_74 (by decide) ?_
  exact hk_22 _ _ hX _ _ _ (lv_sub hl [1, 2, 3, 4, 5, 6, 0] rfl) hS
set_option maxRecDepth 100000 in
set_option maxHeartbeats 4000000 in
theorem n_X10_threadedAt_22 {a1 : Int32} (X : Cx p s m args meth c D cy ad A RX10 cX10_threadedAt 7 ((some .int))) (hN : Ob ns 10 100) {M : Mem} {k_13 : Int32 → Int32 → Int32 → Int32 → Option (Int32)} {v_2 : Int32} {v_3 : Int32} {v_4 : Int32} {v_5 : Int32} : ∀ (n : Nat) (v_6 : Int32) (r : Int32), f_X10_threadedAt_22 M a1 k_13 v_2 v_3 v_4 v_5 n v_6 = some r → (∀ (v_2 : Int32) (v_3 : Int32) (v_4 : Int32) (v_5 : Int32) (r : Int32), k_13 v_2 v_3 v_4 v_5 = some r → ∀ (ls : Array Slot) (H : Heap) (locs : List Loc), lv_has ls 7 [(0, .ref (ad 100 0)), (1, .int a1), (2, .int v_2), (3, .int v_3), (4, .int v_4), (5, .int v_5)] → St D cy ad ns A M s.heap H locs → W p l e rm_X10_threadedAt s m args below meth c H locs 0 0 (MQ below (QC D cy ad ns A M (some (.int r))) args s 0 0 A) (F0 m 13 ls [])) → ∀ (ls : Array Slot) (H : Heap) (locs : List Loc), lv_has ls 7 [(0, .ref (ad 100 0)), (1, .int a1), (2, .int v_2), (3, .int v_3), (4, .int v_4), (5, .int v_5), (6, .int v_6)] → St D cy ad ns A M s.heap H locs → W p l e rm_X10_threadedAt s m args below meth c H locs 0 0 (MQ below (QC D cy ad ns A M (some (.int r))) args s 0 0 A) (F0 m 22 ls []) := by
  obtain ⟨hx, hb, hml, hown, hts, hK, hr, hlk, hA, hG⟩ := id X
  intro n
  induction n with
  | zero => intro v_6 r hX; cases (show (none : Option (Int32)) = some r from hX)
  | succ n ih =>
    intro v_6 r hX hk_13 ls H locs hl hS
    have hX : b_X10_threadedAt_22 M a1 k_13 v_2 v_3 v_4 v_5 (fun x0 => f_X10_threadedAt_22 M a1 k_13 v_2 v_3 v_4 v_5 n x0) v_6 = some r := hX
    unfold b_X10_threadedAt_22 at hX
    refine lv_aload_n hx hb dX10_threadedAt_22 rfl (lv_at hl 0 rfl) ?_
    refine lv_iload_n hx hb dX10_threadedAt_23 rfl (lv_at hl 2 rfl) ?_
    refine lv_iload hx hb dX10_threadedAt_24 (lv_at hl 6 rfl) ?_
    obtain ⟨r8, h7, hX⟩ := bn_of hX
    refine r_callV1 (v := .int (b2i r8)) (As := [.int v_2, .int v_6]) (rest := []) X hS (m_X10_mayNext hN h7) mv_X10_mayNext rfl (hN) t7_79 ⟨rfl, rfl, Nat.le_of_ble_eq_true rfl, Nat.le_of_ble_eq_true rfl⟩ rfl hl.1 rfl (Nat.le_of_ble_eq_true rfl) ⟨Nat.zero_le _, Nat.zero_le _⟩ dX10_threadedAt_26 (fun H locs hS => ?_)
    refine lv_if_eq (tgt := 71) hx hb dX10_threadedAt_29 (by decide) (fun c9 => ?_) (fun c9 => ?_)
    · have hX := if_bf c9 hX
      exact n_X10_threadedAt_71 X hN hX (fun z0 r h ls H locs hl hS => ih z0 r h hk_13 ls H locs hl hS) _ _ _ (lv_sub hl [0, 1, 2, 3, 4, 5, 6] rfl) hS
    · have hX := if_bt c9 hX
      refine lv_aload_n hx hb dX10_threadedAt_32 rfl (lv_at hl 0 rfl) ?_
      refine fg_X10_57 X hS (hN) dX10_threadedAt_33 ?_
      refine lv_bipush (v := nI 9) hx hb dX10_threadedAt_36 (by decide) ?_
      refine lv_iload_n hx hb dX10_threadedAt_38 rfl (lv_at hl 2 rfl) ?_
      refine lv_iconst (v := nI 1) hx hb dX10_threadedAt_39 (by decide) ?_
      refine lv_iload hx hb dX10_threadedAt_40 (lv_at hl 6 rfl) ?_
      refine lv_ishl hx hb dX10_threadedAt_42 ?_
      refine lv_ior hx hb dX10_threadedAt_43 ?_
      refine lv_imul hx hb dX10_threadedAt_44 ?_
      refine lv_iload hx hb dX10_threadedAt_45 (lv_at hl 6 rfl) ?_
      refine lv_iadd hx hb dX10_threadedAt_47 ?_
      obtain ⟨g10, hX⟩ := gin_of hX
      refine r_iald (ci := 10) (o := 100) (k := 37) (n := 4608) X hS (hN) rfl rfl g10 dX10_threadedAt_48 ?_
      refine lv_iload_n hx hb dX10_threadedAt_49 rfl (lv_at hl 3 rfl) ?_
      refine lv_iconst (v := (-1)) hx hb dX10_threadedAt_50 (by decide) ?_
      refine lv_icmp_ne (tgt := 58) hx hb dX10_threadedAt_51 (by decide) (fun c11 => ?_) (fun c11 => ?_)
      · have hX := if_f c11 hX
        refine lv_aload_n hx hb dX10_threadedAt_58 rfl (lv_at hl 0 rfl) ?_
        refine lv_iload_n hx hb dX10_threadedAt_59 rfl (lv_at hl 3 rfl) ?_
        refine lv_iload hx hb dX10_threadedAt_60 (lv_at hl 6 rfl) ?_
        obtain ⟨r13, h12, hX⟩ := bn_of hX
        refine r_callV1 (v := .int r13) (As := [.int v_3, .int v_6]) (rest := [.int (gA M 100 37 (ix (((nI 9) * (v_2 ||| ((nI 1) <<< (v_6 &&& 31)))) + v_6)))]) X hS (m_X10_change hN h12) mv_X10_change rfl (hN) t7_127 ⟨rfl, rfl, Nat.le_of_ble_eq_true rfl, Nat.le_of_ble_eq_true rfl⟩ rfl hl.1 rfl (Nat.le_of_ble_eq_true rfl) ⟨Nat.zero_le _, Nat.zero_le _⟩ dX10_threadedAt_62 (fun H locs hS => ?_)
        exact n_X10_threadedAt_65 X hN hX hk_13 (fun z0 r h ls H locs hl hS => n_X10_threadedAt_71 X hN h (fun z0 r h ls H locs hl hS => ih z0 r h hk_13 ls H locs hl hS) _ _ _ hl hS) _ _ _ (lv_sub hl [0, 1, 2, 3, 4, 5, 6] rfl) hS
      · have hX := if_t c11 hX
        refine lv_iconst (v := nI 0) hx hb dX10_threadedAt_54 (by decide) ?_
        refine lv_goto (tgt := 65) hx hb dX10_threadedAt_55 (by decide) ?_
        exact n_X10_threadedAt_65 X hN hX hk_13 (fun z0 r h ls H locs hl hS => n_X10_threadedAt_71 X hN h (fun z0 r h ls H locs hl hS => ih z0 r h hk_13 ls H locs hl hS) _ _ _ hl hS) _ _ _ (lv_sub hl [0, 1, 2, 3, 4, 5, 6] rfl) hS
set_option maxRecDepth 100000 in
set_option maxHeartbeats 4000000 in
theorem n_X10_threadedAt_13 {a1 : Int32} (X : Cx p s m args meth c D cy ad A RX10 cX10_threadedAt 7 ((some .int))) (hN : Ob ns 10 100) {M : Mem} : ∀ (n : Nat) (v_2 : Int32) (v_3 : Int32) (v_4 : Int32) (v_5 : Int32) (r : Int32), f_X10_threadedAt_13 M a1 n (v_2, v_3, v_4, v_5) = some r → ∀ (ls : Array Slot) (H : Heap) (locs : List Loc), lv_has ls 7 [(0, .ref (ad 100 0)), (1, .int a1), (2, .int v_2), (3, .int v_3), (4, .int v_4), (5, .int v_5)] → St D cy ad ns A M s.heap H locs → W p l e rm_X10_threadedAt s m args below meth c H locs 0 0 (MQ below (QC D cy ad ns A M (some (.int r))) args s 0 0 A) (F0 m 13 ls []) := by
  obtain ⟨hx, hb, hml, hown, hts, hK, hr, hlk, hA, hG⟩ := id X
  intro n
  induction n with
  | zero => intro v_2 v_3 v_4 v_5 r hX; cases (show (none : Option (Int32)) = some r from hX)
  | succ n ih =>
    intro v_2 v_3 v_4 v_5 r hX ls H locs hl hS
    have hX : b_X10_threadedAt_13 M a1 (fun x0 x1 x2 x3 => f_X10_threadedAt_13 M a1 n (x0, x1, x2, x3)) v_2 v_3 v_4 v_5 = some r := hX
    unfold b_X10_threadedAt_13 at hX
    refine lv_iload hx hb dX10_threadedAt_13 (lv_at hl 5 rfl) ?_
    refine lv_iload_n hx hb dX10_threadedAt_15 rfl (lv_at hl 1 rfl) ?_
    refine lv_icmp_gt (tgt := 107) hx hb dX10_threadedAt_16 (by decide) (fun c14 => ?_) (fun c14 => ?_)
    · have hX := if_t c14 hX
      refine lv_iload_n hx hb dX10_threadedAt_107 rfl (lv_at hl 3 rfl) ?_
      obtain rfl := some_of hX
      exact x_I (v := v_3) X hS dX10_threadedAt_108
    · have hX := if_f c14 hX
      refine lv_iconst (v := nI 0) hx hb dX10_threadedAt_19 (by decide) ?_
      refine lv_istore (lv' := [(6, .int (nI 0)), (0, .ref (ad 100 0)), (1, .int a1), (2, .int v_2), (3, .int v_3), (4, .int v_4), (5, .int v_5)]) hx hb dX10_threadedAt_20 hl (by decide) rfl (fun ls hl => ?_)
      exact n_X10_threadedAt_22 X hN _ _ _ hX (fun z0 z1 z2 z3 r h ls H locs hl hS => ih z0 z1 z2 z3 r h ls H locs hl hS) _ _ _ (lv_sub hl [1, 2, 3, 4, 5, 6, 0] rfl) hS
set_option maxRecDepth 100000 in
set_option maxHeartbeats 4000000 in
theorem m_X10_threadedAt {l : Launch} {D : va_G} {cy : Nat → ClassId} {ad : Nat → Nat → Nat} {ns : List (Nat × Nat)} {A : Nat → Prop} {M : Mem} (hN : Ob ns 10 100) {a1 : Int32} {r : Int32} (hX : f_X10_threadedAt M a1 = some r) : Ct l yX10_threadedAt cX10_threadedAt 7 ((some .int)) rm_X10_threadedAt D cy ad ns A [.ref (ad 100 0), .int a1] M M (some (.int r)) := by
  refine ct_of (lv := [(0, .ref (ad 100 0)), (1, .int a1)]) (by decide) (Nat.le_of_ble_eq_true rfl) rfl ?_
  intro p e s m args below meth c ls X hl hS
  obtain ⟨hx, hb, hml, hown, hts, hK, hr, hlk, hA, hG⟩ := id X
  obtain ⟨H, hH⟩ : ∃ z, z = s.heap := ⟨_, rfl⟩
  obtain ⟨locs, hlo⟩ : ∃ z : List Loc, z = [] := ⟨_, rfl⟩
  have hS : St D cy ad ns A M s.heap H locs := by rw [hH, hlo]; exact hS
  have hgoal : W p l e rm_X10_threadedAt s m args below meth c H locs 0 0 (MQ below (QC D cy ad ns A M (some (.int r))) args s 0 0 A) (F0 m 0 ls []) := by
    unfold f_X10_threadedAt at hX
    refine lv_iconst (v := nI 0) hx hb dX10_threadedAt_0 (by decide) ?_
    refine lv_istore_n (lv' := [(2, .int (nI 0)), (0, .ref (ad 100 0)), (1, .int a1)]) hx hb dX10_threadedAt_1 rfl hl (by decide) rfl (fun ls hl => ?_)
    refine lv_iconst (v := (-1)) hx hb dX10_threadedAt_2 (by decide) ?_
    refine lv_istore_n (lv' := [(3, .int (-1)), (2, .int (nI 0)), (0, .ref (ad 100 0)), (1, .int a1)]) hx hb dX10_threadedAt_3 rfl hl (by decide) rfl (fun ls hl => ?_)
    refine lv_aload_n hx hb dX10_threadedAt_4 rfl (lv_at hl 2 rfl) ?_
    obtain ⟨r16, h15, hX⟩ := bn_of hX
    refine r_callV1 (v := .int r16) (As := []) (rest := []) X hS (m_X10_threads hN h15) mv_X10_threads rfl (hN) t7_135 ⟨rfl, rfl, Nat.le_of_ble_eq_true rfl, Nat.le_of_ble_eq_true rfl⟩ rfl hl.1 rfl (Nat.le_of_ble_eq_true rfl) ⟨Nat.zero_le _, Nat.zero_le _⟩ dX10_threadedAt_5 (fun H locs hS => ?_)
    refine lv_istore (lv' := [(4, .int r16), (3, .int (-1)), (2, .int (nI 0)), (0, .ref (ad 100 0)), (1, .int a1)]) hx hb dX10_threadedAt_8 hl (by decide) rfl (fun ls hl => ?_)
    refine lv_iconst (v := nI 0) hx hb dX10_threadedAt_10 (by decide) ?_
    refine lv_istore (lv' := [(5, .int (nI 0)), (4, .int r16), (3, .int (-1)), (2, .int (nI 0)), (0, .ref (ad 100 0)), (1, .int a1)]) hx hb dX10_threadedAt_11 hl (by decide) rfl (fun ls hl => ?_)
    exact n_X10_threadedAt_13 X hN _ _ _ _ _ _ hX _ _ _ (lv_sub hl [4, 5, 3, 2, 1, 0] rfl) hS
  rw [hH, hlo] at hgoal
  exact hgoal
theorem mv_X10_threadedAt : Mv yX10_threadedAt RX10 cX10_threadedAt 7 ((some .int)) 1 := ⟨t7_134, t7_133, ts_62, t1_11, ⟨by decide, by decide⟩, by decide +kernel⟩
/-! SewnYearModel.order(III)I -/
def rm_X10_order : Room := { frames := 4, cells := 0, slots := 0, locals := 91 }
def f_X10_order (M : Mem) (a1 : Int32) (a2 : Int32) (a3 : Int32) : Option (Int32 × Mem) :=
  nm (sI M 100 0 (nI 0)) fun M1 => bp (f_X10_hand M1 a1) fun r4 M3 => if r4 = true then (bn (f_X10_isSeam M3 a2) fun r7 => if r7 = true then (bn (f_X10_in a3 (nI 0) (nI 4)) fun r10 => if r10 = true then (bp (f_X10_findOrders M3) fun r14 M13 => if r14 = true then (if a3 = nI 0 then (bn (f_X10_firstAt M13 a2) fun r18 => some (r18, M13)) else if a3 = nI 1 then (bn (f_X10_ahead M13 a2) fun r21 => bn (f_X10_ones r21) fun r23 => some (r23, M13)) else if a3 = nI 2 then (bn (f_X10_behind M13 a2) fun r26 => bn (f_X10_ones r26) fun r28 => some ((((gI M13 100 24) - (nI 1)) - r28), M13)) else if a3 = nI 3 then (bn (f_X10_findLeast M13) fun M31 => bn (f_X10_leastAt M31 a2) fun r33 => some (r33, M31)) else (bn (f_X10_findChanges M13) fun M35 => bn (f_X10_threadedAt M35 a2) fun r37 => some (r37, M35))) else (some ((-1), M13))) else (some ((-1), M3))) else (some ((-1), M3))) else (some ((-1), M3))
set_option maxRecDepth 100000 in
set_option maxHeartbeats 4000000 in
theorem m_X10_order {l : Launch} {D : va_G} {cy : Nat → ClassId} {ad : Nat → Nat → Nat} {ns : List (Nat × Nat)} {A : Nat → Prop} {M : Mem} (hN : Ob ns 10 100) {a1 : Int32} {a2 : Int32} {a3 : Int32} {r : Int32 × Mem} (hX : f_X10_order M a1 a2 a3 = some r) : Ct l yX10_order cX10_order 4 ((some .int)) rm_X10_order D cy ad ns A [.ref (ad 100 0), .int a1, .int a2, .int a3] M r.2 (some (.int r.1)) := by
  refine ct_of (lv := [(0, .ref (ad 100 0)), (1, .int a1), (2, .int a2), (3, .int a3)]) (by decide) (Nat.le_of_ble_eq_true rfl) rfl ?_
  intro p e s m args below meth c ls X hl hS
  obtain ⟨hx, hb, hml, hown, hts, hK, hr, hlk, hA, hG⟩ := id X
  obtain ⟨H, hH⟩ : ∃ z, z = s.heap := ⟨_, rfl⟩
  obtain ⟨locs, hlo⟩ : ∃ z : List Loc, z = [] := ⟨_, rfl⟩
  have hS : St D cy ad ns A M s.heap H locs := by rw [hH, hlo]; exact hS
  have hgoal : W p l e rm_X10_order s m args below meth c H locs 0 0 (MQ below (QC D cy ad ns A r.2 (some (.int r.1))) args s 0 0 A) (F0 m 0 ls []) := by
    unfold f_X10_order at hX
    refine lv_aload_n hx hb dX10_order_0 rfl (lv_at hl 0 rfl) ?_
    refine lv_iconst (v := nI 0) hx hb dX10_order_1 (by decide) ?_
    refine fp_X10_94 X hS (hN) dX10_order_2 (fun H locs hS => ?_)
    obtain ⟨M1, eM1, hS, hX⟩ := nm_mem hS hX
    refine lv_aload_n hx hb dX10_order_5 rfl (lv_at hl 0 rfl) ?_
    refine lv_iload_n hx hb dX10_order_6 rfl (lv_at hl 1 rfl) ?_
    obtain ⟨r4, M3, h2, hX⟩ := bp_of hX
    refine r_callV1 (v := .int (b2i r4)) (As := [.int a1]) (rest := []) X hS (m_X10_hand hN h2) mv_X10_hand rfl (hN) t6_216 ⟨rfl, rfl, Nat.le_of_ble_eq_true rfl, Nat.le_of_ble_eq_true rfl⟩ rfl hl.1 rfl (Nat.le_of_ble_eq_true rfl) ⟨Nat.zero_le _, Nat.zero_le _⟩ dX10_order_7 (fun H locs hS => ?_)
    refine lv_if_eq (tgt := 37) hx hb dX10_order_10 (by decide) (fun c5 => ?_) (fun c5 => ?_)
    · have hX := if_bf c5 hX
      refine lv_iconst (v := (-1)) hx hb dX10_order_37 (by decide) ?_
      obtain rfl := some_of hX
      exact x_I (v := (-1)) X hS dX10_order_38
    · have hX := if_bt c5 hX
      refine lv_aload_n hx hb dX10_order_13 rfl (lv_at hl 0 rfl) ?_
      refine lv_iload_n hx hb dX10_order_14 rfl (lv_at hl 2 rfl) ?_
      obtain ⟨r7, h6, hX⟩ := bn_of hX
      refine r_callV1 (v := .int (b2i r7)) (As := [.int a2]) (rest := []) X hS (m_X10_isSeam hN h6) mv_X10_isSeam rfl (hN) t6_224 ⟨rfl, rfl, Nat.le_of_ble_eq_true rfl, Nat.le_of_ble_eq_true rfl⟩ rfl hl.1 rfl (Nat.le_of_ble_eq_true rfl) ⟨Nat.zero_le _, Nat.zero_le _⟩ dX10_order_15 (fun H locs hS => ?_)
      refine lv_if_eq (tgt := 37) hx hb dX10_order_18 (by decide) (fun c8 => ?_) (fun c8 => ?_)
      · have hX := if_bf c8 hX
        refine lv_iconst (v := (-1)) hx hb dX10_order_37 (by decide) ?_
        obtain rfl := some_of hX
        exact x_I (v := (-1)) X hS dX10_order_38
      · have hX := if_bt c8 hX
        refine lv_iload_n hx hb dX10_order_21 rfl (lv_at hl 3 rfl) ?_
        refine lv_iconst (v := nI 0) hx hb dX10_order_22 (by decide) ?_
        refine lv_iconst (v := nI 4) hx hb dX10_order_23 (by decide) ?_
        obtain ⟨r10, h9, hX⟩ := bn_of hX
        refine r_callS1 (v := .int (b2i r10)) (As := [.int a3, .int (nI 0), .int (nI 4)]) (rest := []) X hS (m_X10_in (M := M3) hN h9) ms_X10_in t6_81 ⟨rfl, rfl, Nat.le_of_ble_eq_true rfl, Nat.le_of_ble_eq_true rfl⟩ rfl hl.1 rfl (Nat.le_of_ble_eq_true rfl) ⟨Nat.zero_le _, Nat.zero_le _⟩ dX10_order_24 (fun H locs hS => ?_)
        refine lv_if_eq (tgt := 37) hx hb dX10_order_27 (by decide) (fun c11 => ?_) (fun c11 => ?_)
        · have hX := if_bf c11 hX
          refine lv_iconst (v := (-1)) hx hb dX10_order_37 (by decide) ?_
          obtain rfl := some_of hX
          exact x_I (v := (-1)) X hS dX10_order_38
        · have hX := if_bt c11 hX
          refine lv_aload_n hx hb dX10_order_30 rfl (lv_at hl 0 rfl) ?_
          obtain ⟨r14, M13, h12, hX⟩ := bp_of hX
          refine r_callV1 (v := .int (b2i r14)) (As := []) (rest := []) X hS (m_X10_findOrders hN h12) mv_X10_findOrders rfl (hN) t7_75 ⟨rfl, rfl, Nat.le_of_ble_eq_true rfl, Nat.le_of_ble_eq_true rfl⟩ rfl hl.1 rfl (Nat.le_of_ble_eq_true rfl) ⟨Nat.zero_le _, Nat.zero_le _⟩ dX10_order_31 (fun H locs hS => ?_)
          refine lv_if_ne (tgt := 39) hx hb dX10_order_34 (by decide) (fun c15 => ?_) (fun c15 => ?_)
          · have hX := if_bt c15 hX
            refine lv_iload_n hx hb dX10_order_39 rfl (lv_at hl 3 rfl) ?_
            by_cases c16 : a3 = nI 0
            · have hX := if_t c16 hX
              refine r_tabIn c16 (off := 32) (tgt := 72) hx hb dX10_order_40 (by decide) (by decide) (by decide) (by decide) ?_
              refine lv_aload_n hx hb dX10_order_72 rfl (lv_at hl 0 rfl) ?_
              refine lv_iload_n hx hb dX10_order_73 rfl (lv_at hl 2 rfl) ?_
              obtain ⟨r18, h17, hX⟩ := bn_of hX
              refine r_callV1 (v := .int r18) (As := [.int a2]) (rest := []) X hS (m_X10_firstAt hN h17) mv_X10_firstAt rfl (hN) t7_87 ⟨rfl, rfl, Nat.le_of_ble_eq_true rfl, Nat.le_of_ble_eq_true rfl⟩ rfl hl.1 rfl (Nat.le_of_ble_eq_true rfl) ⟨Nat.zero_le _, Nat.zero_le _⟩ dX10_order_74 (fun H locs hS => ?_)
              obtain rfl := some_of hX
              exact x_I (v := r18) X hS dX10_order_77
            have hX := if_f c16 hX
            by_cases c19 : a3 = nI 1
            · have hX := if_t c19 hX
              refine r_tabIn c19 (off := 38) (tgt := 78) hx hb dX10_order_40 (by decide) (by decide) (by decide) (by decide) ?_
              refine lv_aload_n hx hb dX10_order_78 rfl (lv_at hl 0 rfl) ?_
              refine lv_iload_n hx hb dX10_order_79 rfl (lv_at hl 2 rfl) ?_
              obtain ⟨r21, h20, hX⟩ := bn_of hX
              refine r_callV1 (v := .int r21) (As := [.int a2]) (rest := []) X hS (m_X10_ahead hN h20) mv_X10_ahead rfl (hN) t7_91 ⟨rfl, rfl, Nat.le_of_ble_eq_true rfl, Nat.le_of_ble_eq_true rfl⟩ rfl hl.1 rfl (Nat.le_of_ble_eq_true rfl) ⟨Nat.zero_le _, Nat.zero_le _⟩ dX10_order_80 (fun H locs hS => ?_)
              obtain ⟨r23, h22, hX⟩ := bn_of hX
              refine r_callS1 (v := .int r23) (As := [.int r21]) (rest := []) X hS (m_X10_ones (M := M13) hN h22) ms_X10_ones t7_95 ⟨rfl, rfl, Nat.le_of_ble_eq_true rfl, Nat.le_of_ble_eq_true rfl⟩ rfl hl.1 rfl (Nat.le_of_ble_eq_true rfl) ⟨Nat.zero_le _, Nat.zero_le _⟩ dX10_order_83 (fun H locs hS => ?_)
              obtain rfl := some_of hX
              exact x_I (v := r23) X hS dX10_order_86
            have hX := if_f c19 hX
            by_cases c24 : a3 = nI 2
            · have hX := if_t c24 hX
              refine r_tabIn c24 (off := 47) (tgt := 87) hx hb dX10_order_40 (by decide) (by decide) (by decide) (by decide) ?_
              refine lv_aload_n hx hb dX10_order_87 rfl (lv_at hl 0 rfl) ?_
              refine fg_X10_281 X hS (hN) dX10_order_88 ?_
              refine lv_iconst (v := nI 1) hx hb dX10_order_91 (by decide) ?_
              refine lv_isub hx hb dX10_order_92 ?_
              refine lv_aload_n hx hb dX10_order_93 rfl (lv_at hl 0 rfl) ?_
              refine lv_iload_n hx hb dX10_order_94 rfl (lv_at hl 2 rfl) ?_
              obtain ⟨r26, h25, hX⟩ := bn_of hX
              refine r_callV1 (v := .int r26) (As := [.int a2]) (rest := [.int ((gI M13 100 24) - (nI 1))]) X hS (m_X10_behind hN h25) mv_X10_behind rfl (hN) t7_98 ⟨rfl, rfl, Nat.le_of_ble_eq_true rfl, Nat.le_of_ble_eq_true rfl⟩ rfl hl.1 rfl (Nat.le_of_ble_eq_true rfl) ⟨Nat.zero_le _, Nat.zero_le _⟩ dX10_order_95 (fun H locs hS => ?_)
              obtain ⟨r28, h27, hX⟩ := bn_of hX
              refine r_callS1 (v := .int r28) (As := [.int r26]) (rest := [.int ((gI M13 100 24) - (nI 1))]) X hS (m_X10_ones (M := M13) hN h27) ms_X10_ones t7_95 ⟨rfl, rfl, Nat.le_of_ble_eq_true rfl, Nat.le_of_ble_eq_true rfl⟩ rfl hl.1 rfl (Nat.le_of_ble_eq_true rfl) ⟨Nat.zero_le _, Nat.zero_le _⟩ dX10_order_98 (fun H locs hS => ?_)
              refine lv_isub hx hb dX10_order_101 ?_
              obtain rfl := some_of hX
              exact x_I (v := (((gI M13 100 24) - (nI 1)) - r28)) X hS dX10_order_102
            have hX := if_f c24 hX
            by_cases c29 : a3 = nI 3
            · have hX := if_t c29 hX
              refine r_tabIn c29 (off := 63) (tgt := 103) hx hb dX10_order_40 (by decide) (by decide) (by decide) (by decide) ?_
              refine lv_aload_n hx hb dX10_order_103 rfl (lv_at hl 0 rfl) ?_
              obtain ⟨M31, h30, hX⟩ := bn_of hX
              refine r_callV0 (As := []) (rest := []) X hS (m_X10_findLeast hN h30) mv_X10_findLeast rfl (hN) t7_102 ⟨rfl, rfl, Nat.le_of_ble_eq_true rfl, Nat.le_of_ble_eq_true rfl⟩ rfl hl.1 rfl (Nat.le_of_ble_eq_true rfl) ⟨Nat.zero_le _, Nat.zero_le _⟩ dX10_order_104 (fun H locs hS => ?_)
              refine lv_aload_n hx hb dX10_order_107 rfl (lv_at hl 0 rfl) ?_
              refine lv_iload_n hx hb dX10_order_108 rfl (lv_at hl 2 rfl) ?_
              obtain ⟨r33, h32, hX⟩ := bn_of hX
              refine r_callV1 (v := .int r33) (As := [.int a2]) (rest := []) X hS (m_X10_leastAt hN h32) mv_X10_leastAt rfl (hN) t7_119 ⟨rfl, rfl, Nat.le_of_ble_eq_true rfl, Nat.le_of_ble_eq_true rfl⟩ rfl hl.1 rfl (Nat.le_of_ble_eq_true rfl) ⟨Nat.zero_le _, Nat.zero_le _⟩ dX10_order_109 (fun H locs hS => ?_)
              obtain rfl := some_of hX
              exact x_I (v := r33) X hS dX10_order_112
            have hX := if_f c29 hX
            have ic16 : ¬ a3.toInt = 0 := lv_neT c16 rfl
            have ic19 : ¬ a3.toInt = 1 := lv_neT c19 rfl
            have ic24 : ¬ a3.toInt = 2 := lv_neT c24 rfl
            have ic29 : ¬ a3.toInt = 3 := lv_neT c29 rfl
            refine lv_tableOut (tgt := 113) hx hb dX10_order_40 (by omega) (by decide) ?_
            refine lv_aload_n hx hb dX10_order_113 rfl (lv_at hl 0 rfl) ?_
            obtain ⟨M35, h34, hX⟩ := bn_of hX
            refine r_callV0 (As := []) (rest := []) X hS (m_X10_findChanges hN h34) mv_X10_findChanges rfl (hN) t7_123 ⟨rfl, rfl, Nat.le_of_ble_eq_true rfl, Nat.le_of_ble_eq_true rfl⟩ rfl hl.1 rfl (Nat.le_of_ble_eq_true rfl) ⟨Nat.zero_le _, Nat.zero_le _⟩ dX10_order_114 (fun H locs hS => ?_)
            refine lv_aload_n hx hb dX10_order_117 rfl (lv_at hl 0 rfl) ?_
            refine lv_iload_n hx hb dX10_order_118 rfl (lv_at hl 2 rfl) ?_
            obtain ⟨r37, h36, hX⟩ := bn_of hX
            refine r_callV1 (v := .int r37) (As := [.int a2]) (rest := []) X hS (m_X10_threadedAt hN h36) mv_X10_threadedAt rfl (hN) t7_131 ⟨rfl, rfl, Nat.le_of_ble_eq_true rfl, Nat.le_of_ble_eq_true rfl⟩ rfl hl.1 rfl (Nat.le_of_ble_eq_true rfl) ⟨Nat.zero_le _, Nat.zero_le _⟩ dX10_order_119 (fun H locs hS => ?_)
            obtain rfl := some_of hX
            exact x_I (v := r37) X hS dX10_order_122
          · have hX := if_bf c15 hX
            refine lv_iconst (v := (-1)) hx hb dX10_order_37 (by decide) ?_
            obtain rfl := some_of hX
            exact x_I (v := (-1)) X hS dX10_order_38
  rw [hH, hlo] at hgoal
  exact hgoal
theorem mv_X10_order : Mv yX10_order RX10 cX10_order 4 ((some .int)) 3 := ⟨t7_86, t7_84, t7_85, t1_11, ⟨by decide, by decide⟩, by decide +kernel⟩
/-! SewnYearModel.chain(Z)I -/
def rm_X10_chain : Room := { frames := 1, cells := 0, slots := 0, locals := 21 }
def f_X10_chain_92 (a1 : Bool) (v_2 : Bool) (v_3 : Int32) (v_4 : Int32) (k_49 : Int32 → Int32 → Mem → Option (Int32 × Mem)) (v_6 : Int32) (s_0 : Int32) (M : Mem) : Option (Int32 × Mem) :=
  nm (v_6 + nI 1) fun v1 => k_49 s_0 v1 M
def f_X10_chain_138 (a1 : Bool) (v_2 : Bool) (v_3 : Int32) (k_34 : Int32 → Mem → Option (Int32 × Mem)) (v_4 : Int32) (s_1 : Int32) (s_2 : Int32) (s_3 : Int32) (M : Mem) : Option (Int32 × Mem) :=
  gin s_1 9 <| nm (sA M 100 38 (ix s_1) (s_2 + s_3)) fun M3 => nm (v_4 + nI 1) fun v4 => k_34 v4 M3
def b_X10_chain_49 (a1 : Bool) (v_2 : Bool) (v_3 : Int32) (k_34 : Int32 → Mem → Option (Int32 × Mem)) (v_4 : Int32) (rc : Int32 → Int32 → Mem → Option (Int32 × Mem)) (v_5 : Int32) (v_6 : Int32) (M : Mem) : Option (Int32 × Mem) :=
  if (gI M 100 24) ≤ v_6 then (if a1 = true then (bn (f_X10_of M ((nI 2) + v_4)) fun r10 => bn (f_X10_upwards r10 (gI M 100 25)) fun r12 => f_X10_chain_138 a1 v_2 v_3 k_34 v_4 v_4 v_5 r12 M) else (bn (f_X10_of M ((nI 2) + v_4)) fun r8 => f_X10_chain_138 a1 v_2 v_3 k_34 v_4 v_4 v_5 r8 M)) else (bn (f_X10_of M ((nI 29) + v_4)) fun r14 => bn (f_X10_has r14 v_6) fun r16 => if r16 = true then (gin v_6 9 <| bn (f_X10_greater v_5 (gA M 100 38 (ix v_6))) fun r20 => f_X10_chain_92 a1 v_2 v_3 v_4 rc v_6 r20 M) else (f_X10_chain_92 a1 v_2 v_3 v_4 rc v_6 v_5 M))
def f_X10_chain_49 (a1 : Bool) (v_2 : Bool) (v_3 : Int32) (k_34 : Int32 → Mem → Option (Int32 × Mem)) (v_4 : Int32) : Nat → (Int32 × Int32 × Mem) → Option (Int32 × Mem) := lp (fun rc q => b_X10_chain_49 a1 v_2 v_3 k_34 v_4 (fun x0 x1 x2 => rc (x0, x1, x2)) q.1 q.2.1 q.2.2)
def b_X10_chain_34 (a1 : Bool) (v_2 : Bool) (k_25 : Int32 → Mem → Option (Int32 × Mem)) (v_3 : Int32) (rc : Int32 → Mem → Option (Int32 × Mem)) (v_4 : Int32) (M : Mem) : Option (Int32 × Mem) :=
  if (gI M 100 24) ≤ v_4 then (nm (v_3 + nI 1) fun v22 => k_25 v22 M) else (f_X10_chain_49 a1 v_2 v_3 rc v_4 FU ((nI 0), (nI 0), M))
def f_X10_chain_34 (a1 : Bool) (v_2 : Bool) (k_25 : Int32 → Mem → Option (Int32 × Mem)) (v_3 : Int32) : Nat → (Int32 × Mem) → Option (Int32 × Mem) := lp (fun rc q => b_X10_chain_34 a1 v_2 k_25 v_3 (fun x0 x1 => rc (x0, x1)) q.1 q.2)
def b_X10_chain_154 (a1 : Bool) (rc : Int32 → Int32 → Mem → Option (Int32 × Mem)) (v_2 : Int32) (v_3 : Int32) (M : Mem) : Option (Int32 × Mem) :=
  if (gI M 100 24) ≤ v_3 then (some (v_2, M)) else (gin v_3 9 <| bn (f_X10_greater v_2 (gA M 100 38 (ix v_3))) fun r26 => nm (v_3 + nI 1) fun v27 => rc r26 v27 M)
def f_X10_chain_154 (a1 : Bool) : Nat → (Int32 × Int32 × Mem) → Option (Int32 × Mem) := lp (fun rc q => b_X10_chain_154 a1 (fun x0 x1 x2 => rc (x0, x1, x2)) q.1 q.2.1 q.2.2)
def b_X10_chain_25 (a1 : Bool) (v_2 : Bool) (rc : Int32 → Mem → Option (Int32 × Mem)) (v_3 : Int32) (M : Mem) : Option (Int32 × Mem) :=
  if (nI 9) ≤ v_3 then (f_X10_chain_154 a1 FU ((b2i v_2), (nI 0), M)) else (f_X10_chain_34 a1 v_2 rc v_3 FU ((nI 0), M))
def f_X10_chain_25 (a1 : Bool) (v_2 : Bool) : Nat → (Int32 × Mem) → Option (Int32 × Mem) := lp (fun rc q => b_X10_chain_25 a1 v_2 (fun x0 x1 => rc (x0, x1)) q.1 q.2)
def b_X10_chain_2 (a1 : Bool) (rc : Int32 → Mem → Option (Int32 × Mem)) (v_2 : Int32) (M : Mem) : Option (Int32 × Mem) :=
  if (nI 9) ≤ v_2 then (f_X10_chain_25 a1 false FU ((nI 0), M)) else (gin v_2 9 <| nm (sA M 100 38 (ix v_2) (nI 0)) fun M31 => nm (v_2 + nI 1) fun v32 => rc v32 M31)
def f_X10_chain_2 (a1 : Bool) : Nat → (Int32 × Mem) → Option (Int32 × Mem) := lp (fun rc q => b_X10_chain_2 a1 (fun x0 x1 => rc (x0, x1)) q.1 q.2)
def f_X10_chain (M : Mem) (a1 : Bool) : Option (Int32 × Mem) :=
  f_X10_chain_2 a1 FU ((nI 0), M)
set_option maxRecDepth 100000 in
set_option maxHeartbeats 4000000 in
theorem n_X10_chain_92 {a1 : Bool} {v_2 : Bool} {v_3 : Int32} {v_4 : Int32} (X : Cx p s m args meth c D cy ad A RX10 cX10_chain 7 ((some .int))) (hN : Ob ns 10 100) {k_49 : Int32 → Int32 → Mem → Option (Int32 × Mem)} {v_6 : Int32} {s_0 : Int32} {M : Mem} {r : Int32 × Mem} (hX : f_X10_chain_92 a1 v_2 v_3 v_4 k_49 v_6 s_0 M = some r) : (∀ (v_5 : Int32) (v_6 : Int32) (M : Mem) (r : Int32 × Mem), k_49 v_5 v_6 M = some r → ∀ (ls : Array Slot) (H : Heap) (locs : List Loc), lv_has ls 7 [(0, .ref (ad 100 0)), (1, .int (b2i a1)), (2, .int (b2i v_2)), (3, .int v_3), (4, .int v_4), (5, .int v_5), (6, .int v_6)] → St D cy ad ns A M s.heap H locs → W p l e rm_X10_chain s m args below meth c H locs 0 0 (MQ below (QC D cy ad ns A r.2 (some (.int r.1))) args s 0 0 A) (F0 m 49 ls [])) → ∀ (ls : Array Slot) (H : Heap) (locs : List Loc), lv_has ls 7 [(0, .ref (ad 100 0)), (1, .int (b2i a1)), (2, .int (b2i v_2)), (3, .int v_3), (4, .int v_4), (6, .int v_6)] → St D cy ad ns A M s.heap H locs → W p l e rm_X10_chain s m args below meth c H locs 0 0 (MQ below (QC D cy ad ns A r.2 (some (.int r.1))) args s 0 0 A) (F0 m 92 ls [.int s_0]) := by
  obtain ⟨hx, hb, hml, hown, hts, hK, hr, hlk, hA, hG⟩ := id X
  intro hk_49 ls H locs hl hS
  unfold f_X10_chain_92 at hX
  refine lv_istore (lv' := [(5, .int s_0), (0, .ref (ad 100 0)), (1, .int (b2i a1)), (2, .int (b2i v_2)), (3, .int v_3), (4, .int v_4), (6, .int v_6)]) hx hb dX10_chain_92 hl (by decide) rfl (fun ls hl => ?_)
  obtain ⟨v1, ev1⟩ : ∃ y : Int32, y = (v_6 + nI 1) := ⟨_, rfl⟩
  have hX := nm_of ev1 hX
  refine lv_iinc (v := v1) (lv' := [(6, .int v1), (5, .int s_0), (0, .ref (ad 100 0)), (1, .int (b2i a1)), (2, .int (b2i v_2)), (3, .int v_3), (4, .int v_4)]) hx hb dX10_chain_94 hl (k := 6) rfl (by rw [ev1]; rfl) (by decide) rfl (fun ls hl => ?_)
  refine lv_goto (tgt := 49) hx hb dX10_chain_97 (by decide) ?_
  exact hk_49 _ _ _ _ hX _ _ _ (lv_sub hl [2, 3, 4, 5, 6, 1, 0] rfl) hS
set_option maxRecDepth 100000 in
set_option maxHeartbeats 4000000 in
theorem n_X10_chain_138 {a1 : Bool} {v_2 : Bool} {v_3 : Int32} (X : Cx p s m args meth c D cy ad A RX10 cX10_chain 7 ((some .int))) (hN : Ob ns 10 100) {k_34 : Int32 → Mem → Option (Int32 × Mem)} {v_4 : Int32} {s_1 : Int32} {s_2 : Int32} {s_3 : Int32} {M : Mem} {r : Int32 × Mem} (hX : f_X10_chain_138 a1 v_2 v_3 k_34 v_4 s_1 s_2 s_3 M = some r) : (∀ (v_4 : Int32) (M : Mem) (r : Int32 × Mem), k_34 v_4 M = some r → ∀ (ls : Array Slot) (H : Heap) (locs : List Loc), lv_has ls 7 [(0, .ref (ad 100 0)), (1, .int (b2i a1)), (2, .int (b2i v_2)), (3, .int v_3), (4, .int v_4)] → St D cy ad ns A M s.heap H locs → W p l e rm_X10_chain s m args below meth c H locs 0 0 (MQ below (QC D cy ad ns A r.2 (some (.int r.1))) args s 0 0 A) (F0 m 34 ls [])) → ∀ (ls : Array Slot) (H : Heap) (locs : List Loc), lv_has ls 7 [(0, .ref (ad 100 0)), (1, .int (b2i a1)), (2, .int (b2i v_2)), (3, .int v_3), (4, .int v_4)] → St D cy ad ns A M s.heap H locs → W p l e rm_X10_chain s m args below meth c H locs 0 0 (MQ below (QC D cy ad ns A r.2 (some (.int r.1))) args s 0 0 A) (F0 m 138 ls [.int s_3, .int s_2, .int s_1, .ref (ad 100 (38 + 1))]) := by
  obtain ⟨hx, hb, hml, hown, hts, hK, hr, hlk, hA, hG⟩ := id X
  intro hk_34 ls H locs hl hS
  unfold f_X10_chain_138 at hX
  refine lv_iadd hx hb dX10_chain_138 ?_
  obtain ⟨g2, hX⟩ := gin_of hX
  refine r_iast (ci := 10) (o := 100) (k := 38) (n := 9) X hS (hN) rfl rfl g2 dX10_chain_139 (fun H locs hS => ?_)
  obtain ⟨M3, eM3, hS, hX⟩ := nm_mem hS hX
  obtain ⟨v4, ev4⟩ : ∃ y : Int32, y = (v_4 + nI 1) := ⟨_, rfl⟩
  have hX := nm_of ev4 hX
  refine lv_iinc (v := v4) (lv' := [(4, .int v4), (0, .ref (ad 100 0)), (1, .int (b2i a1)), (2, .int (b2i v_2)), (3, .int v_3)]) hx hb dX10_chain_140 hl (k := 4) rfl (by rw [ev4]; rfl) (by decide) rfl (fun ls hl => ?_)
  refine lv_goto (tgt := 34) hx hb dX10_chain_143 (by decide) ?_
  exact hk_34 _ _ _ hX _ _ _ (lv_sub hl [1, 2, 3, 4, 0] rfl) hS
set_option maxRecDepth 100000 in
set_option maxHeartbeats 4000000 in
theorem n_X10_chain_49 {a1 : Bool} {v_2 : Bool} {v_3 : Int32} (X : Cx p s m args meth c D cy ad A RX10 cX10_chain 7 ((some .int))) (hN : Ob ns 10 100) {k_34 : Int32 → Mem → Option (Int32 × Mem)} {v_4 : Int32} : ∀ (n : Nat) (v_5 : Int32) (v_6 : Int32) (M : Mem) (r : Int32 × Mem), f_X10_chain_49 a1 v_2 v_3 k_34 v_4 n (v_5, v_6, M) = some r → (∀ (v_4 : Int32) (M : Mem) (r : Int32 × Mem), k_34 v_4 M = some r → ∀ (ls : Array Slot) (H : Heap) (locs : List Loc), lv_has ls 7 [(0, .ref (ad 100 0)), (1, .int (b2i a1)), (2, .int (b2i v_2)), (3, .int v_3), (4, .int v_4)] → St D cy ad ns A M s.heap H locs → W p l e rm_X10_chain s m args below meth c H locs 0 0 (MQ below (QC D cy ad ns A r.2 (some (.int r.1))) args s 0 0 A) (F0 m 34 ls [])) → ∀ (ls : Array Slot) (H : Heap) (locs : List Loc), lv_has ls 7 [(0, .ref (ad 100 0)), (1, .int (b2i a1)), (2, .int (b2i v_2)), (3, .int v_3), (4, .int v_4), (5, .int v_5), (6, .int v_6)] → St D cy ad ns A M s.heap H locs → W p l e rm_X10_chain s m args below meth c H locs 0 0 (MQ below (QC D cy ad ns A r.2 (some (.int r.1))) args s 0 0 A) (F0 m 49 ls []) := by
  obtain ⟨hx, hb, hml, hown, hts, hK, hr, hlk, hA, hG⟩ := id X
  intro n
  induction n with
  | zero => intro v_5 v_6 M r hX; cases (show (none : Option (Int32 × Mem)) = some r from hX)
  | succ n ih =>
    intro v_5 v_6 M r hX hk_34 ls H locs hl hS
    have hX : b_X10_chain_49 a1 v_2 v_3 k_34 v_4 (fun x0 x1 x2 => f_X10_chain_49 a1 v_2 v_3 k_34 v_4 n (x0, x1, x2)) v_5 v_6 M = some r := hX
    unfold b_X10_chain_49 at hX
    refine lv_iload hx hb dX10_chain_49 (lv_at hl 6 rfl) ?_
    refine lv_aload_n hx hb dX10_chain_51 rfl (lv_at hl 0 rfl) ?_
    refine fg_X10_281 X hS (hN) dX10_chain_52 ?_
    refine lv_icmp_ge (tgt := 100) hx hb dX10_chain_55 (by decide) (fun c5 => ?_) (fun c5 => ?_)
    · have hX := if_t c5 hX
      refine lv_aload_n hx hb dX10_chain_100 rfl (lv_at hl 0 rfl) ?_
      refine fg_X10_60 X hS (hN) dX10_chain_101 ?_
      refine lv_iload hx hb dX10_chain_104 (lv_at hl 4 rfl) ?_
      refine lv_iload hx hb dX10_chain_106 (lv_at hl 5 rfl) ?_
      refine lv_iload_n hx hb dX10_chain_108 rfl (lv_at hl 1 rfl) ?_
      refine lv_if_eq (tgt := 130) hx hb dX10_chain_109 (by decide) (fun c6 => ?_) (fun c6 => ?_)
      · have hX := if_bf c6 hX
        refine lv_aload_n hx hb dX10_chain_130 rfl (lv_at hl 0 rfl) ?_
        refine lv_iconst (v := nI 2) hx hb dX10_chain_131 (by decide) ?_
        refine lv_iload hx hb dX10_chain_132 (lv_at hl 4 rfl) ?_
        refine lv_iadd hx hb dX10_chain_134 ?_
        obtain ⟨r8, h7, hX⟩ := bn_of hX
        refine r_callV1 (v := .int r8) (As := [.int ((nI 2) + v_4)]) (rest := [.int v_5, .int v_4, .ref (ad 100 (38 + 1))]) X hS (m_X10_of hN h7) mv_X10_of rfl (hN) t6_220 ⟨rfl, rfl, Nat.le_of_ble_eq_true rfl, Nat.le_of_ble_eq_true rfl⟩ rfl hl.1 rfl (Nat.le_of_ble_eq_true rfl) ⟨Nat.zero_le _, Nat.zero_le _⟩ dX10_chain_135 (fun H locs hS => ?_)
        exact n_X10_chain_138 X hN hX hk_34 _ _ _ (lv_sub hl [0, 1, 2, 3, 4] rfl) hS
      · have hX := if_bt c6 hX
        refine lv_aload_n hx hb dX10_chain_112 rfl (lv_at hl 0 rfl) ?_
        refine lv_iconst (v := nI 2) hx hb dX10_chain_113 (by decide) ?_
        refine lv_iload hx hb dX10_chain_114 (lv_at hl 4 rfl) ?_
        refine lv_iadd hx hb dX10_chain_116 ?_
        obtain ⟨r10, h9, hX⟩ := bn_of hX
        refine r_callV1 (v := .int r10) (As := [.int ((nI 2) + v_4)]) (rest := [.int v_5, .int v_4, .ref (ad 100 (38 + 1))]) X hS (m_X10_of hN h9) mv_X10_of rfl (hN) t6_220 ⟨rfl, rfl, Nat.le_of_ble_eq_true rfl, Nat.le_of_ble_eq_true rfl⟩ rfl hl.1 rfl (Nat.le_of_ble_eq_true rfl) ⟨Nat.zero_le _, Nat.zero_le _⟩ dX10_chain_117 (fun H locs hS => ?_)
        refine lv_aload_n hx hb dX10_chain_120 rfl (lv_at hl 0 rfl) ?_
        refine fg_X10_284 X hS (hN) dX10_chain_121 ?_
        obtain ⟨r12, h11, hX⟩ := bn_of hX
        refine r_callS1 (v := .int r12) (As := [.int r10, .int (gI M 100 25)]) (rest := [.int v_5, .int v_4, .ref (ad 100 (38 + 1))]) X hS (m_X10_upwards (M := M) hN h11) ms_X10_upwards t7_147 ⟨rfl, rfl, Nat.le_of_ble_eq_true rfl, Nat.le_of_ble_eq_true rfl⟩ rfl hl.1 rfl (Nat.le_of_ble_eq_true rfl) ⟨Nat.zero_le _, Nat.zero_le _⟩ dX10_chain_124 (fun H locs hS => ?_)
        refine lv_goto (tgt := 138) hx hb dX10_chain_127 (by decide) ?_
        exact n_X10_chain_138 X hN hX hk_34 _ _ _ (lv_sub hl [0, 1, 2, 3, 4] rfl) hS
    · have hX := if_f c5 hX
      refine lv_aload_n hx hb dX10_chain_58 rfl (lv_at hl 0 rfl) ?_
      refine lv_bipush (v := nI 29) hx hb dX10_chain_59 (by decide) ?_
      refine lv_iload hx hb dX10_chain_61 (lv_at hl 4 rfl) ?_
      refine lv_iadd hx hb dX10_chain_63 ?_
      obtain ⟨r14, h13, hX⟩ := bn_of hX
      refine r_callV1 (v := .int r14) (As := [.int ((nI 29) + v_4)]) (rest := []) X hS (m_X10_of hN h13) mv_X10_of rfl (hN) t6_220 ⟨rfl, rfl, Nat.le_of_ble_eq_true rfl, Nat.le_of_ble_eq_true rfl⟩ rfl hl.1 rfl (Nat.le_of_ble_eq_true rfl) ⟨Nat.zero_le _, Nat.zero_le _⟩ dX10_chain_64 (fun H locs hS => ?_)
      refine lv_iload hx hb dX10_chain_67 (lv_at hl 6 rfl) ?_
      obtain ⟨r16, h15, hX⟩ := bn_of hX
      refine r_callS1 (v := .int (b2i r16)) (As := [.int r14, .int v_6]) (rest := []) X hS (m_X10_has (M := M) hN h15) ms_X10_has t7_36 ⟨rfl, rfl, Nat.le_of_ble_eq_true rfl, Nat.le_of_ble_eq_true rfl⟩ rfl hl.1 rfl (Nat.le_of_ble_eq_true rfl) ⟨Nat.zero_le _, Nat.zero_le _⟩ dX10_chain_69 (fun H locs hS => ?_)
      refine lv_if_eq (tgt := 90) hx hb dX10_chain_72 (by decide) (fun c17 => ?_) (fun c17 => ?_)
      · have hX := if_bf c17 hX
        refine lv_iload hx hb dX10_chain_90 (lv_at hl 5 rfl) ?_
        exact n_X10_chain_92 X hN hX (fun z0 z1 z2 r h ls H locs hl hS => ih z0 z1 z2 r h hk_34 ls H locs hl hS) _ _ _ (lv_sub hl [0, 1, 2, 3, 4, 6] rfl) hS
      · have hX := if_bt c17 hX
        refine lv_iload hx hb dX10_chain_75 (lv_at hl 5 rfl) ?_
        refine lv_aload_n hx hb dX10_chain_77 rfl (lv_at hl 0 rfl) ?_
        refine fg_X10_60 X hS (hN) dX10_chain_78 ?_
        refine lv_iload hx hb dX10_chain_81 (lv_at hl 6 rfl) ?_
        obtain ⟨g18, hX⟩ := gin_of hX
        refine r_iald (ci := 10) (o := 100) (k := 38) (n := 9) X hS (hN) rfl rfl g18 dX10_chain_83 ?_
        obtain ⟨r20, h19, hX⟩ := bn_of hX
        refine r_callS1 (v := .int r20) (As := [.int v_5, .int (gA M 100 38 (ix v_6))]) (rest := []) X hS (m_X10_greater (M := M) hN h19) ms_X10_greater t6_156 ⟨rfl, rfl, Nat.le_of_ble_eq_true rfl, Nat.le_of_ble_eq_true rfl⟩ rfl hl.1 rfl (Nat.le_of_ble_eq_true rfl) ⟨Nat.zero_le _, Nat.zero_le _⟩ dX10_chain_84 (fun H locs hS => ?_)
        refine lv_goto (tgt := 92) hx hb dX10_chain_87 (by decide) ?_
        exact n_X10_chain_92 X hN hX (fun z0 z1 z2 r h ls H locs hl hS => ih z0 z1 z2 r h hk_34 ls H locs hl hS) _ _ _ (lv_sub hl [0, 1, 2, 3, 4, 6] rfl) hS
set_option maxRecDepth 100000 in
set_option maxHeartbeats 4000000 in
theorem n_X10_chain_34 {a1 : Bool} {v_2 : Bool} (X : Cx p s m args meth c D cy ad A RX10 cX10_chain 7 ((some .int))) (hN : Ob ns 10 100) {k_25 : Int32 → Mem → Option (Int32 × Mem)} {v_3 : Int32} : ∀ (n : Nat) (v_4 : Int32) (M : Mem) (r : Int32 × Mem), f_X10_chain_34 a1 v_2 k_25 v_3 n (v_4, M) = some r → (∀ (v_3 : Int32) (M : Mem) (r : Int32 × Mem), k_25 v_3 M = some r → ∀ (ls : Array Slot) (H : Heap) (locs : List Loc), lv_has ls 7 [(0, .ref (ad 100 0)), (1, .int (b2i a1)), (2, .int (b2i v_2)), (3, .int v_3)] → St D cy ad ns A M s.heap H locs → W p l e rm_X10_chain s m args below meth c H locs 0 0 (MQ below (QC D cy ad ns A r.2 (some (.int r.1))) args s 0 0 A) (F0 m 25 ls [])) → ∀ (ls : Array Slot) (H : Heap) (locs : List Loc), lv_has ls 7 [(0, .ref (ad 100 0)), (1, .int (b2i a1)), (2, .int (b2i v_2)), (3, .int v_3), (4, .int v_4)] → St D cy ad ns A M s.heap H locs → W p l e rm_X10_chain s m args below meth c H locs 0 0 (MQ below (QC D cy ad ns A r.2 (some (.int r.1))) args s 0 0 A) (F0 m 34 ls []) := by
  obtain ⟨hx, hb, hml, hown, hts, hK, hr, hlk, hA, hG⟩ := id X
  intro n
  induction n with
  | zero => intro v_4 M r hX; cases (show (none : Option (Int32 × Mem)) = some r from hX)
  | succ n ih =>
    intro v_4 M r hX hk_25 ls H locs hl hS
    have hX : b_X10_chain_34 a1 v_2 k_25 v_3 (fun x0 x1 => f_X10_chain_34 a1 v_2 k_25 v_3 n (x0, x1)) v_4 M = some r := hX
    unfold b_X10_chain_34 at hX
    refine lv_iload hx hb dX10_chain_34 (lv_at hl 4 rfl) ?_
    refine lv_aload_n hx hb dX10_chain_36 rfl (lv_at hl 0 rfl) ?_
    refine fg_X10_281 X hS (hN) dX10_chain_37 ?_
    refine lv_icmp_ge (tgt := 146) hx hb dX10_chain_40 (by decide) (fun c21 => ?_) (fun c21 => ?_)
    · have hX := if_t c21 hX
      obtain ⟨v22, ev22⟩ : ∃ y : Int32, y = (v_3 + nI 1) := ⟨_, rfl⟩
      have hX := nm_of ev22 hX
      refine lv_iinc (v := v22) (lv' := [(3, .int v22), (0, .ref (ad 100 0)), (1, .int (b2i a1)), (2, .int (b2i v_2)), (4, .int v_4)]) hx hb dX10_chain_146 hl (k := 3) rfl (by rw [ev22]; rfl) (by decide) rfl (fun ls hl => ?_)
      refine lv_goto (tgt := 25) hx hb dX10_chain_149 (by decide) ?_
      exact hk_25 _ _ _ hX _ _ _ (lv_sub hl [1, 2, 3, 0] rfl) hS
    · have hX := if_f c21 hX
      refine lv_iconst (v := nI 0) hx hb dX10_chain_43 (by decide) ?_
      refine lv_istore (lv' := [(5, .int (nI 0)), (0, .ref (ad 100 0)), (1, .int (b2i a1)), (2, .int (b2i v_2)), (3, .int v_3), (4, .int v_4)]) hx hb dX10_chain_44 hl (by decide) rfl (fun ls hl => ?_)
      refine lv_iconst (v := nI 0) hx hb dX10_chain_46 (by decide) ?_
      refine lv_istore (lv' := [(6, .int (nI 0)), (5, .int (nI 0)), (0, .ref (ad 100 0)), (1, .int (b2i a1)), (2, .int (b2i v_2)), (3, .int v_3), (4, .int v_4)]) hx hb dX10_chain_47 hl (by decide) rfl (fun ls hl => ?_)
      exact n_X10_chain_49 X hN _ _ _ _ _ hX (fun z0 z1 r h ls H locs hl hS => ih z0 z1 r h hk_25 ls H locs hl hS) _ _ _ (lv_sub hl [2, 3, 4, 5, 6, 1, 0] rfl) hS
set_option maxRecDepth 100000 in
set_option maxHeartbeats 4000000 in
theorem n_X10_chain_154 {a1 : Bool} (X : Cx p s m args meth c D cy ad A RX10 cX10_chain 7 ((some .int))) (hN : Ob ns 10 100) : ∀ (n : Nat) (v_2 : Int32) (v_3 : Int32) (M : Mem) (r : Int32 × Mem), f_X10_chain_154 a1 n (v_2, v_3, M) = some r → ∀ (ls : Array Slot) (H : Heap) (locs : List Loc), lv_has ls 7 [(0, .ref (ad 100 0)), (2, .int v_2), (3, .int v_3)] → St D cy ad ns A M s.heap H locs → W p l e rm_X10_chain s m args below meth c H locs 0 0 (MQ below (QC D cy ad ns A r.2 (some (.int r.1))) args s 0 0 A) (F0 m 154 ls []) := by
  obtain ⟨hx, hb, hml, hown, hts, hK, hr, hlk, hA, hG⟩ := id X
  intro n
  induction n with
  | zero => intro v_2 v_3 M r hX; cases (show (none : Option (Int32 × Mem)) = some r from hX)
  | succ n ih =>
    intro v_2 v_3 M r hX ls H locs hl hS
    have hX : b_X10_chain_154 a1 (fun x0 x1 x2 => f_X10_chain_154 a1 n (x0, x1, x2)) v_2 v_3 M = some r := hX
    unfold b_X10_chain_154 at hX
    refine lv_iload_n hx hb dX10_chain_154 rfl (lv_at hl 2 rfl) ?_
    refine lv_aload_n hx hb dX10_chain_155 rfl (lv_at hl 0 rfl) ?_
    refine fg_X10_281 X hS (hN) dX10_chain_156 ?_
    refine lv_icmp_ge (tgt := 179) hx hb dX10_chain_159 (by decide) (fun c23 => ?_) (fun c23 => ?_)
    · have hX := if_t c23 hX
      refine lv_iload_n hx hb dX10_chain_179 rfl (lv_at hl 1 rfl) ?_
      obtain rfl := some_of hX
      exact x_I (v := v_2) X hS dX10_chain_180
    · have hX := if_f c23 hX
      refine lv_iload_n hx hb dX10_chain_162 rfl (lv_at hl 1 rfl) ?_
      refine lv_aload_n hx hb dX10_chain_163 rfl (lv_at hl 0 rfl) ?_
      refine fg_X10_60 X hS (hN) dX10_chain_164 ?_
      refine lv_iload_n hx hb dX10_chain_167 rfl (lv_at hl 2 rfl) ?_
      obtain ⟨g24, hX⟩ := gin_of hX
      refine r_iald (ci := 10) (o := 100) (k := 38) (n := 9) X hS (hN) rfl rfl g24 dX10_chain_168 ?_
      obtain ⟨r26, h25, hX⟩ := bn_of hX
      refine r_callS1 (v := .int r26) (As := [.int v_2, .int (gA M 100 38 (ix v_3))]) (rest := []) X hS (m_X10_greater (M := M) hN h25) ms_X10_greater t6_156 ⟨rfl, rfl, Nat.le_of_ble_eq_true rfl, Nat.le_of_ble_eq_true rfl⟩ rfl hl.1 rfl (Nat.le_of_ble_eq_true rfl) ⟨Nat.zero_le _, Nat.zero_le _⟩ dX10_chain_169 (fun H locs hS => ?_)
      refine lv_istore_n (lv' := [(2, .int r26), (0, .ref (ad 100 0)), (3, .int v_3)]) hx hb dX10_chain_172 rfl hl (by decide) rfl (fun ls hl => ?_)
      obtain ⟨v27, ev27⟩ : ∃ y : Int32, y = (v_3 + nI 1) := ⟨_, rfl⟩
      have hX := nm_of ev27 hX
      refine lv_iinc (v := v27) (lv' := [(3, .int v27), (2, .int r26), (0, .ref (ad 100 0))]) hx hb dX10_chain_173 hl (k := 2) rfl (by rw [ev27]; rfl) (by decide) rfl (fun ls hl => ?_)
      refine lv_goto (tgt := 154) hx hb dX10_chain_176 (by decide) ?_
      exact ih _ _ _ _ hX _ _ _ (lv_sub hl [2, 1, 0] rfl) hS
set_option maxRecDepth 100000 in
set_option maxHeartbeats 4000000 in
theorem n_X10_chain_25 {a1 : Bool} (X : Cx p s m args meth c D cy ad A RX10 cX10_chain 7 ((some .int))) (hN : Ob ns 10 100) {v_2 : Bool} : ∀ (n : Nat) (v_3 : Int32) (M : Mem) (r : Int32 × Mem), f_X10_chain_25 a1 v_2 n (v_3, M) = some r → ∀ (ls : Array Slot) (H : Heap) (locs : List Loc), lv_has ls 7 [(0, .ref (ad 100 0)), (1, .int (b2i a1)), (2, .int (b2i v_2)), (3, .int v_3)] → St D cy ad ns A M s.heap H locs → W p l e rm_X10_chain s m args below meth c H locs 0 0 (MQ below (QC D cy ad ns A r.2 (some (.int r.1))) args s 0 0 A) (F0 m 25 ls []) := by
  obtain ⟨hx, hb, hml, hown, hts, hK, hr, hlk, hA, hG⟩ := id X
  intro n
  induction n with
  | zero => intro v_3 M r hX; cases (show (none : Option (Int32 × Mem)) = some r from hX)
  | succ n ih =>
    intro v_3 M r hX ls H locs hl hS
    have hX : b_X10_chain_25 a1 v_2 (fun x0 x1 => f_X10_chain_25 a1 v_2 n (x0, x1)) v_3 M = some r := hX
    unfold b_X10_chain_25 at hX
    refine lv_iload_n hx hb dX10_chain_25 rfl (lv_at hl 3 rfl) ?_
    refine lv_bipush (v := nI 9) hx hb dX10_chain_26 (by decide) ?_
    refine lv_icmp_ge (tgt := 152) hx hb dX10_chain_28 (by decide) (fun c28 => ?_) (fun c28 => ?_)
    · have hX := if_t c28 hX
      refine lv_iconst (v := nI 0) hx hb dX10_chain_152 (by decide) ?_
      refine lv_istore_n (lv' := [(3, .int (nI 0)), (0, .ref (ad 100 0)), (1, .int (b2i a1)), (2, .int (b2i v_2))]) hx hb dX10_chain_153 rfl hl (by decide) rfl (fun ls hl => ?_)
      exact n_X10_chain_154 X hN _ _ _ _ _ hX _ _ _ (lv_sub hl [1, 3, 0] rfl) hS
    · have hX := if_f c28 hX
      refine lv_iconst (v := nI 0) hx hb dX10_chain_31 (by decide) ?_
      refine lv_istore (lv' := [(4, .int (nI 0)), (0, .ref (ad 100 0)), (1, .int (b2i a1)), (2, .int (b2i v_2)), (3, .int v_3)]) hx hb dX10_chain_32 hl (by decide) rfl (fun ls hl => ?_)
      exact n_X10_chain_34 X hN _ _ _ _ hX (fun z0 z1 r h ls H locs hl hS => ih z0 z1 r h ls H locs hl hS) _ _ _ (lv_sub hl [1, 2, 3, 4, 0] rfl) hS
set_option maxRecDepth 100000 in
set_option maxHeartbeats 4000000 in
theorem n_X10_chain_2 {a1 : Bool} (X : Cx p s m args meth c D cy ad A RX10 cX10_chain 7 ((some .int))) (hN : Ob ns 10 100) : ∀ (n : Nat) (v_2 : Int32) (M : Mem) (r : Int32 × Mem), f_X10_chain_2 a1 n (v_2, M) = some r → ∀ (ls : Array Slot) (H : Heap) (locs : List Loc), lv_has ls 7 [(0, .ref (ad 100 0)), (1, .int (b2i a1)), (2, .int v_2)] → St D cy ad ns A M s.heap H locs → W p l e rm_X10_chain s m args below meth c H locs 0 0 (MQ below (QC D cy ad ns A r.2 (some (.int r.1))) args s 0 0 A) (F0 m 2 ls []) := by
  obtain ⟨hx, hb, hml, hown, hts, hK, hr, hlk, hA, hG⟩ := id X
  intro n
  induction n with
  | zero => intro v_2 M r hX; cases (show (none : Option (Int32 × Mem)) = some r from hX)
  | succ n ih =>
    intro v_2 M r hX ls H locs hl hS
    have hX : b_X10_chain_2 a1 (fun x0 x1 => f_X10_chain_2 a1 n (x0, x1)) v_2 M = some r := hX
    unfold b_X10_chain_2 at hX
    refine lv_iload_n hx hb dX10_chain_2 rfl (lv_at hl 2 rfl) ?_
    refine lv_bipush (v := nI 9) hx hb dX10_chain_3 (by decide) ?_
    refine lv_icmp_ge (tgt := 21) hx hb dX10_chain_5 (by decide) (fun c29 => ?_) (fun c29 => ?_)
    · have hX := if_t c29 hX
      refine lv_iconst (v := nI 0) hx hb dX10_chain_21 (by decide) ?_
      refine lv_istore_n (lv' := [(2, .int (nI 0)), (0, .ref (ad 100 0)), (1, .int (b2i a1))]) hx hb dX10_chain_22 rfl hl (by decide) rfl (fun ls hl => ?_)
      refine lv_iconst (v := nI 0) hx hb dX10_chain_23 (by decide) ?_
      refine lv_istore_n (lv' := [(3, .int (nI 0)), (2, .int (nI 0)), (0, .ref (ad 100 0)), (1, .int (b2i a1))]) hx hb dX10_chain_24 rfl hl (by decide) rfl (fun ls hl => ?_)
      exact n_X10_chain_25 X hN _ _ _ _ hX _ _ _ (lv_sub hl [2, 3, 1, 0] rfl) hS
    · have hX := if_f c29 hX
      refine lv_aload_n hx hb dX10_chain_8 rfl (lv_at hl 0 rfl) ?_
      refine fg_X10_60 X hS (hN) dX10_chain_9 ?_
      refine lv_iload_n hx hb dX10_chain_12 rfl (lv_at hl 2 rfl) ?_
      refine lv_iconst (v := nI 0) hx hb dX10_chain_13 (by decide) ?_
      obtain ⟨g30, hX⟩ := gin_of hX
      refine r_iast (ci := 10) (o := 100) (k := 38) (n := 9) X hS (hN) rfl rfl g30 dX10_chain_14 (fun H locs hS => ?_)
      obtain ⟨M31, eM31, hS, hX⟩ := nm_mem hS hX
      obtain ⟨v32, ev32⟩ : ∃ y : Int32, y = (v_2 + nI 1) := ⟨_, rfl⟩
      have hX := nm_of ev32 hX
      refine lv_iinc (v := v32) (lv' := [(2, .int v32), (0, .ref (ad 100 0)), (1, .int (b2i a1))]) hx hb dX10_chain_15 hl (k := 2) rfl (by rw [ev32]; rfl) (by decide) rfl (fun ls hl => ?_)
      refine lv_goto (tgt := 2) hx hb dX10_chain_18 (by decide) ?_
      exact ih _ _ _ hX _ _ _ (lv_sub hl [1, 2, 0] rfl) hS
set_option maxRecDepth 100000 in
set_option maxHeartbeats 4000000 in
theorem m_X10_chain {l : Launch} {D : va_G} {cy : Nat → ClassId} {ad : Nat → Nat → Nat} {ns : List (Nat × Nat)} {A : Nat → Prop} {M : Mem} (hN : Ob ns 10 100) {a1 : Bool} {r : Int32 × Mem} (hX : f_X10_chain M a1 = some r) : Ct l yX10_chain cX10_chain 7 ((some .int)) rm_X10_chain D cy ad ns A [.ref (ad 100 0), .int (b2i a1)] M r.2 (some (.int r.1)) := by
  refine ct_of (lv := [(0, .ref (ad 100 0)), (1, .int (b2i a1))]) (by decide) (Nat.le_of_ble_eq_true rfl) rfl ?_
  intro p e s m args below meth c ls X hl hS
  obtain ⟨hx, hb, hml, hown, hts, hK, hr, hlk, hA, hG⟩ := id X
  obtain ⟨H, hH⟩ : ∃ z, z = s.heap := ⟨_, rfl⟩
  obtain ⟨locs, hlo⟩ : ∃ z : List Loc, z = [] := ⟨_, rfl⟩
  have hS : St D cy ad ns A M s.heap H locs := by rw [hH, hlo]; exact hS
  have hgoal : W p l e rm_X10_chain s m args below meth c H locs 0 0 (MQ below (QC D cy ad ns A r.2 (some (.int r.1))) args s 0 0 A) (F0 m 0 ls []) := by
    unfold f_X10_chain at hX
    refine lv_iconst (v := nI 0) hx hb dX10_chain_0 (by decide) ?_
    refine lv_istore_n (lv' := [(2, .int (nI 0)), (0, .ref (ad 100 0)), (1, .int (b2i a1))]) hx hb dX10_chain_1 rfl hl (by decide) rfl (fun ls hl => ?_)
    exact n_X10_chain_2 X hN _ _ _ _ hX _ _ _ (lv_sub hl [1, 2, 0] rfl) hS
  rw [hH, hlo] at hgoal
  exact hgoal
theorem mv_X10_chain : Mv yX10_chain RX10 cX10_chain 7 ((some .int)) 1 := ⟨t7_146, t7_145, ts_64, t1_11, ⟨by decide, by decide⟩, by decide +kernel⟩
/-! SewnYearModel.sewn(II)I -/
def rm_X10_sewn : Room := { frames := 4, cells := 0, slots := 0, locals := 89 }
def f_X10_sewn_71 (a1 : Int32) (a2 : Int32) (s_1 : Bool) (M : Mem) : Option (Int32 × Mem) :=
  bp (f_X10_chain M s_1) fun r3 M2 => some (r3, M2)
def f_X10_sewn (M : Mem) (a1 : Int32) (a2 : Int32) : Option (Int32 × Mem) :=
  nm (sI M 100 0 (nI 0)) fun M4 => bn (f_X10_in a2 (nI 0) (nI 3)) fun r6 => if r6 = true then (bp (f_X10_hand M4 a1) fun r10 M9 => if r10 = true then (bp (f_X10_findOrders M9) fun r14 M13 => if r14 = true then (if a2 = (nI 0) then (bn (f_X10_findLeast M13) fun M24 => gin (nI 0) 512 <| some ((gA M24 100 36 (ix (nI 0))), M24)) else (if a2 = (nI 1) then (bn (f_X10_findChanges M13) fun M20 => bn (f_X10_threads M20) fun r22 => some (r22, M20)) else (if a2 = (nI 3) then (f_X10_sewn_71 a1 a2 true M13) else (f_X10_sewn_71 a1 a2 false M13)))) else (some ((-1), M13))) else (some ((-1), M9))) else (some ((-1), M4))
set_option maxRecDepth 100000 in
set_option maxHeartbeats 4000000 in
theorem n_X10_sewn_71 {a1 : Int32} {a2 : Int32} (X : Cx p s m args meth c D cy ad A RX10 cX10_sewn 3 ((some .int))) (hN : Ob ns 10 100) {s_1 : Bool} {M : Mem} {r : Int32 × Mem} (hX : f_X10_sewn_71 a1 a2 s_1 M = some r) : ∀ (ls : Array Slot) (H : Heap) (locs : List Loc), lv_has ls 3 [] → St D cy ad ns A M s.heap H locs → W p l e rm_X10_sewn s m args below meth c H locs 0 0 (MQ below (QC D cy ad ns A r.2 (some (.int r.1))) args s 0 0 A) (F0 m 71 ls [.int (b2i s_1), .ref (ad 100 0)]) := by
  obtain ⟨hx, hb, hml, hown, hts, hK, hr, hlk, hA, hG⟩ := id X
  intro ls H locs hl hS
  unfold f_X10_sewn_71 at hX
  obtain ⟨r3, M2, h1, hX⟩ := bp_of hX
  refine r_callV1 (v := .int r3) (As := [.int (b2i s_1)]) (rest := []) X hS (m_X10_chain hN h1) mv_X10_chain rfl (hN) t7_143 ⟨rfl, rfl, Nat.le_of_ble_eq_true rfl, Nat.le_of_ble_eq_true rfl⟩ rfl hl.1 rfl (Nat.le_of_ble_eq_true rfl) ⟨Nat.zero_le _, Nat.zero_le _⟩ dX10_sewn_71 (fun H locs hS => ?_)
  obtain rfl := some_of hX
  exact x_I (v := r3) X hS dX10_sewn_74
set_option maxRecDepth 100000 in
set_option maxHeartbeats 4000000 in
theorem m_X10_sewn {l : Launch} {D : va_G} {cy : Nat → ClassId} {ad : Nat → Nat → Nat} {ns : List (Nat × Nat)} {A : Nat → Prop} {M : Mem} (hN : Ob ns 10 100) {a1 : Int32} {a2 : Int32} {r : Int32 × Mem} (hX : f_X10_sewn M a1 a2 = some r) : Ct l yX10_sewn cX10_sewn 3 ((some .int)) rm_X10_sewn D cy ad ns A [.ref (ad 100 0), .int a1, .int a2] M r.2 (some (.int r.1)) := by
  refine ct_of (lv := [(0, .ref (ad 100 0)), (1, .int a1), (2, .int a2)]) (by decide) (Nat.le_of_ble_eq_true rfl) rfl ?_
  intro p e s m args below meth c ls X hl hS
  obtain ⟨hx, hb, hml, hown, hts, hK, hr, hlk, hA, hG⟩ := id X
  obtain ⟨H, hH⟩ : ∃ z, z = s.heap := ⟨_, rfl⟩
  obtain ⟨locs, hlo⟩ : ∃ z : List Loc, z = [] := ⟨_, rfl⟩
  have hS : St D cy ad ns A M s.heap H locs := by rw [hH, hlo]; exact hS
  have hgoal : W p l e rm_X10_sewn s m args below meth c H locs 0 0 (MQ below (QC D cy ad ns A r.2 (some (.int r.1))) args s 0 0 A) (F0 m 0 ls []) := by
    unfold f_X10_sewn at hX
    refine lv_aload_n hx hb dX10_sewn_0 rfl (lv_at hl 0 rfl) ?_
    refine lv_iconst (v := nI 0) hx hb dX10_sewn_1 (by decide) ?_
    refine fp_X10_94 X hS (hN) dX10_sewn_2 (fun H locs hS => ?_)
    obtain ⟨M4, eM4, hS, hX⟩ := nm_mem hS hX
    refine lv_iload_n hx hb dX10_sewn_5 rfl (lv_at hl 2 rfl) ?_
    refine lv_iconst (v := nI 0) hx hb dX10_sewn_6 (by decide) ?_
    refine lv_iconst (v := nI 3) hx hb dX10_sewn_7 (by decide) ?_
    obtain ⟨r6, h5, hX⟩ := bn_of hX
    refine r_callS1 (v := .int (b2i r6)) (As := [.int a2, .int (nI 0), .int (nI 3)]) (rest := []) X hS (m_X10_in (M := M4) hN h5) ms_X10_in t6_81 ⟨rfl, rfl, Nat.le_of_ble_eq_true rfl, Nat.le_of_ble_eq_true rfl⟩ rfl hl.1 rfl (Nat.le_of_ble_eq_true rfl) ⟨Nat.zero_le _, Nat.zero_le _⟩ dX10_sewn_8 (fun H locs hS => ?_)
    refine lv_if_eq (tgt := 29) hx hb dX10_sewn_11 (by decide) (fun c7 => ?_) (fun c7 => ?_)
    · have hX := if_bf c7 hX
      refine lv_iconst (v := (-1)) hx hb dX10_sewn_29 (by decide) ?_
      obtain rfl := some_of hX
      exact x_I (v := (-1)) X hS dX10_sewn_30
    · have hX := if_bt c7 hX
      refine lv_aload_n hx hb dX10_sewn_14 rfl (lv_at hl 0 rfl) ?_
      refine lv_iload_n hx hb dX10_sewn_15 rfl (lv_at hl 1 rfl) ?_
      obtain ⟨r10, M9, h8, hX⟩ := bp_of hX
      refine r_callV1 (v := .int (b2i r10)) (As := [.int a1]) (rest := []) X hS (m_X10_hand hN h8) mv_X10_hand rfl (hN) t6_216 ⟨rfl, rfl, Nat.le_of_ble_eq_true rfl, Nat.le_of_ble_eq_true rfl⟩ rfl hl.1 rfl (Nat.le_of_ble_eq_true rfl) ⟨Nat.zero_le _, Nat.zero_le _⟩ dX10_sewn_16 (fun H locs hS => ?_)
      refine lv_if_eq (tgt := 29) hx hb dX10_sewn_19 (by decide) (fun c11 => ?_) (fun c11 => ?_)
      · have hX := if_bf c11 hX
        refine lv_iconst (v := (-1)) hx hb dX10_sewn_29 (by decide) ?_
        obtain rfl := some_of hX
        exact x_I (v := (-1)) X hS dX10_sewn_30
      · have hX := if_bt c11 hX
        refine lv_aload_n hx hb dX10_sewn_22 rfl (lv_at hl 0 rfl) ?_
        obtain ⟨r14, M13, h12, hX⟩ := bp_of hX
        refine r_callV1 (v := .int (b2i r14)) (As := []) (rest := []) X hS (m_X10_findOrders hN h12) mv_X10_findOrders rfl (hN) t7_75 ⟨rfl, rfl, Nat.le_of_ble_eq_true rfl, Nat.le_of_ble_eq_true rfl⟩ rfl hl.1 rfl (Nat.le_of_ble_eq_true rfl) ⟨Nat.zero_le _, Nat.zero_le _⟩ dX10_sewn_23 (fun H locs hS => ?_)
        refine lv_if_ne (tgt := 31) hx hb dX10_sewn_26 (by decide) (fun c15 => ?_) (fun c15 => ?_)
        · have hX := if_bt c15 hX
          refine lv_iload_n hx hb dX10_sewn_31 rfl (lv_at hl 2 rfl) ?_
          refine lv_if_ne (tgt := 46) hx hb dX10_sewn_32 (by decide) (fun c16 => ?_) (fun c16 => ?_)
          · have hX := if_f c16 hX
            refine lv_iload_n hx hb dX10_sewn_46 rfl (lv_at hl 2 rfl) ?_
            refine lv_iconst (v := nI 1) hx hb dX10_sewn_47 (by decide) ?_
            refine lv_icmp_ne (tgt := 60) hx hb dX10_sewn_48 (by decide) (fun c17 => ?_) (fun c17 => ?_)
            · have hX := if_f c17 hX
              refine lv_aload_n hx hb dX10_sewn_60 rfl (lv_at hl 0 rfl) ?_
              refine lv_iload_n hx hb dX10_sewn_61 rfl (lv_at hl 2 rfl) ?_
              refine lv_iconst (v := nI 3) hx hb dX10_sewn_62 (by decide) ?_
              refine lv_icmp_ne (tgt := 70) hx hb dX10_sewn_63 (by decide) (fun c18 => ?_) (fun c18 => ?_)
              · have hX := if_f c18 hX
                refine lv_iconst (v := nI 0) hx hb dX10_sewn_70 (by decide) ?_
                exact n_X10_sewn_71 X hN hX _ _ _ (lv_sub hl [] rfl) hS
              · have hX := if_t c18 hX
                refine lv_iconst (v := nI 1) hx hb dX10_sewn_66 (by decide) ?_
                refine lv_goto (tgt := 71) hx hb dX10_sewn_67 (by decide) ?_
                exact n_X10_sewn_71 X hN hX _ _ _ (lv_sub hl [] rfl) hS
            · have hX := if_t c17 hX
              refine lv_aload_n hx hb dX10_sewn_51 rfl (lv_at hl 0 rfl) ?_
              obtain ⟨M20, h19, hX⟩ := bn_of hX
              refine r_callV0 (As := []) (rest := []) X hS (m_X10_findChanges hN h19) mv_X10_findChanges rfl (hN) t7_123 ⟨rfl, rfl, Nat.le_of_ble_eq_true rfl, Nat.le_of_ble_eq_true rfl⟩ rfl hl.1 rfl (Nat.le_of_ble_eq_true rfl) ⟨Nat.zero_le _, Nat.zero_le _⟩ dX10_sewn_52 (fun H locs hS => ?_)
              refine lv_aload_n hx hb dX10_sewn_55 rfl (lv_at hl 0 rfl) ?_
              obtain ⟨r22, h21, hX⟩ := bn_of hX
              refine r_callV1 (v := .int r22) (As := []) (rest := []) X hS (m_X10_threads hN h21) mv_X10_threads rfl (hN) t7_135 ⟨rfl, rfl, Nat.le_of_ble_eq_true rfl, Nat.le_of_ble_eq_true rfl⟩ rfl hl.1 rfl (Nat.le_of_ble_eq_true rfl) ⟨Nat.zero_le _, Nat.zero_le _⟩ dX10_sewn_56 (fun H locs hS => ?_)
              obtain rfl := some_of hX
              exact x_I (v := r22) X hS dX10_sewn_59
          · have hX := if_t c16 hX
            refine lv_aload_n hx hb dX10_sewn_35 rfl (lv_at hl 0 rfl) ?_
            obtain ⟨M24, h23, hX⟩ := bn_of hX
            refine r_callV0 (As := []) (rest := []) X hS (m_X10_findLeast hN h23) mv_X10_findLeast rfl (hN) t7_102 ⟨rfl, rfl, Nat.le_of_ble_eq_true rfl, Nat.le_of_ble_eq_true rfl⟩ rfl hl.1 rfl (Nat.le_of_ble_eq_true rfl) ⟨Nat.zero_le _, Nat.zero_le _⟩ dX10_sewn_36 (fun H locs hS => ?_)
            refine lv_aload_n hx hb dX10_sewn_39 rfl (lv_at hl 0 rfl) ?_
            refine fg_X10_54 X hS (hN) dX10_sewn_40 ?_
            refine lv_iconst (v := nI 0) hx hb dX10_sewn_43 (by decide) ?_
            obtain ⟨g25, hX⟩ := gin_of hX
            refine r_iald (ci := 10) (o := 100) (k := 36) (n := 512) X hS (hN) rfl rfl g25 dX10_sewn_44 ?_
            obtain rfl := some_of hX
            exact x_I (v := (gA M24 100 36 (ix (nI 0)))) X hS dX10_sewn_45
        · have hX := if_bf c15 hX
          refine lv_iconst (v := (-1)) hx hb dX10_sewn_29 (by decide) ?_
          obtain rfl := some_of hX
          exact x_I (v := (-1)) X hS dX10_sewn_30
  rw [hH, hlo] at hgoal
  exact hgoal
theorem mv_X10_sewn : Mv yX10_sewn RX10 cX10_sewn 3 ((some .int)) 2 := ⟨t7_142, t7_140, t7_141, t1_11, ⟨by decide, by decide⟩, by decide +kernel⟩
end MT_30_M1
