section FR_30_M0
variable {p : Program} {l : Launch} {e : Env} {R : Room} {s : State} {m : MethodId} {args : Array Value} {below : List Frame} {meth : Method} {c : Code} {H : Heap} {locs : List Loc} {cells slots : Nat} {Q : State → Prop} {D : va_G} {cy : Nat → ClassId} {ad : Nat → Nat → Nat} {ns : List (Nat × Nat)} {A : Nat → Prop} {M M' : Mem} {cc : ByteArray} {nL : Nat} {ret : Option FieldType} {pc : Nat} {ls : Array Slot} {rest : List Value}
theorem fg_X10_7 (X : Cx p s m args meth c D cy ad A RX10 cc nL ret) (hS : St D cy ad ns A M s.heap H locs) (ho : Ob ns 10 100) (hdg : decode cc pc = .ok (.getfield 7, 3)) (kk : W p l e R s m args below meth c H locs cells slots Q (F0 m (pc + 3) ls (.ref (ad 100 (1 + 1)) :: rest))) : W p l e R s m args below meth c H locs cells slots Q (F0 m pc ls (.ref (ad 100 0) :: rest)) := r_get X hS (C := RX10) (T := TX10) (N := 58) (k := 1) tf10 rfl rfl ho (by decide) t5_133 ⟨rfl, rfl, rfl⟩ rfl hdg kk
theorem fg_X10_13 (X : Cx p s m args meth c D cy ad A RX10 cc nL ret) (hS : St D cy ad ns A M s.heap H locs) (ho : Ob ns 10 100) (hdg : decode cc pc = .ok (.getfield 13, 3)) (kk : W p l e R s m args below meth c H locs cells slots Q (F0 m (pc + 3) ls (.ref (ad 100 (2 + 1)) :: rest))) : W p l e R s m args below meth c H locs cells slots Q (F0 m pc ls (.ref (ad 100 0) :: rest)) := r_get X hS (C := RX10) (T := TX10) (N := 58) (k := 2) tf10 rfl rfl ho (by decide) t5_134 ⟨rfl, rfl, rfl⟩ rfl hdg kk
theorem fg_X10_17 (X : Cx p s m args meth c D cy ad A RX10 cc nL ret) (hS : St D cy ad ns A M s.heap H locs) (ho : Ob ns 10 100) (hdg : decode cc pc = .ok (.getfield 17, 3)) (kk : W p l e R s m args below meth c H locs cells slots Q (F0 m (pc + 3) ls (.ref (ad 100 (3 + 1)) :: rest))) : W p l e R s m args below meth c H locs cells slots Q (F0 m pc ls (.ref (ad 100 0) :: rest)) := r_get X hS (C := RX10) (T := TX10) (N := 58) (k := 3) tf10 rfl rfl ho (by decide) t5_135 ⟨rfl, rfl, rfl⟩ rfl hdg kk
theorem fg_X10_20 (X : Cx p s m args meth c D cy ad A RX10 cc nL ret) (hS : St D cy ad ns A M s.heap H locs) (ho : Ob ns 10 100) (hdg : decode cc pc = .ok (.getfield 20, 3)) (kk : W p l e R s m args below meth c H locs cells slots Q (F0 m (pc + 3) ls (.ref (ad 100 (4 + 1)) :: rest))) : W p l e R s m args below meth c H locs cells slots Q (F0 m pc ls (.ref (ad 100 0) :: rest)) := r_get X hS (C := RX10) (T := TX10) (N := 58) (k := 4) tf10 rfl rfl ho (by decide) t5_136 ⟨rfl, rfl, rfl⟩ rfl hdg kk
theorem fg_X10_23 (X : Cx p s m args meth c D cy ad A RX10 cc nL ret) (hS : St D cy ad ns A M s.heap H locs) (ho : Ob ns 10 100) (hdg : decode cc pc = .ok (.getfield 23, 3)) (kk : W p l e R s m args below meth c H locs cells slots Q (F0 m (pc + 3) ls (.ref (ad 100 (5 + 1)) :: rest))) : W p l e R s m args below meth c H locs cells slots Q (F0 m pc ls (.ref (ad 100 0) :: rest)) := r_get X hS (C := RX10) (T := TX10) (N := 58) (k := 5) tf10 rfl rfl ho (by decide) t5_137 ⟨rfl, rfl, rfl⟩ rfl hdg kk
theorem fg_X10_26 (X : Cx p s m args meth c D cy ad A RX10 cc nL ret) (hS : St D cy ad ns A M s.heap H locs) (ho : Ob ns 10 100) (hdg : decode cc pc = .ok (.getfield 26, 3)) (kk : W p l e R s m args below meth c H locs cells slots Q (F0 m (pc + 3) ls (.ref (ad 100 (6 + 1)) :: rest))) : W p l e R s m args below meth c H locs cells slots Q (F0 m pc ls (.ref (ad 100 0) :: rest)) := r_get X hS (C := RX10) (T := TX10) (N := 58) (k := 6) tf10 rfl rfl ho (by decide) t5_138 ⟨rfl, rfl, rfl⟩ rfl hdg kk
theorem fg_X10_29 (X : Cx p s m args meth c D cy ad A RX10 cc nL ret) (hS : St D cy ad ns A M s.heap H locs) (ho : Ob ns 10 100) (hdg : decode cc pc = .ok (.getfield 29, 3)) (kk : W p l e R s m args below meth c H locs cells slots Q (F0 m (pc + 3) ls (.ref (ad 100 (7 + 1)) :: rest))) : W p l e R s m args below meth c H locs cells slots Q (F0 m pc ls (.ref (ad 100 0) :: rest)) := r_get X hS (C := RX10) (T := TX10) (N := 58) (k := 7) tf10 rfl rfl ho (by decide) t5_139 ⟨rfl, rfl, rfl⟩ rfl hdg kk
theorem fg_X10_32 (X : Cx p s m args meth c D cy ad A RX10 cc nL ret) (hS : St D cy ad ns A M s.heap H locs) (ho : Ob ns 10 100) (hdg : decode cc pc = .ok (.getfield 32, 3)) (kk : W p l e R s m args below meth c H locs cells slots Q (F0 m (pc + 3) ls (.ref (ad 100 (8 + 1)) :: rest))) : W p l e R s m args below meth c H locs cells slots Q (F0 m pc ls (.ref (ad 100 0) :: rest)) := r_get X hS (C := RX10) (T := TX10) (N := 58) (k := 8) tf10 rfl rfl ho (by decide) t5_140 ⟨rfl, rfl, rfl⟩ rfl hdg kk
theorem fg_X10_35 (X : Cx p s m args meth c D cy ad A RX10 cc nL ret) (hS : St D cy ad ns A M s.heap H locs) (ho : Ob ns 10 100) (hdg : decode cc pc = .ok (.getfield 35, 3)) (kk : W p l e R s m args below meth c H locs cells slots Q (F0 m (pc + 3) ls (.ref (ad 100 (9 + 1)) :: rest))) : W p l e R s m args below meth c H locs cells slots Q (F0 m pc ls (.ref (ad 100 0) :: rest)) := r_get X hS (C := RX10) (T := TX10) (N := 58) (k := 9) tf10 rfl rfl ho (by decide) t5_141 ⟨rfl, rfl, rfl⟩ rfl hdg kk
theorem fg_X10_38 (X : Cx p s m args meth c D cy ad A RX10 cc nL ret) (hS : St D cy ad ns A M s.heap H locs) (ho : Ob ns 10 100) (hdg : decode cc pc = .ok (.getfield 38, 3)) (kk : W p l e R s m args below meth c H locs cells slots Q (F0 m (pc + 3) ls (.ref (ad 100 (19 + 1)) :: rest))) : W p l e R s m args below meth c H locs cells slots Q (F0 m pc ls (.ref (ad 100 0) :: rest)) := r_get X hS (C := RX10) (T := TX10) (N := 58) (k := 19) tf10 rfl rfl ho (by decide) t5_151 ⟨rfl, rfl, rfl⟩ rfl hdg kk
theorem fg_X10_41 (X : Cx p s m args meth c D cy ad A RX10 cc nL ret) (hS : St D cy ad ns A M s.heap H locs) (ho : Ob ns 10 100) (hdg : decode cc pc = .ok (.getfield 41, 3)) (kk : W p l e R s m args below meth c H locs cells slots Q (F0 m (pc + 3) ls (.ref (ad 100 (20 + 1)) :: rest))) : W p l e R s m args below meth c H locs cells slots Q (F0 m pc ls (.ref (ad 100 0) :: rest)) := r_get X hS (C := RX10) (T := TX10) (N := 58) (k := 20) tf10 rfl rfl ho (by decide) t5_152 ⟨rfl, rfl, rfl⟩ rfl hdg kk
theorem fp_X10_94 (X : Cx p s m args meth c D cy ad A RX10 cc nL ret) (hS : St D cy ad ns A M s.heap H locs) (ho : Ob ns 10 100) {v : Int32} (hdg : decode cc pc = .ok (.putfield 94, 3)) (kk : ∀ (H1 : Heap) (locs1 : List Loc), St D cy ad ns A (sI M 100 0 v) s.heap H1 locs1 → W p l e R s m args below meth c H1 locs1 cells slots Q (F0 m (pc + 3) ls rest)) : W p l e R s m args below meth c H locs cells slots Q (F0 m pc ls (.int v :: .ref (ad 100 0) :: rest)) := r_put X hS (C := RX10) (T := TX10) (N := 58) (k := 0) tf10 rfl rfl tyX10 tyX10_ok nmX10 ho (by decide) t5_132 ⟨rfl, rfl, rfl⟩ rfl (ty := .int) (by decide +kernel) rfl rfl (wr_sI hS.1.2.2) (cel_sI (by decide) rfl) (fun q hq => cel_sI' hq) hdg kk
theorem fg_X10_114 (X : Cx p s m args meth c D cy ad A RX10 cc nL ret) (hS : St D cy ad ns A M s.heap H locs) (ho : Ob ns 10 100) (hdg : decode cc pc = .ok (.getfield 114, 3)) (kk : W p l e R s m args below meth c H locs cells slots Q (F0 m (pc + 3) ls (.int (gI M 100 10) :: rest))) : W p l e R s m args below meth c H locs cells slots Q (F0 m pc ls (.ref (ad 100 0) :: rest)) := r_get X hS (C := RX10) (T := TX10) (N := 58) (k := 10) tf10 rfl rfl ho (by decide) t5_142 ⟨rfl, rfl, rfl⟩ rfl hdg kk
theorem fp_X10_114 (X : Cx p s m args meth c D cy ad A RX10 cc nL ret) (hS : St D cy ad ns A M s.heap H locs) (ho : Ob ns 10 100) {v : Int32} (hdg : decode cc pc = .ok (.putfield 114, 3)) (kk : ∀ (H1 : Heap) (locs1 : List Loc), St D cy ad ns A (sI M 100 10 v) s.heap H1 locs1 → W p l e R s m args below meth c H1 locs1 cells slots Q (F0 m (pc + 3) ls rest)) : W p l e R s m args below meth c H locs cells slots Q (F0 m pc ls (.int v :: .ref (ad 100 0) :: rest)) := r_put X hS (C := RX10) (T := TX10) (N := 58) (k := 10) tf10 rfl rfl tyX10 tyX10_ok nmX10 ho (by decide) t5_142 ⟨rfl, rfl, rfl⟩ rfl (ty := .int) (by decide +kernel) rfl rfl (wr_sI hS.1.2.2) (cel_sI (by decide) rfl) (fun q hq => cel_sI' hq) hdg kk
theorem fg_X10_117 (X : Cx p s m args meth c D cy ad A RX10 cc nL ret) (hS : St D cy ad ns A M s.heap H locs) (ho : Ob ns 10 100) (hdg : decode cc pc = .ok (.getfield 117, 3)) (kk : W p l e R s m args below meth c H locs cells slots Q (F0 m (pc + 3) ls (.int (gI M 100 11) :: rest))) : W p l e R s m args below meth c H locs cells slots Q (F0 m pc ls (.ref (ad 100 0) :: rest)) := r_get X hS (C := RX10) (T := TX10) (N := 58) (k := 11) tf10 rfl rfl ho (by decide) t5_143 ⟨rfl, rfl, rfl⟩ rfl hdg kk
theorem fp_X10_117 (X : Cx p s m args meth c D cy ad A RX10 cc nL ret) (hS : St D cy ad ns A M s.heap H locs) (ho : Ob ns 10 100) {v : Int32} (hdg : decode cc pc = .ok (.putfield 117, 3)) (kk : ∀ (H1 : Heap) (locs1 : List Loc), St D cy ad ns A (sI M 100 11 v) s.heap H1 locs1 → W p l e R s m args below meth c H1 locs1 cells slots Q (F0 m (pc + 3) ls rest)) : W p l e R s m args below meth c H locs cells slots Q (F0 m pc ls (.int v :: .ref (ad 100 0) :: rest)) := r_put X hS (C := RX10) (T := TX10) (N := 58) (k := 11) tf10 rfl rfl tyX10 tyX10_ok nmX10 ho (by decide) t5_143 ⟨rfl, rfl, rfl⟩ rfl (ty := .int) (by decide +kernel) rfl rfl (wr_sI hS.1.2.2) (cel_sI (by decide) rfl) (fun q hq => cel_sI' hq) hdg kk
theorem fg_X10_124 (X : Cx p s m args meth c D cy ad A RX10 cc nL ret) (hS : St D cy ad ns A M s.heap H locs) (ho : Ob ns 10 100) (hdg : decode cc pc = .ok (.getfield 124, 3)) (kk : W p l e R s m args below meth c H locs cells slots Q (F0 m (pc + 3) ls (.int (gI M 100 12) :: rest))) : W p l e R s m args below meth c H locs cells slots Q (F0 m pc ls (.ref (ad 100 0) :: rest)) := r_get X hS (C := RX10) (T := TX10) (N := 58) (k := 12) tf10 rfl rfl ho (by decide) t5_144 ⟨rfl, rfl, rfl⟩ rfl hdg kk
theorem fp_X10_124 (X : Cx p s m args meth c D cy ad A RX10 cc nL ret) (hS : St D cy ad ns A M s.heap H locs) (ho : Ob ns 10 100) {v : Int32} (hdg : decode cc pc = .ok (.putfield 124, 3)) (kk : ∀ (H1 : Heap) (locs1 : List Loc), St D cy ad ns A (sI M 100 12 v) s.heap H1 locs1 → W p l e R s m args below meth c H1 locs1 cells slots Q (F0 m (pc + 3) ls rest)) : W p l e R s m args below meth c H locs cells slots Q (F0 m pc ls (.int v :: .ref (ad 100 0) :: rest)) := r_put X hS (C := RX10) (T := TX10) (N := 58) (k := 12) tf10 rfl rfl tyX10 tyX10_ok nmX10 ho (by decide) t5_144 ⟨rfl, rfl, rfl⟩ rfl (ty := .int) (by decide +kernel) rfl rfl (wr_sI hS.1.2.2) (cel_sI (by decide) rfl) (fun q hq => cel_sI' hq) hdg kk
theorem fg_X10_127 (X : Cx p s m args meth c D cy ad A RX10 cc nL ret) (hS : St D cy ad ns A M s.heap H locs) (ho : Ob ns 10 100) (hdg : decode cc pc = .ok (.getfield 127, 3)) (kk : W p l e R s m args below meth c H locs cells slots Q (F0 m (pc + 3) ls (.long (gL M 100 15) :: rest))) : W p l e R s m args below meth c H locs cells slots Q (F0 m pc ls (.ref (ad 100 0) :: rest)) := r_get X hS (C := RX10) (T := TX10) (N := 58) (k := 15) tf10 rfl rfl ho (by decide) t5_147 ⟨rfl, rfl, rfl⟩ rfl hdg kk
theorem fp_X10_127 (X : Cx p s m args meth c D cy ad A RX10 cc nL ret) (hS : St D cy ad ns A M s.heap H locs) (ho : Ob ns 10 100) {v : Int64} (hdg : decode cc pc = .ok (.putfield 127, 3)) (kk : ∀ (H1 : Heap) (locs1 : List Loc), St D cy ad ns A (sL M 100 15 v) s.heap H1 locs1 → W p l e R s m args below meth c H1 locs1 cells slots Q (F0 m (pc + 3) ls rest)) : W p l e R s m args below meth c H locs cells slots Q (F0 m pc ls (.long v :: .ref (ad 100 0) :: rest)) := r_put X hS (C := RX10) (T := TX10) (N := 58) (k := 15) tf10 rfl rfl tyX10 tyX10_ok nmX10 ho (by decide) t5_147 ⟨rfl, rfl, rfl⟩ rfl (ty := .long) (by decide +kernel) rfl rfl (wr_sL hS.1.2.2) (cel_sL (by decide) rfl) (fun q hq => cel_sL' hq) hdg kk
theorem fg_X10_131 (X : Cx p s m args meth c D cy ad A RX10 cc nL ret) (hS : St D cy ad ns A M s.heap H locs) (ho : Ob ns 10 100) (hdg : decode cc pc = .ok (.getfield 131, 3)) (kk : W p l e R s m args below meth c H locs cells slots Q (F0 m (pc + 3) ls (.int (gI M 100 13) :: rest))) : W p l e R s m args below meth c H locs cells slots Q (F0 m pc ls (.ref (ad 100 0) :: rest)) := r_get X hS (C := RX10) (T := TX10) (N := 58) (k := 13) tf10 rfl rfl ho (by decide) t5_145 ⟨rfl, rfl, rfl⟩ rfl hdg kk
theorem fp_X10_131 (X : Cx p s m args meth c D cy ad A RX10 cc nL ret) (hS : St D cy ad ns A M s.heap H locs) (ho : Ob ns 10 100) {v : Int32} (hdg : decode cc pc = .ok (.putfield 131, 3)) (kk : ∀ (H1 : Heap) (locs1 : List Loc), St D cy ad ns A (sI M 100 13 v) s.heap H1 locs1 → W p l e R s m args below meth c H1 locs1 cells slots Q (F0 m (pc + 3) ls rest)) : W p l e R s m args below meth c H locs cells slots Q (F0 m pc ls (.int v :: .ref (ad 100 0) :: rest)) := r_put X hS (C := RX10) (T := TX10) (N := 58) (k := 13) tf10 rfl rfl tyX10 tyX10_ok nmX10 ho (by decide) t5_145 ⟨rfl, rfl, rfl⟩ rfl (ty := .int) (by decide +kernel) rfl rfl (wr_sI hS.1.2.2) (cel_sI (by decide) rfl) (fun q hq => cel_sI' hq) hdg kk
theorem fg_X10_134 (X : Cx p s m args meth c D cy ad A RX10 cc nL ret) (hS : St D cy ad ns A M s.heap H locs) (ho : Ob ns 10 100) (hdg : decode cc pc = .ok (.getfield 134, 3)) (kk : W p l e R s m args below meth c H locs cells slots Q (F0 m (pc + 3) ls (.int (gI M 100 14) :: rest))) : W p l e R s m args below meth c H locs cells slots Q (F0 m pc ls (.ref (ad 100 0) :: rest)) := r_get X hS (C := RX10) (T := TX10) (N := 58) (k := 14) tf10 rfl rfl ho (by decide) t5_146 ⟨rfl, rfl, rfl⟩ rfl hdg kk
theorem fp_X10_134 (X : Cx p s m args meth c D cy ad A RX10 cc nL ret) (hS : St D cy ad ns A M s.heap H locs) (ho : Ob ns 10 100) {v : Int32} (hdg : decode cc pc = .ok (.putfield 134, 3)) (kk : ∀ (H1 : Heap) (locs1 : List Loc), St D cy ad ns A (sI M 100 14 v) s.heap H1 locs1 → W p l e R s m args below meth c H1 locs1 cells slots Q (F0 m (pc + 3) ls rest)) : W p l e R s m args below meth c H locs cells slots Q (F0 m pc ls (.int v :: .ref (ad 100 0) :: rest)) := r_put X hS (C := RX10) (T := TX10) (N := 58) (k := 14) tf10 rfl rfl tyX10 tyX10_ok nmX10 ho (by decide) t5_146 ⟨rfl, rfl, rfl⟩ rfl (ty := .int) (by decide +kernel) rfl rfl (wr_sI hS.1.2.2) (cel_sI (by decide) rfl) (fun q hq => cel_sI' hq) hdg kk
theorem fg_X10_137 (X : Cx p s m args meth c D cy ad A RX10 cc nL ret) (hS : St D cy ad ns A M s.heap H locs) (ho : Ob ns 10 100) (hdg : decode cc pc = .ok (.getfield 137, 3)) (kk : W p l e R s m args below meth c H locs cells slots Q (F0 m (pc + 3) ls (.int (gI M 100 16) :: rest))) : W p l e R s m args below meth c H locs cells slots Q (F0 m pc ls (.ref (ad 100 0) :: rest)) := r_get X hS (C := RX10) (T := TX10) (N := 58) (k := 16) tf10 rfl rfl ho (by decide) t5_148 ⟨rfl, rfl, rfl⟩ rfl hdg kk
theorem fp_X10_137 (X : Cx p s m args meth c D cy ad A RX10 cc nL ret) (hS : St D cy ad ns A M s.heap H locs) (ho : Ob ns 10 100) {v : Int32} (hdg : decode cc pc = .ok (.putfield 137, 3)) (kk : ∀ (H1 : Heap) (locs1 : List Loc), St D cy ad ns A (sI M 100 16 v) s.heap H1 locs1 → W p l e R s m args below meth c H1 locs1 cells slots Q (F0 m (pc + 3) ls rest)) : W p l e R s m args below meth c H locs cells slots Q (F0 m pc ls (.int v :: .ref (ad 100 0) :: rest)) := r_put X hS (C := RX10) (T := TX10) (N := 58) (k := 16) tf10 rfl rfl tyX10 tyX10_ok nmX10 ho (by decide) t5_148 ⟨rfl, rfl, rfl⟩ rfl (ty := .int) (by decide +kernel) rfl rfl (wr_sI hS.1.2.2) (cel_sI (by decide) rfl) (fun q hq => cel_sI' hq) hdg kk
theorem fg_X10_140 (X : Cx p s m args meth c D cy ad A RX10 cc nL ret) (hS : St D cy ad ns A M s.heap H locs) (ho : Ob ns 10 100) (hdg : decode cc pc = .ok (.getfield 140, 3)) (kk : W p l e R s m args below meth c H locs cells slots Q (F0 m (pc + 3) ls (.int (gI M 100 17) :: rest))) : W p l e R s m args below meth c H locs cells slots Q (F0 m pc ls (.ref (ad 100 0) :: rest)) := r_get X hS (C := RX10) (T := TX10) (N := 58) (k := 17) tf10 rfl rfl ho (by decide) t5_149 ⟨rfl, rfl, rfl⟩ rfl hdg kk
theorem fp_X10_140 (X : Cx p s m args meth c D cy ad A RX10 cc nL ret) (hS : St D cy ad ns A M s.heap H locs) (ho : Ob ns 10 100) {v : Int32} (hdg : decode cc pc = .ok (.putfield 140, 3)) (kk : ∀ (H1 : Heap) (locs1 : List Loc), St D cy ad ns A (sI M 100 17 v) s.heap H1 locs1 → W p l e R s m args below meth c H1 locs1 cells slots Q (F0 m (pc + 3) ls rest)) : W p l e R s m args below meth c H locs cells slots Q (F0 m pc ls (.int v :: .ref (ad 100 0) :: rest)) := r_put X hS (C := RX10) (T := TX10) (N := 58) (k := 17) tf10 rfl rfl tyX10 tyX10_ok nmX10 ho (by decide) t5_149 ⟨rfl, rfl, rfl⟩ rfl (ty := .int) (by decide +kernel) rfl rfl (wr_sI hS.1.2.2) (cel_sI (by decide) rfl) (fun q hq => cel_sI' hq) hdg kk
theorem fg_X10_143 (X : Cx p s m args meth c D cy ad A RX10 cc nL ret) (hS : St D cy ad ns A M s.heap H locs) (ho : Ob ns 10 100) (hdg : decode cc pc = .ok (.getfield 143, 3)) (kk : W p l e R s m args below meth c H locs cells slots Q (F0 m (pc + 3) ls (.int (gI M 100 18) :: rest))) : W p l e R s m args below meth c H locs cells slots Q (F0 m pc ls (.ref (ad 100 0) :: rest)) := r_get X hS (C := RX10) (T := TX10) (N := 58) (k := 18) tf10 rfl rfl ho (by decide) t5_150 ⟨rfl, rfl, rfl⟩ rfl hdg kk
theorem fp_X10_143 (X : Cx p s m args meth c D cy ad A RX10 cc nL ret) (hS : St D cy ad ns A M s.heap H locs) (ho : Ob ns 10 100) {v : Int32} (hdg : decode cc pc = .ok (.putfield 143, 3)) (kk : ∀ (H1 : Heap) (locs1 : List Loc), St D cy ad ns A (sI M 100 18 v) s.heap H1 locs1 → W p l e R s m args below meth c H1 locs1 cells slots Q (F0 m (pc + 3) ls rest)) : W p l e R s m args below meth c H locs cells slots Q (F0 m pc ls (.int v :: .ref (ad 100 0) :: rest)) := r_put X hS (C := RX10) (T := TX10) (N := 58) (k := 18) tf10 rfl rfl tyX10 tyX10_ok nmX10 ho (by decide) t5_150 ⟨rfl, rfl, rfl⟩ rfl (ty := .int) (by decide +kernel) rfl rfl (wr_sI hS.1.2.2) (cel_sI (by decide) rfl) (fun q hq => cel_sI' hq) hdg kk
theorem fg_X10_154 (X : Cx p s m args meth c D cy ad A RX10 cc nL ret) (hS : St D cy ad ns A M s.heap H locs) (ho : Ob ns 10 100) (hdg : decode cc pc = .ok (.getfield 154, 3)) (kk : W p l e R s m args below meth c H locs cells slots Q (F0 m (pc + 3) ls (.int (gI M 100 22) :: rest))) : W p l e R s m args below meth c H locs cells slots Q (F0 m pc ls (.ref (ad 100 0) :: rest)) := r_get X hS (C := RX10) (T := TX10) (N := 58) (k := 22) tf10 rfl rfl ho (by decide) t5_154 ⟨rfl, rfl, rfl⟩ rfl hdg kk
theorem fp_X10_154 (X : Cx p s m args meth c D cy ad A RX10 cc nL ret) (hS : St D cy ad ns A M s.heap H locs) (ho : Ob ns 10 100) {v : Bool} (hdg : decode cc pc = .ok (.putfield 154, 3)) (kk : ∀ (H1 : Heap) (locs1 : List Loc), St D cy ad ns A (sI M 100 22 (b2i v)) s.heap H1 locs1 → W p l e R s m args below meth c H1 locs1 cells slots Q (F0 m (pc + 3) ls rest)) : W p l e R s m args below meth c H locs cells slots Q (F0 m pc ls (.int (b2i v) :: .ref (ad 100 0) :: rest)) := r_put X hS (C := RX10) (T := TX10) (N := 58) (k := 22) tf10 rfl rfl tyX10 tyX10_ok nmX10 ho (by decide) t5_154 ⟨rfl, rfl, rfl⟩ rfl (ty := .boolean) (by decide +kernel) (b2i_nar v) (by cases v <;> rfl) (wr_sI hS.1.2.2) (cel_sI (by decide) rfl) (fun q hq => cel_sI' hq) hdg kk
theorem fg_X10_168 (X : Cx p s m args meth c D cy ad A RX10 cc nL ret) (hS : St D cy ad ns A M s.heap H locs) (ho : Ob ns 10 100) (hdg : decode cc pc = .ok (.getfield 168, 3)) (kk : W p l e R s m args below meth c H locs cells slots Q (F0 m (pc + 3) ls (.int (gI M 100 21) :: rest))) : W p l e R s m args below meth c H locs cells slots Q (F0 m pc ls (.ref (ad 100 0) :: rest)) := r_get X hS (C := RX10) (T := TX10) (N := 58) (k := 21) tf10 rfl rfl ho (by decide) t5_153 ⟨rfl, rfl, rfl⟩ rfl hdg kk
theorem fp_X10_168 (X : Cx p s m args meth c D cy ad A RX10 cc nL ret) (hS : St D cy ad ns A M s.heap H locs) (ho : Ob ns 10 100) {v : Int32} (hdg : decode cc pc = .ok (.putfield 168, 3)) (kk : ∀ (H1 : Heap) (locs1 : List Loc), St D cy ad ns A (sI M 100 21 v) s.heap H1 locs1 → W p l e R s m args below meth c H1 locs1 cells slots Q (F0 m (pc + 3) ls rest)) : W p l e R s m args below meth c H locs cells slots Q (F0 m pc ls (.int v :: .ref (ad 100 0) :: rest)) := r_put X hS (C := RX10) (T := TX10) (N := 58) (k := 21) tf10 rfl rfl tyX10 tyX10_ok nmX10 ho (by decide) t5_153 ⟨rfl, rfl, rfl⟩ rfl (ty := .int) (by decide +kernel) rfl rfl (wr_sI hS.1.2.2) (cel_sI (by decide) rfl) (fun q hq => cel_sI' hq) hdg kk
end FR_30_M0
section MT_30_M0
variable {p : Program} {l : Launch} {e : Env} {s : State} {m : MethodId} {args : Array Value} {below : List Frame} {meth : Method} {c : Code} {D : va_G} {cy : Nat → ClassId} {ad : Nat → Nat → Nat} {ns : List (Nat × Nat)} {A : Nat → Prop}
/-! SewnYearModel.in(III)Z -/
def rm_X10_in : Room := { frames := 0, cells := 0, slots := 0, locals := 0 }
def f_X10_in (a1 : Int32) (a2 : Int32) (a3 : Int32) : Option (Bool) :=
  if a1 < a2 then (some false) else (if a3 < a1 then (some false) else (some true))
set_option maxRecDepth 100000 in
set_option maxHeartbeats 4000000 in
theorem m_X10_in {l : Launch} {D : va_G} {cy : Nat → ClassId} {ad : Nat → Nat → Nat} {ns : List (Nat × Nat)} {A : Nat → Prop} {M : Mem} (hN : Ob ns 10 100) {a1 : Int32} {a2 : Int32} {a3 : Int32} {r : Bool} (hX : f_X10_in a1 a2 a3 = some r) : Ct l yX10_in cX10_in 3 ((some .boolean)) rm_X10_in D cy ad ns A [.int a1, .int a2, .int a3] M M (some (.int (b2i r))) := by
  refine ct_of (lv := [(0, .int a1), (1, .int a2), (2, .int a3)]) (by decide) (Nat.le_of_ble_eq_true rfl) rfl ?_
  intro p e s m args below meth c ls X hl hS
  obtain ⟨hx, hb, hml, hown, hts, hK, hr, hlk, hA, hG⟩ := id X
  obtain ⟨H, hH⟩ : ∃ z, z = s.heap := ⟨_, rfl⟩
  obtain ⟨locs, hlo⟩ : ∃ z : List Loc, z = [] := ⟨_, rfl⟩
  have hS : St D cy ad ns A M s.heap H locs := by rw [hH, hlo]; exact hS
  have hgoal : W p l e rm_X10_in s m args below meth c H locs 0 0 (MQ below (QC D cy ad ns A M (some (.int (b2i r)))) args s 0 0 A) (F0 m 0 ls []) := by
    unfold f_X10_in at hX
    refine lv_iload_n hx hb dX10_in_0 rfl (lv_at hl 0 rfl) ?_
    refine lv_iload_n hx hb dX10_in_1 rfl (lv_at hl 1 rfl) ?_
    refine lv_icmp_lt (tgt := 14) hx hb dX10_in_2 (by decide) (fun c1 => ?_) (fun c1 => ?_)
    · have hX := if_t c1 hX
      refine lv_iconst (v := nI 0) hx hb dX10_in_14 (by decide) ?_
      obtain rfl := some_of hX
      exact x_Z (v := false) X hS dX10_in_15
    · have hX := if_f c1 hX
      refine lv_iload_n hx hb dX10_in_5 rfl (lv_at hl 0 rfl) ?_
      refine lv_iload_n hx hb dX10_in_6 rfl (lv_at hl 2 rfl) ?_
      refine lv_icmp_gt (tgt := 14) hx hb dX10_in_7 (by decide) (fun c2 => ?_) (fun c2 => ?_)
      · have hX := if_t c2 hX
        refine lv_iconst (v := nI 0) hx hb dX10_in_14 (by decide) ?_
        obtain rfl := some_of hX
        exact x_Z (v := false) X hS dX10_in_15
      · have hX := if_f c2 hX
        refine lv_iconst (v := nI 1) hx hb dX10_in_10 (by decide) ?_
        refine lv_goto (tgt := 15) hx hb dX10_in_11 (by decide) ?_
        obtain rfl := some_of hX
        exact x_Z (v := true) X hS dX10_in_15
  rw [hH, hlo] at hgoal
  exact hgoal
theorem ms_X10_in : Ms yX10_in cX10_in 3 ((some .boolean)) 3 := ⟨t6_83, t6_82, t1_11, ⟨by decide, by decide⟩, by decide +kernel⟩
/-! SewnYearModel.has(II)Z -/
def rm_X10_has : Room := { frames := 0, cells := 0, slots := 0, locals := 0 }
def f_X10_has (a1 : Int32) (a2 : Int32) : Option (Bool) :=
  if ((a1 >>> (a2 &&& 31)) &&& (nI 1)) = (nI 1) then (some true) else (some false)
set_option maxRecDepth 100000 in
set_option maxHeartbeats 4000000 in
theorem m_X10_has {l : Launch} {D : va_G} {cy : Nat → ClassId} {ad : Nat → Nat → Nat} {ns : List (Nat × Nat)} {A : Nat → Prop} {M : Mem} (hN : Ob ns 10 100) {a1 : Int32} {a2 : Int32} {r : Bool} (hX : f_X10_has a1 a2 = some r) : Ct l yX10_has cX10_has 2 ((some .boolean)) rm_X10_has D cy ad ns A [.int a1, .int a2] M M (some (.int (b2i r))) := by
  refine ct_of (lv := [(0, .int a1), (1, .int a2)]) (by decide) (Nat.le_of_ble_eq_true rfl) rfl ?_
  intro p e s m args below meth c ls X hl hS
  obtain ⟨hx, hb, hml, hown, hts, hK, hr, hlk, hA, hG⟩ := id X
  obtain ⟨H, hH⟩ : ∃ z, z = s.heap := ⟨_, rfl⟩
  obtain ⟨locs, hlo⟩ : ∃ z : List Loc, z = [] := ⟨_, rfl⟩
  have hS : St D cy ad ns A M s.heap H locs := by rw [hH, hlo]; exact hS
  have hgoal : W p l e rm_X10_has s m args below meth c H locs 0 0 (MQ below (QC D cy ad ns A M (some (.int (b2i r)))) args s 0 0 A) (F0 m 0 ls []) := by
    unfold f_X10_has at hX
    refine lv_iload_n hx hb dX10_has_0 rfl (lv_at hl 0 rfl) ?_
    refine lv_iload_n hx hb dX10_has_1 rfl (lv_at hl 1 rfl) ?_
    refine lv_ishr hx hb dX10_has_2 ?_
    refine lv_iconst (v := nI 1) hx hb dX10_has_3 (by decide) ?_
    refine lv_iand hx hb dX10_has_4 ?_
    refine lv_iconst (v := nI 1) hx hb dX10_has_5 (by decide) ?_
    refine lv_icmp_ne (tgt := 13) hx hb dX10_has_6 (by decide) (fun c1 => ?_) (fun c1 => ?_)
    · have hX := if_f c1 hX
      refine lv_iconst (v := nI 0) hx hb dX10_has_13 (by decide) ?_
      obtain rfl := some_of hX
      exact x_Z (v := false) X hS dX10_has_14
    · have hX := if_t c1 hX
      refine lv_iconst (v := nI 1) hx hb dX10_has_9 (by decide) ?_
      refine lv_goto (tgt := 14) hx hb dX10_has_10 (by decide) ?_
      obtain rfl := some_of hX
      exact x_Z (v := true) X hS dX10_has_14
  rw [hH, hlo] at hgoal
  exact hgoal
theorem ms_X10_has : Ms yX10_has cX10_has 2 ((some .boolean)) 2 := ⟨t7_38, t7_37, t1_11, ⟨by decide, by decide⟩, by decide +kernel⟩
/-! SewnYearModel.greater(II)I -/
def rm_X10_greater : Room := { frames := 0, cells := 0, slots := 0, locals := 0 }
def f_X10_greater (a1 : Int32) (a2 : Int32) : Option (Int32) :=
  if a1 ≤ a2 then (some a2) else (some a1)
set_option maxRecDepth 100000 in
set_option maxHeartbeats 4000000 in
theorem m_X10_greater {l : Launch} {D : va_G} {cy : Nat → ClassId} {ad : Nat → Nat → Nat} {ns : List (Nat × Nat)} {A : Nat → Prop} {M : Mem} (hN : Ob ns 10 100) {a1 : Int32} {a2 : Int32} {r : Int32} (hX : f_X10_greater a1 a2 = some r) : Ct l yX10_greater cX10_greater 2 ((some .int)) rm_X10_greater D cy ad ns A [.int a1, .int a2] M M (some (.int r)) := by
  refine ct_of (lv := [(0, .int a1), (1, .int a2)]) (by decide) (Nat.le_of_ble_eq_true rfl) rfl ?_
  intro p e s m args below meth c ls X hl hS
  obtain ⟨hx, hb, hml, hown, hts, hK, hr, hlk, hA, hG⟩ := id X
  obtain ⟨H, hH⟩ : ∃ z, z = s.heap := ⟨_, rfl⟩
  obtain ⟨locs, hlo⟩ : ∃ z : List Loc, z = [] := ⟨_, rfl⟩
  have hS : St D cy ad ns A M s.heap H locs := by rw [hH, hlo]; exact hS
  have hgoal : W p l e rm_X10_greater s m args below meth c H locs 0 0 (MQ below (QC D cy ad ns A M (some (.int r))) args s 0 0 A) (F0 m 0 ls []) := by
    unfold f_X10_greater at hX
    refine lv_iload_n hx hb dX10_greater_0 rfl (lv_at hl 0 rfl) ?_
    refine lv_iload_n hx hb dX10_greater_1 rfl (lv_at hl 1 rfl) ?_
    refine lv_icmp_le (tgt := 9) hx hb dX10_greater_2 (by decide) (fun c1 => ?_) (fun c1 => ?_)
    · have hX := if_t c1 hX
      refine lv_iload_n hx hb dX10_greater_9 rfl (lv_at hl 1 rfl) ?_
      obtain rfl := some_of hX
      exact x_I (v := a2) X hS dX10_greater_10
    · have hX := if_f c1 hX
      refine lv_iload_n hx hb dX10_greater_5 rfl (lv_at hl 0 rfl) ?_
      refine lv_goto (tgt := 10) hx hb dX10_greater_6 (by decide) ?_
      obtain rfl := some_of hX
      exact x_I (v := a1) X hS dX10_greater_10
  rw [hH, hlo] at hgoal
  exact hgoal
theorem ms_X10_greater : Ms yX10_greater cX10_greater 2 ((some .int)) 2 := ⟨t6_158, t6_157, t1_11, ⟨by decide, by decide⟩, by decide +kernel⟩
/-! SewnYearModel.lesser(II)I -/
def rm_X10_lesser : Room := { frames := 0, cells := 0, slots := 0, locals := 0 }
def f_X10_lesser (a1 : Int32) (a2 : Int32) : Option (Int32) :=
  if a2 ≤ a1 then (some a2) else (some a1)
set_option maxRecDepth 100000 in
set_option maxHeartbeats 4000000 in
theorem m_X10_lesser {l : Launch} {D : va_G} {cy : Nat → ClassId} {ad : Nat → Nat → Nat} {ns : List (Nat × Nat)} {A : Nat → Prop} {M : Mem} (hN : Ob ns 10 100) {a1 : Int32} {a2 : Int32} {r : Int32} (hX : f_X10_lesser a1 a2 = some r) : Ct l yX10_lesser cX10_lesser 2 ((some .int)) rm_X10_lesser D cy ad ns A [.int a1, .int a2] M M (some (.int r)) := by
  refine ct_of (lv := [(0, .int a1), (1, .int a2)]) (by decide) (Nat.le_of_ble_eq_true rfl) rfl ?_
  intro p e s m args below meth c ls X hl hS
  obtain ⟨hx, hb, hml, hown, hts, hK, hr, hlk, hA, hG⟩ := id X
  obtain ⟨H, hH⟩ : ∃ z, z = s.heap := ⟨_, rfl⟩
  obtain ⟨locs, hlo⟩ : ∃ z : List Loc, z = [] := ⟨_, rfl⟩
  have hS : St D cy ad ns A M s.heap H locs := by rw [hH, hlo]; exact hS
  have hgoal : W p l e rm_X10_lesser s m args below meth c H locs 0 0 (MQ below (QC D cy ad ns A M (some (.int r))) args s 0 0 A) (F0 m 0 ls []) := by
    unfold f_X10_lesser at hX
    refine lv_iload_n hx hb dX10_lesser_0 rfl (lv_at hl 0 rfl) ?_
    refine lv_iload_n hx hb dX10_lesser_1 rfl (lv_at hl 1 rfl) ?_
    refine lv_icmp_ge (tgt := 9) hx hb dX10_lesser_2 (by decide) (fun c1 => ?_) (fun c1 => ?_)
    · have hX := if_t c1 hX
      refine lv_iload_n hx hb dX10_lesser_9 rfl (lv_at hl 1 rfl) ?_
      obtain rfl := some_of hX
      exact x_I (v := a2) X hS dX10_lesser_10
    · have hX := if_f c1 hX
      refine lv_iload_n hx hb dX10_lesser_5 rfl (lv_at hl 0 rfl) ?_
      refine lv_goto (tgt := 10) hx hb dX10_lesser_6 (by decide) ?_
      obtain rfl := some_of hX
      exact x_I (v := a1) X hS dX10_lesser_10
  rw [hH, hlo] at hgoal
  exact hgoal
theorem ms_X10_lesser : Ms yX10_lesser cX10_lesser 2 ((some .int)) 2 := ⟨t7_45, t7_44, t1_11, ⟨by decide, by decide⟩, by decide +kernel⟩
/-! SewnYearModel.ones(I)I -/
def rm_X10_ones : Room := { frames := 1, cells := 0, slots := 0, locals := 21 }
def f_X10_ones_24 (a1 : Int32) (k_4 : Int32 → Int32 → Option (Int32)) (v_2 : Int32) (s_0 : Int32) (s_1 : Bool) : Option (Int32) :=
  nm (s_0 + (b2i s_1)) fun v1 => nm (v_2 + nI 1) fun v2 => k_4 v1 v2
def b_X10_ones_4 (a1 : Int32) (rc : Int32 → Int32 → Option (Int32)) (v_1 : Int32) (v_2 : Int32) : Option (Int32) :=
  if (nI 9) ≤ v_2 then (some v_1) else (bn (f_X10_has a1 v_2) fun r5 => if r5 = true then (f_X10_ones_24 a1 rc v_2 v_1 true) else (f_X10_ones_24 a1 rc v_2 v_1 false))
def f_X10_ones_4 (a1 : Int32) : Nat → (Int32 × Int32) → Option (Int32) := lp (fun rc q => b_X10_ones_4 a1 (fun x0 x1 => rc (x0, x1)) q.1 q.2)
def f_X10_ones (a1 : Int32) : Option (Int32) :=
  f_X10_ones_4 a1 FU ((nI 0), (nI 0))
set_option maxRecDepth 100000 in
set_option maxHeartbeats 4000000 in
theorem n_X10_ones_24 {a1 : Int32} (X : Cx p s m args meth c D cy ad A RX10 cX10_ones 3 ((some .int))) (hN : Ob ns 10 100) {M : Mem} {k_4 : Int32 → Int32 → Option (Int32)} {v_2 : Int32} {s_0 : Int32} {s_1 : Bool} {r : Int32} (hX : f_X10_ones_24 a1 k_4 v_2 s_0 s_1 = some r) : (∀ (v_1 : Int32) (v_2 : Int32) (r : Int32), k_4 v_1 v_2 = some r → ∀ (ls : Array Slot) (H : Heap) (locs : List Loc), lv_has ls 3 [(0, .int a1), (1, .int v_1), (2, .int v_2)] → St D cy ad ns A M s.heap H locs → W p l e rm_X10_ones s m args below meth c H locs 0 0 (MQ below (QC D cy ad ns A M (some (.int r))) args s 0 0 A) (F0 m 4 ls [])) → ∀ (ls : Array Slot) (H : Heap) (locs : List Loc), lv_has ls 3 [(0, .int a1), (2, .int v_2)] → St D cy ad ns A M s.heap H locs → W p l e rm_X10_ones s m args below meth c H locs 0 0 (MQ below (QC D cy ad ns A M (some (.int r))) args s 0 0 A) (F0 m 24 ls [.int (b2i s_1), .int s_0]) := by
  obtain ⟨hx, hb, hml, hown, hts, hK, hr, hlk, hA, hG⟩ := id X
  intro hk_4 ls H locs hl hS
  unfold f_X10_ones_24 at hX
  refine lv_iadd hx hb dX10_ones_24 ?_
  refine lv_topi (fun v1 ev1 => ?_)
  have hX := nm_of ev1 hX
  refine lv_istore_n (lv' := [(1, .int v1), (0, .int a1), (2, .int v_2)]) hx hb dX10_ones_25 rfl hl (by decide) rfl (fun ls hl => ?_)
  obtain ⟨v2, ev2⟩ : ∃ y : Int32, y = (v_2 + nI 1) := ⟨_, rfl⟩
  have hX := nm_of ev2 hX
  refine lv_iinc (v := v2) (lv' := [(2, .int v2), (1, .int v1), (0, .int a1)]) hx hb dX10_ones_26 hl (k := 2) rfl (by rw [ev2]; rfl) (by decide) rfl (fun ls hl => ?_)
  refine lv_goto (tgt := 4) hx hb dX10_ones_29 (by decide) ?_
  exact hk_4 _ _ _ hX _ _ _ (lv_sub hl [2, 1, 0] rfl) hS
set_option maxRecDepth 100000 in
set_option maxHeartbeats 4000000 in
theorem n_X10_ones_4 {a1 : Int32} (X : Cx p s m args meth c D cy ad A RX10 cX10_ones 3 ((some .int))) (hN : Ob ns 10 100) {M : Mem} : ∀ (n : Nat) (v_1 : Int32) (v_2 : Int32) (r : Int32), f_X10_ones_4 a1 n (v_1, v_2) = some r → ∀ (ls : Array Slot) (H : Heap) (locs : List Loc), lv_has ls 3 [(0, .int a1), (1, .int v_1), (2, .int v_2)] → St D cy ad ns A M s.heap H locs → W p l e rm_X10_ones s m args below meth c H locs 0 0 (MQ below (QC D cy ad ns A M (some (.int r))) args s 0 0 A) (F0 m 4 ls []) := by
  obtain ⟨hx, hb, hml, hown, hts, hK, hr, hlk, hA, hG⟩ := id X
  intro n
  induction n with
  | zero => intro v_1 v_2 r hX; cases (show (none : Option (Int32)) = some r from hX)
  | succ n ih =>
    intro v_1 v_2 r hX ls H locs hl hS
    have hX : b_X10_ones_4 a1 (fun x0 x1 => f_X10_ones_4 a1 n (x0, x1)) v_1 v_2 = some r := hX
    unfold b_X10_ones_4 at hX
    refine lv_iload_n hx hb dX10_ones_4 rfl (lv_at hl 2 rfl) ?_
    refine lv_bipush (v := nI 9) hx hb dX10_ones_5 (by decide) ?_
    refine lv_icmp_ge (tgt := 32) hx hb dX10_ones_7 (by decide) (fun c3 => ?_) (fun c3 => ?_)
    · have hX := if_t c3 hX
      refine lv_iload_n hx hb dX10_ones_32 rfl (lv_at hl 1 rfl) ?_
      obtain rfl := some_of hX
      exact x_I (v := v_1) X hS dX10_ones_33
    · have hX := if_f c3 hX
      refine lv_iload_n hx hb dX10_ones_10 rfl (lv_at hl 1 rfl) ?_
      refine lv_iload_n hx hb dX10_ones_11 rfl (lv_at hl 0 rfl) ?_
      refine lv_iload_n hx hb dX10_ones_12 rfl (lv_at hl 2 rfl) ?_
      obtain ⟨r5, h4, hX⟩ := bn_of hX
      refine r_callS1 (v := .int (b2i r5)) (As := [.int a1, .int v_2]) (rest := [.int v_1]) X hS (m_X10_has (M := M) hN h4) ms_X10_has t7_36 ⟨rfl, rfl, Nat.le_of_ble_eq_true rfl, Nat.le_of_ble_eq_true rfl⟩ rfl hl.1 rfl (Nat.le_of_ble_eq_true rfl) ⟨Nat.zero_le _, Nat.zero_le _⟩ dX10_ones_13 (fun H locs hS => ?_)
      refine lv_if_eq (tgt := 23) hx hb dX10_ones_16 (by decide) (fun c6 => ?_) (fun c6 => ?_)
      · have hX := if_bf c6 hX
        refine lv_iconst (v := nI 0) hx hb dX10_ones_23 (by decide) ?_
        exact n_X10_ones_24 X hN hX (fun z0 z1 r h ls H locs hl hS => ih z0 z1 r h ls H locs hl hS) _ _ _ (lv_sub hl [0, 2] rfl) hS
      · have hX := if_bt c6 hX
        refine lv_iconst (v := nI 1) hx hb dX10_ones_19 (by decide) ?_
        refine lv_goto (tgt := 24) hx hb dX10_ones_20 (by decide) ?_
        exact n_X10_ones_24 X hN hX (fun z0 z1 r h ls H locs hl hS => ih z0 z1 r h ls H locs hl hS) _ _ _ (lv_sub hl [0, 2] rfl) hS
set_option maxRecDepth 100000 in
set_option maxHeartbeats 4000000 in
theorem m_X10_ones {l : Launch} {D : va_G} {cy : Nat → ClassId} {ad : Nat → Nat → Nat} {ns : List (Nat × Nat)} {A : Nat → Prop} {M : Mem} (hN : Ob ns 10 100) {a1 : Int32} {r : Int32} (hX : f_X10_ones a1 = some r) : Ct l yX10_ones cX10_ones 3 ((some .int)) rm_X10_ones D cy ad ns A [.int a1] M M (some (.int r)) := by
  refine ct_of (lv := [(0, .int a1)]) (by decide) (Nat.le_of_ble_eq_true rfl) rfl ?_
  intro p e s m args below meth c ls X hl hS
  obtain ⟨hx, hb, hml, hown, hts, hK, hr, hlk, hA, hG⟩ := id X
  obtain ⟨H, hH⟩ : ∃ z, z = s.heap := ⟨_, rfl⟩
  obtain ⟨locs, hlo⟩ : ∃ z : List Loc, z = [] := ⟨_, rfl⟩
  have hS : St D cy ad ns A M s.heap H locs := by rw [hH, hlo]; exact hS
  have hgoal : W p l e rm_X10_ones s m args below meth c H locs 0 0 (MQ below (QC D cy ad ns A M (some (.int r))) args s 0 0 A) (F0 m 0 ls []) := by
    unfold f_X10_ones at hX
    refine lv_iconst (v := nI 0) hx hb dX10_ones_0 (by decide) ?_
    refine lv_istore_n (lv' := [(1, .int (nI 0)), (0, .int a1)]) hx hb dX10_ones_1 rfl hl (by decide) rfl (fun ls hl => ?_)
    refine lv_iconst (v := nI 0) hx hb dX10_ones_2 (by decide) ?_
    refine lv_istore_n (lv' := [(2, .int (nI 0)), (1, .int (nI 0)), (0, .int a1)]) hx hb dX10_ones_3 rfl hl (by decide) rfl (fun ls hl => ?_)
    exact n_X10_ones_4 X hN _ _ _ _ hX _ _ _ (lv_sub hl [2, 1, 0] rfl) hS
  rw [hH, hlo] at hgoal
  exact hgoal
theorem ms_X10_ones : Ms yX10_ones cX10_ones 3 ((some .int)) 1 := ⟨t7_97, t7_96, t1_11, ⟨by decide, by decide⟩, by decide +kernel⟩
/-! SewnYearModel.upwards(II)I -/
def rm_X10_upwards : Room := { frames := 0, cells := 0, slots := 0, locals := 0 }
def f_X10_upwards (a1 : Int32) (a2 : Int32) : Option (Int32) :=
  gnz a2 <| some (((a1 + a2) - (nI 1)) / a2)
set_option maxRecDepth 100000 in
set_option maxHeartbeats 4000000 in
theorem m_X10_upwards {l : Launch} {D : va_G} {cy : Nat → ClassId} {ad : Nat → Nat → Nat} {ns : List (Nat × Nat)} {A : Nat → Prop} {M : Mem} (hN : Ob ns 10 100) {a1 : Int32} {a2 : Int32} {r : Int32} (hX : f_X10_upwards a1 a2 = some r) : Ct l yX10_upwards cX10_upwards 2 ((some .int)) rm_X10_upwards D cy ad ns A [.int a1, .int a2] M M (some (.int r)) := by
  refine ct_of (lv := [(0, .int a1), (1, .int a2)]) (by decide) (Nat.le_of_ble_eq_true rfl) rfl ?_
  intro p e s m args below meth c ls X hl hS
  obtain ⟨hx, hb, hml, hown, hts, hK, hr, hlk, hA, hG⟩ := id X
  obtain ⟨H, hH⟩ : ∃ z, z = s.heap := ⟨_, rfl⟩
  obtain ⟨locs, hlo⟩ : ∃ z : List Loc, z = [] := ⟨_, rfl⟩
  have hS : St D cy ad ns A M s.heap H locs := by rw [hH, hlo]; exact hS
  have hgoal : W p l e rm_X10_upwards s m args below meth c H locs 0 0 (MQ below (QC D cy ad ns A M (some (.int r))) args s 0 0 A) (F0 m 0 ls []) := by
    unfold f_X10_upwards at hX
    refine lv_iload_n hx hb dX10_upwards_0 rfl (lv_at hl 0 rfl) ?_
    refine lv_iload_n hx hb dX10_upwards_1 rfl (lv_at hl 1 rfl) ?_
    refine lv_iadd hx hb dX10_upwards_2 ?_
    refine lv_iconst (v := nI 1) hx hb dX10_upwards_3 (by decide) ?_
    refine lv_isub hx hb dX10_upwards_4 ?_
    refine lv_iload_n hx hb dX10_upwards_5 rfl (lv_at hl 1 rfl) ?_
    obtain ⟨g1, hX⟩ := gnz_of hX
    refine lv_idiv hx hb dX10_upwards_6 g1 ?_
    obtain rfl := some_of hX
    exact x_I (v := (((a1 + a2) - (nI 1)) / a2)) X hS dX10_upwards_7
  rw [hH, hlo] at hgoal
  exact hgoal
theorem ms_X10_upwards : Ms yX10_upwards cX10_upwards 2 ((some .int)) 2 := ⟨t7_149, t7_148, t1_11, ⟨by decide, by decide⟩, by decide +kernel⟩
/-! SewnYearModel.copyRow([IIII)V -/
def rm_X10_copyRow : Room := { frames := 0, cells := 0, slots := 0, locals := 0 }
def b_X10_copyRow_3 (a1 : Nat) (a2 : Int32) (a3 : Int32) (a4 : Int32) (rc : Int32 → Mem → Option (Mem)) (v_4 : Int32) (M : Mem) : Option (Mem) :=
  if a2 ≤ v_4 then (some M) else (gin ((a2 * a3) + v_4) (ln 10 a1) <| gin ((a2 * a4) + v_4) (ln 10 a1) <| nm (sA M 100 a1 (ix ((a2 * a4) + v_4)) (gA M 100 a1 (ix ((a2 * a3) + v_4)))) fun M4 => nm (v_4 + nI 1) fun v5 => rc v5 M4)
def f_X10_copyRow_3 (a1 : Nat) (a2 : Int32) (a3 : Int32) (a4 : Int32) : Nat → (Int32 × Mem) → Option (Mem) := lp (fun rc q => b_X10_copyRow_3 a1 a2 a3 a4 (fun x0 x1 => rc (x0, x1)) q.1 q.2)
def f_X10_copyRow (M : Mem) (a1 : Nat) (a2 : Int32) (a3 : Int32) (a4 : Int32) : Option (Mem) :=
  f_X10_copyRow_3 a1 a2 a3 a4 FU ((nI 0), M)
set_option maxRecDepth 100000 in
set_option maxHeartbeats 4000000 in
theorem n_X10_copyRow_3 {a1 : Nat} {a2 : Int32} {a3 : Int32} {a4 : Int32} (X : Cx p s m args meth c D cy ad A RX10 cX10_copyRow 5 ((none : Option Jvm.ClassFile.FieldType))) (hN : Ob ns 10 100) (ha1 : ak 10 a1 = 0) : ∀ (n : Nat) (v_4 : Int32) (M : Mem) (r : Mem), f_X10_copyRow_3 a1 a2 a3 a4 n (v_4, M) = some r → ∀ (ls : Array Slot) (H : Heap) (locs : List Loc), lv_has ls 5 [(0, .ref (ad 100 (a1 + 1))), (1, .int a2), (2, .int a3), (3, .int a4), (4, .int v_4)] → St D cy ad ns A M s.heap H locs → W p l e rm_X10_copyRow s m args below meth c H locs 0 0 (MQ below (QC D cy ad ns A r none) args s 0 0 A) (F0 m 3 ls []) := by
  obtain ⟨hx, hb, hml, hown, hts, hK, hr, hlk, hA, hG⟩ := id X
  intro n
  induction n with
  | zero => intro v_4 M r hX; cases (show (none : Option (Mem)) = some r from hX)
  | succ n ih =>
    intro v_4 M r hX ls H locs hl hS
    have hX : b_X10_copyRow_3 a1 a2 a3 a4 (fun x0 x1 => f_X10_copyRow_3 a1 a2 a3 a4 n (x0, x1)) v_4 M = some r := hX
    unfold b_X10_copyRow_3 at hX
    refine lv_iload hx hb dX10_copyRow_3 (lv_at hl 4 rfl) ?_
    refine lv_iload_n hx hb dX10_copyRow_5 rfl (lv_at hl 1 rfl) ?_
    refine lv_icmp_ge (tgt := 31) hx hb dX10_copyRow_6 (by decide) (fun c1 => ?_) (fun c1 => ?_)
    · have hX := if_t c1 hX
      obtain rfl := some_of hX
      exact x_V X hS dX10_copyRow_31
    · have hX := if_f c1 hX
      refine lv_aload_n hx hb dX10_copyRow_9 rfl (lv_at hl 0 rfl) ?_
      refine lv_iload_n hx hb dX10_copyRow_10 rfl (lv_at hl 1 rfl) ?_
      refine lv_iload_n hx hb dX10_copyRow_11 rfl (lv_at hl 3 rfl) ?_
      refine lv_imul hx hb dX10_copyRow_12 ?_
      refine lv_iload hx hb dX10_copyRow_13 (lv_at hl 4 rfl) ?_
      refine lv_iadd hx hb dX10_copyRow_15 ?_
      refine lv_aload_n hx hb dX10_copyRow_16 rfl (lv_at hl 0 rfl) ?_
      refine lv_iload_n hx hb dX10_copyRow_17 rfl (lv_at hl 1 rfl) ?_
      refine lv_iload_n hx hb dX10_copyRow_18 rfl (lv_at hl 2 rfl) ?_
      refine lv_imul hx hb dX10_copyRow_19 ?_
      refine lv_iload hx hb dX10_copyRow_20 (lv_at hl 4 rfl) ?_
      refine lv_iadd hx hb dX10_copyRow_22 ?_
      obtain ⟨g2, hX⟩ := gin_of hX
      refine r_iald (ci := 10) (o := 100) (k := a1) (n := (ln 10 a1)) X hS hN ha1 rfl g2 dX10_copyRow_23 ?_
      obtain ⟨g3, hX⟩ := gin_of hX
      refine r_iast (ci := 10) (o := 100) (k := a1) (n := (ln 10 a1)) X hS hN ha1 rfl g3 dX10_copyRow_24 (fun H locs hS => ?_)
      obtain ⟨M4, eM4, hS, hX⟩ := nm_mem hS hX
      obtain ⟨v5, ev5⟩ : ∃ y : Int32, y = (v_4 + nI 1) := ⟨_, rfl⟩
      have hX := nm_of ev5 hX
      refine lv_iinc (v := v5) (lv' := [(4, .int v5), (0, .ref (ad 100 (a1 + 1))), (1, .int a2), (2, .int a3), (3, .int a4)]) hx hb dX10_copyRow_25 hl (k := 4) rfl (by rw [ev5]; rfl) (by decide) rfl (fun ls hl => ?_)
      refine lv_goto (tgt := 3) hx hb dX10_copyRow_28 (by decide) ?_
      exact ih _ _ _ hX _ _ _ (lv_sub hl [1, 2, 3, 4, 0] rfl) hS
set_option maxRecDepth 100000 in
set_option maxHeartbeats 4000000 in
theorem m_X10_copyRow {l : Launch} {D : va_G} {cy : Nat → ClassId} {ad : Nat → Nat → Nat} {ns : List (Nat × Nat)} {A : Nat → Prop} {M : Mem} (hN : Ob ns 10 100) {a1 : Nat} {a2 : Int32} {a3 : Int32} {a4 : Int32} (ha1 : ak 10 a1 = 0) {r : Mem} (hX : f_X10_copyRow M a1 a2 a3 a4 = some r) : Ct l yX10_copyRow cX10_copyRow 5 ((none : Option Jvm.ClassFile.FieldType)) rm_X10_copyRow D cy ad ns A [.ref (ad 100 (a1 + 1)), .int a2, .int a3, .int a4] M r none := by
  refine ct_of (lv := [(0, .ref (ad 100 (a1 + 1))), (1, .int a2), (2, .int a3), (3, .int a4)]) (by decide) (Nat.le_of_ble_eq_true rfl) rfl ?_
  intro p e s m args below meth c ls X hl hS
  obtain ⟨hx, hb, hml, hown, hts, hK, hr, hlk, hA, hG⟩ := id X
  obtain ⟨H, hH⟩ : ∃ z, z = s.heap := ⟨_, rfl⟩
  obtain ⟨locs, hlo⟩ : ∃ z : List Loc, z = [] := ⟨_, rfl⟩
  have hS : St D cy ad ns A M s.heap H locs := by rw [hH, hlo]; exact hS
  have hgoal : W p l e rm_X10_copyRow s m args below meth c H locs 0 0 (MQ below (QC D cy ad ns A r none) args s 0 0 A) (F0 m 0 ls []) := by
    unfold f_X10_copyRow at hX
    refine lv_iconst (v := nI 0) hx hb dX10_copyRow_0 (by decide) ?_
    refine lv_istore (lv' := [(4, .int (nI 0)), (0, .ref (ad 100 (a1 + 1))), (1, .int a2), (2, .int a3), (3, .int a4)]) hx hb dX10_copyRow_1 hl (by decide) rfl (fun ls hl => ?_)
    exact n_X10_copyRow_3 X hN ha1 _ _ _ _ hX _ _ _ (lv_sub hl [1, 2, 3, 4, 0] rfl) hS
  rw [hH, hlo] at hgoal
  exact hgoal
theorem ms_X10_copyRow : Ms yX10_copyRow cX10_copyRow 5 ((none : Option Jvm.ClassFile.FieldType)) 4 := ⟨t8_118, t8_117, t1_11, ⟨by decide, by decide⟩, by decide +kernel⟩
/-! SewnYearModel.copyAll(II)V -/
def rm_X10_copyAll : Room := { frames := 1, cells := 0, slots := 0, locals := 24 }
def b_X10_copyAll_2 (a1 : Int32) (a2 : Int32) (rc : Int32 → Mem → Option (Mem)) (v_3 : Int32) (M : Mem) : Option (Mem) :=
  if (nI 600) ≤ v_3 then (bn (f_X10_copyRow M 2 (nI 1) a1 a2) fun M3 => bn (f_X10_copyRow M3 3 (nI 1) a1 a2) fun M5 => bn (f_X10_copyRow M5 4 (nI 1) a1 a2) fun M7 => bn (f_X10_copyRow M7 5 (nI 4) a1 a2) fun M9 => bn (f_X10_copyRow M9 6 (nI 276) a1 a2) fun M11 => bn (f_X10_copyRow M11 7 (nI 162) a1 a2) fun M13 => bn (f_X10_copyRow M13 8 (nI 82) a1 a2) fun M15 => bn (f_X10_copyRow M15 9 (nI 62) a1 a2) fun M17 => some M17) else (gin (((nI 600) * a1) + v_3) 2400 <| gin (((nI 600) * a2) + v_3) 2400 <| nm (sA M 100 1 (ix (((nI 600) * a2) + v_3)) (Int8.toInt32 (Int32.toInt8 (gA M 100 1 (ix (((nI 600) * a1) + v_3)))))) fun M20 => nm (v_3 + nI 1) fun v21 => rc v21 M20)
def f_X10_copyAll_2 (a1 : Int32) (a2 : Int32) : Nat → (Int32 × Mem) → Option (Mem) := lp (fun rc q => b_X10_copyAll_2 a1 a2 (fun x0 x1 => rc (x0, x1)) q.1 q.2)
def f_X10_copyAll (M : Mem) (a1 : Int32) (a2 : Int32) : Option (Mem) :=
  f_X10_copyAll_2 a1 a2 FU ((nI 0), M)
set_option maxRecDepth 100000 in
set_option maxHeartbeats 4000000 in
theorem n_X10_copyAll_2 {a1 : Int32} {a2 : Int32} (X : Cx p s m args meth c D cy ad A RX10 cX10_copyAll 4 ((none : Option Jvm.ClassFile.FieldType))) (hN : Ob ns 10 100) : ∀ (n : Nat) (v_3 : Int32) (M : Mem) (r : Mem), f_X10_copyAll_2 a1 a2 n (v_3, M) = some r → ∀ (ls : Array Slot) (H : Heap) (locs : List Loc), lv_has ls 4 [(0, .ref (ad 100 0)), (1, .int a1), (2, .int a2), (3, .int v_3)] → St D cy ad ns A M s.heap H locs → W p l e rm_X10_copyAll s m args below meth c H locs 0 0 (MQ below (QC D cy ad ns A r none) args s 0 0 A) (F0 m 2 ls []) := by
  obtain ⟨hx, hb, hml, hown, hts, hK, hr, hlk, hA, hG⟩ := id X
  intro n
  induction n with
  | zero => intro v_3 M r hX; cases (show (none : Option (Mem)) = some r from hX)
  | succ n ih =>
    intro v_3 M r hX ls H locs hl hS
    have hX : b_X10_copyAll_2 a1 a2 (fun x0 x1 => f_X10_copyAll_2 a1 a2 n (x0, x1)) v_3 M = some r := hX
    unfold b_X10_copyAll_2 at hX
    refine lv_iload_n hx hb dX10_copyAll_2 rfl (lv_at hl 3 rfl) ?_
    refine lv_sipush (v := nI 600) hx hb dX10_copyAll_3 (by decide) ?_
    refine lv_icmp_ge (tgt := 39) hx hb dX10_copyAll_6 (by decide) (fun c1 => ?_) (fun c1 => ?_)
    · have hX := if_t c1 hX
      refine lv_aload_n hx hb dX10_copyAll_39 rfl (lv_at hl 0 rfl) ?_
      refine fg_X10_13 X hS (hN) dX10_copyAll_40 ?_
      refine lv_iconst (v := nI 1) hx hb dX10_copyAll_43 (by decide) ?_
      refine lv_iload_n hx hb dX10_copyAll_44 rfl (lv_at hl 1 rfl) ?_
      refine lv_iload_n hx hb dX10_copyAll_45 rfl (lv_at hl 2 rfl) ?_
      obtain ⟨M3, h2, hX⟩ := bn_of hX
      refine r_callS0 (As := [.ref (ad 100 (2 + 1)), .int (nI 1), .int a1, .int a2]) (rest := []) X hS (m_X10_copyRow hN rfl h2) ms_X10_copyRow t8_116 ⟨rfl, rfl, Nat.le_of_ble_eq_true rfl, Nat.le_of_ble_eq_true rfl⟩ rfl hl.1 rfl (Nat.le_of_ble_eq_true rfl) ⟨Nat.zero_le _, Nat.zero_le _⟩ dX10_copyAll_46 (fun H locs hS => ?_)
      refine lv_aload_n hx hb dX10_copyAll_49 rfl (lv_at hl 0 rfl) ?_
      refine fg_X10_17 X hS (hN) dX10_copyAll_50 ?_
      refine lv_iconst (v := nI 1) hx hb dX10_copyAll_53 (by decide) ?_
      refine lv_iload_n hx hb dX10_copyAll_54 rfl (lv_at hl 1 rfl) ?_
      refine lv_iload_n hx hb dX10_copyAll_55 rfl (lv_at hl 2 rfl) ?_
      obtain ⟨M5, h4, hX⟩ := bn_of hX
      refine r_callS0 (As := [.ref (ad 100 (3 + 1)), .int (nI 1), .int a1, .int a2]) (rest := []) X hS (m_X10_copyRow hN rfl h4) ms_X10_copyRow t8_116 ⟨rfl, rfl, Nat.le_of_ble_eq_true rfl, Nat.le_of_ble_eq_true rfl⟩ rfl hl.1 rfl (Nat.le_of_ble_eq_true rfl) ⟨Nat.zero_le _, Nat.zero_le _⟩ dX10_copyAll_56 (fun H locs hS => ?_)
      refine lv_aload_n hx hb dX10_copyAll_59 rfl (lv_at hl 0 rfl) ?_
      refine fg_X10_20 X hS (hN) dX10_copyAll_60 ?_
      refine lv_iconst (v := nI 1) hx hb dX10_copyAll_63 (by decide) ?_
      refine lv_iload_n hx hb dX10_copyAll_64 rfl (lv_at hl 1 rfl) ?_
      refine lv_iload_n hx hb dX10_copyAll_65 rfl (lv_at hl 2 rfl) ?_
      obtain ⟨M7, h6, hX⟩ := bn_of hX
      refine r_callS0 (As := [.ref (ad 100 (4 + 1)), .int (nI 1), .int a1, .int a2]) (rest := []) X hS (m_X10_copyRow hN rfl h6) ms_X10_copyRow t8_116 ⟨rfl, rfl, Nat.le_of_ble_eq_true rfl, Nat.le_of_ble_eq_true rfl⟩ rfl hl.1 rfl (Nat.le_of_ble_eq_true rfl) ⟨Nat.zero_le _, Nat.zero_le _⟩ dX10_copyAll_66 (fun H locs hS => ?_)
      refine lv_aload_n hx hb dX10_copyAll_69 rfl (lv_at hl 0 rfl) ?_
      refine fg_X10_23 X hS (hN) dX10_copyAll_70 ?_
      refine lv_iconst (v := nI 4) hx hb dX10_copyAll_73 (by decide) ?_
      refine lv_iload_n hx hb dX10_copyAll_74 rfl (lv_at hl 1 rfl) ?_
      refine lv_iload_n hx hb dX10_copyAll_75 rfl (lv_at hl 2 rfl) ?_
      obtain ⟨M9, h8, hX⟩ := bn_of hX
      refine r_callS0 (As := [.ref (ad 100 (5 + 1)), .int (nI 4), .int a1, .int a2]) (rest := []) X hS (m_X10_copyRow hN rfl h8) ms_X10_copyRow t8_116 ⟨rfl, rfl, Nat.le_of_ble_eq_true rfl, Nat.le_of_ble_eq_true rfl⟩ rfl hl.1 rfl (Nat.le_of_ble_eq_true rfl) ⟨Nat.zero_le _, Nat.zero_le _⟩ dX10_copyAll_76 (fun H locs hS => ?_)
      refine lv_aload_n hx hb dX10_copyAll_79 rfl (lv_at hl 0 rfl) ?_
      refine fg_X10_26 X hS (hN) dX10_copyAll_80 ?_
      refine lv_sipush (v := nI 276) hx hb dX10_copyAll_83 (by decide) ?_
      refine lv_iload_n hx hb dX10_copyAll_86 rfl (lv_at hl 1 rfl) ?_
      refine lv_iload_n hx hb dX10_copyAll_87 rfl (lv_at hl 2 rfl) ?_
      obtain ⟨M11, h10, hX⟩ := bn_of hX
      refine r_callS0 (As := [.ref (ad 100 (6 + 1)), .int (nI 276), .int a1, .int a2]) (rest := []) X hS (m_X10_copyRow hN rfl h10) ms_X10_copyRow t8_116 ⟨rfl, rfl, Nat.le_of_ble_eq_true rfl, Nat.le_of_ble_eq_true rfl⟩ rfl hl.1 rfl (Nat.le_of_ble_eq_true rfl) ⟨Nat.zero_le _, Nat.zero_le _⟩ dX10_copyAll_88 (fun H locs hS => ?_)
      refine lv_aload_n hx hb dX10_copyAll_91 rfl (lv_at hl 0 rfl) ?_
      refine fg_X10_29 X hS (hN) dX10_copyAll_92 ?_
      refine lv_sipush (v := nI 162) hx hb dX10_copyAll_95 (by decide) ?_
      refine lv_iload_n hx hb dX10_copyAll_98 rfl (lv_at hl 1 rfl) ?_
      refine lv_iload_n hx hb dX10_copyAll_99 rfl (lv_at hl 2 rfl) ?_
      obtain ⟨M13, h12, hX⟩ := bn_of hX
      refine r_callS0 (As := [.ref (ad 100 (7 + 1)), .int (nI 162), .int a1, .int a2]) (rest := []) X hS (m_X10_copyRow hN rfl h12) ms_X10_copyRow t8_116 ⟨rfl, rfl, Nat.le_of_ble_eq_true rfl, Nat.le_of_ble_eq_true rfl⟩ rfl hl.1 rfl (Nat.le_of_ble_eq_true rfl) ⟨Nat.zero_le _, Nat.zero_le _⟩ dX10_copyAll_100 (fun H locs hS => ?_)
      refine lv_aload_n hx hb dX10_copyAll_103 rfl (lv_at hl 0 rfl) ?_
      refine fg_X10_32 X hS (hN) dX10_copyAll_104 ?_
      refine lv_bipush (v := nI 82) hx hb dX10_copyAll_107 (by decide) ?_
      refine lv_iload_n hx hb dX10_copyAll_109 rfl (lv_at hl 1 rfl) ?_
      refine lv_iload_n hx hb dX10_copyAll_110 rfl (lv_at hl 2 rfl) ?_
      obtain ⟨M15, h14, hX⟩ := bn_of hX
      refine r_callS0 (As := [.ref (ad 100 (8 + 1)), .int (nI 82), .int a1, .int a2]) (rest := []) X hS (m_X10_copyRow hN rfl h14) ms_X10_copyRow t8_116 ⟨rfl, rfl, Nat.le_of_ble_eq_true rfl, Nat.le_of_ble_eq_true rfl⟩ rfl hl.1 rfl (Nat.le_of_ble_eq_true rfl) ⟨Nat.zero_le _, Nat.zero_le _⟩ dX10_copyAll_111 (fun H locs hS => ?_)
      refine lv_aload_n hx hb dX10_copyAll_114 rfl (lv_at hl 0 rfl) ?_
      refine fg_X10_35 X hS (hN) dX10_copyAll_115 ?_
      refine lv_bipush (v := nI 62) hx hb dX10_copyAll_118 (by decide) ?_
      refine lv_iload_n hx hb dX10_copyAll_120 rfl (lv_at hl 1 rfl) ?_
      refine lv_iload_n hx hb dX10_copyAll_121 rfl (lv_at hl 2 rfl) ?_
      obtain ⟨M17, h16, hX⟩ := bn_of hX
      refine r_callS0 (As := [.ref (ad 100 (9 + 1)), .int (nI 62), .int a1, .int a2]) (rest := []) X hS (m_X10_copyRow hN rfl h16) ms_X10_copyRow t8_116 ⟨rfl, rfl, Nat.le_of_ble_eq_true rfl, Nat.le_of_ble_eq_true rfl⟩ rfl hl.1 rfl (Nat.le_of_ble_eq_true rfl) ⟨Nat.zero_le _, Nat.zero_le _⟩ dX10_copyAll_122 (fun H locs hS => ?_)
      obtain rfl := some_of hX
      exact x_V X hS dX10_copyAll_125
    · have hX := if_f c1 hX
      refine lv_aload_n hx hb dX10_copyAll_9 rfl (lv_at hl 0 rfl) ?_
      refine fg_X10_7 X hS (hN) dX10_copyAll_10 ?_
      refine lv_sipush (v := nI 600) hx hb dX10_copyAll_13 (by decide) ?_
      refine lv_iload_n hx hb dX10_copyAll_16 rfl (lv_at hl 2 rfl) ?_
      refine lv_imul hx hb dX10_copyAll_17 ?_
      refine lv_iload_n hx hb dX10_copyAll_18 rfl (lv_at hl 3 rfl) ?_
      refine lv_iadd hx hb dX10_copyAll_19 ?_
      refine lv_aload_n hx hb dX10_copyAll_20 rfl (lv_at hl 0 rfl) ?_
      refine fg_X10_7 X hS (hN) dX10_copyAll_21 ?_
      refine lv_sipush (v := nI 600) hx hb dX10_copyAll_24 (by decide) ?_
      refine lv_iload_n hx hb dX10_copyAll_27 rfl (lv_at hl 1 rfl) ?_
      refine lv_imul hx hb dX10_copyAll_28 ?_
      refine lv_iload_n hx hb dX10_copyAll_29 rfl (lv_at hl 3 rfl) ?_
      refine lv_iadd hx hb dX10_copyAll_30 ?_
      obtain ⟨g18, hX⟩ := gin_of hX
      refine r_bald (ci := 10) (o := 100) (k := 1) (n := 2400) X hS (hN) rfl rfl g18 dX10_copyAll_31 ?_
      obtain ⟨g19, hX⟩ := gin_of hX
      refine r_bast (ci := 10) (o := 100) (k := 1) (n := 2400) X hS (hN) rfl rfl g19 dX10_copyAll_32 (fun H locs hS => ?_)
      obtain ⟨M20, eM20, hS, hX⟩ := nm_mem hS hX
      obtain ⟨v21, ev21⟩ : ∃ y : Int32, y = (v_3 + nI 1) := ⟨_, rfl⟩
      have hX := nm_of ev21 hX
      refine lv_iinc (v := v21) (lv' := [(3, .int v21), (0, .ref (ad 100 0)), (1, .int a1), (2, .int a2)]) hx hb dX10_copyAll_33 hl (k := 3) rfl (by rw [ev21]; rfl) (by decide) rfl (fun ls hl => ?_)
      refine lv_goto (tgt := 2) hx hb dX10_copyAll_36 (by decide) ?_
      exact ih _ _ _ hX _ _ _ (lv_sub hl [1, 2, 3, 0] rfl) hS
set_option maxRecDepth 100000 in
set_option maxHeartbeats 4000000 in
theorem m_X10_copyAll {l : Launch} {D : va_G} {cy : Nat → ClassId} {ad : Nat → Nat → Nat} {ns : List (Nat × Nat)} {A : Nat → Prop} {M : Mem} (hN : Ob ns 10 100) {a1 : Int32} {a2 : Int32} {r : Mem} (hX : f_X10_copyAll M a1 a2 = some r) : Ct l yX10_copyAll cX10_copyAll 4 ((none : Option Jvm.ClassFile.FieldType)) rm_X10_copyAll D cy ad ns A [.ref (ad 100 0), .int a1, .int a2] M r none := by
  refine ct_of (lv := [(0, .ref (ad 100 0)), (1, .int a1), (2, .int a2)]) (by decide) (Nat.le_of_ble_eq_true rfl) rfl ?_
  intro p e s m args below meth c ls X hl hS
  obtain ⟨hx, hb, hml, hown, hts, hK, hr, hlk, hA, hG⟩ := id X
  obtain ⟨H, hH⟩ : ∃ z, z = s.heap := ⟨_, rfl⟩
  obtain ⟨locs, hlo⟩ : ∃ z : List Loc, z = [] := ⟨_, rfl⟩
  have hS : St D cy ad ns A M s.heap H locs := by rw [hH, hlo]; exact hS
  have hgoal : W p l e rm_X10_copyAll s m args below meth c H locs 0 0 (MQ below (QC D cy ad ns A r none) args s 0 0 A) (F0 m 0 ls []) := by
    unfold f_X10_copyAll at hX
    refine lv_iconst (v := nI 0) hx hb dX10_copyAll_0 (by decide) ?_
    refine lv_istore_n (lv' := [(3, .int (nI 0)), (0, .ref (ad 100 0)), (1, .int a1), (2, .int a2)]) hx hb dX10_copyAll_1 rfl hl (by decide) rfl (fun ls hl => ?_)
    exact n_X10_copyAll_2 X hN _ _ _ _ hX _ _ _ (lv_sub hl [1, 2, 3, 0] rfl) hS
  rw [hH, hlo] at hgoal
  exact hgoal
theorem mv_X10_copyAll : Mv yX10_copyAll RX10 cX10_copyAll 4 ((none : Option Jvm.ClassFile.FieldType)) 2 := ⟨t8_115, t8_114, ts_94, t1_11, ⟨by decide, by decide⟩, by decide +kernel⟩
/-! SewnYearModel.is(II)Z -/
def rm_X10_is : Room := { frames := 1, cells := 0, slots := 0, locals := 22 }
def f_X10_is (M : Mem) (a1 : Int32) (a2 : Int32) : Option (Bool) :=
  gin a1 16 <| bn (f_X10_in a2 (nI 0) ((gA M 100 5 (ix a1)) - (nI 1))) fun r3 => some r3
set_option maxRecDepth 100000 in
set_option maxHeartbeats 4000000 in
theorem m_X10_is {l : Launch} {D : va_G} {cy : Nat → ClassId} {ad : Nat → Nat → Nat} {ns : List (Nat × Nat)} {A : Nat → Prop} {M : Mem} (hN : Ob ns 10 100) {a1 : Int32} {a2 : Int32} {r : Bool} (hX : f_X10_is M a1 a2 = some r) : Ct l yX10_is cX10_is 3 ((some .boolean)) rm_X10_is D cy ad ns A [.ref (ad 100 0), .int a1, .int a2] M M (some (.int (b2i r))) := by
  refine ct_of (lv := [(0, .ref (ad 100 0)), (1, .int a1), (2, .int a2)]) (by decide) (Nat.le_of_ble_eq_true rfl) rfl ?_
  intro p e s m args below meth c ls X hl hS
  obtain ⟨hx, hb, hml, hown, hts, hK, hr, hlk, hA, hG⟩ := id X
  obtain ⟨H, hH⟩ : ∃ z, z = s.heap := ⟨_, rfl⟩
  obtain ⟨locs, hlo⟩ : ∃ z : List Loc, z = [] := ⟨_, rfl⟩
  have hS : St D cy ad ns A M s.heap H locs := by rw [hH, hlo]; exact hS
  have hgoal : W p l e rm_X10_is s m args below meth c H locs 0 0 (MQ below (QC D cy ad ns A M (some (.int (b2i r)))) args s 0 0 A) (F0 m 0 ls []) := by
    unfold f_X10_is at hX
    refine lv_iload_n hx hb dX10_is_0 rfl (lv_at hl 2 rfl) ?_
    refine lv_iconst (v := nI 0) hx hb dX10_is_1 (by decide) ?_
    refine lv_aload_n hx hb dX10_is_2 rfl (lv_at hl 0 rfl) ?_
    refine fg_X10_23 X hS (hN) dX10_is_3 ?_
    refine lv_iload_n hx hb dX10_is_6 rfl (lv_at hl 1 rfl) ?_
    obtain ⟨g1, hX⟩ := gin_of hX
    refine r_iald (ci := 10) (o := 100) (k := 5) (n := 16) X hS (hN) rfl rfl g1 dX10_is_7 ?_
    refine lv_iconst (v := nI 1) hx hb dX10_is_8 (by decide) ?_
    refine lv_isub hx hb dX10_is_9 ?_
    obtain ⟨r3, h2, hX⟩ := bn_of hX
    refine r_callS1 (v := .int (b2i r3)) (As := [.int a2, .int (nI 0), .int ((gA M 100 5 (ix a1)) - (nI 1))]) (rest := []) X hS (m_X10_in (M := M) hN h2) ms_X10_in t6_81 ⟨rfl, rfl, Nat.le_of_ble_eq_true rfl, Nat.le_of_ble_eq_true rfl⟩ rfl hl.1 rfl (Nat.le_of_ble_eq_true rfl) ⟨Nat.zero_le _, Nat.zero_le _⟩ dX10_is_10 (fun H locs hS => ?_)
    obtain rfl := some_of hX
    exact x_Z (v := r3) X hS dX10_is_13
  rw [hH, hlo] at hgoal
  exact hgoal
theorem mv_X10_is : Mv yX10_is RX10 cX10_is 3 ((some .boolean)) 2 := ⟨t6_91, t6_90, ts_7, t1_11, ⟨by decide, by decide⟩, by decide +kernel⟩
/-! SewnYearModel.four(I)V -/
def rm_X10_four : Room := { frames := 0, cells := 0, slots := 0, locals := 0 }
def b_X10_four_3 (a1 : Int32) (rc : Int32 → Mem → Option (Mem)) (v_2 : Int32) (M : Mem) : Option (Mem) :=
  if v_2 < (nI 0) then (some M) else (gin (nI 0) 4 <| gin (gA M 100 2 (ix (nI 0))) 2400 <| nm (sA M 100 1 (ix (gA M 100 2 (ix (nI 0)))) (Int8.toInt32 (Int32.toInt8 (a1 >>> (v_2 &&& 31))))) fun M4 => gin (nI 0) 4 <| gin (nI 0) 4 <| nm (sA M4 100 2 (ix (nI 0)) ((gA M4 100 2 (ix (nI 0))) + (nI 1))) fun M7 => nm (v_2 + (-8)) fun v8 => rc v8 M7)
def f_X10_four_3 (a1 : Int32) : Nat → (Int32 × Mem) → Option (Mem) := lp (fun rc q => b_X10_four_3 a1 (fun x0 x1 => rc (x0, x1)) q.1 q.2)
def f_X10_four (M : Mem) (a1 : Int32) : Option (Mem) :=
  f_X10_four_3 a1 FU ((nI 24), M)
set_option maxRecDepth 100000 in
set_option maxHeartbeats 4000000 in
theorem n_X10_four_3 {a1 : Int32} (X : Cx p s m args meth c D cy ad A RX10 cX10_four 3 ((none : Option Jvm.ClassFile.FieldType))) (hN : Ob ns 10 100) : ∀ (n : Nat) (v_2 : Int32) (M : Mem) (r : Mem), f_X10_four_3 a1 n (v_2, M) = some r → ∀ (ls : Array Slot) (H : Heap) (locs : List Loc), lv_has ls 3 [(0, .ref (ad 100 0)), (1, .int a1), (2, .int v_2)] → St D cy ad ns A M s.heap H locs → W p l e rm_X10_four s m args below meth c H locs 0 0 (MQ below (QC D cy ad ns A r none) args s 0 0 A) (F0 m 3 ls []) := by
  obtain ⟨hx, hb, hml, hown, hts, hK, hr, hlk, hA, hG⟩ := id X
  intro n
  induction n with
  | zero => intro v_2 M r hX; cases (show (none : Option (Mem)) = some r from hX)
  | succ n ih =>
    intro v_2 M r hX ls H locs hl hS
    have hX : b_X10_four_3 a1 (fun x0 x1 => f_X10_four_3 a1 n (x0, x1)) v_2 M = some r := hX
    unfold b_X10_four_3 at hX
    refine lv_iload_n hx hb dX10_four_3 rfl (lv_at hl 2 rfl) ?_
    refine lv_if_lt (tgt := 38) hx hb dX10_four_4 (by decide) (fun c1 => ?_) (fun c1 => ?_)
    · have hX := if_t c1 hX
      obtain rfl := some_of hX
      exact x_V X hS dX10_four_38
    · have hX := if_f c1 hX
      refine lv_aload_n hx hb dX10_four_7 rfl (lv_at hl 0 rfl) ?_
      refine fg_X10_7 X hS (hN) dX10_four_8 ?_
      refine lv_aload_n hx hb dX10_four_11 rfl (lv_at hl 0 rfl) ?_
      refine fg_X10_13 X hS (hN) dX10_four_12 ?_
      refine lv_iconst (v := nI 0) hx hb dX10_four_15 (by decide) ?_
      obtain ⟨g2, hX⟩ := gin_of hX
      refine r_iald (ci := 10) (o := 100) (k := 2) (n := 4) X hS (hN) rfl rfl g2 dX10_four_16 ?_
      refine lv_iload_n hx hb dX10_four_17 rfl (lv_at hl 1 rfl) ?_
      refine lv_iload_n hx hb dX10_four_18 rfl (lv_at hl 2 rfl) ?_
      refine lv_ishr hx hb dX10_four_19 ?_
      refine lv_i2b (v := (Int8.toInt32 (Int32.toInt8 (a1 >>> (v_2 &&& 31))))) hx hb dX10_four_20 rfl ?_
      obtain ⟨g3, hX⟩ := gin_of hX
      refine r_bast (ci := 10) (o := 100) (k := 1) (n := 2400) X hS (hN) rfl rfl g3 dX10_four_21 (fun H locs hS => ?_)
      obtain ⟨M4, eM4, hS, hX⟩ := nm_mem hS hX
      refine lv_aload_n hx hb dX10_four_22 rfl (lv_at hl 0 rfl) ?_
      refine fg_X10_13 X hS (hN) dX10_four_23 ?_
      refine lv_iconst (v := nI 0) hx hb dX10_four_26 (by decide) ?_
      refine lv_dup2_11 hx hb dX10_four_27 rfl rfl ?_
      obtain ⟨g5, hX⟩ := gin_of hX
      refine r_iald (ci := 10) (o := 100) (k := 2) (n := 4) X hS (hN) rfl rfl g5 dX10_four_28 ?_
      refine lv_iconst (v := nI 1) hx hb dX10_four_29 (by decide) ?_
      refine lv_iadd hx hb dX10_four_30 ?_
      obtain ⟨g6, hX⟩ := gin_of hX
      refine r_iast (ci := 10) (o := 100) (k := 2) (n := 4) X hS (hN) rfl rfl g6 dX10_four_31 (fun H locs hS => ?_)
      obtain ⟨M7, eM7, hS, hX⟩ := nm_mem hS hX
      obtain ⟨v8, ev8⟩ : ∃ y : Int32, y = (v_2 + (-8)) := ⟨_, rfl⟩
      have hX := nm_of ev8 hX
      refine lv_iinc (v := v8) (lv' := [(2, .int v8), (0, .ref (ad 100 0)), (1, .int a1)]) hx hb dX10_four_32 hl (k := 2) rfl (by rw [ev8]; rfl) (by decide) rfl (fun ls hl => ?_)
      refine lv_goto (tgt := 3) hx hb dX10_four_35 (by decide) ?_
      exact ih _ _ _ hX _ _ _ (lv_sub hl [1, 2, 0] rfl) hS
set_option maxRecDepth 100000 in
set_option maxHeartbeats 4000000 in
theorem m_X10_four {l : Launch} {D : va_G} {cy : Nat → ClassId} {ad : Nat → Nat → Nat} {ns : List (Nat × Nat)} {A : Nat → Prop} {M : Mem} (hN : Ob ns 10 100) {a1 : Int32} {r : Mem} (hX : f_X10_four M a1 = some r) : Ct l yX10_four cX10_four 3 ((none : Option Jvm.ClassFile.FieldType)) rm_X10_four D cy ad ns A [.ref (ad 100 0), .int a1] M r none := by
  refine ct_of (lv := [(0, .ref (ad 100 0)), (1, .int a1)]) (by decide) (Nat.le_of_ble_eq_true rfl) rfl ?_
  intro p e s m args below meth c ls X hl hS
  obtain ⟨hx, hb, hml, hown, hts, hK, hr, hlk, hA, hG⟩ := id X
  obtain ⟨H, hH⟩ : ∃ z, z = s.heap := ⟨_, rfl⟩
  obtain ⟨locs, hlo⟩ : ∃ z : List Loc, z = [] := ⟨_, rfl⟩
  have hS : St D cy ad ns A M s.heap H locs := by rw [hH, hlo]; exact hS
  have hgoal : W p l e rm_X10_four s m args below meth c H locs 0 0 (MQ below (QC D cy ad ns A r none) args s 0 0 A) (F0 m 0 ls []) := by
    unfold f_X10_four at hX
    refine lv_bipush (v := nI 24) hx hb dX10_four_0 (by decide) ?_
    refine lv_istore_n (lv' := [(2, .int (nI 24)), (0, .ref (ad 100 0)), (1, .int a1)]) hx hb dX10_four_2 rfl hl (by decide) rfl (fun ls hl => ?_)
    exact n_X10_four_3 X hN _ _ _ _ hX _ _ _ (lv_sub hl [1, 2, 0] rfl) hS
  rw [hH, hlo] at hgoal
  exact hgoal
theorem mv_X10_four : Mv yX10_four RX10 cX10_four 3 ((none : Option Jvm.ClassFile.FieldType)) 1 := ⟨t6_76, t6_75, ts_6, t1_11, ⟨by decide, by decide⟩, by decide +kernel⟩
/-! SewnYearModel.feed(IIIII)I -/
def rm_X10_feed : Room := { frames := 1, cells := 0, slots := 0, locals := 22 }
def f_X10_feed (M : Mem) (a1 : Int32) (a2 : Int32) (a3 : Int32) (a4 : Int32) (a5 : Int32) : Option (Int32 × Mem) :=
  nm (sI M 100 0 (nI 0)) fun M1 => gin (nI 0) 4 <| if ((gA M1 100 2 (ix (nI 0))) + (nI 20)) ≤ (nI 600) then (bn (f_X10_four M1 a1) fun M5 => bn (f_X10_four M5 a2) fun M7 => bn (f_X10_four M7 a3) fun M9 => bn (f_X10_four M9 a4) fun M11 => bn (f_X10_four M11 a5) fun M13 => gin (nI 0) 4 <| some ((gA M13 100 2 (ix (nI 0))), M13)) else (some ((-1), M1))
set_option maxRecDepth 100000 in
set_option maxHeartbeats 4000000 in
theorem m_X10_feed {l : Launch} {D : va_G} {cy : Nat → ClassId} {ad : Nat → Nat → Nat} {ns : List (Nat × Nat)} {A : Nat → Prop} {M : Mem} (hN : Ob ns 10 100) {a1 : Int32} {a2 : Int32} {a3 : Int32} {a4 : Int32} {a5 : Int32} {r : Int32 × Mem} (hX : f_X10_feed M a1 a2 a3 a4 a5 = some r) : Ct l yX10_feed cX10_feed 6 ((some .int)) rm_X10_feed D cy ad ns A [.ref (ad 100 0), .int a1, .int a2, .int a3, .int a4, .int a5] M r.2 (some (.int r.1)) := by
  refine ct_of (lv := [(0, .ref (ad 100 0)), (1, .int a1), (2, .int a2), (3, .int a3), (4, .int a4), (5, .int a5)]) (by decide) (Nat.le_of_ble_eq_true rfl) rfl ?_
  intro p e s m args below meth c ls X hl hS
  obtain ⟨hx, hb, hml, hown, hts, hK, hr, hlk, hA, hG⟩ := id X
  obtain ⟨H, hH⟩ : ∃ z, z = s.heap := ⟨_, rfl⟩
  obtain ⟨locs, hlo⟩ : ∃ z : List Loc, z = [] := ⟨_, rfl⟩
  have hS : St D cy ad ns A M s.heap H locs := by rw [hH, hlo]; exact hS
  have hgoal : W p l e rm_X10_feed s m args below meth c H locs 0 0 (MQ below (QC D cy ad ns A r.2 (some (.int r.1))) args s 0 0 A) (F0 m 0 ls []) := by
    unfold f_X10_feed at hX
    refine lv_aload_n hx hb dX10_feed_0 rfl (lv_at hl 0 rfl) ?_
    refine lv_iconst (v := nI 0) hx hb dX10_feed_1 (by decide) ?_
    refine fp_X10_94 X hS (hN) dX10_feed_2 (fun H locs hS => ?_)
    obtain ⟨M1, eM1, hS, hX⟩ := nm_mem hS hX
    refine lv_aload_n hx hb dX10_feed_5 rfl (lv_at hl 0 rfl) ?_
    refine fg_X10_13 X hS (hN) dX10_feed_6 ?_
    refine lv_iconst (v := nI 0) hx hb dX10_feed_9 (by decide) ?_
    obtain ⟨g2, hX⟩ := gin_of hX
    refine r_iald (ci := 10) (o := 100) (k := 2) (n := 4) X hS (hN) rfl rfl g2 dX10_feed_10 ?_
    refine lv_bipush (v := nI 20) hx hb dX10_feed_11 (by decide) ?_
    refine lv_iadd hx hb dX10_feed_13 ?_
    refine lv_sipush (v := nI 600) hx hb dX10_feed_14 (by decide) ?_
    refine lv_icmp_le (tgt := 22) hx hb dX10_feed_17 (by decide) (fun c3 => ?_) (fun c3 => ?_)
    · have hX := if_t c3 hX
      refine lv_aload_n hx hb dX10_feed_22 rfl (lv_at hl 0 rfl) ?_
      refine lv_iload_n hx hb dX10_feed_23 rfl (lv_at hl 1 rfl) ?_
      obtain ⟨M5, h4, hX⟩ := bn_of hX
      refine r_callV0 (As := [.int a1]) (rest := []) X hS (m_X10_four hN h4) mv_X10_four rfl (hN) t6_73 ⟨rfl, rfl, Nat.le_of_ble_eq_true rfl, Nat.le_of_ble_eq_true rfl⟩ rfl hl.1 rfl (Nat.le_of_ble_eq_true rfl) ⟨Nat.zero_le _, Nat.zero_le _⟩ dX10_feed_24 (fun H locs hS => ?_)
      refine lv_aload_n hx hb dX10_feed_27 rfl (lv_at hl 0 rfl) ?_
      refine lv_iload_n hx hb dX10_feed_28 rfl (lv_at hl 2 rfl) ?_
      obtain ⟨M7, h6, hX⟩ := bn_of hX
      refine r_callV0 (As := [.int a2]) (rest := []) X hS (m_X10_four hN h6) mv_X10_four rfl (hN) t6_73 ⟨rfl, rfl, Nat.le_of_ble_eq_true rfl, Nat.le_of_ble_eq_true rfl⟩ rfl hl.1 rfl (Nat.le_of_ble_eq_true rfl) ⟨Nat.zero_le _, Nat.zero_le _⟩ dX10_feed_29 (fun H locs hS => ?_)
      refine lv_aload_n hx hb dX10_feed_32 rfl (lv_at hl 0 rfl) ?_
      refine lv_iload_n hx hb dX10_feed_33 rfl (lv_at hl 3 rfl) ?_
      obtain ⟨M9, h8, hX⟩ := bn_of hX
      refine r_callV0 (As := [.int a3]) (rest := []) X hS (m_X10_four hN h8) mv_X10_four rfl (hN) t6_73 ⟨rfl, rfl, Nat.le_of_ble_eq_true rfl, Nat.le_of_ble_eq_true rfl⟩ rfl hl.1 rfl (Nat.le_of_ble_eq_true rfl) ⟨Nat.zero_le _, Nat.zero_le _⟩ dX10_feed_34 (fun H locs hS => ?_)
      refine lv_aload_n hx hb dX10_feed_37 rfl (lv_at hl 0 rfl) ?_
      refine lv_iload hx hb dX10_feed_38 (lv_at hl 4 rfl) ?_
      obtain ⟨M11, h10, hX⟩ := bn_of hX
      refine r_callV0 (As := [.int a4]) (rest := []) X hS (m_X10_four hN h10) mv_X10_four rfl (hN) t6_73 ⟨rfl, rfl, Nat.le_of_ble_eq_true rfl, Nat.le_of_ble_eq_true rfl⟩ rfl hl.1 rfl (Nat.le_of_ble_eq_true rfl) ⟨Nat.zero_le _, Nat.zero_le _⟩ dX10_feed_40 (fun H locs hS => ?_)
      refine lv_aload_n hx hb dX10_feed_43 rfl (lv_at hl 0 rfl) ?_
      refine lv_iload hx hb dX10_feed_44 (lv_at hl 5 rfl) ?_
      obtain ⟨M13, h12, hX⟩ := bn_of hX
      refine r_callV0 (As := [.int a5]) (rest := []) X hS (m_X10_four hN h12) mv_X10_four rfl (hN) t6_73 ⟨rfl, rfl, Nat.le_of_ble_eq_true rfl, Nat.le_of_ble_eq_true rfl⟩ rfl hl.1 rfl (Nat.le_of_ble_eq_true rfl) ⟨Nat.zero_le _, Nat.zero_le _⟩ dX10_feed_46 (fun H locs hS => ?_)
      refine lv_aload_n hx hb dX10_feed_49 rfl (lv_at hl 0 rfl) ?_
      refine fg_X10_13 X hS (hN) dX10_feed_50 ?_
      refine lv_iconst (v := nI 0) hx hb dX10_feed_53 (by decide) ?_
      obtain ⟨g14, hX⟩ := gin_of hX
      refine r_iald (ci := 10) (o := 100) (k := 2) (n := 4) X hS (hN) rfl rfl g14 dX10_feed_54 ?_
      obtain rfl := some_of hX
      exact x_I (v := (gA M13 100 2 (ix (nI 0)))) X hS dX10_feed_55
    · have hX := if_f c3 hX
      refine lv_iconst (v := (-1)) hx hb dX10_feed_20 (by decide) ?_
      obtain rfl := some_of hX
      exact x_I (v := (-1)) X hS dX10_feed_21
  rw [hH, hlo] at hgoal
  exact hgoal
theorem mv_X10_feed : Mv yX10_feed RX10 cX10_feed 6 ((some .int)) 5 := ⟨t6_72, t6_70, t6_71, t1_11, ⟨by decide, by decide⟩, by decide +kernel⟩
/-! SewnYearModel.end(I)I -/
def rm_X10_end : Room := { frames := 1, cells := 0, slots := 0, locals := 22 }
def f_X10_end (M : Mem) (a1 : Int32) : Option (Int32 × Mem) :=
  nm (sI M 100 0 (nI 0)) fun M1 => gin (nI 0) 4 <| bn (f_X10_in a1 (nI 0) (gA M1 100 2 (ix (nI 0)))) fun r4 => if r4 = true then (gin (nI 0) 4 <| nm (sA M1 100 2 (ix (nI 0)) a1) fun M7 => some (a1, M7)) else (some ((-1), M1))
set_option maxRecDepth 100000 in
set_option maxHeartbeats 4000000 in
theorem m_X10_end {l : Launch} {D : va_G} {cy : Nat → ClassId} {ad : Nat → Nat → Nat} {ns : List (Nat × Nat)} {A : Nat → Prop} {M : Mem} (hN : Ob ns 10 100) {a1 : Int32} {r : Int32 × Mem} (hX : f_X10_end M a1 = some r) : Ct l yX10_end cX10_end 2 ((some .int)) rm_X10_end D cy ad ns A [.ref (ad 100 0), .int a1] M r.2 (some (.int r.1)) := by
  refine ct_of (lv := [(0, .ref (ad 100 0)), (1, .int a1)]) (by decide) (Nat.le_of_ble_eq_true rfl) rfl ?_
  intro p e s m args below meth c ls X hl hS
  obtain ⟨hx, hb, hml, hown, hts, hK, hr, hlk, hA, hG⟩ := id X
  obtain ⟨H, hH⟩ : ∃ z, z = s.heap := ⟨_, rfl⟩
  obtain ⟨locs, hlo⟩ : ∃ z : List Loc, z = [] := ⟨_, rfl⟩
  have hS : St D cy ad ns A M s.heap H locs := by rw [hH, hlo]; exact hS
  have hgoal : W p l e rm_X10_end s m args below meth c H locs 0 0 (MQ below (QC D cy ad ns A r.2 (some (.int r.1))) args s 0 0 A) (F0 m 0 ls []) := by
    unfold f_X10_end at hX
    refine lv_aload_n hx hb dX10_end_0 rfl (lv_at hl 0 rfl) ?_
    refine lv_iconst (v := nI 0) hx hb dX10_end_1 (by decide) ?_
    refine fp_X10_94 X hS (hN) dX10_end_2 (fun H locs hS => ?_)
    obtain ⟨M1, eM1, hS, hX⟩ := nm_mem hS hX
    refine lv_iload_n hx hb dX10_end_5 rfl (lv_at hl 1 rfl) ?_
    refine lv_iconst (v := nI 0) hx hb dX10_end_6 (by decide) ?_
    refine lv_aload_n hx hb dX10_end_7 rfl (lv_at hl 0 rfl) ?_
    refine fg_X10_13 X hS (hN) dX10_end_8 ?_
    refine lv_iconst (v := nI 0) hx hb dX10_end_11 (by decide) ?_
    obtain ⟨g2, hX⟩ := gin_of hX
    refine r_iald (ci := 10) (o := 100) (k := 2) (n := 4) X hS (hN) rfl rfl g2 dX10_end_12 ?_
    obtain ⟨r4, h3, hX⟩ := bn_of hX
    refine r_callS1 (v := .int (b2i r4)) (As := [.int a1, .int (nI 0), .int (gA M1 100 2 (ix (nI 0)))]) (rest := []) X hS (m_X10_in (M := M1) hN h3) ms_X10_in t6_81 ⟨rfl, rfl, Nat.le_of_ble_eq_true rfl, Nat.le_of_ble_eq_true rfl⟩ rfl hl.1 rfl (Nat.le_of_ble_eq_true rfl) ⟨Nat.zero_le _, Nat.zero_le _⟩ dX10_end_13 (fun H locs hS => ?_)
    refine lv_if_ne (tgt := 21) hx hb dX10_end_16 (by decide) (fun c5 => ?_) (fun c5 => ?_)
    · have hX := if_bt c5 hX
      refine lv_aload_n hx hb dX10_end_21 rfl (lv_at hl 0 rfl) ?_
      refine fg_X10_13 X hS (hN) dX10_end_22 ?_
      refine lv_iconst (v := nI 0) hx hb dX10_end_25 (by decide) ?_
      refine lv_iload_n hx hb dX10_end_26 rfl (lv_at hl 1 rfl) ?_
      obtain ⟨g6, hX⟩ := gin_of hX
      refine r_iast (ci := 10) (o := 100) (k := 2) (n := 4) X hS (hN) rfl rfl g6 dX10_end_27 (fun H locs hS => ?_)
      obtain ⟨M7, eM7, hS, hX⟩ := nm_mem hS hX
      refine lv_iload_n hx hb dX10_end_28 rfl (lv_at hl 1 rfl) ?_
      obtain rfl := some_of hX
      exact x_I (v := a1) X hS dX10_end_29
    · have hX := if_bf c5 hX
      refine lv_iconst (v := (-1)) hx hb dX10_end_19 (by decide) ?_
      obtain rfl := some_of hX
      exact x_I (v := (-1)) X hS dX10_end_20
  rw [hH, hlo] at hgoal
  exact hgoal
theorem mv_X10_end : Mv yX10_end RX10 cX10_end 2 ((some .int)) 1 := ⟨t6_80, t6_78, t6_79, t1_11, ⟨by decide, by decide⟩, by decide +kernel⟩
/-! SewnYearModel.see()I -/
def rm_X10_see : Room := { frames := 0, cells := 0, slots := 0, locals := 0 }
def f_X10_see (M : Mem) : Option (Int32) :=
  if (gI M 100 11) ≤ (gI M 100 10) then (some (-1)) else (gin (gI M 100 10) 2400 <| some ((Int8.toInt32 (Int32.toInt8 (gA M 100 1 (ix (gI M 100 10))))) &&& (nI 255)))
set_option maxRecDepth 100000 in
set_option maxHeartbeats 4000000 in
theorem m_X10_see {l : Launch} {D : va_G} {cy : Nat → ClassId} {ad : Nat → Nat → Nat} {ns : List (Nat × Nat)} {A : Nat → Prop} {M : Mem} (hN : Ob ns 10 100) {r : Int32} (hX : f_X10_see M = some r) : Ct l yX10_see cX10_see 1 ((some .int)) rm_X10_see D cy ad ns A [.ref (ad 100 0)] M M (some (.int r)) := by
  refine ct_of (lv := [(0, .ref (ad 100 0))]) (by decide) (Nat.le_of_ble_eq_true rfl) rfl ?_
  intro p e s m args below meth c ls X hl hS
  obtain ⟨hx, hb, hml, hown, hts, hK, hr, hlk, hA, hG⟩ := id X
  obtain ⟨H, hH⟩ : ∃ z, z = s.heap := ⟨_, rfl⟩
  obtain ⟨locs, hlo⟩ : ∃ z : List Loc, z = [] := ⟨_, rfl⟩
  have hS : St D cy ad ns A M s.heap H locs := by rw [hH, hlo]; exact hS
  have hgoal : W p l e rm_X10_see s m args below meth c H locs 0 0 (MQ below (QC D cy ad ns A M (some (.int r))) args s 0 0 A) (F0 m 0 ls []) := by
    unfold f_X10_see at hX
    refine lv_aload_n hx hb dX10_see_0 rfl (lv_at hl 0 rfl) ?_
    refine fg_X10_114 X hS (hN) dX10_see_1 ?_
    refine lv_aload_n hx hb dX10_see_4 rfl (lv_at hl 0 rfl) ?_
    refine fg_X10_117 X hS (hN) dX10_see_5 ?_
    refine lv_icmp_ge (tgt := 27) hx hb dX10_see_8 (by decide) (fun c1 => ?_) (fun c1 => ?_)
    · have hX := if_t c1 hX
      refine lv_iconst (v := (-1)) hx hb dX10_see_27 (by decide) ?_
      obtain rfl := some_of hX
      exact x_I (v := (-1)) X hS dX10_see_28
    · have hX := if_f c1 hX
      refine lv_aload_n hx hb dX10_see_11 rfl (lv_at hl 0 rfl) ?_
      refine fg_X10_7 X hS (hN) dX10_see_12 ?_
      refine lv_aload_n hx hb dX10_see_15 rfl (lv_at hl 0 rfl) ?_
      refine fg_X10_114 X hS (hN) dX10_see_16 ?_
      obtain ⟨g2, hX⟩ := gin_of hX
      refine r_bald (ci := 10) (o := 100) (k := 1) (n := 2400) X hS (hN) rfl rfl g2 dX10_see_19 ?_
      refine lv_sipush (v := nI 255) hx hb dX10_see_20 (by decide) ?_
      refine lv_iand hx hb dX10_see_23 ?_
      refine lv_goto (tgt := 28) hx hb dX10_see_24 (by decide) ?_
      obtain rfl := some_of hX
      exact x_I (v := ((Int8.toInt32 (Int32.toInt8 (gA M 100 1 (ix (gI M 100 10))))) &&& (nI 255))) X hS dX10_see_28
  rw [hH, hlo] at hgoal
  exact hgoal
theorem mv_X10_see : Mv yX10_see RX10 cX10_see 1 ((some .int)) 0 := ⟨t6_107, t6_106, ts_11, t1_11, ⟨by decide, by decide⟩, by decide +kernel⟩
/-! SewnYearModel.token()V -/
def rm_X10_token : Room := { frames := 1, cells := 0, slots := 0, locals := 22 }
def f_X10_token_205 (k_163 : Int32 → Mem → Option (Mem)) (v_2 : Int32) (s_1 : Int32) (M : Mem) : Option (Mem) :=
  nm (sI M 100 14 s_1) fun M1 => nm (sI M1 100 10 ((gI M1 100 10) + (nI 1))) fun M2 => nm (v_2 + nI 1) fun v3 => k_163 v3 M2
def f_X10_token_18 (k_0 : Mem → Option (Mem)) (M : Mem) : Option (Mem) :=
  nm (sI M 100 10 ((gI M 100 10) + (nI 1))) fun M4 => k_0 M4
def b_X10_token_74 (rc : Int32 → Mem → Option (Mem)) (v_2 : Int32) (M : Mem) : Option (Mem) :=
  bn (f_X10_see M) fun r6 => bn (f_X10_in r6 (nI 97) (nI 122)) fun r8 => if r8 = true then (bn (f_X10_see M) fun r16 => nm (sL M 100 15 (((gL M 100 15) <<< (Int32.toInt64 (nI 8) &&& 63)) ||| (Int32.toInt64 r16))) fun M17 => nm (sI M17 100 10 ((gI M17 100 10) + (nI 1))) fun M18 => nm (v_2 + nI 1) fun v19 => rc v19 M18) else (if v_2 ≤ (nI 8) then (nm (sL M 100 15 (gL M 100 15)) fun M11 => nm (sI M11 100 13 (nI 2)) fun M12 => some M12) else (nm (sL M 100 15 (lN 0)) fun M13 => nm (sI M13 100 13 (nI 2)) fun M14 => some M14))
def f_X10_token_74 : Nat → (Int32 × Mem) → Option (Mem) := lp (fun rc q => b_X10_token_74 (fun x0 x1 => rc (x0, x1)) q.1 q.2)
def b_X10_token_163 (rc : Int32 → Mem → Option (Mem)) (v_2 : Int32) (M : Mem) : Option (Mem) :=
  bn (f_X10_see M) fun r21 => bn (f_X10_in r21 (nI 48) (nI 57)) fun r23 => if r23 = true then (if (nI 2) ≤ v_2 then (f_X10_token_205 rc v_2 (gI M 100 14) M) else (bn (f_X10_see M) fun r30 => f_X10_token_205 rc v_2 ((((nI 10) * (gI M 100 14)) + r30) - (nI 48)) M)) else (if v_2 ≤ (nI 2) then (nm (sI M 100 13 (nI 3)) fun M26 => some M26) else (nm (sI M 100 13 (nI 1)) fun M27 => some M27))
def f_X10_token_163 : Nat → (Int32 × Mem) → Option (Mem) := lp (fun rc q => b_X10_token_163 (fun x0 x1 => rc (x0, x1)) q.1 q.2)
def b_X10_token_0 (rc : Mem → Option (Mem)) (M : Mem) : Option (Mem) :=
  bn (f_X10_see M) fun r32 => if r32 = (nI 10) then (f_X10_token_18 rc M) else (bn (f_X10_see M) fun r35 => if r35 = (nI 32) then (f_X10_token_18 rc M) else (nm (sI M 100 12 (gI M 100 10)) fun M37 => bn (f_X10_see M37) fun r39 => nm (sL M37 100 15 (lN 0)) fun M40 => if (nI 0) ≤ r39 then (bn (f_X10_in r39 (nI 97) (nI 122)) fun r43 => if r43 = true then (f_X10_token_74 FU ((nI 0), M40)) else (bn (f_X10_in r39 (nI 48) (nI 57)) fun r46 => if r46 = true then (nm (sI M40 100 14 (nI 0)) fun M52 => f_X10_token_163 FU ((nI 0), M52)) else (nm (sI M40 100 10 ((gI M40 100 10) + (nI 1))) fun M48 => if r39 = (nI 59) then (nm (sI M48 100 13 (nI 4)) fun M51 => some M51) else (nm (sI M48 100 13 (nI 1)) fun M50 => some M50)))) else (nm (sI M40 100 13 (nI 0)) fun M53 => some M53)))
def f_X10_token_0 : Nat → Mem → Option (Mem) := lp (fun rc q => b_X10_token_0 (fun x0 => rc x0) q)
def f_X10_token (M : Mem) : Option (Mem) :=
  f_X10_token_0 FU M
set_option maxRecDepth 100000 in
set_option maxHeartbeats 4000000 in
theorem n_X10_token_205 (X : Cx p s m args meth c D cy ad A RX10 cX10_token 3 ((none : Option Jvm.ClassFile.FieldType))) (hN : Ob ns 10 100) {k_163 : Int32 → Mem → Option (Mem)} {v_2 : Int32} {s_1 : Int32} {M : Mem} {r : Mem} (hX : f_X10_token_205 k_163 v_2 s_1 M = some r) : (∀ (v_2 : Int32) (M : Mem) (r : Mem), k_163 v_2 M = some r → ∀ (ls : Array Slot) (H : Heap) (locs : List Loc), lv_has ls 3 [(0, .ref (ad 100 0)), (2, .int v_2)] → St D cy ad ns A M s.heap H locs → W p l e rm_X10_token s m args below meth c H locs 0 0 (MQ below (QC D cy ad ns A r none) args s 0 0 A) (F0 m 163 ls [])) → ∀ (ls : Array Slot) (H : Heap) (locs : List Loc), lv_has ls 3 [(0, .ref (ad 100 0)), (2, .int v_2)] → St D cy ad ns A M s.heap H locs → W p l e rm_X10_token s m args below meth c H locs 0 0 (MQ below (QC D cy ad ns A r none) args s 0 0 A) (F0 m 205 ls [.int s_1, .ref (ad 100 0)]) := by
  obtain ⟨hx, hb, hml, hown, hts, hK, hr, hlk, hA, hG⟩ := id X
  intro hk_163 ls H locs hl hS
  unfold f_X10_token_205 at hX
  refine fp_X10_134 X hS (hN) dX10_token_205 (fun H locs hS => ?_)
  obtain ⟨M1, eM1, hS, hX⟩ := nm_mem hS hX
  refine lv_aload_n hx hb dX10_token_208 rfl (lv_at hl 0 rfl) ?_
  refine lv_dup hx hb dX10_token_209 rfl ?_
  refine fg_X10_114 X hS (hN) dX10_token_210 ?_
  refine lv_iconst (v := nI 1) hx hb dX10_token_213 (by decide) ?_
  refine lv_iadd hx hb dX10_token_214 ?_
  refine fp_X10_114 X hS (hN) dX10_token_215 (fun H locs hS => ?_)
  obtain ⟨M2, eM2, hS, hX⟩ := nm_mem hS hX
  obtain ⟨v3, ev3⟩ : ∃ y : Int32, y = (v_2 + nI 1) := ⟨_, rfl⟩
  have hX := nm_of ev3 hX
  refine lv_iinc (v := v3) (lv' := [(2, .int v3), (0, .ref (ad 100 0))]) hx hb dX10_token_218 hl (k := 1) rfl (by rw [ev3]; rfl) (by decide) rfl (fun ls hl => ?_)
  refine lv_goto (tgt := 163) hx hb dX10_token_221 (by decide) ?_
  exact hk_163 _ _ _ hX _ _ _ (lv_sub hl [1, 0] rfl) hS
set_option maxRecDepth 100000 in
set_option maxHeartbeats 4000000 in
theorem n_X10_token_18 (X : Cx p s m args meth c D cy ad A RX10 cX10_token 3 ((none : Option Jvm.ClassFile.FieldType))) (hN : Ob ns 10 100) {k_0 : Mem → Option (Mem)} {M : Mem} {r : Mem} (hX : f_X10_token_18 k_0 M = some r) : (∀ (M : Mem) (r : Mem), k_0 M = some r → ∀ (ls : Array Slot) (H : Heap) (locs : List Loc), lv_has ls 3 [(0, .ref (ad 100 0))] → St D cy ad ns A M s.heap H locs → W p l e rm_X10_token s m args below meth c H locs 0 0 (MQ below (QC D cy ad ns A r none) args s 0 0 A) (F0 m 0 ls [])) → ∀ (ls : Array Slot) (H : Heap) (locs : List Loc), lv_has ls 3 [(0, .ref (ad 100 0))] → St D cy ad ns A M s.heap H locs → W p l e rm_X10_token s m args below meth c H locs 0 0 (MQ below (QC D cy ad ns A r none) args s 0 0 A) (F0 m 18 ls []) := by
  obtain ⟨hx, hb, hml, hown, hts, hK, hr, hlk, hA, hG⟩ := id X
  intro hk_0 ls H locs hl hS
  unfold f_X10_token_18 at hX
  refine lv_aload_n hx hb dX10_token_18 rfl (lv_at hl 0 rfl) ?_
  refine lv_dup hx hb dX10_token_19 rfl ?_
  refine fg_X10_114 X hS (hN) dX10_token_20 ?_
  refine lv_iconst (v := nI 1) hx hb dX10_token_23 (by decide) ?_
  refine lv_iadd hx hb dX10_token_24 ?_
  refine fp_X10_114 X hS (hN) dX10_token_25 (fun H locs hS => ?_)
  obtain ⟨M4, eM4, hS, hX⟩ := nm_mem hS hX
  refine lv_goto (tgt := 0) hx hb dX10_token_28 (by decide) ?_
  exact hk_0 _ _ hX _ _ _ (lv_sub hl [0] rfl) hS
set_option maxRecDepth 100000 in
set_option maxHeartbeats 4000000 in
theorem n_X10_token_74 (X : Cx p s m args meth c D cy ad A RX10 cX10_token 3 ((none : Option Jvm.ClassFile.FieldType))) (hN : Ob ns 10 100) : ∀ (n : Nat) (v_2 : Int32) (M : Mem) (r : Mem), f_X10_token_74 n (v_2, M) = some r → ∀ (ls : Array Slot) (H : Heap) (locs : List Loc), lv_has ls 3 [(0, .ref (ad 100 0)), (2, .int v_2)] → St D cy ad ns A M s.heap H locs → W p l e rm_X10_token s m args below meth c H locs 0 0 (MQ below (QC D cy ad ns A r none) args s 0 0 A) (F0 m 74 ls []) := by
  obtain ⟨hx, hb, hml, hown, hts, hK, hr, hlk, hA, hG⟩ := id X
  intro n
  induction n with
  | zero => intro v_2 M r hX; cases (show (none : Option (Mem)) = some r from hX)
  | succ n ih =>
    intro v_2 M r hX ls H locs hl hS
    have hX : b_X10_token_74 (fun x0 x1 => f_X10_token_74 n (x0, x1)) v_2 M = some r := hX
    unfold b_X10_token_74 at hX
    refine lv_aload_n hx hb dX10_token_74 rfl (lv_at hl 0 rfl) ?_
    obtain ⟨r6, h5, hX⟩ := bn_of hX
    refine r_callV1 (v := .int r6) (As := []) (rest := []) X hS (m_X10_see hN h5) mv_X10_see rfl (hN) t6_104 ⟨rfl, rfl, Nat.le_of_ble_eq_true rfl, Nat.le_of_ble_eq_true rfl⟩ rfl hl.1 rfl (Nat.le_of_ble_eq_true rfl) ⟨Nat.zero_le _, Nat.zero_le _⟩ dX10_token_75 (fun H locs hS => ?_)
    refine lv_bipush (v := nI 97) hx hb dX10_token_78 (by decide) ?_
    refine lv_bipush (v := nI 122) hx hb dX10_token_80 (by decide) ?_
    obtain ⟨r8, h7, hX⟩ := bn_of hX
    refine r_callS1 (v := .int (b2i r8)) (As := [.int r6, .int (nI 97), .int (nI 122)]) (rest := []) X hS (m_X10_in (M := M) hN h7) ms_X10_in t6_81 ⟨rfl, rfl, Nat.le_of_ble_eq_true rfl, Nat.le_of_ble_eq_true rfl⟩ rfl hl.1 rfl (Nat.le_of_ble_eq_true rfl) ⟨Nat.zero_le _, Nat.zero_le _⟩ dX10_token_82 (fun H locs hS => ?_)
    refine lv_if_eq (tgt := 121) hx hb dX10_token_85 (by decide) (fun c9 => ?_) (fun c9 => ?_)
    · have hX := if_bf c9 hX
      refine lv_aload_n hx hb dX10_token_121 rfl (lv_at hl 0 rfl) ?_
      refine lv_iload_n hx hb dX10_token_122 rfl (lv_at hl 1 rfl) ?_
      refine lv_bipush (v := nI 8) hx hb dX10_token_123 (by decide) ?_
      refine lv_icmp_le (tgt := 132) hx hb dX10_token_125 (by decide) (fun c10 => ?_) (fun c10 => ?_)
      · have hX := if_t c10 hX
        refine lv_aload_n hx hb dX10_token_132 rfl (lv_at hl 0 rfl) ?_
        refine fg_X10_127 X hS (hN) dX10_token_133 ?_
        refine fp_X10_127 X hS (hN) dX10_token_136 (fun H locs hS => ?_)
        obtain ⟨M11, eM11, hS, hX⟩ := nm_mem hS hX
        refine lv_aload_n hx hb dX10_token_139 rfl (lv_at hl 0 rfl) ?_
        refine lv_iconst (v := nI 2) hx hb dX10_token_140 (by decide) ?_
        refine fp_X10_131 X hS (hN) dX10_token_141 (fun H locs hS => ?_)
        obtain ⟨M12, eM12, hS, hX⟩ := nm_mem hS hX
        refine lv_goto (tgt := 266) hx hb dX10_token_144 (by decide) ?_
        obtain rfl := some_of hX
        exact x_V X hS dX10_token_266
      · have hX := if_f c10 hX
        refine lv_lconst (v := lN 0) hx hb dX10_token_128 (by decide) ?_
        refine lv_goto (tgt := 136) hx hb dX10_token_129 (by decide) ?_
        refine fp_X10_127 X hS (hN) dX10_token_136 (fun H locs hS => ?_)
        obtain ⟨M13, eM13, hS, hX⟩ := nm_mem hS hX
        refine lv_aload_n hx hb dX10_token_139 rfl (lv_at hl 0 rfl) ?_
        refine lv_iconst (v := nI 2) hx hb dX10_token_140 (by decide) ?_
        refine fp_X10_131 X hS (hN) dX10_token_141 (fun H locs hS => ?_)
        obtain ⟨M14, eM14, hS, hX⟩ := nm_mem hS hX
        refine lv_goto (tgt := 266) hx hb dX10_token_144 (by decide) ?_
        obtain rfl := some_of hX
        exact x_V X hS dX10_token_266
    · have hX := if_bt c9 hX
      refine lv_aload_n hx hb dX10_token_88 rfl (lv_at hl 0 rfl) ?_
      refine lv_aload_n hx hb dX10_token_89 rfl (lv_at hl 0 rfl) ?_
      refine fg_X10_127 X hS (hN) dX10_token_90 ?_
      refine lv_bipush (v := nI 8) hx hb dX10_token_93 (by decide) ?_
      refine lv_lshl (v := ((gL M 100 15) <<< (Int32.toInt64 (nI 8) &&& 63))) hx hb dX10_token_95 rfl ?_
      refine lv_aload_n hx hb dX10_token_96 rfl (lv_at hl 0 rfl) ?_
      obtain ⟨r16, h15, hX⟩ := bn_of hX
      refine r_callV1 (v := .int r16) (As := []) (rest := [.long ((gL M 100 15) <<< (Int32.toInt64 (nI 8) &&& 63)), .ref (ad 100 0)]) X hS (m_X10_see hN h15) mv_X10_see rfl (hN) t6_104 ⟨rfl, rfl, Nat.le_of_ble_eq_true rfl, Nat.le_of_ble_eq_true rfl⟩ rfl hl.1 rfl (Nat.le_of_ble_eq_true rfl) ⟨Nat.zero_le _, Nat.zero_le _⟩ dX10_token_97 (fun H locs hS => ?_)
      refine lv_i2l (v := (Int32.toInt64 r16)) hx hb dX10_token_100 rfl ?_
      refine lv_lor hx hb dX10_token_101 ?_
      refine fp_X10_127 X hS (hN) dX10_token_102 (fun H locs hS => ?_)
      obtain ⟨M17, eM17, hS, hX⟩ := nm_mem hS hX
      refine lv_aload_n hx hb dX10_token_105 rfl (lv_at hl 0 rfl) ?_
      refine lv_dup hx hb dX10_token_106 rfl ?_
      refine fg_X10_114 X hS (hN) dX10_token_107 ?_
      refine lv_iconst (v := nI 1) hx hb dX10_token_110 (by decide) ?_
      refine lv_iadd hx hb dX10_token_111 ?_
      refine fp_X10_114 X hS (hN) dX10_token_112 (fun H locs hS => ?_)
      obtain ⟨M18, eM18, hS, hX⟩ := nm_mem hS hX
      obtain ⟨v19, ev19⟩ : ∃ y : Int32, y = (v_2 + nI 1) := ⟨_, rfl⟩
      have hX := nm_of ev19 hX
      refine lv_iinc (v := v19) (lv' := [(2, .int v19), (0, .ref (ad 100 0))]) hx hb dX10_token_115 hl (k := 1) rfl (by rw [ev19]; rfl) (by decide) rfl (fun ls hl => ?_)
      refine lv_goto (tgt := 74) hx hb dX10_token_118 (by decide) ?_
      exact ih _ _ _ hX _ _ _ (lv_sub hl [1, 0] rfl) hS
set_option maxRecDepth 100000 in
set_option maxHeartbeats 4000000 in
theorem n_X10_token_163 (X : Cx p s m args meth c D cy ad A RX10 cX10_token 3 ((none : Option Jvm.ClassFile.FieldType))) (hN : Ob ns 10 100) : ∀ (n : Nat) (v_2 : Int32) (M : Mem) (r : Mem), f_X10_token_163 n (v_2, M) = some r → ∀ (ls : Array Slot) (H : Heap) (locs : List Loc), lv_has ls 3 [(0, .ref (ad 100 0)), (2, .int v_2)] → St D cy ad ns A M s.heap H locs → W p l e rm_X10_token s m args below meth c H locs 0 0 (MQ below (QC D cy ad ns A r none) args s 0 0 A) (F0 m 163 ls []) := by
  obtain ⟨hx, hb, hml, hown, hts, hK, hr, hlk, hA, hG⟩ := id X
  intro n
  induction n with
  | zero => intro v_2 M r hX; cases (show (none : Option (Mem)) = some r from hX)
  | succ n ih =>
    intro v_2 M r hX ls H locs hl hS
    have hX : b_X10_token_163 (fun x0 x1 => f_X10_token_163 n (x0, x1)) v_2 M = some r := hX
    unfold b_X10_token_163 at hX
    refine lv_aload_n hx hb dX10_token_163 rfl (lv_at hl 0 rfl) ?_
    obtain ⟨r21, h20, hX⟩ := bn_of hX
    refine r_callV1 (v := .int r21) (As := []) (rest := []) X hS (m_X10_see hN h20) mv_X10_see rfl (hN) t6_104 ⟨rfl, rfl, Nat.le_of_ble_eq_true rfl, Nat.le_of_ble_eq_true rfl⟩ rfl hl.1 rfl (Nat.le_of_ble_eq_true rfl) ⟨Nat.zero_le _, Nat.zero_le _⟩ dX10_token_164 (fun H locs hS => ?_)
    refine lv_bipush (v := nI 48) hx hb dX10_token_167 (by decide) ?_
    refine lv_bipush (v := nI 57) hx hb dX10_token_169 (by decide) ?_
    obtain ⟨r23, h22, hX⟩ := bn_of hX
    refine r_callS1 (v := .int (b2i r23)) (As := [.int r21, .int (nI 48), .int (nI 57)]) (rest := []) X hS (m_X10_in (M := M) hN h22) ms_X10_in t6_81 ⟨rfl, rfl, Nat.le_of_ble_eq_true rfl, Nat.le_of_ble_eq_true rfl⟩ rfl hl.1 rfl (Nat.le_of_ble_eq_true rfl) ⟨Nat.zero_le _, Nat.zero_le _⟩ dX10_token_171 (fun H locs hS => ?_)
    refine lv_if_eq (tgt := 224) hx hb dX10_token_174 (by decide) (fun c24 => ?_) (fun c24 => ?_)
    · have hX := if_bf c24 hX
      refine lv_aload_n hx hb dX10_token_224 rfl (lv_at hl 0 rfl) ?_
      refine lv_iload_n hx hb dX10_token_225 rfl (lv_at hl 1 rfl) ?_
      refine lv_iconst (v := nI 2) hx hb dX10_token_226 (by decide) ?_
      refine lv_icmp_le (tgt := 234) hx hb dX10_token_227 (by decide) (fun c25 => ?_) (fun c25 => ?_)
      · have hX := if_t c25 hX
        refine lv_iconst (v := nI 3) hx hb dX10_token_234 (by decide) ?_
        refine fp_X10_131 X hS (hN) dX10_token_235 (fun H locs hS => ?_)
        obtain ⟨M26, eM26, hS, hX⟩ := nm_mem hS hX
        refine lv_goto (tgt := 266) hx hb dX10_token_238 (by decide) ?_
        obtain rfl := some_of hX
        exact x_V X hS dX10_token_266
      · have hX := if_f c25 hX
        refine lv_iconst (v := nI 1) hx hb dX10_token_230 (by decide) ?_
        refine lv_goto (tgt := 235) hx hb dX10_token_231 (by decide) ?_
        refine fp_X10_131 X hS (hN) dX10_token_235 (fun H locs hS => ?_)
        obtain ⟨M27, eM27, hS, hX⟩ := nm_mem hS hX
        refine lv_goto (tgt := 266) hx hb dX10_token_238 (by decide) ?_
        obtain rfl := some_of hX
        exact x_V X hS dX10_token_266
    · have hX := if_bt c24 hX
      refine lv_aload_n hx hb dX10_token_177 rfl (lv_at hl 0 rfl) ?_
      refine lv_iload_n hx hb dX10_token_178 rfl (lv_at hl 1 rfl) ?_
      refine lv_iconst (v := nI 2) hx hb dX10_token_179 (by decide) ?_
      refine lv_icmp_ge (tgt := 201) hx hb dX10_token_180 (by decide) (fun c28 => ?_) (fun c28 => ?_)
      · have hX := if_t c28 hX
        refine lv_aload_n hx hb dX10_token_201 rfl (lv_at hl 0 rfl) ?_
        refine fg_X10_134 X hS (hN) dX10_token_202 ?_
        exact n_X10_token_205 X hN hX (fun z0 z1 r h ls H locs hl hS => ih z0 z1 r h ls H locs hl hS) _ _ _ (lv_sub hl [0, 1] rfl) hS
      · have hX := if_f c28 hX
        refine lv_bipush (v := nI 10) hx hb dX10_token_183 (by decide) ?_
        refine lv_aload_n hx hb dX10_token_185 rfl (lv_at hl 0 rfl) ?_
        refine fg_X10_134 X hS (hN) dX10_token_186 ?_
        refine lv_imul hx hb dX10_token_189 ?_
        refine lv_aload_n hx hb dX10_token_190 rfl (lv_at hl 0 rfl) ?_
        obtain ⟨r30, h29, hX⟩ := bn_of hX
        refine r_callV1 (v := .int r30) (As := []) (rest := [.int ((nI 10) * (gI M 100 14)), .ref (ad 100 0)]) X hS (m_X10_see hN h29) mv_X10_see rfl (hN) t6_104 ⟨rfl, rfl, Nat.le_of_ble_eq_true rfl, Nat.le_of_ble_eq_true rfl⟩ rfl hl.1 rfl (Nat.le_of_ble_eq_true rfl) ⟨Nat.zero_le _, Nat.zero_le _⟩ dX10_token_191 (fun H locs hS => ?_)
        refine lv_iadd hx hb dX10_token_194 ?_
        refine lv_bipush (v := nI 48) hx hb dX10_token_195 (by decide) ?_
        refine lv_isub hx hb dX10_token_197 ?_
        refine lv_goto (tgt := 205) hx hb dX10_token_198 (by decide) ?_
        exact n_X10_token_205 X hN hX (fun z0 z1 r h ls H locs hl hS => ih z0 z1 r h ls H locs hl hS) _ _ _ (lv_sub hl [0, 1] rfl) hS
set_option maxRecDepth 100000 in
set_option maxHeartbeats 4000000 in
theorem n_X10_token_0 (X : Cx p s m args meth c D cy ad A RX10 cX10_token 3 ((none : Option Jvm.ClassFile.FieldType))) (hN : Ob ns 10 100) : ∀ (n : Nat) (M : Mem) (r : Mem), f_X10_token_0 n M = some r → ∀ (ls : Array Slot) (H : Heap) (locs : List Loc), lv_has ls 3 [(0, .ref (ad 100 0))] → St D cy ad ns A M s.heap H locs → W p l e rm_X10_token s m args below meth c H locs 0 0 (MQ below (QC D cy ad ns A r none) args s 0 0 A) (F0 m 0 ls []) := by
  obtain ⟨hx, hb, hml, hown, hts, hK, hr, hlk, hA, hG⟩ := id X
  intro n
  induction n with
  | zero => intro M r hX; cases (show (none : Option (Mem)) = some r from hX)
  | succ n ih =>
    intro M r hX ls H locs hl hS
    have hX : b_X10_token_0 (fun x0 => f_X10_token_0 n x0) M = some r := hX
    unfold b_X10_token_0 at hX
    refine lv_aload_n hx hb dX10_token_0 rfl (lv_at hl 0 rfl) ?_
    obtain ⟨r32, h31, hX⟩ := bn_of hX
    refine r_callV1 (v := .int r32) (As := []) (rest := []) X hS (m_X10_see hN h31) mv_X10_see rfl (hN) t6_104 ⟨rfl, rfl, Nat.le_of_ble_eq_true rfl, Nat.le_of_ble_eq_true rfl⟩ rfl hl.1 rfl (Nat.le_of_ble_eq_true rfl) ⟨Nat.zero_le _, Nat.zero_le _⟩ dX10_token_1 (fun H locs hS => ?_)
    refine lv_bipush (v := nI 10) hx hb dX10_token_4 (by decide) ?_
    refine lv_icmp_eq (tgt := 18) hx hb dX10_token_6 (by decide) (fun c33 => ?_) (fun c33 => ?_)
    · have hX := if_t c33 hX
      exact n_X10_token_18 X hN hX (fun z0 r h ls H locs hl hS => ih z0 r h ls H locs hl hS) _ _ _ (lv_sub hl [0] rfl) hS
    · have hX := if_f c33 hX
      refine lv_aload_n hx hb dX10_token_9 rfl (lv_at hl 0 rfl) ?_
      obtain ⟨r35, h34, hX⟩ := bn_of hX
      refine r_callV1 (v := .int r35) (As := []) (rest := []) X hS (m_X10_see hN h34) mv_X10_see rfl (hN) t6_104 ⟨rfl, rfl, Nat.le_of_ble_eq_true rfl, Nat.le_of_ble_eq_true rfl⟩ rfl hl.1 rfl (Nat.le_of_ble_eq_true rfl) ⟨Nat.zero_le _, Nat.zero_le _⟩ dX10_token_10 (fun H locs hS => ?_)
      refine lv_bipush (v := nI 32) hx hb dX10_token_13 (by decide) ?_
      refine lv_icmp_ne (tgt := 31) hx hb dX10_token_15 (by decide) (fun c36 => ?_) (fun c36 => ?_)
      · have hX := if_f c36 hX
        refine lv_aload_n hx hb dX10_token_31 rfl (lv_at hl 0 rfl) ?_
        refine lv_aload_n hx hb dX10_token_32 rfl (lv_at hl 0 rfl) ?_
        refine fg_X10_114 X hS (hN) dX10_token_33 ?_
        refine fp_X10_124 X hS (hN) dX10_token_36 (fun H locs hS => ?_)
        obtain ⟨M37, eM37, hS, hX⟩ := nm_mem hS hX
        refine lv_aload_n hx hb dX10_token_39 rfl (lv_at hl 0 rfl) ?_
        obtain ⟨r39, h38, hX⟩ := bn_of hX
        refine r_callV1 (v := .int r39) (As := []) (rest := []) X hS (m_X10_see hN h38) mv_X10_see rfl (hN) t6_104 ⟨rfl, rfl, Nat.le_of_ble_eq_true rfl, Nat.le_of_ble_eq_true rfl⟩ rfl hl.1 rfl (Nat.le_of_ble_eq_true rfl) ⟨Nat.zero_le _, Nat.zero_le _⟩ dX10_token_40 (fun H locs hS => ?_)
        refine lv_istore_n (lv' := [(1, .int r39), (0, .ref (ad 100 0))]) hx hb dX10_token_43 rfl hl (by decide) rfl (fun ls hl => ?_)
        refine lv_aload_n hx hb dX10_token_44 rfl (lv_at hl 1 rfl) ?_
        refine lv_lconst (v := lN 0) hx hb dX10_token_45 (by decide) ?_
        refine fp_X10_127 X hS (hN) dX10_token_46 (fun H locs hS => ?_)
        obtain ⟨M40, eM40, hS, hX⟩ := nm_mem hS hX
        refine lv_iconst (v := nI 0) hx hb dX10_token_49 (by decide) ?_
        refine lv_istore_n (lv' := [(2, .int (nI 0)), (1, .int r39), (0, .ref (ad 100 0))]) hx hb dX10_token_50 rfl hl (by decide) rfl (fun ls hl => ?_)
        refine lv_iload_n hx hb dX10_token_51 rfl (lv_at hl 1 rfl) ?_
        refine lv_if_ge (tgt := 63) hx hb dX10_token_52 (by decide) (fun c41 => ?_) (fun c41 => ?_)
        · have hX := if_t c41 hX
          refine lv_iload_n hx hb dX10_token_63 rfl (lv_at hl 1 rfl) ?_
          refine lv_bipush (v := nI 97) hx hb dX10_token_64 (by decide) ?_
          refine lv_bipush (v := nI 122) hx hb dX10_token_66 (by decide) ?_
          obtain ⟨r43, h42, hX⟩ := bn_of hX
          refine r_callS1 (v := .int (b2i r43)) (As := [.int r39, .int (nI 97), .int (nI 122)]) (rest := []) X hS (m_X10_in (M := M40) hN h42) ms_X10_in t6_81 ⟨rfl, rfl, Nat.le_of_ble_eq_true rfl, Nat.le_of_ble_eq_true rfl⟩ rfl hl.1 rfl (Nat.le_of_ble_eq_true rfl) ⟨Nat.zero_le _, Nat.zero_le _⟩ dX10_token_68 (fun H locs hS => ?_)
          refine lv_if_eq (tgt := 147) hx hb dX10_token_71 (by decide) (fun c44 => ?_) (fun c44 => ?_)
          · have hX := if_bf c44 hX
            refine lv_iload_n hx hb dX10_token_147 rfl (lv_at hl 1 rfl) ?_
            refine lv_bipush (v := nI 48) hx hb dX10_token_148 (by decide) ?_
            refine lv_bipush (v := nI 57) hx hb dX10_token_150 (by decide) ?_
            obtain ⟨r46, h45, hX⟩ := bn_of hX
            refine r_callS1 (v := .int (b2i r46)) (As := [.int r39, .int (nI 48), .int (nI 57)]) (rest := []) X hS (m_X10_in (M := M40) hN h45) ms_X10_in t6_81 ⟨rfl, rfl, Nat.le_of_ble_eq_true rfl, Nat.le_of_ble_eq_true rfl⟩ rfl hl.1 rfl (Nat.le_of_ble_eq_true rfl) ⟨Nat.zero_le _, Nat.zero_le _⟩ dX10_token_152 (fun H locs hS => ?_)
            refine lv_if_eq (tgt := 241) hx hb dX10_token_155 (by decide) (fun c47 => ?_) (fun c47 => ?_)
            · have hX := if_bf c47 hX
              refine lv_aload_n hx hb dX10_token_241 rfl (lv_at hl 2 rfl) ?_
              refine lv_dup hx hb dX10_token_242 rfl ?_
              refine fg_X10_114 X hS (hN) dX10_token_243 ?_
              refine lv_iconst (v := nI 1) hx hb dX10_token_246 (by decide) ?_
              refine lv_iadd hx hb dX10_token_247 ?_
              refine fp_X10_114 X hS (hN) dX10_token_248 (fun H locs hS => ?_)
              obtain ⟨M48, eM48, hS, hX⟩ := nm_mem hS hX
              refine lv_aload_n hx hb dX10_token_251 rfl (lv_at hl 2 rfl) ?_
              refine lv_iload_n hx hb dX10_token_252 rfl (lv_at hl 1 rfl) ?_
              refine lv_bipush (v := nI 59) hx hb dX10_token_253 (by decide) ?_
              refine lv_icmp_ne (tgt := 262) hx hb dX10_token_255 (by decide) (fun c49 => ?_) (fun c49 => ?_)
              · have hX := if_f c49 hX
                refine lv_iconst (v := nI 1) hx hb dX10_token_262 (by decide) ?_
                refine fp_X10_131 X hS (hN) dX10_token_263 (fun H locs hS => ?_)
                obtain ⟨M50, eM50, hS, hX⟩ := nm_mem hS hX
                obtain rfl := some_of hX
                exact x_V X hS dX10_token_266
              · have hX := if_t c49 hX
                refine lv_iconst (v := nI 4) hx hb dX10_token_258 (by decide) ?_
                refine lv_goto (tgt := 263) hx hb dX10_token_259 (by decide) ?_
                refine fp_X10_131 X hS (hN) dX10_token_263 (fun H locs hS => ?_)
                obtain ⟨M51, eM51, hS, hX⟩ := nm_mem hS hX
                obtain rfl := some_of hX
                exact x_V X hS dX10_token_266
            · have hX := if_bt c47 hX
              refine lv_aload_n hx hb dX10_token_158 rfl (lv_at hl 2 rfl) ?_
              refine lv_iconst (v := nI 0) hx hb dX10_token_159 (by decide) ?_
              refine fp_X10_134 X hS (hN) dX10_token_160 (fun H locs hS => ?_)
              obtain ⟨M52, eM52, hS, hX⟩ := nm_mem hS hX
              exact n_X10_token_163 X hN _ _ _ _ hX _ _ _ (lv_sub hl [2, 0] rfl) hS
          · have hX := if_bt c44 hX
            exact n_X10_token_74 X hN _ _ _ _ hX _ _ _ (lv_sub hl [2, 0] rfl) hS
        · have hX := if_f c41 hX
          refine lv_aload_n hx hb dX10_token_55 rfl (lv_at hl 2 rfl) ?_
          refine lv_iconst (v := nI 0) hx hb dX10_token_56 (by decide) ?_
          refine fp_X10_131 X hS (hN) dX10_token_57 (fun H locs hS => ?_)
          obtain ⟨M53, eM53, hS, hX⟩ := nm_mem hS hX
          refine lv_goto (tgt := 266) hx hb dX10_token_60 (by decide) ?_
          obtain rfl := some_of hX
          exact x_V X hS dX10_token_266
      · have hX := if_t c36 hX
        exact n_X10_token_18 X hN hX (fun z0 r h ls H locs hl hS => ih z0 r h ls H locs hl hS) _ _ _ (lv_sub hl [0] rfl) hS
set_option maxRecDepth 100000 in
set_option maxHeartbeats 4000000 in
theorem m_X10_token {l : Launch} {D : va_G} {cy : Nat → ClassId} {ad : Nat → Nat → Nat} {ns : List (Nat × Nat)} {A : Nat → Prop} {M : Mem} (hN : Ob ns 10 100) {r : Mem} (hX : f_X10_token M = some r) : Ct l yX10_token cX10_token 3 ((none : Option Jvm.ClassFile.FieldType)) rm_X10_token D cy ad ns A [.ref (ad 100 0)] M r none := by
  refine ct_of (lv := [(0, .ref (ad 100 0))]) (by decide) (Nat.le_of_ble_eq_true rfl) rfl ?_
  intro p e s m args below meth c ls X hl hS
  obtain ⟨hx, hb, hml, hown, hts, hK, hr, hlk, hA, hG⟩ := id X
  obtain ⟨H, hH⟩ : ∃ z, z = s.heap := ⟨_, rfl⟩
  obtain ⟨locs, hlo⟩ : ∃ z : List Loc, z = [] := ⟨_, rfl⟩
  have hS : St D cy ad ns A M s.heap H locs := by rw [hH, hlo]; exact hS
  have hgoal : W p l e rm_X10_token s m args below meth c H locs 0 0 (MQ below (QC D cy ad ns A r none) args s 0 0 A) (F0 m 0 ls []) := by
    unfold f_X10_token at hX
    exact n_X10_token_0 X hN _ _ _ hX _ _ _ (lv_sub hl [0] rfl) hS
  rw [hH, hlo] at hgoal
  exact hgoal
theorem mv_X10_token : Mv yX10_token RX10 cX10_token 3 ((none : Option Jvm.ClassFile.FieldType)) 0 := ⟨t6_103, t6_102, ts_10, t1_11, ⟨by decide, by decide⟩, by decide +kernel⟩
/-! SewnYearModel.fails()Z -/
def rm_X10_fails : Room := { frames := 0, cells := 0, slots := 0, locals := 0 }
def f_X10_fails (M : Mem) : Option (Bool × Mem) :=
  nm (sI M 100 16 (gI M 100 12)) fun M1 => some (false, M1)
set_option maxRecDepth 100000 in
set_option maxHeartbeats 4000000 in
theorem m_X10_fails {l : Launch} {D : va_G} {cy : Nat → ClassId} {ad : Nat → Nat → Nat} {ns : List (Nat × Nat)} {A : Nat → Prop} {M : Mem} (hN : Ob ns 10 100) {r : Bool × Mem} (hX : f_X10_fails M = some r) : Ct l yX10_fails cX10_fails 1 ((some .boolean)) rm_X10_fails D cy ad ns A [.ref (ad 100 0)] M r.2 (some (.int (b2i r.1))) := by
  refine ct_of (lv := [(0, .ref (ad 100 0))]) (by decide) (Nat.le_of_ble_eq_true rfl) rfl ?_
  intro p e s m args below meth c ls X hl hS
  obtain ⟨hx, hb, hml, hown, hts, hK, hr, hlk, hA, hG⟩ := id X
  obtain ⟨H, hH⟩ : ∃ z, z = s.heap := ⟨_, rfl⟩
  obtain ⟨locs, hlo⟩ : ∃ z : List Loc, z = [] := ⟨_, rfl⟩
  have hS : St D cy ad ns A M s.heap H locs := by rw [hH, hlo]; exact hS
  have hgoal : W p l e rm_X10_fails s m args below meth c H locs 0 0 (MQ below (QC D cy ad ns A r.2 (some (.int (b2i r.1)))) args s 0 0 A) (F0 m 0 ls []) := by
    unfold f_X10_fails at hX
    refine lv_aload_n hx hb dX10_fails_0 rfl (lv_at hl 0 rfl) ?_
    refine lv_aload_n hx hb dX10_fails_1 rfl (lv_at hl 0 rfl) ?_
    refine fg_X10_124 X hS (hN) dX10_fails_2 ?_
    refine fp_X10_137 X hS (hN) dX10_fails_5 (fun H locs hS => ?_)
    obtain ⟨M1, eM1, hS, hX⟩ := nm_mem hS hX
    refine lv_iconst (v := nI 0) hx hb dX10_fails_8 (by decide) ?_
    obtain rfl := some_of hX
    exact x_Z (v := false) X hS dX10_fails_9
  rw [hH, hlo] at hgoal
  exact hgoal
theorem mv_X10_fails : Mv yX10_fails RX10 cX10_fails 1 ((some .boolean)) 0 := ⟨t6_127, t6_126, ts_15, t1_11, ⟨by decide, by decide⟩, by decide +kernel⟩
/-! SewnYearModel.later(II)V -/
def rm_X10_later : Room := { frames := 0, cells := 0, slots := 0, locals := 0 }
def f_X10_later_31 (a1 : Int32) (a2 : Int32) (M : Mem) : Option (Mem) :=
  nm (sI M 100 17 a1) fun M1 => nm (sI M1 100 18 a2) fun M2 => some M2
def f_X10_later (M : Mem) (a1 : Int32) (a2 : Int32) : Option (Mem) :=
  if (gI M 100 17) = (nI 0) then (f_X10_later_31 a1 a2 M) else (if a2 < (gI M 100 18) then (f_X10_later_31 a1 a2 M) else (if a2 = (gI M 100 18) then (if (gI M 100 17) ≤ a1 then (some M) else (f_X10_later_31 a1 a2 M)) else (some M)))
set_option maxRecDepth 100000 in
set_option maxHeartbeats 4000000 in
theorem n_X10_later_31 {a1 : Int32} {a2 : Int32} (X : Cx p s m args meth c D cy ad A RX10 cX10_later 3 ((none : Option Jvm.ClassFile.FieldType))) (hN : Ob ns 10 100) {M : Mem} {r : Mem} (hX : f_X10_later_31 a1 a2 M = some r) : ∀ (ls : Array Slot) (H : Heap) (locs : List Loc), lv_has ls 3 [(0, .ref (ad 100 0)), (1, .int a1), (2, .int a2)] → St D cy ad ns A M s.heap H locs → W p l e rm_X10_later s m args below meth c H locs 0 0 (MQ below (QC D cy ad ns A r none) args s 0 0 A) (F0 m 31 ls []) := by
  obtain ⟨hx, hb, hml, hown, hts, hK, hr, hlk, hA, hG⟩ := id X
  intro ls H locs hl hS
  unfold f_X10_later_31 at hX
  refine lv_aload_n hx hb dX10_later_31 rfl (lv_at hl 0 rfl) ?_
  refine lv_iload_n hx hb dX10_later_32 rfl (lv_at hl 1 rfl) ?_
  refine fp_X10_140 X hS (hN) dX10_later_33 (fun H locs hS => ?_)
  obtain ⟨M1, eM1, hS, hX⟩ := nm_mem hS hX
  refine lv_aload_n hx hb dX10_later_36 rfl (lv_at hl 0 rfl) ?_
  refine lv_iload_n hx hb dX10_later_37 rfl (lv_at hl 2 rfl) ?_
  refine fp_X10_143 X hS (hN) dX10_later_38 (fun H locs hS => ?_)
  obtain ⟨M2, eM2, hS, hX⟩ := nm_mem hS hX
  obtain rfl := some_of hX
  exact x_V X hS dX10_later_41
set_option maxRecDepth 100000 in
set_option maxHeartbeats 4000000 in
theorem m_X10_later {l : Launch} {D : va_G} {cy : Nat → ClassId} {ad : Nat → Nat → Nat} {ns : List (Nat × Nat)} {A : Nat → Prop} {M : Mem} (hN : Ob ns 10 100) {a1 : Int32} {a2 : Int32} {r : Mem} (hX : f_X10_later M a1 a2 = some r) : Ct l yX10_later cX10_later 3 ((none : Option Jvm.ClassFile.FieldType)) rm_X10_later D cy ad ns A [.ref (ad 100 0), .int a1, .int a2] M r none := by
  refine ct_of (lv := [(0, .ref (ad 100 0)), (1, .int a1), (2, .int a2)]) (by decide) (Nat.le_of_ble_eq_true rfl) rfl ?_
  intro p e s m args below meth c ls X hl hS
  obtain ⟨hx, hb, hml, hown, hts, hK, hr, hlk, hA, hG⟩ := id X
  obtain ⟨H, hH⟩ : ∃ z, z = s.heap := ⟨_, rfl⟩
  obtain ⟨locs, hlo⟩ : ∃ z : List Loc, z = [] := ⟨_, rfl⟩
  have hS : St D cy ad ns A M s.heap H locs := by rw [hH, hlo]; exact hS
  have hgoal : W p l e rm_X10_later s m args below meth c H locs 0 0 (MQ below (QC D cy ad ns A r none) args s 0 0 A) (F0 m 0 ls []) := by
    unfold f_X10_later at hX
    refine lv_aload_n hx hb dX10_later_0 rfl (lv_at hl 0 rfl) ?_
    refine fg_X10_140 X hS (hN) dX10_later_1 ?_
    refine lv_if_eq (tgt := 31) hx hb dX10_later_4 (by decide) (fun c3 => ?_) (fun c3 => ?_)
    · have hX := if_t c3 hX
      exact n_X10_later_31 X hN hX _ _ _ (lv_sub hl [0, 1, 2] rfl) hS
    · have hX := if_f c3 hX
      refine lv_iload_n hx hb dX10_later_7 rfl (lv_at hl 2 rfl) ?_
      refine lv_aload_n hx hb dX10_later_8 rfl (lv_at hl 0 rfl) ?_
      refine fg_X10_143 X hS (hN) dX10_later_9 ?_
      refine lv_icmp_lt (tgt := 31) hx hb dX10_later_12 (by decide) (fun c4 => ?_) (fun c4 => ?_)
      · have hX := if_t c4 hX
        exact n_X10_later_31 X hN hX _ _ _ (lv_sub hl [0, 1, 2] rfl) hS
      · have hX := if_f c4 hX
        refine lv_iload_n hx hb dX10_later_15 rfl (lv_at hl 2 rfl) ?_
        refine lv_aload_n hx hb dX10_later_16 rfl (lv_at hl 0 rfl) ?_
        refine fg_X10_143 X hS (hN) dX10_later_17 ?_
        refine lv_icmp_ne (tgt := 41) hx hb dX10_later_20 (by decide) (fun c5 => ?_) (fun c5 => ?_)
        · have hX := if_f c5 hX
          obtain rfl := some_of hX
          exact x_V X hS dX10_later_41
        · have hX := if_t c5 hX
          refine lv_iload_n hx hb dX10_later_23 rfl (lv_at hl 1 rfl) ?_
          refine lv_aload_n hx hb dX10_later_24 rfl (lv_at hl 0 rfl) ?_
          refine fg_X10_140 X hS (hN) dX10_later_25 ?_
          refine lv_icmp_ge (tgt := 41) hx hb dX10_later_28 (by decide) (fun c6 => ?_) (fun c6 => ?_)
          · have hX := if_t c6 hX
            obtain rfl := some_of hX
            exact x_V X hS dX10_later_41
          · have hX := if_f c6 hX
            exact n_X10_later_31 X hN hX _ _ _ (lv_sub hl [0, 1, 2] rfl) hS
  rw [hH, hlo] at hgoal
  exact hgoal
theorem mv_X10_later : Mv yX10_later RX10 cX10_later 3 ((none : Option Jvm.ClassFile.FieldType)) 2 := ⟨t6_135, t6_134, ts_17, t1_11, ⟨by decide, by decide⟩, by decide +kernel⟩
/-! SewnYearModel.takeBut(IIII)Z -/
def rm_X10_takeBut : Room := { frames := 2, cells := 0, slots := 0, locals := 44 }
def f_X10_takeBut_44 (a1 : Int32) (a2 : Int32) (a3 : Int32) (a4 : Int32) (k_58 : Mem → Option (Bool × Mem)) (M : Mem) : Option (Bool × Mem) :=
  bn (f_X10_later M (nI 2) (gI M 100 12)) fun M2 => nm (sI M2 100 22 (b2i false)) fun M3 => k_58 M3
def f_X10_takeBut_58 (a1 : Int32) (a2 : Int32) (a3 : Int32) (a4 : Int32) (M : Mem) : Option (Bool × Mem) :=
  bn (f_X10_token M) fun M5 => some (true, M5)
def f_X10_takeBut (M : Mem) (a1 : Int32) (a2 : Int32) (a3 : Int32) (a4 : Int32) : Option (Bool × Mem) :=
  if (gI M 100 13) = (nI 3) then (gin a1 4 <| nm (sA M 100 20 (ix a1) (gI M 100 14)) fun M8 => bn (f_X10_in (gI M8 100 14) a2 a3) fun r10 => if r10 = true then (if (gI M8 100 14) = a4 then (f_X10_takeBut_44 a1 a2 a3 a4 (fun y => f_X10_takeBut_58 a1 a2 a3 a4 y) M8) else (f_X10_takeBut_58 a1 a2 a3 a4 M8)) else (f_X10_takeBut_44 a1 a2 a3 a4 (fun y => f_X10_takeBut_58 a1 a2 a3 a4 y) M8)) else (bp (f_X10_fails M) fun r15 M14 => some (r15, M14))
set_option maxRecDepth 100000 in
set_option maxHeartbeats 4000000 in
theorem n_X10_takeBut_44 {a1 : Int32} {a2 : Int32} {a3 : Int32} {a4 : Int32} (X : Cx p s m args meth c D cy ad A RX10 cX10_takeBut 5 ((some .boolean))) (hN : Ob ns 10 100) {k_58 : Mem → Option (Bool × Mem)} {M : Mem} {r : Bool × Mem} (hX : f_X10_takeBut_44 a1 a2 a3 a4 k_58 M = some r) : (∀ (M : Mem) (r : Bool × Mem), k_58 M = some r → ∀ (ls : Array Slot) (H : Heap) (locs : List Loc), lv_has ls 5 [(0, .ref (ad 100 0))] → St D cy ad ns A M s.heap H locs → W p l e rm_X10_takeBut s m args below meth c H locs 0 0 (MQ below (QC D cy ad ns A r.2 (some (.int (b2i r.1)))) args s 0 0 A) (F0 m 58 ls [])) → ∀ (ls : Array Slot) (H : Heap) (locs : List Loc), lv_has ls 5 [(0, .ref (ad 100 0))] → St D cy ad ns A M s.heap H locs → W p l e rm_X10_takeBut s m args below meth c H locs 0 0 (MQ below (QC D cy ad ns A r.2 (some (.int (b2i r.1)))) args s 0 0 A) (F0 m 44 ls []) := by
  obtain ⟨hx, hb, hml, hown, hts, hK, hr, hlk, hA, hG⟩ := id X
  intro hk_58 ls H locs hl hS
  unfold f_X10_takeBut_44 at hX
  refine lv_aload_n hx hb dX10_takeBut_44 rfl (lv_at hl 0 rfl) ?_
  refine lv_iconst (v := nI 2) hx hb dX10_takeBut_45 (by decide) ?_
  refine lv_aload_n hx hb dX10_takeBut_46 rfl (lv_at hl 0 rfl) ?_
  refine fg_X10_124 X hS (hN) dX10_takeBut_47 ?_
  obtain ⟨M2, h1, hX⟩ := bn_of hX
  refine r_callV0 (As := [.int (nI 2), .int (gI M 100 12)]) (rest := []) X hS (m_X10_later hN h1) mv_X10_later rfl (hN) t6_132 ⟨rfl, rfl, Nat.le_of_ble_eq_true rfl, Nat.le_of_ble_eq_true rfl⟩ rfl hl.1 rfl (Nat.le_of_ble_eq_true rfl) ⟨Nat.zero_le _, Nat.zero_le _⟩ dX10_takeBut_50 (fun H locs hS => ?_)
  refine lv_aload_n hx hb dX10_takeBut_53 rfl (lv_at hl 0 rfl) ?_
  refine lv_iconst (v := nI 0) hx hb dX10_takeBut_54 (by decide) ?_
  refine fp_X10_154 (v := false) X hS (hN) dX10_takeBut_55 (fun H locs hS => ?_)
  obtain ⟨M3, eM3, hS, hX⟩ := nm_mem hS hX
  exact hk_58 _ _ hX _ _ _ (lv_sub hl [0] rfl) hS
set_option maxRecDepth 100000 in
set_option maxHeartbeats 4000000 in
theorem n_X10_takeBut_58 {a1 : Int32} {a2 : Int32} {a3 : Int32} {a4 : Int32} (X : Cx p s m args meth c D cy ad A RX10 cX10_takeBut 5 ((some .boolean))) (hN : Ob ns 10 100) {M : Mem} {r : Bool × Mem} (hX : f_X10_takeBut_58 a1 a2 a3 a4 M = some r) : ∀ (ls : Array Slot) (H : Heap) (locs : List Loc), lv_has ls 5 [(0, .ref (ad 100 0))] → St D cy ad ns A M s.heap H locs → W p l e rm_X10_takeBut s m args below meth c H locs 0 0 (MQ below (QC D cy ad ns A r.2 (some (.int (b2i r.1)))) args s 0 0 A) (F0 m 58 ls []) := by
  obtain ⟨hx, hb, hml, hown, hts, hK, hr, hlk, hA, hG⟩ := id X
  intro ls H locs hl hS
  unfold f_X10_takeBut_58 at hX
  refine lv_aload_n hx hb dX10_takeBut_58 rfl (lv_at hl 0 rfl) ?_
  obtain ⟨M5, h4, hX⟩ := bn_of hX
  refine r_callV0 (As := []) (rest := []) X hS (m_X10_token hN h4) mv_X10_token rfl (hN) t6_100 ⟨rfl, rfl, Nat.le_of_ble_eq_true rfl, Nat.le_of_ble_eq_true rfl⟩ rfl hl.1 rfl (Nat.le_of_ble_eq_true rfl) ⟨Nat.zero_le _, Nat.zero_le _⟩ dX10_takeBut_59 (fun H locs hS => ?_)
  refine lv_iconst (v := nI 1) hx hb dX10_takeBut_62 (by decide) ?_
  obtain rfl := some_of hX
  exact x_Z (v := true) X hS dX10_takeBut_63
set_option maxRecDepth 100000 in
set_option maxHeartbeats 4000000 in
theorem m_X10_takeBut {l : Launch} {D : va_G} {cy : Nat → ClassId} {ad : Nat → Nat → Nat} {ns : List (Nat × Nat)} {A : Nat → Prop} {M : Mem} (hN : Ob ns 10 100) {a1 : Int32} {a2 : Int32} {a3 : Int32} {a4 : Int32} {r : Bool × Mem} (hX : f_X10_takeBut M a1 a2 a3 a4 = some r) : Ct l yX10_takeBut cX10_takeBut 5 ((some .boolean)) rm_X10_takeBut D cy ad ns A [.ref (ad 100 0), .int a1, .int a2, .int a3, .int a4] M r.2 (some (.int (b2i r.1))) := by
  refine ct_of (lv := [(0, .ref (ad 100 0)), (1, .int a1), (2, .int a2), (3, .int a3), (4, .int a4)]) (by decide) (Nat.le_of_ble_eq_true rfl) rfl ?_
  intro p e s m args below meth c ls X hl hS
  obtain ⟨hx, hb, hml, hown, hts, hK, hr, hlk, hA, hG⟩ := id X
  obtain ⟨H, hH⟩ : ∃ z, z = s.heap := ⟨_, rfl⟩
  obtain ⟨locs, hlo⟩ : ∃ z : List Loc, z = [] := ⟨_, rfl⟩
  have hS : St D cy ad ns A M s.heap H locs := by rw [hH, hlo]; exact hS
  have hgoal : W p l e rm_X10_takeBut s m args below meth c H locs 0 0 (MQ below (QC D cy ad ns A r.2 (some (.int (b2i r.1)))) args s 0 0 A) (F0 m 0 ls []) := by
    unfold f_X10_takeBut at hX
    refine lv_aload_n hx hb dX10_takeBut_0 rfl (lv_at hl 0 rfl) ?_
    refine fg_X10_131 X hS (hN) dX10_takeBut_1 ?_
    refine lv_iconst (v := nI 3) hx hb dX10_takeBut_4 (by decide) ?_
    refine lv_icmp_eq (tgt := 13) hx hb dX10_takeBut_5 (by decide) (fun c6 => ?_) (fun c6 => ?_)
    · have hX := if_t c6 hX
      refine lv_aload_n hx hb dX10_takeBut_13 rfl (lv_at hl 0 rfl) ?_
      refine fg_X10_41 X hS (hN) dX10_takeBut_14 ?_
      refine lv_iload_n hx hb dX10_takeBut_17 rfl (lv_at hl 1 rfl) ?_
      refine lv_aload_n hx hb dX10_takeBut_18 rfl (lv_at hl 0 rfl) ?_
      refine fg_X10_134 X hS (hN) dX10_takeBut_19 ?_
      obtain ⟨g7, hX⟩ := gin_of hX
      refine r_iast (ci := 10) (o := 100) (k := 20) (n := 4) X hS (hN) rfl rfl g7 dX10_takeBut_22 (fun H locs hS => ?_)
      obtain ⟨M8, eM8, hS, hX⟩ := nm_mem hS hX
      refine lv_aload_n hx hb dX10_takeBut_23 rfl (lv_at hl 0 rfl) ?_
      refine fg_X10_134 X hS (hN) dX10_takeBut_24 ?_
      refine lv_iload_n hx hb dX10_takeBut_27 rfl (lv_at hl 2 rfl) ?_
      refine lv_iload_n hx hb dX10_takeBut_28 rfl (lv_at hl 3 rfl) ?_
      obtain ⟨r10, h9, hX⟩ := bn_of hX
      refine r_callS1 (v := .int (b2i r10)) (As := [.int (gI M8 100 14), .int a2, .int a3]) (rest := []) X hS (m_X10_in (M := M8) hN h9) ms_X10_in t6_81 ⟨rfl, rfl, Nat.le_of_ble_eq_true rfl, Nat.le_of_ble_eq_true rfl⟩ rfl hl.1 rfl (Nat.le_of_ble_eq_true rfl) ⟨Nat.zero_le _, Nat.zero_le _⟩ dX10_takeBut_29 (fun H locs hS => ?_)
      refine lv_if_eq (tgt := 44) hx hb dX10_takeBut_32 (by decide) (fun c11 => ?_) (fun c11 => ?_)
      · have hX := if_bf c11 hX
        exact n_X10_takeBut_44 X hN hX (fun z0 r h ls H locs hl hS => n_X10_takeBut_58 X hN h _ _ _ hl hS) _ _ _ (lv_sub hl [0] rfl) hS
      · have hX := if_bt c11 hX
        refine lv_aload_n hx hb dX10_takeBut_35 rfl (lv_at hl 0 rfl) ?_
        refine fg_X10_134 X hS (hN) dX10_takeBut_36 ?_
        refine lv_iload hx hb dX10_takeBut_39 (lv_at hl 4 rfl) ?_
        refine lv_icmp_ne (tgt := 58) hx hb dX10_takeBut_41 (by decide) (fun c12 => ?_) (fun c12 => ?_)
        · have hX := if_f c12 hX
          exact n_X10_takeBut_58 X hN hX _ _ _ (lv_sub hl [0] rfl) hS
        · have hX := if_t c12 hX
          exact n_X10_takeBut_44 X hN hX (fun z0 r h ls H locs hl hS => n_X10_takeBut_58 X hN h _ _ _ hl hS) _ _ _ (lv_sub hl [0] rfl) hS
    · have hX := if_f c6 hX
      refine lv_aload_n hx hb dX10_takeBut_8 rfl (lv_at hl 0 rfl) ?_
      obtain ⟨r15, M14, h13, hX⟩ := bp_of hX
      refine r_callV1 (v := .int (b2i r15)) (As := []) (rest := []) X hS (m_X10_fails hN h13) mv_X10_fails rfl (hN) t6_124 ⟨rfl, rfl, Nat.le_of_ble_eq_true rfl, Nat.le_of_ble_eq_true rfl⟩ rfl hl.1 rfl (Nat.le_of_ble_eq_true rfl) ⟨Nat.zero_le _, Nat.zero_le _⟩ dX10_takeBut_9 (fun H locs hS => ?_)
      obtain rfl := some_of hX
      exact x_Z (v := r15) X hS dX10_takeBut_12
  rw [hH, hlo] at hgoal
  exact hgoal
theorem mv_X10_takeBut : Mv yX10_takeBut RX10 cX10_takeBut 5 ((some .boolean)) 4 := ⟨t6_147, t6_146, ts_20, t1_11, ⟨by decide, by decide⟩, by decide +kernel⟩
/-! SewnYearModel.take(III)Z -/
def rm_X10_take : Room := { frames := 3, cells := 0, slots := 0, locals := 68 }
def f_X10_take (M : Mem) (a1 : Int32) (a2 : Int32) (a3 : Int32) : Option (Bool × Mem) :=
  bp (f_X10_takeBut M a1 a2 a3 (-1)) fun r3 M2 => some (r3, M2)
set_option maxRecDepth 100000 in
set_option maxHeartbeats 4000000 in
theorem m_X10_take {l : Launch} {D : va_G} {cy : Nat → ClassId} {ad : Nat → Nat → Nat} {ns : List (Nat × Nat)} {A : Nat → Prop} {M : Mem} (hN : Ob ns 10 100) {a1 : Int32} {a2 : Int32} {a3 : Int32} {r : Bool × Mem} (hX : f_X10_take M a1 a2 a3 = some r) : Ct l yX10_take cX10_take 4 ((some .boolean)) rm_X10_take D cy ad ns A [.ref (ad 100 0), .int a1, .int a2, .int a3] M r.2 (some (.int (b2i r.1))) := by
  refine ct_of (lv := [(0, .ref (ad 100 0)), (1, .int a1), (2, .int a2), (3, .int a3)]) (by decide) (Nat.le_of_ble_eq_true rfl) rfl ?_
  intro p e s m args below meth c ls X hl hS
  obtain ⟨hx, hb, hml, hown, hts, hK, hr, hlk, hA, hG⟩ := id X
  obtain ⟨H, hH⟩ : ∃ z, z = s.heap := ⟨_, rfl⟩
  obtain ⟨locs, hlo⟩ : ∃ z : List Loc, z = [] := ⟨_, rfl⟩
  have hS : St D cy ad ns A M s.heap H locs := by rw [hH, hlo]; exact hS
  have hgoal : W p l e rm_X10_take s m args below meth c H locs 0 0 (MQ below (QC D cy ad ns A r.2 (some (.int (b2i r.1)))) args s 0 0 A) (F0 m 0 ls []) := by
    unfold f_X10_take at hX
    refine lv_aload_n hx hb dX10_take_0 rfl (lv_at hl 0 rfl) ?_
    refine lv_iload_n hx hb dX10_take_1 rfl (lv_at hl 1 rfl) ?_
    refine lv_iload_n hx hb dX10_take_2 rfl (lv_at hl 2 rfl) ?_
    refine lv_iload_n hx hb dX10_take_3 rfl (lv_at hl 3 rfl) ?_
    refine lv_iconst (v := (-1)) hx hb dX10_take_4 (by decide) ?_
    obtain ⟨r3, M2, h1, hX⟩ := bp_of hX
    refine r_callV1 (v := .int (b2i r3)) (As := [.int a1, .int a2, .int a3, .int (-1)]) (rest := []) X hS (m_X10_takeBut hN h1) mv_X10_takeBut rfl (hN) t6_144 ⟨rfl, rfl, Nat.le_of_ble_eq_true rfl, Nat.le_of_ble_eq_true rfl⟩ rfl hl.1 rfl (Nat.le_of_ble_eq_true rfl) ⟨Nat.zero_le _, Nat.zero_le _⟩ dX10_take_5 (fun H locs hS => ?_)
    obtain rfl := some_of hX
    exact x_Z (v := r3) X hS dX10_take_8
  rw [hH, hlo] at hgoal
  exact hgoal
theorem mv_X10_take : Mv yX10_take RX10 cX10_take 4 ((some .boolean)) 3 := ⟨t6_143, t6_142, ts_19, t1_11, ⟨by decide, by decide⟩, by decide +kernel⟩
/-! SewnYearModel.full(III)V -/
def rm_X10_full : Room := { frames := 1, cells := 0, slots := 0, locals := 22 }
def f_X10_full (M : Mem) (a1 : Int32) (a2 : Int32) (a3 : Int32) : Option (Mem) :=
  gin a1 138 <| if (gA M 100 19 (ix a1)) = a2 then (bn (f_X10_later M (nI 3) a3) fun M4 => some M4) else (some M)
set_option maxRecDepth 100000 in
set_option maxHeartbeats 4000000 in
theorem m_X10_full {l : Launch} {D : va_G} {cy : Nat → ClassId} {ad : Nat → Nat → Nat} {ns : List (Nat × Nat)} {A : Nat → Prop} {M : Mem} (hN : Ob ns 10 100) {a1 : Int32} {a2 : Int32} {a3 : Int32} {r : Mem} (hX : f_X10_full M a1 a2 a3 = some r) : Ct l yX10_full cX10_full 4 ((none : Option Jvm.ClassFile.FieldType)) rm_X10_full D cy ad ns A [.ref (ad 100 0), .int a1, .int a2, .int a3] M r none := by
  refine ct_of (lv := [(0, .ref (ad 100 0)), (1, .int a1), (2, .int a2), (3, .int a3)]) (by decide) (Nat.le_of_ble_eq_true rfl) rfl ?_
  intro p e s m args below meth c ls X hl hS
  obtain ⟨hx, hb, hml, hown, hts, hK, hr, hlk, hA, hG⟩ := id X
  obtain ⟨H, hH⟩ : ∃ z, z = s.heap := ⟨_, rfl⟩
  obtain ⟨locs, hlo⟩ : ∃ z : List Loc, z = [] := ⟨_, rfl⟩
  have hS : St D cy ad ns A M s.heap H locs := by rw [hH, hlo]; exact hS
  have hgoal : W p l e rm_X10_full s m args below meth c H locs 0 0 (MQ below (QC D cy ad ns A r none) args s 0 0 A) (F0 m 0 ls []) := by
    unfold f_X10_full at hX
    refine lv_aload_n hx hb dX10_full_0 rfl (lv_at hl 0 rfl) ?_
    refine fg_X10_38 X hS (hN) dX10_full_1 ?_
    refine lv_iload_n hx hb dX10_full_4 rfl (lv_at hl 1 rfl) ?_
    obtain ⟨g1, hX⟩ := gin_of hX
    refine r_iald (ci := 10) (o := 100) (k := 19) (n := 138) X hS (hN) rfl rfl g1 dX10_full_5 ?_
    refine lv_iload_n hx hb dX10_full_6 rfl (lv_at hl 2 rfl) ?_
    refine lv_icmp_ne (tgt := 16) hx hb dX10_full_7 (by decide) (fun c2 => ?_) (fun c2 => ?_)
    · have hX := if_f c2 hX
      obtain rfl := some_of hX
      exact x_V X hS dX10_full_16
    · have hX := if_t c2 hX
      refine lv_aload_n hx hb dX10_full_10 rfl (lv_at hl 0 rfl) ?_
      refine lv_iconst (v := nI 3) hx hb dX10_full_11 (by decide) ?_
      refine lv_iload_n hx hb dX10_full_12 rfl (lv_at hl 3 rfl) ?_
      obtain ⟨M4, h3, hX⟩ := bn_of hX
      refine r_callV0 (As := [.int (nI 3), .int a3]) (rest := []) X hS (m_X10_later hN h3) mv_X10_later rfl (hN) t6_132 ⟨rfl, rfl, Nat.le_of_ble_eq_true rfl, Nat.le_of_ble_eq_true rfl⟩ rfl hl.1 rfl (Nat.le_of_ble_eq_true rfl) ⟨Nat.zero_le _, Nat.zero_le _⟩ dX10_full_13 (fun H locs hS => ?_)
      obtain rfl := some_of hX
      exact x_V X hS dX10_full_16
  rw [hH, hlo] at hgoal
  exact hgoal
theorem mv_X10_full : Mv yX10_full RX10 cX10_full 4 ((none : Option Jvm.ClassFile.FieldType)) 3 := ⟨t6_131, t6_130, ts_16, t1_11, ⟨by decide, by decide⟩, by decide +kernel⟩
/-! SewnYearModel.plainLine(III)Z -/
def rm_X10_plainLine : Room := { frames := 4, cells := 0, slots := 0, locals := 91 }
def f_X10_plainLine (M : Mem) (a1 : Int32) (a2 : Int32) (a3 : Int32) : Option (Bool × Mem) :=
  bp (f_X10_take M (nI 0) a2 a3) fun r3 M2 => if r3 = true then (gin (nI 0) 4 <| gin a1 138 <| nm (sA M2 100 19 (ix a1) (gA M2 100 20 (ix (nI 0)))) fun M7 => some (true, M7)) else (some (false, M2))
set_option maxRecDepth 100000 in
set_option maxHeartbeats 4000000 in
theorem m_X10_plainLine {l : Launch} {D : va_G} {cy : Nat → ClassId} {ad : Nat → Nat → Nat} {ns : List (Nat × Nat)} {A : Nat → Prop} {M : Mem} (hN : Ob ns 10 100) {a1 : Int32} {a2 : Int32} {a3 : Int32} {r : Bool × Mem} (hX : f_X10_plainLine M a1 a2 a3 = some r) : Ct l yX10_plainLine cX10_plainLine 4 ((some .boolean)) rm_X10_plainLine D cy ad ns A [.ref (ad 100 0), .int a1, .int a2, .int a3] M r.2 (some (.int (b2i r.1))) := by
  refine ct_of (lv := [(0, .ref (ad 100 0)), (1, .int a1), (2, .int a2), (3, .int a3)]) (by decide) (Nat.le_of_ble_eq_true rfl) rfl ?_
  intro p e s m args below meth c ls X hl hS
  obtain ⟨hx, hb, hml, hown, hts, hK, hr, hlk, hA, hG⟩ := id X
  obtain ⟨H, hH⟩ : ∃ z, z = s.heap := ⟨_, rfl⟩
  obtain ⟨locs, hlo⟩ : ∃ z : List Loc, z = [] := ⟨_, rfl⟩
  have hS : St D cy ad ns A M s.heap H locs := by rw [hH, hlo]; exact hS
  have hgoal : W p l e rm_X10_plainLine s m args below meth c H locs 0 0 (MQ below (QC D cy ad ns A r.2 (some (.int (b2i r.1)))) args s 0 0 A) (F0 m 0 ls []) := by
    unfold f_X10_plainLine at hX
    refine lv_aload_n hx hb dX10_plainLine_0 rfl (lv_at hl 0 rfl) ?_
    refine lv_iconst (v := nI 0) hx hb dX10_plainLine_1 (by decide) ?_
    refine lv_iload_n hx hb dX10_plainLine_2 rfl (lv_at hl 2 rfl) ?_
    refine lv_iload_n hx hb dX10_plainLine_3 rfl (lv_at hl 3 rfl) ?_
    obtain ⟨r3, M2, h1, hX⟩ := bp_of hX
    refine r_callV1 (v := .int (b2i r3)) (As := [.int (nI 0), .int a2, .int a3]) (rest := []) X hS (m_X10_take hN h1) mv_X10_take rfl (hN) t6_140 ⟨rfl, rfl, Nat.le_of_ble_eq_true rfl, Nat.le_of_ble_eq_true rfl⟩ rfl hl.1 rfl (Nat.le_of_ble_eq_true rfl) ⟨Nat.zero_le _, Nat.zero_le _⟩ dX10_plainLine_4 (fun H locs hS => ?_)
    refine lv_if_ne (tgt := 12) hx hb dX10_plainLine_7 (by decide) (fun c4 => ?_) (fun c4 => ?_)
    · have hX := if_bt c4 hX
      refine lv_aload_n hx hb dX10_plainLine_12 rfl (lv_at hl 0 rfl) ?_
      refine fg_X10_38 X hS (hN) dX10_plainLine_13 ?_
      refine lv_iload_n hx hb dX10_plainLine_16 rfl (lv_at hl 1 rfl) ?_
      refine lv_aload_n hx hb dX10_plainLine_17 rfl (lv_at hl 0 rfl) ?_
      refine fg_X10_41 X hS (hN) dX10_plainLine_18 ?_
      refine lv_iconst (v := nI 0) hx hb dX10_plainLine_21 (by decide) ?_
      obtain ⟨g5, hX⟩ := gin_of hX
      refine r_iald (ci := 10) (o := 100) (k := 20) (n := 4) X hS (hN) rfl rfl g5 dX10_plainLine_22 ?_
      obtain ⟨g6, hX⟩ := gin_of hX
      refine r_iast (ci := 10) (o := 100) (k := 19) (n := 138) X hS (hN) rfl rfl g6 dX10_plainLine_23 (fun H locs hS => ?_)
      obtain ⟨M7, eM7, hS, hX⟩ := nm_mem hS hX
      refine lv_iconst (v := nI 1) hx hb dX10_plainLine_24 (by decide) ?_
      obtain rfl := some_of hX
      exact x_Z (v := true) X hS dX10_plainLine_25
    · have hX := if_bf c4 hX
      refine lv_iconst (v := nI 0) hx hb dX10_plainLine_10 (by decide) ?_
      obtain rfl := some_of hX
      exact x_Z (v := false) X hS dX10_plainLine_11
  rw [hH, hlo] at hgoal
  exact hgoal
theorem mv_X10_plainLine : Mv yX10_plainLine RX10 cX10_plainLine 4 ((some .boolean)) 3 := ⟨t6_139, t6_138, ts_18, t1_11, ⟨by decide, by decide⟩, by decide +kernel⟩
/-! SewnYearModel.seamLine()Z -/
def rm_X10_seamLine : Room := { frames := 4, cells := 0, slots := 0, locals := 91 }
def f_X10_seamLine (M : Mem) : Option (Bool × Mem) :=
  bp (f_X10_take M (nI 0) (nI 1) (nI 9)) fun r3 M2 => if r3 = true then (bp (f_X10_take M2 (nI 1) (nI 0) (nI 3)) fun r7 M6 => if r7 = true then (bp (f_X10_take M6 (nI 2) (nI 0) (nI 9)) fun r11 M10 => if r11 = true then (gin (nI 0) 138 <| nm (gA M10 100 19 (ix (nI 0))) fun v14 => if (nI 9) ≤ v14 then (some (true, M10)) else (gin (nI 0) 4 <| gin ((nI 2) + v14) 138 <| nm (sA M10 100 19 (ix ((nI 2) + v14)) (gA M10 100 20 (ix (nI 0)))) fun M18 => gin (nI 1) 4 <| gin ((nI 11) + v14) 138 <| nm (sA M18 100 19 (ix ((nI 11) + v14)) (gA M18 100 20 (ix (nI 1)))) fun M21 => gin (nI 2) 4 <| gin ((nI 20) + v14) 138 <| nm (sA M21 100 19 (ix ((nI 20) + v14)) (gA M21 100 20 (ix (nI 2)))) fun M24 => gin (nI 0) 138 <| gin (nI 0) 138 <| nm (sA M24 100 19 (ix (nI 0)) ((gA M24 100 19 (ix (nI 0))) + (nI 1))) fun M27 => some (true, M27))) else (some (false, M10))) else (some (false, M6))) else (some (false, M2))
set_option maxRecDepth 100000 in
set_option maxHeartbeats 4000000 in
theorem m_X10_seamLine {l : Launch} {D : va_G} {cy : Nat → ClassId} {ad : Nat → Nat → Nat} {ns : List (Nat × Nat)} {A : Nat → Prop} {M : Mem} (hN : Ob ns 10 100) {r : Bool × Mem} (hX : f_X10_seamLine M = some r) : Ct l yX10_seamLine cX10_seamLine 2 ((some .boolean)) rm_X10_seamLine D cy ad ns A [.ref (ad 100 0)] M r.2 (some (.int (b2i r.1))) := by
  refine ct_of (lv := [(0, .ref (ad 100 0))]) (by decide) (Nat.le_of_ble_eq_true rfl) rfl ?_
  intro p e s m args below meth c ls X hl hS
  obtain ⟨hx, hb, hml, hown, hts, hK, hr, hlk, hA, hG⟩ := id X
  obtain ⟨H, hH⟩ : ∃ z, z = s.heap := ⟨_, rfl⟩
  obtain ⟨locs, hlo⟩ : ∃ z : List Loc, z = [] := ⟨_, rfl⟩
  have hS : St D cy ad ns A M s.heap H locs := by rw [hH, hlo]; exact hS
  have hgoal : W p l e rm_X10_seamLine s m args below meth c H locs 0 0 (MQ below (QC D cy ad ns A r.2 (some (.int (b2i r.1)))) args s 0 0 A) (F0 m 0 ls []) := by
    unfold f_X10_seamLine at hX
    refine lv_aload_n hx hb dX10_seamLine_0 rfl (lv_at hl 0 rfl) ?_
    refine lv_iconst (v := nI 0) hx hb dX10_seamLine_1 (by decide) ?_
    refine lv_iconst (v := nI 1) hx hb dX10_seamLine_2 (by decide) ?_
    refine lv_bipush (v := nI 9) hx hb dX10_seamLine_3 (by decide) ?_
    obtain ⟨r3, M2, h1, hX⟩ := bp_of hX
    refine r_callV1 (v := .int (b2i r3)) (As := [.int (nI 0), .int (nI 1), .int (nI 9)]) (rest := []) X hS (m_X10_take hN h1) mv_X10_take rfl (hN) t6_140 ⟨rfl, rfl, Nat.le_of_ble_eq_true rfl, Nat.le_of_ble_eq_true rfl⟩ rfl hl.1 rfl (Nat.le_of_ble_eq_true rfl) ⟨Nat.zero_le _, Nat.zero_le _⟩ dX10_seamLine_5 (fun H locs hS => ?_)
    refine lv_if_eq (tgt := 32) hx hb dX10_seamLine_8 (by decide) (fun c4 => ?_) (fun c4 => ?_)
    · have hX := if_bf c4 hX
      refine lv_iconst (v := nI 0) hx hb dX10_seamLine_32 (by decide) ?_
      obtain rfl := some_of hX
      exact x_Z (v := false) X hS dX10_seamLine_33
    · have hX := if_bt c4 hX
      refine lv_aload_n hx hb dX10_seamLine_11 rfl (lv_at hl 0 rfl) ?_
      refine lv_iconst (v := nI 1) hx hb dX10_seamLine_12 (by decide) ?_
      refine lv_iconst (v := nI 0) hx hb dX10_seamLine_13 (by decide) ?_
      refine lv_iconst (v := nI 3) hx hb dX10_seamLine_14 (by decide) ?_
      obtain ⟨r7, M6, h5, hX⟩ := bp_of hX
      refine r_callV1 (v := .int (b2i r7)) (As := [.int (nI 1), .int (nI 0), .int (nI 3)]) (rest := []) X hS (m_X10_take hN h5) mv_X10_take rfl (hN) t6_140 ⟨rfl, rfl, Nat.le_of_ble_eq_true rfl, Nat.le_of_ble_eq_true rfl⟩ rfl hl.1 rfl (Nat.le_of_ble_eq_true rfl) ⟨Nat.zero_le _, Nat.zero_le _⟩ dX10_seamLine_15 (fun H locs hS => ?_)
      refine lv_if_eq (tgt := 32) hx hb dX10_seamLine_18 (by decide) (fun c8 => ?_) (fun c8 => ?_)
      · have hX := if_bf c8 hX
        refine lv_iconst (v := nI 0) hx hb dX10_seamLine_32 (by decide) ?_
        obtain rfl := some_of hX
        exact x_Z (v := false) X hS dX10_seamLine_33
      · have hX := if_bt c8 hX
        refine lv_aload_n hx hb dX10_seamLine_21 rfl (lv_at hl 0 rfl) ?_
        refine lv_iconst (v := nI 2) hx hb dX10_seamLine_22 (by decide) ?_
        refine lv_iconst (v := nI 0) hx hb dX10_seamLine_23 (by decide) ?_
        refine lv_bipush (v := nI 9) hx hb dX10_seamLine_24 (by decide) ?_
        obtain ⟨r11, M10, h9, hX⟩ := bp_of hX
        refine r_callV1 (v := .int (b2i r11)) (As := [.int (nI 2), .int (nI 0), .int (nI 9)]) (rest := []) X hS (m_X10_take hN h9) mv_X10_take rfl (hN) t6_140 ⟨rfl, rfl, Nat.le_of_ble_eq_true rfl, Nat.le_of_ble_eq_true rfl⟩ rfl hl.1 rfl (Nat.le_of_ble_eq_true rfl) ⟨Nat.zero_le _, Nat.zero_le _⟩ dX10_seamLine_26 (fun H locs hS => ?_)
        refine lv_if_ne (tgt := 34) hx hb dX10_seamLine_29 (by decide) (fun c12 => ?_) (fun c12 => ?_)
        · have hX := if_bt c12 hX
          refine lv_aload_n hx hb dX10_seamLine_34 rfl (lv_at hl 0 rfl) ?_
          refine fg_X10_38 X hS (hN) dX10_seamLine_35 ?_
          refine lv_iconst (v := nI 0) hx hb dX10_seamLine_38 (by decide) ?_
          obtain ⟨g13, hX⟩ := gin_of hX
          refine r_iald (ci := 10) (o := 100) (k := 19) (n := 138) X hS (hN) rfl rfl g13 dX10_seamLine_39 ?_
          refine lv_topi (fun v14 ev14 => ?_)
          have hX := nm_of ev14 hX
          refine lv_istore_n (lv' := [(1, .int v14), (0, .ref (ad 100 0))]) hx hb dX10_seamLine_40 rfl hl (by decide) rfl (fun ls hl => ?_)
          refine lv_iload_n hx hb dX10_seamLine_41 rfl (lv_at hl 0 rfl) ?_
          refine lv_bipush (v := nI 9) hx hb dX10_seamLine_42 (by decide) ?_
          refine lv_icmp_ge (tgt := 101) hx hb dX10_seamLine_44 (by decide) (fun c15 => ?_) (fun c15 => ?_)
          · have hX := if_t c15 hX
            refine lv_iconst (v := nI 1) hx hb dX10_seamLine_101 (by decide) ?_
            obtain rfl := some_of hX
            exact x_Z (v := true) X hS dX10_seamLine_102
          · have hX := if_f c15 hX
            refine lv_aload_n hx hb dX10_seamLine_47 rfl (lv_at hl 1 rfl) ?_
            refine fg_X10_38 X hS (hN) dX10_seamLine_48 ?_
            refine lv_iconst (v := nI 2) hx hb dX10_seamLine_51 (by decide) ?_
            refine lv_iload_n hx hb dX10_seamLine_52 rfl (lv_at hl 0 rfl) ?_
            refine lv_iadd hx hb dX10_seamLine_53 ?_
            refine lv_aload_n hx hb dX10_seamLine_54 rfl (lv_at hl 1 rfl) ?_
            refine fg_X10_41 X hS (hN) dX10_seamLine_55 ?_
            refine lv_iconst (v := nI 0) hx hb dX10_seamLine_58 (by decide) ?_
            obtain ⟨g16, hX⟩ := gin_of hX
            refine r_iald (ci := 10) (o := 100) (k := 20) (n := 4) X hS (hN) rfl rfl g16 dX10_seamLine_59 ?_
            obtain ⟨g17, hX⟩ := gin_of hX
            refine r_iast (ci := 10) (o := 100) (k := 19) (n := 138) X hS (hN) rfl rfl g17 dX10_seamLine_60 (fun H locs hS => ?_)
            obtain ⟨M18, eM18, hS, hX⟩ := nm_mem hS hX
            refine lv_aload_n hx hb dX10_seamLine_61 rfl (lv_at hl 1 rfl) ?_
            refine fg_X10_38 X hS (hN) dX10_seamLine_62 ?_
            refine lv_bipush (v := nI 11) hx hb dX10_seamLine_65 (by decide) ?_
            refine lv_iload_n hx hb dX10_seamLine_67 rfl (lv_at hl 0 rfl) ?_
            refine lv_iadd hx hb dX10_seamLine_68 ?_
            refine lv_aload_n hx hb dX10_seamLine_69 rfl (lv_at hl 1 rfl) ?_
            refine fg_X10_41 X hS (hN) dX10_seamLine_70 ?_
            refine lv_iconst (v := nI 1) hx hb dX10_seamLine_73 (by decide) ?_
            obtain ⟨g19, hX⟩ := gin_of hX
            refine r_iald (ci := 10) (o := 100) (k := 20) (n := 4) X hS (hN) rfl rfl g19 dX10_seamLine_74 ?_
            obtain ⟨g20, hX⟩ := gin_of hX
            refine r_iast (ci := 10) (o := 100) (k := 19) (n := 138) X hS (hN) rfl rfl g20 dX10_seamLine_75 (fun H locs hS => ?_)
            obtain ⟨M21, eM21, hS, hX⟩ := nm_mem hS hX
            refine lv_aload_n hx hb dX10_seamLine_76 rfl (lv_at hl 1 rfl) ?_
            refine fg_X10_38 X hS (hN) dX10_seamLine_77 ?_
            refine lv_bipush (v := nI 20) hx hb dX10_seamLine_80 (by decide) ?_
            refine lv_iload_n hx hb dX10_seamLine_82 rfl (lv_at hl 0 rfl) ?_
            refine lv_iadd hx hb dX10_seamLine_83 ?_
            refine lv_aload_n hx hb dX10_seamLine_84 rfl (lv_at hl 1 rfl) ?_
            refine fg_X10_41 X hS (hN) dX10_seamLine_85 ?_
            refine lv_iconst (v := nI 2) hx hb dX10_seamLine_88 (by decide) ?_
            obtain ⟨g22, hX⟩ := gin_of hX
            refine r_iald (ci := 10) (o := 100) (k := 20) (n := 4) X hS (hN) rfl rfl g22 dX10_seamLine_89 ?_
            obtain ⟨g23, hX⟩ := gin_of hX
            refine r_iast (ci := 10) (o := 100) (k := 19) (n := 138) X hS (hN) rfl rfl g23 dX10_seamLine_90 (fun H locs hS => ?_)
            obtain ⟨M24, eM24, hS, hX⟩ := nm_mem hS hX
            refine lv_aload_n hx hb dX10_seamLine_91 rfl (lv_at hl 1 rfl) ?_
            refine fg_X10_38 X hS (hN) dX10_seamLine_92 ?_
            refine lv_iconst (v := nI 0) hx hb dX10_seamLine_95 (by decide) ?_
            refine lv_dup2_11 hx hb dX10_seamLine_96 rfl rfl ?_
            obtain ⟨g25, hX⟩ := gin_of hX
            refine r_iald (ci := 10) (o := 100) (k := 19) (n := 138) X hS (hN) rfl rfl g25 dX10_seamLine_97 ?_
            refine lv_iconst (v := nI 1) hx hb dX10_seamLine_98 (by decide) ?_
            refine lv_iadd hx hb dX10_seamLine_99 ?_
            obtain ⟨g26, hX⟩ := gin_of hX
            refine r_iast (ci := 10) (o := 100) (k := 19) (n := 138) X hS (hN) rfl rfl g26 dX10_seamLine_100 (fun H locs hS => ?_)
            obtain ⟨M27, eM27, hS, hX⟩ := nm_mem hS hX
            refine lv_iconst (v := nI 1) hx hb dX10_seamLine_101 (by decide) ?_
            obtain rfl := some_of hX
            exact x_Z (v := true) X hS dX10_seamLine_102
        · have hX := if_bf c12 hX
          refine lv_iconst (v := nI 0) hx hb dX10_seamLine_32 (by decide) ?_
          obtain rfl := some_of hX
          exact x_Z (v := false) X hS dX10_seamLine_33
  rw [hH, hlo] at hgoal
  exact hgoal
theorem mv_X10_seamLine : Mv yX10_seamLine RX10 cX10_seamLine 2 ((some .boolean)) 0 := ⟨t6_151, t6_150, ts_21, t1_11, ⟨by decide, by decide⟩, by decide +kernel⟩
/-! SewnYearModel.afterLine()Z -/
def rm_X10_afterLine : Room := { frames := 4, cells := 0, slots := 0, locals := 91 }
def f_X10_afterLine (M : Mem) : Option (Bool × Mem) :=
  bp (f_X10_take M (nI 0) (nI 0) (nI 8)) fun r3 M2 => if r3 = true then (gin (nI 0) 4 <| bp (f_X10_takeBut M2 (nI 1) (nI 0) (nI 8) (gA M2 100 20 (ix (nI 0)))) fun r8 M7 => if r8 = true then (gin (nI 0) 4 <| gin (nI 1) 4 <| bn (f_X10_greater (gA M7 100 20 (ix (nI 0))) (gA M7 100 20 (ix (nI 1)))) fun r13 => bn (f_X10_greater (gI M7 100 21) r13) fun r15 => nm (sI M7 100 21 r15) fun M16 => if (gI M16 100 22) = (nI 0) then (some (true, M16)) else (gin (nI 0) 4 <| gin ((nI 29) + (gA M16 100 20 (ix (nI 0)))) 138 <| gin (nI 1) 4 <| gin ((nI 29) + (gA M16 100 20 (ix (nI 0)))) 138 <| nm (sA M16 100 19 (ix ((nI 29) + (gA M16 100 20 (ix (nI 0))))) ((gA M16 100 19 (ix ((nI 29) + (gA M16 100 20 (ix (nI 0)))))) ||| ((nI 1) <<< ((gA M16 100 20 (ix (nI 1))) &&& 31)))) fun M22 => some (true, M22))) else (some (false, M7))) else (some (false, M2))
set_option maxRecDepth 100000 in
set_option maxHeartbeats 4000000 in
theorem m_X10_afterLine {l : Launch} {D : va_G} {cy : Nat → ClassId} {ad : Nat → Nat → Nat} {ns : List (Nat × Nat)} {A : Nat → Prop} {M : Mem} (hN : Ob ns 10 100) {r : Bool × Mem} (hX : f_X10_afterLine M = some r) : Ct l yX10_afterLine cX10_afterLine 1 ((some .boolean)) rm_X10_afterLine D cy ad ns A [.ref (ad 100 0)] M r.2 (some (.int (b2i r.1))) := by
  refine ct_of (lv := [(0, .ref (ad 100 0))]) (by decide) (Nat.le_of_ble_eq_true rfl) rfl ?_
  intro p e s m args below meth c ls X hl hS
  obtain ⟨hx, hb, hml, hown, hts, hK, hr, hlk, hA, hG⟩ := id X
  obtain ⟨H, hH⟩ : ∃ z, z = s.heap := ⟨_, rfl⟩
  obtain ⟨locs, hlo⟩ : ∃ z : List Loc, z = [] := ⟨_, rfl⟩
  have hS : St D cy ad ns A M s.heap H locs := by rw [hH, hlo]; exact hS
  have hgoal : W p l e rm_X10_afterLine s m args below meth c H locs 0 0 (MQ below (QC D cy ad ns A r.2 (some (.int (b2i r.1)))) args s 0 0 A) (F0 m 0 ls []) := by
    unfold f_X10_afterLine at hX
    refine lv_aload_n hx hb dX10_afterLine_0 rfl (lv_at hl 0 rfl) ?_
    refine lv_iconst (v := nI 0) hx hb dX10_afterLine_1 (by decide) ?_
    refine lv_iconst (v := nI 0) hx hb dX10_afterLine_2 (by decide) ?_
    refine lv_bipush (v := nI 8) hx hb dX10_afterLine_3 (by decide) ?_
    obtain ⟨r3, M2, h1, hX⟩ := bp_of hX
    refine r_callV1 (v := .int (b2i r3)) (As := [.int (nI 0), .int (nI 0), .int (nI 8)]) (rest := []) X hS (m_X10_take hN h1) mv_X10_take rfl (hN) t6_140 ⟨rfl, rfl, Nat.le_of_ble_eq_true rfl, Nat.le_of_ble_eq_true rfl⟩ rfl hl.1 rfl (Nat.le_of_ble_eq_true rfl) ⟨Nat.zero_le _, Nat.zero_le _⟩ dX10_afterLine_5 (fun H locs hS => ?_)
    refine lv_if_eq (tgt := 28) hx hb dX10_afterLine_8 (by decide) (fun c4 => ?_) (fun c4 => ?_)
    · have hX := if_bf c4 hX
      refine lv_iconst (v := nI 0) hx hb dX10_afterLine_28 (by decide) ?_
      obtain rfl := some_of hX
      exact x_Z (v := false) X hS dX10_afterLine_29
    · have hX := if_bt c4 hX
      refine lv_aload_n hx hb dX10_afterLine_11 rfl (lv_at hl 0 rfl) ?_
      refine lv_iconst (v := nI 1) hx hb dX10_afterLine_12 (by decide) ?_
      refine lv_iconst (v := nI 0) hx hb dX10_afterLine_13 (by decide) ?_
      refine lv_bipush (v := nI 8) hx hb dX10_afterLine_14 (by decide) ?_
      refine lv_aload_n hx hb dX10_afterLine_16 rfl (lv_at hl 0 rfl) ?_
      refine fg_X10_41 X hS (hN) dX10_afterLine_17 ?_
      refine lv_iconst (v := nI 0) hx hb dX10_afterLine_20 (by decide) ?_
      obtain ⟨g5, hX⟩ := gin_of hX
      refine r_iald (ci := 10) (o := 100) (k := 20) (n := 4) X hS (hN) rfl rfl g5 dX10_afterLine_21 ?_
      obtain ⟨r8, M7, h6, hX⟩ := bp_of hX
      refine r_callV1 (v := .int (b2i r8)) (As := [.int (nI 1), .int (nI 0), .int (nI 8), .int (gA M2 100 20 (ix (nI 0)))]) (rest := []) X hS (m_X10_takeBut hN h6) mv_X10_takeBut rfl (hN) t6_144 ⟨rfl, rfl, Nat.le_of_ble_eq_true rfl, Nat.le_of_ble_eq_true rfl⟩ rfl hl.1 rfl (Nat.le_of_ble_eq_true rfl) ⟨Nat.zero_le _, Nat.zero_le _⟩ dX10_afterLine_22 (fun H locs hS => ?_)
      refine lv_if_ne (tgt := 30) hx hb dX10_afterLine_25 (by decide) (fun c9 => ?_) (fun c9 => ?_)
      · have hX := if_bt c9 hX
        refine lv_aload_n hx hb dX10_afterLine_30 rfl (lv_at hl 0 rfl) ?_
        refine lv_aload_n hx hb dX10_afterLine_31 rfl (lv_at hl 0 rfl) ?_
        refine fg_X10_168 X hS (hN) dX10_afterLine_32 ?_
        refine lv_aload_n hx hb dX10_afterLine_35 rfl (lv_at hl 0 rfl) ?_
        refine fg_X10_41 X hS (hN) dX10_afterLine_36 ?_
        refine lv_iconst (v := nI 0) hx hb dX10_afterLine_39 (by decide) ?_
        obtain ⟨g10, hX⟩ := gin_of hX
        refine r_iald (ci := 10) (o := 100) (k := 20) (n := 4) X hS (hN) rfl rfl g10 dX10_afterLine_40 ?_
        refine lv_aload_n hx hb dX10_afterLine_41 rfl (lv_at hl 0 rfl) ?_
        refine fg_X10_41 X hS (hN) dX10_afterLine_42 ?_
        refine lv_iconst (v := nI 1) hx hb dX10_afterLine_45 (by decide) ?_
        obtain ⟨g11, hX⟩ := gin_of hX
        refine r_iald (ci := 10) (o := 100) (k := 20) (n := 4) X hS (hN) rfl rfl g11 dX10_afterLine_46 ?_
        obtain ⟨r13, h12, hX⟩ := bn_of hX
        refine r_callS1 (v := .int r13) (As := [.int (gA M7 100 20 (ix (nI 0))), .int (gA M7 100 20 (ix (nI 1)))]) (rest := [.int (gI M7 100 21), .ref (ad 100 0)]) X hS (m_X10_greater (M := M7) hN h12) ms_X10_greater t6_156 ⟨rfl, rfl, Nat.le_of_ble_eq_true rfl, Nat.le_of_ble_eq_true rfl⟩ rfl hl.1 rfl (Nat.le_of_ble_eq_true rfl) ⟨Nat.zero_le _, Nat.zero_le _⟩ dX10_afterLine_47 (fun H locs hS => ?_)
        obtain ⟨r15, h14, hX⟩ := bn_of hX
        refine r_callS1 (v := .int r15) (As := [.int (gI M7 100 21), .int r13]) (rest := [.ref (ad 100 0)]) X hS (m_X10_greater (M := M7) hN h14) ms_X10_greater t6_156 ⟨rfl, rfl, Nat.le_of_ble_eq_true rfl, Nat.le_of_ble_eq_true rfl⟩ rfl hl.1 rfl (Nat.le_of_ble_eq_true rfl) ⟨Nat.zero_le _, Nat.zero_le _⟩ dX10_afterLine_50 (fun H locs hS => ?_)
        refine fp_X10_168 X hS (hN) dX10_afterLine_53 (fun H locs hS => ?_)
        obtain ⟨M16, eM16, hS, hX⟩ := nm_mem hS hX
        refine lv_aload_n hx hb dX10_afterLine_56 rfl (lv_at hl 0 rfl) ?_
        refine fg_X10_154 X hS (hN) dX10_afterLine_57 ?_
        refine lv_if_eq (tgt := 88) hx hb dX10_afterLine_60 (by decide) (fun c17 => ?_) (fun c17 => ?_)
        · have hX := if_t c17 hX
          refine lv_iconst (v := nI 1) hx hb dX10_afterLine_88 (by decide) ?_
          obtain rfl := some_of hX
          exact x_Z (v := true) X hS dX10_afterLine_89
        · have hX := if_f c17 hX
          refine lv_aload_n hx hb dX10_afterLine_63 rfl (lv_at hl 0 rfl) ?_
          refine fg_X10_38 X hS (hN) dX10_afterLine_64 ?_
          refine lv_bipush (v := nI 29) hx hb dX10_afterLine_67 (by decide) ?_
          refine lv_aload_n hx hb dX10_afterLine_69 rfl (lv_at hl 0 rfl) ?_
          refine fg_X10_41 X hS (hN) dX10_afterLine_70 ?_
          refine lv_iconst (v := nI 0) hx hb dX10_afterLine_73 (by decide) ?_
          obtain ⟨g18, hX⟩ := gin_of hX
          refine r_iald (ci := 10) (o := 100) (k := 20) (n := 4) X hS (hN) rfl rfl g18 dX10_afterLine_74 ?_
          refine lv_iadd hx hb dX10_afterLine_75 ?_
          refine lv_dup2_11 hx hb dX10_afterLine_76 rfl rfl ?_
          obtain ⟨g19, hX⟩ := gin_of hX
          refine r_iald (ci := 10) (o := 100) (k := 19) (n := 138) X hS (hN) rfl rfl g19 dX10_afterLine_77 ?_
          refine lv_iconst (v := nI 1) hx hb dX10_afterLine_78 (by decide) ?_
          refine lv_aload_n hx hb dX10_afterLine_79 rfl (lv_at hl 0 rfl) ?_
          refine fg_X10_41 X hS (hN) dX10_afterLine_80 ?_
          refine lv_iconst (v := nI 1) hx hb dX10_afterLine_83 (by decide) ?_
          obtain ⟨g20, hX⟩ := gin_of hX
          refine r_iald (ci := 10) (o := 100) (k := 20) (n := 4) X hS (hN) rfl rfl g20 dX10_afterLine_84 ?_
          refine lv_ishl hx hb dX10_afterLine_85 ?_
          refine lv_ior hx hb dX10_afterLine_86 ?_
          obtain ⟨g21, hX⟩ := gin_of hX
          refine r_iast (ci := 10) (o := 100) (k := 19) (n := 138) X hS (hN) rfl rfl g21 dX10_afterLine_87 (fun H locs hS => ?_)
          obtain ⟨M22, eM22, hS, hX⟩ := nm_mem hS hX
          refine lv_iconst (v := nI 1) hx hb dX10_afterLine_88 (by decide) ?_
          obtain rfl := some_of hX
          exact x_Z (v := true) X hS dX10_afterLine_89
      · have hX := if_bf c9 hX
        refine lv_iconst (v := nI 0) hx hb dX10_afterLine_28 (by decide) ?_
        obtain rfl := some_of hX
        exact x_Z (v := false) X hS dX10_afterLine_29
  rw [hH, hlo] at hgoal
  exact hgoal
theorem mv_X10_afterLine : Mv yX10_afterLine RX10 cX10_afterLine 1 ((some .boolean)) 0 := ⟨t6_155, t6_154, ts_22, t1_11, ⟨by decide, by decide⟩, by decide +kernel⟩
/-! SewnYearModel.coatLine(JI)Z -/
def rm_X10_coatLine : Room := { frames := 5, cells := 0, slots := 0, locals := 114 }
def f_X10_coatLine_53 (a1 : Int64) (a2 : Int32) (M : Mem) : Option (Bool × Mem) :=
  bn (f_X10_token M) fun M2 => if (lg_cmp a1 (lN 1885430629)) = (nI 0) then (bp (f_X10_plainLine M2 (nI 1) (nI 1) (nI 9)) fun r27 M26 => some (r27, M26)) else (if (lg_cmp a1 (lN 444301539187)) = (nI 0) then (bp (f_X10_take M2 (nI 0) (nI 0) (nI 99)) fun r7 M6 => if r7 = true then (bp (f_X10_take M6 (nI 1) (nI 0) (nI 9)) fun r11 M10 => if r11 = true then (if (gI M10 100 22) = (nI 0) then (some (true, M10)) else (gin (nI 0) 4 <| gin (nI 1) 4 <| gin ((nI 38) + (gA M10 100 20 (ix (nI 0)))) 138 <| nm (sA M10 100 19 (ix ((nI 38) + (gA M10 100 20 (ix (nI 0))))) (gA M10 100 20 (ix (nI 1)))) fun M17 => some (true, M17))) else (some (false, M10))) else (some (false, M6))) else (if (lg_cmp a1 (lN 1936023917)) = (nI 0) then (bp (f_X10_seamLine M2) fun r24 M23 => some (r24, M23)) else (bp (f_X10_afterLine M2) fun r21 M20 => some (r21, M20))))
def f_X10_coatLine_37 (a1 : Int64) (a2 : Int32) (M : Mem) : Option (Bool × Mem) :=
  if (lg_cmp a1 (lN 1936023917)) = (nI 0) then (bn (f_X10_full M (nI 0) (nI 9) a2) fun M30 => f_X10_coatLine_53 a1 a2 M30) else (f_X10_coatLine_53 a1 a2 M)
def f_X10_coatLine (M : Mem) (a1 : Int64) (a2 : Int32) : Option (Bool × Mem) :=
  if (lg_cmp a1 (lN 1936023917)) = (nI 0) then (f_X10_coatLine_37 a1 a2 M) else (if (lg_cmp a1 (lN 418330731890)) = (nI 0) then (f_X10_coatLine_37 a1 a2 M) else (if (lg_cmp a1 (lN 444301539187)) = (nI 0) then (f_X10_coatLine_37 a1 a2 M) else (if (lg_cmp a1 (lN 1885430629)) = (nI 0) then (f_X10_coatLine_37 a1 a2 M) else (bp (f_X10_fails M) fun r37 M36 => some (r37, M36)))))
set_option maxRecDepth 100000 in
set_option maxHeartbeats 4000000 in
theorem n_X10_coatLine_53 {a1 : Int64} {a2 : Int32} (X : Cx p s m args meth c D cy ad A RX10 cX10_coatLine 4 ((some .boolean))) (hN : Ob ns 10 100) {M : Mem} {r : Bool × Mem} (hX : f_X10_coatLine_53 a1 a2 M = some r) : ∀ (ls : Array Slot) (H : Heap) (locs : List Loc), lv_has ls 4 [(0, .ref (ad 100 0)), (1, .long a1)] → St D cy ad ns A M s.heap H locs → W p l e rm_X10_coatLine s m args below meth c H locs 0 0 (MQ below (QC D cy ad ns A r.2 (some (.int (b2i r.1)))) args s 0 0 A) (F0 m 53 ls []) := by
  obtain ⟨hx, hb, hml, hown, hts, hK, hr, hlk, hA, hG⟩ := id X
  intro ls H locs hl hS
  unfold f_X10_coatLine_53 at hX
  refine lv_aload_n hx hb dX10_coatLine_53 rfl (lv_at hl 0 rfl) ?_
  obtain ⟨M2, h1, hX⟩ := bn_of hX
  refine r_callV0 (As := []) (rest := []) X hS (m_X10_token hN h1) mv_X10_token rfl (hN) t6_100 ⟨rfl, rfl, Nat.le_of_ble_eq_true rfl, Nat.le_of_ble_eq_true rfl⟩ rfl hl.1 rfl (Nat.le_of_ble_eq_true rfl) ⟨Nat.zero_le _, Nat.zero_le _⟩ dX10_coatLine_54 (fun H locs hS => ?_)
  refine lv_lload_n hx hb dX10_coatLine_57 rfl (lv_at hl 1 rfl) ?_
  refine lv_ldc2 hx hb (own := RX10) hown (hts _ t6_123) dX10_coatLine_58 ?_
  refine W.lcmp hx hb dX10_coatLine_61 ?_
  refine lv_if_ne (tgt := 74) hx hb dX10_coatLine_62 (by decide) (fun c3 => ?_) (fun c3 => ?_)
  · have hX := if_f c3 hX
    refine lv_lload_n hx hb dX10_coatLine_74 rfl (lv_at hl 1 rfl) ?_
    refine lv_ldc2 hx hb (own := RX10) hown (hts _ t6_122) dX10_coatLine_75 ?_
    refine W.lcmp hx hb dX10_coatLine_78 ?_
    refine lv_if_eq (tgt := 102) hx hb dX10_coatLine_79 (by decide) (fun c4 => ?_) (fun c4 => ?_)
    · have hX := if_t c4 hX
      refine lv_aload_n hx hb dX10_coatLine_102 rfl (lv_at hl 0 rfl) ?_
      refine lv_iconst (v := nI 0) hx hb dX10_coatLine_103 (by decide) ?_
      refine lv_iconst (v := nI 0) hx hb dX10_coatLine_104 (by decide) ?_
      refine lv_bipush (v := nI 99) hx hb dX10_coatLine_105 (by decide) ?_
      obtain ⟨r7, M6, h5, hX⟩ := bp_of hX
      refine r_callV1 (v := .int (b2i r7)) (As := [.int (nI 0), .int (nI 0), .int (nI 99)]) (rest := []) X hS (m_X10_take hN h5) mv_X10_take rfl (hN) t6_140 ⟨rfl, rfl, Nat.le_of_ble_eq_true rfl, Nat.le_of_ble_eq_true rfl⟩ rfl hl.1 rfl (Nat.le_of_ble_eq_true rfl) ⟨Nat.zero_le _, Nat.zero_le _⟩ dX10_coatLine_107 (fun H locs hS => ?_)
      refine lv_if_eq (tgt := 124) hx hb dX10_coatLine_110 (by decide) (fun c8 => ?_) (fun c8 => ?_)
      · have hX := if_bf c8 hX
        refine lv_iconst (v := nI 0) hx hb dX10_coatLine_124 (by decide) ?_
        obtain rfl := some_of hX
        exact x_Z (v := false) X hS dX10_coatLine_125
      · have hX := if_bt c8 hX
        refine lv_aload_n hx hb dX10_coatLine_113 rfl (lv_at hl 0 rfl) ?_
        refine lv_iconst (v := nI 1) hx hb dX10_coatLine_114 (by decide) ?_
        refine lv_iconst (v := nI 0) hx hb dX10_coatLine_115 (by decide) ?_
        refine lv_bipush (v := nI 9) hx hb dX10_coatLine_116 (by decide) ?_
        obtain ⟨r11, M10, h9, hX⟩ := bp_of hX
        refine r_callV1 (v := .int (b2i r11)) (As := [.int (nI 1), .int (nI 0), .int (nI 9)]) (rest := []) X hS (m_X10_take hN h9) mv_X10_take rfl (hN) t6_140 ⟨rfl, rfl, Nat.le_of_ble_eq_true rfl, Nat.le_of_ble_eq_true rfl⟩ rfl hl.1 rfl (Nat.le_of_ble_eq_true rfl) ⟨Nat.zero_le _, Nat.zero_le _⟩ dX10_coatLine_118 (fun H locs hS => ?_)
        refine lv_if_ne (tgt := 126) hx hb dX10_coatLine_121 (by decide) (fun c12 => ?_) (fun c12 => ?_)
        · have hX := if_bt c12 hX
          refine lv_aload_n hx hb dX10_coatLine_126 rfl (lv_at hl 0 rfl) ?_
          refine fg_X10_154 X hS (hN) dX10_coatLine_127 ?_
          refine lv_if_eq (tgt := 153) hx hb dX10_coatLine_130 (by decide) (fun c13 => ?_) (fun c13 => ?_)
          · have hX := if_t c13 hX
            refine lv_iconst (v := nI 1) hx hb dX10_coatLine_153 (by decide) ?_
            obtain rfl := some_of hX
            exact x_Z (v := true) X hS dX10_coatLine_154
          · have hX := if_f c13 hX
            refine lv_aload_n hx hb dX10_coatLine_133 rfl (lv_at hl 0 rfl) ?_
            refine fg_X10_38 X hS (hN) dX10_coatLine_134 ?_
            refine lv_bipush (v := nI 38) hx hb dX10_coatLine_137 (by decide) ?_
            refine lv_aload_n hx hb dX10_coatLine_139 rfl (lv_at hl 0 rfl) ?_
            refine fg_X10_41 X hS (hN) dX10_coatLine_140 ?_
            refine lv_iconst (v := nI 0) hx hb dX10_coatLine_143 (by decide) ?_
            obtain ⟨g14, hX⟩ := gin_of hX
            refine r_iald (ci := 10) (o := 100) (k := 20) (n := 4) X hS (hN) rfl rfl g14 dX10_coatLine_144 ?_
            refine lv_iadd hx hb dX10_coatLine_145 ?_
            refine lv_aload_n hx hb dX10_coatLine_146 rfl (lv_at hl 0 rfl) ?_
            refine fg_X10_41 X hS (hN) dX10_coatLine_147 ?_
            refine lv_iconst (v := nI 1) hx hb dX10_coatLine_150 (by decide) ?_
            obtain ⟨g15, hX⟩ := gin_of hX
            refine r_iald (ci := 10) (o := 100) (k := 20) (n := 4) X hS (hN) rfl rfl g15 dX10_coatLine_151 ?_
            obtain ⟨g16, hX⟩ := gin_of hX
            refine r_iast (ci := 10) (o := 100) (k := 19) (n := 138) X hS (hN) rfl rfl g16 dX10_coatLine_152 (fun H locs hS => ?_)
            obtain ⟨M17, eM17, hS, hX⟩ := nm_mem hS hX
            refine lv_iconst (v := nI 1) hx hb dX10_coatLine_153 (by decide) ?_
            obtain rfl := some_of hX
            exact x_Z (v := true) X hS dX10_coatLine_154
        · have hX := if_bf c12 hX
          refine lv_iconst (v := nI 0) hx hb dX10_coatLine_124 (by decide) ?_
          obtain rfl := some_of hX
          exact x_Z (v := false) X hS dX10_coatLine_125
    · have hX := if_f c4 hX
      refine lv_lload_n hx hb dX10_coatLine_82 rfl (lv_at hl 1 rfl) ?_
      refine lv_ldc2 hx hb (own := RX10) hown (hts _ t6_120) dX10_coatLine_83 ?_
      refine W.lcmp hx hb dX10_coatLine_86 ?_
      refine lv_if_ne (tgt := 97) hx hb dX10_coatLine_87 (by decide) (fun c18 => ?_) (fun c18 => ?_)
      · have hX := if_f c18 hX
        refine lv_aload_n hx hb dX10_coatLine_97 rfl (lv_at hl 0 rfl) ?_
        obtain ⟨r21, M20, h19, hX⟩ := bp_of hX
        refine r_callV1 (v := .int (b2i r21)) (As := []) (rest := []) X hS (m_X10_afterLine hN h19) mv_X10_afterLine rfl (hN) t6_152 ⟨rfl, rfl, Nat.le_of_ble_eq_true rfl, Nat.le_of_ble_eq_true rfl⟩ rfl hl.1 rfl (Nat.le_of_ble_eq_true rfl) ⟨Nat.zero_le _, Nat.zero_le _⟩ dX10_coatLine_98 (fun H locs hS => ?_)
        obtain rfl := some_of hX
        exact x_Z (v := r21) X hS dX10_coatLine_101
      · have hX := if_t c18 hX
        refine lv_aload_n hx hb dX10_coatLine_90 rfl (lv_at hl 0 rfl) ?_
        obtain ⟨r24, M23, h22, hX⟩ := bp_of hX
        refine r_callV1 (v := .int (b2i r24)) (As := []) (rest := []) X hS (m_X10_seamLine hN h22) mv_X10_seamLine rfl (hN) t6_148 ⟨rfl, rfl, Nat.le_of_ble_eq_true rfl, Nat.le_of_ble_eq_true rfl⟩ rfl hl.1 rfl (Nat.le_of_ble_eq_true rfl) ⟨Nat.zero_le _, Nat.zero_le _⟩ dX10_coatLine_91 (fun H locs hS => ?_)
        refine lv_goto (tgt := 101) hx hb dX10_coatLine_94 (by decide) ?_
        obtain rfl := some_of hX
        exact x_Z (v := r24) X hS dX10_coatLine_101
  · have hX := if_t c3 hX
    refine lv_aload_n hx hb dX10_coatLine_65 rfl (lv_at hl 0 rfl) ?_
    refine lv_iconst (v := nI 1) hx hb dX10_coatLine_66 (by decide) ?_
    refine lv_iconst (v := nI 1) hx hb dX10_coatLine_67 (by decide) ?_
    refine lv_bipush (v := nI 9) hx hb dX10_coatLine_68 (by decide) ?_
    obtain ⟨r27, M26, h25, hX⟩ := bp_of hX
    refine r_callV1 (v := .int (b2i r27)) (As := [.int (nI 1), .int (nI 1), .int (nI 9)]) (rest := []) X hS (m_X10_plainLine hN h25) mv_X10_plainLine rfl (hN) t6_136 ⟨rfl, rfl, Nat.le_of_ble_eq_true rfl, Nat.le_of_ble_eq_true rfl⟩ rfl hl.1 rfl (Nat.le_of_ble_eq_true rfl) ⟨Nat.zero_le _, Nat.zero_le _⟩ dX10_coatLine_70 (fun H locs hS => ?_)
    obtain rfl := some_of hX
    exact x_Z (v := r27) X hS dX10_coatLine_73
set_option maxRecDepth 100000 in
set_option maxHeartbeats 4000000 in
theorem n_X10_coatLine_37 {a1 : Int64} {a2 : Int32} (X : Cx p s m args meth c D cy ad A RX10 cX10_coatLine 4 ((some .boolean))) (hN : Ob ns 10 100) {M : Mem} {r : Bool × Mem} (hX : f_X10_coatLine_37 a1 a2 M = some r) : ∀ (ls : Array Slot) (H : Heap) (locs : List Loc), lv_has ls 4 [(0, .ref (ad 100 0)), (1, .long a1), (3, .int a2)] → St D cy ad ns A M s.heap H locs → W p l e rm_X10_coatLine s m args below meth c H locs 0 0 (MQ below (QC D cy ad ns A r.2 (some (.int (b2i r.1)))) args s 0 0 A) (F0 m 37 ls []) := by
  obtain ⟨hx, hb, hml, hown, hts, hK, hr, hlk, hA, hG⟩ := id X
  intro ls H locs hl hS
  unfold f_X10_coatLine_37 at hX
  refine lv_lload_n hx hb dX10_coatLine_37 rfl (lv_at hl 1 rfl) ?_
  refine lv_ldc2 hx hb (own := RX10) hown (hts _ t6_120) dX10_coatLine_38 ?_
  refine W.lcmp hx hb dX10_coatLine_41 ?_
  refine lv_if_ne (tgt := 53) hx hb dX10_coatLine_42 (by decide) (fun c28 => ?_) (fun c28 => ?_)
  · have hX := if_f c28 hX
    exact n_X10_coatLine_53 X hN hX _ _ _ (lv_sub hl [0, 1] rfl) hS
  · have hX := if_t c28 hX
    refine lv_aload_n hx hb dX10_coatLine_45 rfl (lv_at hl 0 rfl) ?_
    refine lv_iconst (v := nI 0) hx hb dX10_coatLine_46 (by decide) ?_
    refine lv_bipush (v := nI 9) hx hb dX10_coatLine_47 (by decide) ?_
    refine lv_iload_n hx hb dX10_coatLine_49 rfl (lv_at hl 2 rfl) ?_
    obtain ⟨M30, h29, hX⟩ := bn_of hX
    refine r_callV0 (As := [.int (nI 0), .int (nI 9), .int a2]) (rest := []) X hS (m_X10_full hN h29) mv_X10_full rfl (hN) t6_128 ⟨rfl, rfl, Nat.le_of_ble_eq_true rfl, Nat.le_of_ble_eq_true rfl⟩ rfl hl.1 rfl (Nat.le_of_ble_eq_true rfl) ⟨Nat.zero_le _, Nat.zero_le _⟩ dX10_coatLine_50 (fun H locs hS => ?_)
    exact n_X10_coatLine_53 X hN hX _ _ _ (lv_sub hl [0, 1] rfl) hS
set_option maxRecDepth 100000 in
set_option maxHeartbeats 4000000 in
theorem m_X10_coatLine {l : Launch} {D : va_G} {cy : Nat → ClassId} {ad : Nat → Nat → Nat} {ns : List (Nat × Nat)} {A : Nat → Prop} {M : Mem} (hN : Ob ns 10 100) {a1 : Int64} {a2 : Int32} {r : Bool × Mem} (hX : f_X10_coatLine M a1 a2 = some r) : Ct l yX10_coatLine cX10_coatLine 4 ((some .boolean)) rm_X10_coatLine D cy ad ns A [.ref (ad 100 0), .long a1, .int a2] M r.2 (some (.int (b2i r.1))) := by
  refine ct_of (lv := [(0, .ref (ad 100 0)), (1, .long a1), (3, .int a2)]) (by decide) (Nat.le_of_ble_eq_true rfl) rfl ?_
  intro p e s m args below meth c ls X hl hS
  obtain ⟨hx, hb, hml, hown, hts, hK, hr, hlk, hA, hG⟩ := id X
  obtain ⟨H, hH⟩ : ∃ z, z = s.heap := ⟨_, rfl⟩
  obtain ⟨locs, hlo⟩ : ∃ z : List Loc, z = [] := ⟨_, rfl⟩
  have hS : St D cy ad ns A M s.heap H locs := by rw [hH, hlo]; exact hS
  have hgoal : W p l e rm_X10_coatLine s m args below meth c H locs 0 0 (MQ below (QC D cy ad ns A r.2 (some (.int (b2i r.1)))) args s 0 0 A) (F0 m 0 ls []) := by
    unfold f_X10_coatLine at hX
    refine lv_lload_n hx hb dX10_coatLine_0 rfl (lv_at hl 1 rfl) ?_
    refine lv_ldc2 hx hb (own := RX10) hown (hts _ t6_120) dX10_coatLine_1 ?_
    refine W.lcmp hx hb dX10_coatLine_4 ?_
    refine lv_if_eq (tgt := 37) hx hb dX10_coatLine_5 (by decide) (fun c31 => ?_) (fun c31 => ?_)
    · have hX := if_t c31 hX
      exact n_X10_coatLine_37 X hN hX _ _ _ (lv_sub hl [0, 1, 2] rfl) hS
    · have hX := if_f c31 hX
      refine lv_lload_n hx hb dX10_coatLine_8 rfl (lv_at hl 1 rfl) ?_
      refine lv_ldc2 hx hb (own := RX10) hown (hts _ t6_121) dX10_coatLine_9 ?_
      refine W.lcmp hx hb dX10_coatLine_12 ?_
      refine lv_if_eq (tgt := 37) hx hb dX10_coatLine_13 (by decide) (fun c32 => ?_) (fun c32 => ?_)
      · have hX := if_t c32 hX
        exact n_X10_coatLine_37 X hN hX _ _ _ (lv_sub hl [0, 1, 2] rfl) hS
      · have hX := if_f c32 hX
        refine lv_lload_n hx hb dX10_coatLine_16 rfl (lv_at hl 1 rfl) ?_
        refine lv_ldc2 hx hb (own := RX10) hown (hts _ t6_122) dX10_coatLine_17 ?_
        refine W.lcmp hx hb dX10_coatLine_20 ?_
        refine lv_if_eq (tgt := 37) hx hb dX10_coatLine_21 (by decide) (fun c33 => ?_) (fun c33 => ?_)
        · have hX := if_t c33 hX
          exact n_X10_coatLine_37 X hN hX _ _ _ (lv_sub hl [0, 1, 2] rfl) hS
        · have hX := if_f c33 hX
          refine lv_lload_n hx hb dX10_coatLine_24 rfl (lv_at hl 1 rfl) ?_
          refine lv_ldc2 hx hb (own := RX10) hown (hts _ t6_123) dX10_coatLine_25 ?_
          refine W.lcmp hx hb dX10_coatLine_28 ?_
          refine lv_if_eq (tgt := 37) hx hb dX10_coatLine_29 (by decide) (fun c34 => ?_) (fun c34 => ?_)
          · have hX := if_t c34 hX
            exact n_X10_coatLine_37 X hN hX _ _ _ (lv_sub hl [0, 1, 2] rfl) hS
          · have hX := if_f c34 hX
            refine lv_aload_n hx hb dX10_coatLine_32 rfl (lv_at hl 0 rfl) ?_
            obtain ⟨r37, M36, h35, hX⟩ := bp_of hX
            refine r_callV1 (v := .int (b2i r37)) (As := []) (rest := []) X hS (m_X10_fails hN h35) mv_X10_fails rfl (hN) t6_124 ⟨rfl, rfl, Nat.le_of_ble_eq_true rfl, Nat.le_of_ble_eq_true rfl⟩ rfl hl.1 rfl (Nat.le_of_ble_eq_true rfl) ⟨Nat.zero_le _, Nat.zero_le _⟩ dX10_coatLine_33 (fun H locs hS => ?_)
            obtain rfl := some_of hX
            exact x_Z (v := r37) X hS dX10_coatLine_36
  rw [hH, hlo] at hgoal
  exact hgoal
theorem mv_X10_coatLine : Mv yX10_coatLine RX10 cX10_coatLine 4 ((some .boolean)) 2 := ⟨t6_119, t6_118, ts_14, t1_11, ⟨by decide, by decide⟩, by decide +kernel⟩
/-! SewnYearModel.deedBy(J)I -/
def rm_X10_deedBy : Room := { frames := 0, cells := 0, slots := 0, locals := 0 }
def f_X10_deedBy (a1 : Int64) : Option (Int32) :=
  if (lg_cmp a1 (lN 7562615)) = (nI 0) then (some (nI 0)) else (if (lg_cmp a1 (lN 129117192807275)) = (nI 0) then (some (nI 1)) else (if (lg_cmp a1 (lN 1952801138)) = (nI 0) then (some (nI 2)) else (if (lg_cmp a1 (lN 1735552887)) = (nI 0) then (some (nI 3)) else (if (lg_cmp a1 (lN 126892433305195)) = (nI 0) then (some (nI 4)) else (if (lg_cmp a1 (lN 6578553)) = (nI 0) then (some (nI 5)) else (some (-1)))))))
set_option maxRecDepth 100000 in
set_option maxHeartbeats 4000000 in
theorem m_X10_deedBy {l : Launch} {D : va_G} {cy : Nat → ClassId} {ad : Nat → Nat → Nat} {ns : List (Nat × Nat)} {A : Nat → Prop} {M : Mem} (hN : Ob ns 10 100) {a1 : Int64} {r : Int32} (hX : f_X10_deedBy a1 = some r) : Ct l yX10_deedBy cX10_deedBy 2 ((some .int)) rm_X10_deedBy D cy ad ns A [.long a1] M M (some (.int r)) := by
  refine ct_of (lv := [(0, .long a1)]) (by decide) (Nat.le_of_ble_eq_true rfl) rfl ?_
  intro p e s m args below meth c ls X hl hS
  obtain ⟨hx, hb, hml, hown, hts, hK, hr, hlk, hA, hG⟩ := id X
  obtain ⟨H, hH⟩ : ∃ z, z = s.heap := ⟨_, rfl⟩
  obtain ⟨locs, hlo⟩ : ∃ z : List Loc, z = [] := ⟨_, rfl⟩
  have hS : St D cy ad ns A M s.heap H locs := by rw [hH, hlo]; exact hS
  have hgoal : W p l e rm_X10_deedBy s m args below meth c H locs 0 0 (MQ below (QC D cy ad ns A M (some (.int r))) args s 0 0 A) (F0 m 0 ls []) := by
    unfold f_X10_deedBy at hX
    refine lv_lload_n hx hb dX10_deedBy_0 rfl (lv_at hl 0 rfl) ?_
    refine lv_ldc2 hx hb (own := RX10) hown (hts _ t6_166) dX10_deedBy_1 ?_
    refine W.lcmp hx hb dX10_deedBy_4 ?_
    refine lv_if_ne (tgt := 12) hx hb dX10_deedBy_5 (by decide) (fun c1 => ?_) (fun c1 => ?_)
    · have hX := if_f c1 hX
      refine lv_lload_n hx hb dX10_deedBy_12 rfl (lv_at hl 0 rfl) ?_
      refine lv_ldc2 hx hb (own := RX10) hown (hts _ t6_167) dX10_deedBy_13 ?_
      refine W.lcmp hx hb dX10_deedBy_16 ?_
      refine lv_if_ne (tgt := 24) hx hb dX10_deedBy_17 (by decide) (fun c2 => ?_) (fun c2 => ?_)
      · have hX := if_f c2 hX
        refine lv_lload_n hx hb dX10_deedBy_24 rfl (lv_at hl 0 rfl) ?_
        refine lv_ldc2 hx hb (own := RX10) hown (hts _ t6_168) dX10_deedBy_25 ?_
        refine W.lcmp hx hb dX10_deedBy_28 ?_
        refine lv_if_ne (tgt := 36) hx hb dX10_deedBy_29 (by decide) (fun c3 => ?_) (fun c3 => ?_)
        · have hX := if_f c3 hX
          refine lv_lload_n hx hb dX10_deedBy_36 rfl (lv_at hl 0 rfl) ?_
          refine lv_ldc2 hx hb (own := RX10) hown (hts _ t6_169) dX10_deedBy_37 ?_
          refine W.lcmp hx hb dX10_deedBy_40 ?_
          refine lv_if_ne (tgt := 48) hx hb dX10_deedBy_41 (by decide) (fun c4 => ?_) (fun c4 => ?_)
          · have hX := if_f c4 hX
            refine lv_lload_n hx hb dX10_deedBy_48 rfl (lv_at hl 0 rfl) ?_
            refine lv_ldc2 hx hb (own := RX10) hown (hts _ t6_170) dX10_deedBy_49 ?_
            refine W.lcmp hx hb dX10_deedBy_52 ?_
            refine lv_if_ne (tgt := 60) hx hb dX10_deedBy_53 (by decide) (fun c5 => ?_) (fun c5 => ?_)
            · have hX := if_f c5 hX
              refine lv_lload_n hx hb dX10_deedBy_60 rfl (lv_at hl 0 rfl) ?_
              refine lv_ldc2 hx hb (own := RX10) hown (hts _ t6_171) dX10_deedBy_61 ?_
              refine W.lcmp hx hb dX10_deedBy_64 ?_
              refine lv_if_ne (tgt := 72) hx hb dX10_deedBy_65 (by decide) (fun c6 => ?_) (fun c6 => ?_)
              · have hX := if_f c6 hX
                refine lv_iconst (v := (-1)) hx hb dX10_deedBy_72 (by decide) ?_
                obtain rfl := some_of hX
                exact x_I (v := (-1)) X hS dX10_deedBy_73
              · have hX := if_t c6 hX
                refine lv_iconst (v := nI 5) hx hb dX10_deedBy_68 (by decide) ?_
                refine lv_goto (tgt := 73) hx hb dX10_deedBy_69 (by decide) ?_
                obtain rfl := some_of hX
                exact x_I (v := (nI 5)) X hS dX10_deedBy_73
            · have hX := if_t c5 hX
              refine lv_iconst (v := nI 4) hx hb dX10_deedBy_56 (by decide) ?_
              refine lv_goto (tgt := 73) hx hb dX10_deedBy_57 (by decide) ?_
              obtain rfl := some_of hX
              exact x_I (v := (nI 4)) X hS dX10_deedBy_73
          · have hX := if_t c4 hX
            refine lv_iconst (v := nI 3) hx hb dX10_deedBy_44 (by decide) ?_
            refine lv_goto (tgt := 73) hx hb dX10_deedBy_45 (by decide) ?_
            obtain rfl := some_of hX
            exact x_I (v := (nI 3)) X hS dX10_deedBy_73
        · have hX := if_t c3 hX
          refine lv_iconst (v := nI 2) hx hb dX10_deedBy_32 (by decide) ?_
          refine lv_goto (tgt := 73) hx hb dX10_deedBy_33 (by decide) ?_
          obtain rfl := some_of hX
          exact x_I (v := (nI 2)) X hS dX10_deedBy_73
      · have hX := if_t c2 hX
        refine lv_iconst (v := nI 1) hx hb dX10_deedBy_20 (by decide) ?_
        refine lv_goto (tgt := 73) hx hb dX10_deedBy_21 (by decide) ?_
        obtain rfl := some_of hX
        exact x_I (v := (nI 1)) X hS dX10_deedBy_73
    · have hX := if_t c1 hX
      refine lv_iconst (v := nI 0) hx hb dX10_deedBy_8 (by decide) ?_
      refine lv_goto (tgt := 73) hx hb dX10_deedBy_9 (by decide) ?_
      obtain rfl := some_of hX
      exact x_I (v := (nI 0)) X hS dX10_deedBy_73
  rw [hH, hlo] at hgoal
  exact hgoal
theorem ms_X10_deedBy : Ms yX10_deedBy cX10_deedBy 2 ((some .int)) 1 := ⟨t6_165, t6_164, t1_11, ⟨by decide, by decide⟩, by decide +kernel⟩
/-! SewnYearModel.keep(II)V -/
def rm_X10_keep : Room := { frames := 0, cells := 0, slots := 0, locals := 0 }
def b_X10_keep_16 (a1 : Int32) (a2 : Int32) (v_3 : Int32) (rc : Int32 → Mem → Option (Mem)) (v_4 : Int32) (M : Mem) : Option (Mem) :=
  if a1 ≤ v_4 then (gin (nI 0) 138 <| gin (nI 0) 138 <| nm (sA M 100 19 (ix (nI 0)) ((gA M 100 19 (ix (nI 0))) + (nI 1))) fun M4 => some M4) else (gin v_4 4 <| gin (((nI 1) + (a1 * v_3)) + v_4) 138 <| nm (sA M 100 19 (ix (((nI 1) + (a1 * v_3)) + v_4)) (gA M 100 20 (ix v_4))) fun M7 => nm (v_4 + nI 1) fun v8 => rc v8 M7)
def f_X10_keep_16 (a1 : Int32) (a2 : Int32) (v_3 : Int32) : Nat → (Int32 × Mem) → Option (Mem) := lp (fun rc q => b_X10_keep_16 a1 a2 v_3 (fun x0 x1 => rc (x0, x1)) q.1 q.2)
def f_X10_keep (M : Mem) (a1 : Int32) (a2 : Int32) : Option (Mem) :=
  gin (nI 0) 138 <| nm (gA M 100 19 (ix (nI 0))) fun v10 => if v10 = a2 then (some M) else (f_X10_keep_16 a1 a2 v10 FU ((nI 0), M))
set_option maxRecDepth 100000 in
set_option maxHeartbeats 4000000 in
theorem n_X10_keep_16 {a1 : Int32} {a2 : Int32} (X : Cx p s m args meth c D cy ad A RX10 cX10_keep 5 ((none : Option Jvm.ClassFile.FieldType))) (hN : Ob ns 10 100) {v_3 : Int32} : ∀ (n : Nat) (v_4 : Int32) (M : Mem) (r : Mem), f_X10_keep_16 a1 a2 v_3 n (v_4, M) = some r → ∀ (ls : Array Slot) (H : Heap) (locs : List Loc), lv_has ls 5 [(0, .ref (ad 100 0)), (1, .int a1), (3, .int v_3), (4, .int v_4)] → St D cy ad ns A M s.heap H locs → W p l e rm_X10_keep s m args below meth c H locs 0 0 (MQ below (QC D cy ad ns A r none) args s 0 0 A) (F0 m 16 ls []) := by
  obtain ⟨hx, hb, hml, hown, hts, hK, hr, hlk, hA, hG⟩ := id X
  intro n
  induction n with
  | zero => intro v_4 M r hX; cases (show (none : Option (Mem)) = some r from hX)
  | succ n ih =>
    intro v_4 M r hX ls H locs hl hS
    have hX : b_X10_keep_16 a1 a2 v_3 (fun x0 x1 => f_X10_keep_16 a1 a2 v_3 n (x0, x1)) v_4 M = some r := hX
    unfold b_X10_keep_16 at hX
    refine lv_iload hx hb dX10_keep_16 (lv_at hl 3 rfl) ?_
    refine lv_iload_n hx hb dX10_keep_18 rfl (lv_at hl 1 rfl) ?_
    refine lv_icmp_ge (tgt := 48) hx hb dX10_keep_19 (by decide) (fun c1 => ?_) (fun c1 => ?_)
    · have hX := if_t c1 hX
      refine lv_aload_n hx hb dX10_keep_48 rfl (lv_at hl 0 rfl) ?_
      refine fg_X10_38 X hS (hN) dX10_keep_49 ?_
      refine lv_iconst (v := nI 0) hx hb dX10_keep_52 (by decide) ?_
      refine lv_dup2_11 hx hb dX10_keep_53 rfl rfl ?_
      obtain ⟨g2, hX⟩ := gin_of hX
      refine r_iald (ci := 10) (o := 100) (k := 19) (n := 138) X hS (hN) rfl rfl g2 dX10_keep_54 ?_
      refine lv_iconst (v := nI 1) hx hb dX10_keep_55 (by decide) ?_
      refine lv_iadd hx hb dX10_keep_56 ?_
      obtain ⟨g3, hX⟩ := gin_of hX
      refine r_iast (ci := 10) (o := 100) (k := 19) (n := 138) X hS (hN) rfl rfl g3 dX10_keep_57 (fun H locs hS => ?_)
      obtain ⟨M4, eM4, hS, hX⟩ := nm_mem hS hX
      obtain rfl := some_of hX
      exact x_V X hS dX10_keep_58
    · have hX := if_f c1 hX
      refine lv_aload_n hx hb dX10_keep_22 rfl (lv_at hl 0 rfl) ?_
      refine fg_X10_38 X hS (hN) dX10_keep_23 ?_
      refine lv_iconst (v := nI 1) hx hb dX10_keep_26 (by decide) ?_
      refine lv_iload_n hx hb dX10_keep_27 rfl (lv_at hl 1 rfl) ?_
      refine lv_iload_n hx hb dX10_keep_28 rfl (lv_at hl 2 rfl) ?_
      refine lv_imul hx hb dX10_keep_29 ?_
      refine lv_iadd hx hb dX10_keep_30 ?_
      refine lv_iload hx hb dX10_keep_31 (lv_at hl 3 rfl) ?_
      refine lv_iadd hx hb dX10_keep_33 ?_
      refine lv_aload_n hx hb dX10_keep_34 rfl (lv_at hl 0 rfl) ?_
      refine fg_X10_41 X hS (hN) dX10_keep_35 ?_
      refine lv_iload hx hb dX10_keep_38 (lv_at hl 3 rfl) ?_
      obtain ⟨g5, hX⟩ := gin_of hX
      refine r_iald (ci := 10) (o := 100) (k := 20) (n := 4) X hS (hN) rfl rfl g5 dX10_keep_40 ?_
      obtain ⟨g6, hX⟩ := gin_of hX
      refine r_iast (ci := 10) (o := 100) (k := 19) (n := 138) X hS (hN) rfl rfl g6 dX10_keep_41 (fun H locs hS => ?_)
      obtain ⟨M7, eM7, hS, hX⟩ := nm_mem hS hX
      obtain ⟨v8, ev8⟩ : ∃ y : Int32, y = (v_4 + nI 1) := ⟨_, rfl⟩
      have hX := nm_of ev8 hX
      refine lv_iinc (v := v8) (lv' := [(4, .int v8), (0, .ref (ad 100 0)), (1, .int a1), (3, .int v_3)]) hx hb dX10_keep_42 hl (k := 3) rfl (by rw [ev8]; rfl) (by decide) rfl (fun ls hl => ?_)
      refine lv_goto (tgt := 16) hx hb dX10_keep_45 (by decide) ?_
      exact ih _ _ _ hX _ _ _ (lv_sub hl [1, 2, 3, 0] rfl) hS
set_option maxRecDepth 100000 in
set_option maxHeartbeats 4000000 in
theorem m_X10_keep {l : Launch} {D : va_G} {cy : Nat → ClassId} {ad : Nat → Nat → Nat} {ns : List (Nat × Nat)} {A : Nat → Prop} {M : Mem} (hN : Ob ns 10 100) {a1 : Int32} {a2 : Int32} {r : Mem} (hX : f_X10_keep M a1 a2 = some r) : Ct l yX10_keep cX10_keep 5 ((none : Option Jvm.ClassFile.FieldType)) rm_X10_keep D cy ad ns A [.ref (ad 100 0), .int a1, .int a2] M r none := by
  refine ct_of (lv := [(0, .ref (ad 100 0)), (1, .int a1), (2, .int a2)]) (by decide) (Nat.le_of_ble_eq_true rfl) rfl ?_
  intro p e s m args below meth c ls X hl hS
  obtain ⟨hx, hb, hml, hown, hts, hK, hr, hlk, hA, hG⟩ := id X
  obtain ⟨H, hH⟩ : ∃ z, z = s.heap := ⟨_, rfl⟩
  obtain ⟨locs, hlo⟩ : ∃ z : List Loc, z = [] := ⟨_, rfl⟩
  have hS : St D cy ad ns A M s.heap H locs := by rw [hH, hlo]; exact hS
  have hgoal : W p l e rm_X10_keep s m args below meth c H locs 0 0 (MQ below (QC D cy ad ns A r none) args s 0 0 A) (F0 m 0 ls []) := by
    unfold f_X10_keep at hX
    refine lv_aload_n hx hb dX10_keep_0 rfl (lv_at hl 0 rfl) ?_
    refine fg_X10_38 X hS (hN) dX10_keep_1 ?_
    refine lv_iconst (v := nI 0) hx hb dX10_keep_4 (by decide) ?_
    obtain ⟨g9, hX⟩ := gin_of hX
    refine r_iald (ci := 10) (o := 100) (k := 19) (n := 138) X hS (hN) rfl rfl g9 dX10_keep_5 ?_
    refine lv_topi (fun v10 ev10 => ?_)
    have hX := nm_of ev10 hX
    refine lv_istore_n (lv' := [(3, .int v10), (0, .ref (ad 100 0)), (1, .int a1), (2, .int a2)]) hx hb dX10_keep_6 rfl hl (by decide) rfl (fun ls hl => ?_)
    refine lv_iload_n hx hb dX10_keep_7 rfl (lv_at hl 0 rfl) ?_
    refine lv_iload_n hx hb dX10_keep_8 rfl (lv_at hl 3 rfl) ?_
    refine lv_icmp_ne (tgt := 13) hx hb dX10_keep_9 (by decide) (fun c11 => ?_) (fun c11 => ?_)
    · have hX := if_f c11 hX
      refine lv_iconst (v := nI 0) hx hb dX10_keep_13 (by decide) ?_
      refine lv_istore (lv' := [(4, .int (nI 0)), (3, .int v10), (0, .ref (ad 100 0)), (1, .int a1), (2, .int a2)]) hx hb dX10_keep_14 hl (by decide) rfl (fun ls hl => ?_)
      exact n_X10_keep_16 X hN _ _ _ _ hX _ _ _ (lv_sub hl [2, 3, 1, 0] rfl) hS
    · have hX := if_t c11 hX
      obtain rfl := some_of hX
      exact x_V X hS dX10_keep_12
  rw [hH, hlo] at hgoal
  exact hgoal
theorem mv_X10_keep : Mv yX10_keep RX10 cX10_keep 5 ((none : Option Jvm.ClassFile.FieldType)) 2 := ⟨t6_175, t6_174, ts_24, t1_11, ⟨by decide, by decide⟩, by decide +kernel⟩
/-! SewnYearModel.lifeLine(JI)Z -/
def rm_X10_lifeLine : Room := { frames := 4, cells := 0, slots := 0, locals := 91 }
def f_X10_lifeLine_76 (a1 : Int64) (a2 : Int32) (v_4 : Int32) (M : Mem) : Option (Bool × Mem) :=
  gin (nI 0) 4 <| nm (sA M 100 20 (ix (nI 0)) v_4) fun M2 => bn (f_X10_keep M2 (nI 2) (nI 40)) fun M4 => some (true, M4)
def f_X10_lifeLine_53 (a1 : Int64) (a2 : Int32) (v_4 : Int32) (M : Mem) : Option (Bool × Mem) :=
  bn (f_X10_in v_4 (nI 3) (nI 4)) fun r6 => if r6 = true then (bp (f_X10_take M (nI 1) (nI 1) (nI 9)) fun r10 M9 => if r10 = true then (f_X10_lifeLine_76 a1 a2 v_4 M9) else (some (false, M9))) else (f_X10_lifeLine_76 a1 a2 v_4 M)
def f_X10_lifeLine (M : Mem) (a1 : Int64) (a2 : Int32) : Option (Bool × Mem) :=
  bn (f_X10_deedBy a1) fun r13 => if r13 = (-1) then (bp (f_X10_fails M) fun r28 M27 => some (r28, M27)) else (bn (f_X10_full M (nI 0) (nI 40) a2) fun M16 => bn (f_X10_token M16) fun M18 => gin (nI 1) 4 <| nm (sA M18 100 20 (ix (nI 1)) (-1)) fun M20 => if (nI 3) ≤ r13 then (f_X10_lifeLine_53 a1 a2 r13 M20) else (bp (f_X10_take M20 (nI 1) (nI 0) (nI 8)) fun r24 M23 => if r24 = true then (f_X10_lifeLine_53 a1 a2 r13 M23) else (some (false, M23))))
set_option maxRecDepth 100000 in
set_option maxHeartbeats 4000000 in
theorem n_X10_lifeLine_76 {a1 : Int64} {a2 : Int32} (X : Cx p s m args meth c D cy ad A RX10 cX10_lifeLine 5 ((some .boolean))) (hN : Ob ns 10 100) {v_4 : Int32} {M : Mem} {r : Bool × Mem} (hX : f_X10_lifeLine_76 a1 a2 v_4 M = some r) : ∀ (ls : Array Slot) (H : Heap) (locs : List Loc), lv_has ls 5 [(0, .ref (ad 100 0)), (4, .int v_4)] → St D cy ad ns A M s.heap H locs → W p l e rm_X10_lifeLine s m args below meth c H locs 0 0 (MQ below (QC D cy ad ns A r.2 (some (.int (b2i r.1)))) args s 0 0 A) (F0 m 76 ls []) := by
  obtain ⟨hx, hb, hml, hown, hts, hK, hr, hlk, hA, hG⟩ := id X
  intro ls H locs hl hS
  unfold f_X10_lifeLine_76 at hX
  refine lv_aload_n hx hb dX10_lifeLine_76 rfl (lv_at hl 0 rfl) ?_
  refine fg_X10_41 X hS (hN) dX10_lifeLine_77 ?_
  refine lv_iconst (v := nI 0) hx hb dX10_lifeLine_80 (by decide) ?_
  refine lv_iload hx hb dX10_lifeLine_81 (lv_at hl 1 rfl) ?_
  obtain ⟨g1, hX⟩ := gin_of hX
  refine r_iast (ci := 10) (o := 100) (k := 20) (n := 4) X hS (hN) rfl rfl g1 dX10_lifeLine_83 (fun H locs hS => ?_)
  obtain ⟨M2, eM2, hS, hX⟩ := nm_mem hS hX
  refine lv_aload_n hx hb dX10_lifeLine_84 rfl (lv_at hl 0 rfl) ?_
  refine lv_iconst (v := nI 2) hx hb dX10_lifeLine_85 (by decide) ?_
  refine lv_bipush (v := nI 40) hx hb dX10_lifeLine_86 (by decide) ?_
  obtain ⟨M4, h3, hX⟩ := bn_of hX
  refine r_callV0 (As := [.int (nI 2), .int (nI 40)]) (rest := []) X hS (m_X10_keep hN h3) mv_X10_keep rfl (hN) t6_172 ⟨rfl, rfl, Nat.le_of_ble_eq_true rfl, Nat.le_of_ble_eq_true rfl⟩ rfl hl.1 rfl (Nat.le_of_ble_eq_true rfl) ⟨Nat.zero_le _, Nat.zero_le _⟩ dX10_lifeLine_88 (fun H locs hS => ?_)
  refine lv_iconst (v := nI 1) hx hb dX10_lifeLine_91 (by decide) ?_
  obtain rfl := some_of hX
  exact x_Z (v := true) X hS dX10_lifeLine_92
set_option maxRecDepth 100000 in
set_option maxHeartbeats 4000000 in
theorem n_X10_lifeLine_53 {a1 : Int64} {a2 : Int32} (X : Cx p s m args meth c D cy ad A RX10 cX10_lifeLine 5 ((some .boolean))) (hN : Ob ns 10 100) {v_4 : Int32} {M : Mem} {r : Bool × Mem} (hX : f_X10_lifeLine_53 a1 a2 v_4 M = some r) : ∀ (ls : Array Slot) (H : Heap) (locs : List Loc), lv_has ls 5 [(0, .ref (ad 100 0)), (4, .int v_4)] → St D cy ad ns A M s.heap H locs → W p l e rm_X10_lifeLine s m args below meth c H locs 0 0 (MQ below (QC D cy ad ns A r.2 (some (.int (b2i r.1)))) args s 0 0 A) (F0 m 53 ls []) := by
  obtain ⟨hx, hb, hml, hown, hts, hK, hr, hlk, hA, hG⟩ := id X
  intro ls H locs hl hS
  unfold f_X10_lifeLine_53 at hX
  refine lv_iload hx hb dX10_lifeLine_53 (lv_at hl 1 rfl) ?_
  refine lv_iconst (v := nI 3) hx hb dX10_lifeLine_55 (by decide) ?_
  refine lv_iconst (v := nI 4) hx hb dX10_lifeLine_56 (by decide) ?_
  obtain ⟨r6, h5, hX⟩ := bn_of hX
  refine r_callS1 (v := .int (b2i r6)) (As := [.int v_4, .int (nI 3), .int (nI 4)]) (rest := []) X hS (m_X10_in (M := M) hN h5) ms_X10_in t6_81 ⟨rfl, rfl, Nat.le_of_ble_eq_true rfl, Nat.le_of_ble_eq_true rfl⟩ rfl hl.1 rfl (Nat.le_of_ble_eq_true rfl) ⟨Nat.zero_le _, Nat.zero_le _⟩ dX10_lifeLine_57 (fun H locs hS => ?_)
  refine lv_if_eq (tgt := 76) hx hb dX10_lifeLine_60 (by decide) (fun c7 => ?_) (fun c7 => ?_)
  · have hX := if_bf c7 hX
    exact n_X10_lifeLine_76 X hN hX _ _ _ (lv_sub hl [0, 1] rfl) hS
  · have hX := if_bt c7 hX
    refine lv_aload_n hx hb dX10_lifeLine_63 rfl (lv_at hl 0 rfl) ?_
    refine lv_iconst (v := nI 1) hx hb dX10_lifeLine_64 (by decide) ?_
    refine lv_iconst (v := nI 1) hx hb dX10_lifeLine_65 (by decide) ?_
    refine lv_bipush (v := nI 9) hx hb dX10_lifeLine_66 (by decide) ?_
    obtain ⟨r10, M9, h8, hX⟩ := bp_of hX
    refine r_callV1 (v := .int (b2i r10)) (As := [.int (nI 1), .int (nI 1), .int (nI 9)]) (rest := []) X hS (m_X10_take hN h8) mv_X10_take rfl (hN) t6_140 ⟨rfl, rfl, Nat.le_of_ble_eq_true rfl, Nat.le_of_ble_eq_true rfl⟩ rfl hl.1 rfl (Nat.le_of_ble_eq_true rfl) ⟨Nat.zero_le _, Nat.zero_le _⟩ dX10_lifeLine_68 (fun H locs hS => ?_)
    refine lv_if_ne (tgt := 76) hx hb dX10_lifeLine_71 (by decide) (fun c11 => ?_) (fun c11 => ?_)
    · have hX := if_bt c11 hX
      exact n_X10_lifeLine_76 X hN hX _ _ _ (lv_sub hl [0, 1] rfl) hS
    · have hX := if_bf c11 hX
      refine lv_iconst (v := nI 0) hx hb dX10_lifeLine_74 (by decide) ?_
      obtain rfl := some_of hX
      exact x_Z (v := false) X hS dX10_lifeLine_75
set_option maxRecDepth 100000 in
set_option maxHeartbeats 4000000 in
theorem m_X10_lifeLine {l : Launch} {D : va_G} {cy : Nat → ClassId} {ad : Nat → Nat → Nat} {ns : List (Nat × Nat)} {A : Nat → Prop} {M : Mem} (hN : Ob ns 10 100) {a1 : Int64} {a2 : Int32} {r : Bool × Mem} (hX : f_X10_lifeLine M a1 a2 = some r) : Ct l yX10_lifeLine cX10_lifeLine 5 ((some .boolean)) rm_X10_lifeLine D cy ad ns A [.ref (ad 100 0), .long a1, .int a2] M r.2 (some (.int (b2i r.1))) := by
  refine ct_of (lv := [(0, .ref (ad 100 0)), (1, .long a1), (3, .int a2)]) (by decide) (Nat.le_of_ble_eq_true rfl) rfl ?_
  intro p e s m args below meth c ls X hl hS
  obtain ⟨hx, hb, hml, hown, hts, hK, hr, hlk, hA, hG⟩ := id X
  obtain ⟨H, hH⟩ : ∃ z, z = s.heap := ⟨_, rfl⟩
  obtain ⟨locs, hlo⟩ : ∃ z : List Loc, z = [] := ⟨_, rfl⟩
  have hS : St D cy ad ns A M s.heap H locs := by rw [hH, hlo]; exact hS
  have hgoal : W p l e rm_X10_lifeLine s m args below meth c H locs 0 0 (MQ below (QC D cy ad ns A r.2 (some (.int (b2i r.1)))) args s 0 0 A) (F0 m 0 ls []) := by
    unfold f_X10_lifeLine at hX
    refine lv_lload_n hx hb dX10_lifeLine_0 rfl (lv_at hl 1 rfl) ?_
    obtain ⟨r13, h12, hX⟩ := bn_of hX
    refine r_callS1 (v := .int r13) (As := [.long a1]) (rest := []) X hS (m_X10_deedBy (M := M) hN h12) ms_X10_deedBy t6_163 ⟨rfl, rfl, Nat.le_of_ble_eq_true rfl, Nat.le_of_ble_eq_true rfl⟩ rfl hl.1 rfl (Nat.le_of_ble_eq_true rfl) ⟨Nat.zero_le _, Nat.zero_le _⟩ dX10_lifeLine_1 (fun H locs hS => ?_)
    refine lv_istore (lv' := [(4, .int r13), (0, .ref (ad 100 0)), (1, .long a1), (3, .int a2)]) hx hb dX10_lifeLine_4 hl (by decide) rfl (fun ls hl => ?_)
    refine lv_iload hx hb dX10_lifeLine_6 (lv_at hl 0 rfl) ?_
    refine lv_iconst (v := (-1)) hx hb dX10_lifeLine_8 (by decide) ?_
    refine lv_icmp_ne (tgt := 17) hx hb dX10_lifeLine_9 (by decide) (fun c14 => ?_) (fun c14 => ?_)
    · have hX := if_f c14 hX
      refine lv_aload_n hx hb dX10_lifeLine_17 rfl (lv_at hl 1 rfl) ?_
      refine lv_iconst (v := nI 0) hx hb dX10_lifeLine_18 (by decide) ?_
      refine lv_bipush (v := nI 40) hx hb dX10_lifeLine_19 (by decide) ?_
      refine lv_iload_n hx hb dX10_lifeLine_21 rfl (lv_at hl 3 rfl) ?_
      obtain ⟨M16, h15, hX⟩ := bn_of hX
      refine r_callV0 (As := [.int (nI 0), .int (nI 40), .int a2]) (rest := []) X hS (m_X10_full hN h15) mv_X10_full rfl (hN) t6_128 ⟨rfl, rfl, Nat.le_of_ble_eq_true rfl, Nat.le_of_ble_eq_true rfl⟩ rfl hl.1 rfl (Nat.le_of_ble_eq_true rfl) ⟨Nat.zero_le _, Nat.zero_le _⟩ dX10_lifeLine_22 (fun H locs hS => ?_)
      refine lv_aload_n hx hb dX10_lifeLine_25 rfl (lv_at hl 1 rfl) ?_
      obtain ⟨M18, h17, hX⟩ := bn_of hX
      refine r_callV0 (As := []) (rest := []) X hS (m_X10_token hN h17) mv_X10_token rfl (hN) t6_100 ⟨rfl, rfl, Nat.le_of_ble_eq_true rfl, Nat.le_of_ble_eq_true rfl⟩ rfl hl.1 rfl (Nat.le_of_ble_eq_true rfl) ⟨Nat.zero_le _, Nat.zero_le _⟩ dX10_lifeLine_26 (fun H locs hS => ?_)
      refine lv_aload_n hx hb dX10_lifeLine_29 rfl (lv_at hl 1 rfl) ?_
      refine fg_X10_41 X hS (hN) dX10_lifeLine_30 ?_
      refine lv_iconst (v := nI 1) hx hb dX10_lifeLine_33 (by decide) ?_
      refine lv_iconst (v := (-1)) hx hb dX10_lifeLine_34 (by decide) ?_
      obtain ⟨g19, hX⟩ := gin_of hX
      refine r_iast (ci := 10) (o := 100) (k := 20) (n := 4) X hS (hN) rfl rfl g19 dX10_lifeLine_35 (fun H locs hS => ?_)
      obtain ⟨M20, eM20, hS, hX⟩ := nm_mem hS hX
      refine lv_iload hx hb dX10_lifeLine_36 (lv_at hl 0 rfl) ?_
      refine lv_iconst (v := nI 3) hx hb dX10_lifeLine_38 (by decide) ?_
      refine lv_icmp_ge (tgt := 53) hx hb dX10_lifeLine_39 (by decide) (fun c21 => ?_) (fun c21 => ?_)
      · have hX := if_t c21 hX
        exact n_X10_lifeLine_53 X hN hX _ _ _ (lv_sub hl [1, 0] rfl) hS
      · have hX := if_f c21 hX
        refine lv_aload_n hx hb dX10_lifeLine_42 rfl (lv_at hl 1 rfl) ?_
        refine lv_iconst (v := nI 1) hx hb dX10_lifeLine_43 (by decide) ?_
        refine lv_iconst (v := nI 0) hx hb dX10_lifeLine_44 (by decide) ?_
        refine lv_bipush (v := nI 8) hx hb dX10_lifeLine_45 (by decide) ?_
        obtain ⟨r24, M23, h22, hX⟩ := bp_of hX
        refine r_callV1 (v := .int (b2i r24)) (As := [.int (nI 1), .int (nI 0), .int (nI 8)]) (rest := []) X hS (m_X10_take hN h22) mv_X10_take rfl (hN) t6_140 ⟨rfl, rfl, Nat.le_of_ble_eq_true rfl, Nat.le_of_ble_eq_true rfl⟩ rfl hl.1 rfl (Nat.le_of_ble_eq_true rfl) ⟨Nat.zero_le _, Nat.zero_le _⟩ dX10_lifeLine_47 (fun H locs hS => ?_)
        refine lv_if_eq (tgt := 74) hx hb dX10_lifeLine_50 (by decide) (fun c25 => ?_) (fun c25 => ?_)
        · have hX := if_bf c25 hX
          refine lv_iconst (v := nI 0) hx hb dX10_lifeLine_74 (by decide) ?_
          obtain rfl := some_of hX
          exact x_Z (v := false) X hS dX10_lifeLine_75
        · have hX := if_bt c25 hX
          exact n_X10_lifeLine_53 X hN hX _ _ _ (lv_sub hl [1, 0] rfl) hS
    · have hX := if_t c14 hX
      refine lv_aload_n hx hb dX10_lifeLine_12 rfl (lv_at hl 1 rfl) ?_
      obtain ⟨r28, M27, h26, hX⟩ := bp_of hX
      refine r_callV1 (v := .int (b2i r28)) (As := []) (rest := []) X hS (m_X10_fails hN h26) mv_X10_fails rfl (hN) t6_124 ⟨rfl, rfl, Nat.le_of_ble_eq_true rfl, Nat.le_of_ble_eq_true rfl⟩ rfl hl.1 rfl (Nat.le_of_ble_eq_true rfl) ⟨Nat.zero_le _, Nat.zero_le _⟩ dX10_lifeLine_13 (fun H locs hS => ?_)
      obtain rfl := some_of hX
      exact x_Z (v := r28) X hS dX10_lifeLine_16
  rw [hH, hlo] at hgoal
  exact hgoal
theorem mv_X10_lifeLine : Mv yX10_lifeLine RX10 cX10_lifeLine 5 ((some .boolean)) 2 := ⟨t6_162, t6_161, ts_23, t1_11, ⟨by decide, by decide⟩, by decide +kernel⟩
/-! SewnYearModel.wearerLine()Z -/
def rm_X10_wearerLine : Room := { frames := 4, cells := 0, slots := 0, locals := 91 }
def f_X10_wearerLine (M : Mem) : Option (Bool × Mem) :=
  bp (f_X10_take M (nI 0) (nI 0) (nI 9)) fun r3 M2 => if r3 = true then (bp (f_X10_take M2 (nI 1) (nI 0) (nI 9)) fun r7 M6 => if r7 = true then (bp (f_X10_take M6 (nI 2) (nI 1) (nI 30)) fun r11 M10 => if r11 = true then (bp (f_X10_take M10 (nI 3) (nI 0) (nI 99)) fun r15 M14 => if r15 = true then (gin (nI 0) 138 <| nm (gA M14 100 19 (ix (nI 0))) fun v18 => if (nI 6) ≤ v18 then (some (true, M14)) else (gin (nI 0) 4 <| gin ((nI 5) + v18) 138 <| nm (sA M14 100 19 (ix ((nI 5) + v18)) (gA M14 100 20 (ix (nI 0)))) fun M22 => gin (nI 1) 4 <| gin ((nI 11) + v18) 138 <| nm (sA M22 100 19 (ix ((nI 11) + v18)) (gA M22 100 20 (ix (nI 1)))) fun M25 => gin (nI 2) 4 <| gin ((nI 17) + v18) 138 <| nm (sA M25 100 19 (ix ((nI 17) + v18)) (gA M25 100 20 (ix (nI 2)))) fun M28 => gin (nI 3) 4 <| gin ((nI 23) + v18) 138 <| nm (sA M28 100 19 (ix ((nI 23) + v18)) (gA M28 100 20 (ix (nI 3)))) fun M31 => gin (nI 0) 138 <| gin (nI 0) 138 <| nm (sA M31 100 19 (ix (nI 0)) ((gA M31 100 19 (ix (nI 0))) + (nI 1))) fun M34 => some (true, M34))) else (some (false, M14))) else (some (false, M10))) else (some (false, M6))) else (some (false, M2))
set_option maxRecDepth 100000 in
set_option maxHeartbeats 4000000 in
theorem m_X10_wearerLine {l : Launch} {D : va_G} {cy : Nat → ClassId} {ad : Nat → Nat → Nat} {ns : List (Nat × Nat)} {A : Nat → Prop} {M : Mem} (hN : Ob ns 10 100) {r : Bool × Mem} (hX : f_X10_wearerLine M = some r) : Ct l yX10_wearerLine cX10_wearerLine 2 ((some .boolean)) rm_X10_wearerLine D cy ad ns A [.ref (ad 100 0)] M r.2 (some (.int (b2i r.1))) := by
  refine ct_of (lv := [(0, .ref (ad 100 0))]) (by decide) (Nat.le_of_ble_eq_true rfl) rfl ?_
  intro p e s m args below meth c ls X hl hS
  obtain ⟨hx, hb, hml, hown, hts, hK, hr, hlk, hA, hG⟩ := id X
  obtain ⟨H, hH⟩ : ∃ z, z = s.heap := ⟨_, rfl⟩
  obtain ⟨locs, hlo⟩ : ∃ z : List Loc, z = [] := ⟨_, rfl⟩
  have hS : St D cy ad ns A M s.heap H locs := by rw [hH, hlo]; exact hS
  have hgoal : W p l e rm_X10_wearerLine s m args below meth c H locs 0 0 (MQ below (QC D cy ad ns A r.2 (some (.int (b2i r.1)))) args s 0 0 A) (F0 m 0 ls []) := by
    unfold f_X10_wearerLine at hX
    refine lv_aload_n hx hb dX10_wearerLine_0 rfl (lv_at hl 0 rfl) ?_
    refine lv_iconst (v := nI 0) hx hb dX10_wearerLine_1 (by decide) ?_
    refine lv_iconst (v := nI 0) hx hb dX10_wearerLine_2 (by decide) ?_
    refine lv_bipush (v := nI 9) hx hb dX10_wearerLine_3 (by decide) ?_
    obtain ⟨r3, M2, h1, hX⟩ := bp_of hX
    refine r_callV1 (v := .int (b2i r3)) (As := [.int (nI 0), .int (nI 0), .int (nI 9)]) (rest := []) X hS (m_X10_take hN h1) mv_X10_take rfl (hN) t6_140 ⟨rfl, rfl, Nat.le_of_ble_eq_true rfl, Nat.le_of_ble_eq_true rfl⟩ rfl hl.1 rfl (Nat.le_of_ble_eq_true rfl) ⟨Nat.zero_le _, Nat.zero_le _⟩ dX10_wearerLine_5 (fun H locs hS => ?_)
    refine lv_if_eq (tgt := 44) hx hb dX10_wearerLine_8 (by decide) (fun c4 => ?_) (fun c4 => ?_)
    · have hX := if_bf c4 hX
      refine lv_iconst (v := nI 0) hx hb dX10_wearerLine_44 (by decide) ?_
      obtain rfl := some_of hX
      exact x_Z (v := false) X hS dX10_wearerLine_45
    · have hX := if_bt c4 hX
      refine lv_aload_n hx hb dX10_wearerLine_11 rfl (lv_at hl 0 rfl) ?_
      refine lv_iconst (v := nI 1) hx hb dX10_wearerLine_12 (by decide) ?_
      refine lv_iconst (v := nI 0) hx hb dX10_wearerLine_13 (by decide) ?_
      refine lv_bipush (v := nI 9) hx hb dX10_wearerLine_14 (by decide) ?_
      obtain ⟨r7, M6, h5, hX⟩ := bp_of hX
      refine r_callV1 (v := .int (b2i r7)) (As := [.int (nI 1), .int (nI 0), .int (nI 9)]) (rest := []) X hS (m_X10_take hN h5) mv_X10_take rfl (hN) t6_140 ⟨rfl, rfl, Nat.le_of_ble_eq_true rfl, Nat.le_of_ble_eq_true rfl⟩ rfl hl.1 rfl (Nat.le_of_ble_eq_true rfl) ⟨Nat.zero_le _, Nat.zero_le _⟩ dX10_wearerLine_16 (fun H locs hS => ?_)
      refine lv_if_eq (tgt := 44) hx hb dX10_wearerLine_19 (by decide) (fun c8 => ?_) (fun c8 => ?_)
      · have hX := if_bf c8 hX
        refine lv_iconst (v := nI 0) hx hb dX10_wearerLine_44 (by decide) ?_
        obtain rfl := some_of hX
        exact x_Z (v := false) X hS dX10_wearerLine_45
      · have hX := if_bt c8 hX
        refine lv_aload_n hx hb dX10_wearerLine_22 rfl (lv_at hl 0 rfl) ?_
        refine lv_iconst (v := nI 2) hx hb dX10_wearerLine_23 (by decide) ?_
        refine lv_iconst (v := nI 1) hx hb dX10_wearerLine_24 (by decide) ?_
        refine lv_bipush (v := nI 30) hx hb dX10_wearerLine_25 (by decide) ?_
        obtain ⟨r11, M10, h9, hX⟩ := bp_of hX
        refine r_callV1 (v := .int (b2i r11)) (As := [.int (nI 2), .int (nI 1), .int (nI 30)]) (rest := []) X hS (m_X10_take hN h9) mv_X10_take rfl (hN) t6_140 ⟨rfl, rfl, Nat.le_of_ble_eq_true rfl, Nat.le_of_ble_eq_true rfl⟩ rfl hl.1 rfl (Nat.le_of_ble_eq_true rfl) ⟨Nat.zero_le _, Nat.zero_le _⟩ dX10_wearerLine_27 (fun H locs hS => ?_)
        refine lv_if_eq (tgt := 44) hx hb dX10_wearerLine_30 (by decide) (fun c12 => ?_) (fun c12 => ?_)
        · have hX := if_bf c12 hX
          refine lv_iconst (v := nI 0) hx hb dX10_wearerLine_44 (by decide) ?_
          obtain rfl := some_of hX
          exact x_Z (v := false) X hS dX10_wearerLine_45
        · have hX := if_bt c12 hX
          refine lv_aload_n hx hb dX10_wearerLine_33 rfl (lv_at hl 0 rfl) ?_
          refine lv_iconst (v := nI 3) hx hb dX10_wearerLine_34 (by decide) ?_
          refine lv_iconst (v := nI 0) hx hb dX10_wearerLine_35 (by decide) ?_
          refine lv_bipush (v := nI 99) hx hb dX10_wearerLine_36 (by decide) ?_
          obtain ⟨r15, M14, h13, hX⟩ := bp_of hX
          refine r_callV1 (v := .int (b2i r15)) (As := [.int (nI 3), .int (nI 0), .int (nI 99)]) (rest := []) X hS (m_X10_take hN h13) mv_X10_take rfl (hN) t6_140 ⟨rfl, rfl, Nat.le_of_ble_eq_true rfl, Nat.le_of_ble_eq_true rfl⟩ rfl hl.1 rfl (Nat.le_of_ble_eq_true rfl) ⟨Nat.zero_le _, Nat.zero_le _⟩ dX10_wearerLine_38 (fun H locs hS => ?_)
          refine lv_if_ne (tgt := 46) hx hb dX10_wearerLine_41 (by decide) (fun c16 => ?_) (fun c16 => ?_)
          · have hX := if_bt c16 hX
            refine lv_aload_n hx hb dX10_wearerLine_46 rfl (lv_at hl 0 rfl) ?_
            refine fg_X10_38 X hS (hN) dX10_wearerLine_47 ?_
            refine lv_iconst (v := nI 0) hx hb dX10_wearerLine_50 (by decide) ?_
            obtain ⟨g17, hX⟩ := gin_of hX
            refine r_iald (ci := 10) (o := 100) (k := 19) (n := 138) X hS (hN) rfl rfl g17 dX10_wearerLine_51 ?_
            refine lv_topi (fun v18 ev18 => ?_)
            have hX := nm_of ev18 hX
            refine lv_istore_n (lv' := [(1, .int v18), (0, .ref (ad 100 0))]) hx hb dX10_wearerLine_52 rfl hl (by decide) rfl (fun ls hl => ?_)
            refine lv_iload_n hx hb dX10_wearerLine_53 rfl (lv_at hl 0 rfl) ?_
            refine lv_bipush (v := nI 6) hx hb dX10_wearerLine_54 (by decide) ?_
            refine lv_icmp_ge (tgt := 128) hx hb dX10_wearerLine_56 (by decide) (fun c19 => ?_) (fun c19 => ?_)
            · have hX := if_t c19 hX
              refine lv_iconst (v := nI 1) hx hb dX10_wearerLine_128 (by decide) ?_
              obtain rfl := some_of hX
              exact x_Z (v := true) X hS dX10_wearerLine_129
            · have hX := if_f c19 hX
              refine lv_aload_n hx hb dX10_wearerLine_59 rfl (lv_at hl 1 rfl) ?_
              refine fg_X10_38 X hS (hN) dX10_wearerLine_60 ?_
              refine lv_iconst (v := nI 5) hx hb dX10_wearerLine_63 (by decide) ?_
              refine lv_iload_n hx hb dX10_wearerLine_64 rfl (lv_at hl 0 rfl) ?_
              refine lv_iadd hx hb dX10_wearerLine_65 ?_
              refine lv_aload_n hx hb dX10_wearerLine_66 rfl (lv_at hl 1 rfl) ?_
              refine fg_X10_41 X hS (hN) dX10_wearerLine_67 ?_
              refine lv_iconst (v := nI 0) hx hb dX10_wearerLine_70 (by decide) ?_
              obtain ⟨g20, hX⟩ := gin_of hX
              refine r_iald (ci := 10) (o := 100) (k := 20) (n := 4) X hS (hN) rfl rfl g20 dX10_wearerLine_71 ?_
              obtain ⟨g21, hX⟩ := gin_of hX
              refine r_iast (ci := 10) (o := 100) (k := 19) (n := 138) X hS (hN) rfl rfl g21 dX10_wearerLine_72 (fun H locs hS => ?_)
              obtain ⟨M22, eM22, hS, hX⟩ := nm_mem hS hX
              refine lv_aload_n hx hb dX10_wearerLine_73 rfl (lv_at hl 1 rfl) ?_
              refine fg_X10_38 X hS (hN) dX10_wearerLine_74 ?_
              refine lv_bipush (v := nI 11) hx hb dX10_wearerLine_77 (by decide) ?_
              refine lv_iload_n hx hb dX10_wearerLine_79 rfl (lv_at hl 0 rfl) ?_
              refine lv_iadd hx hb dX10_wearerLine_80 ?_
              refine lv_aload_n hx hb dX10_wearerLine_81 rfl (lv_at hl 1 rfl) ?_
              refine fg_X10_41 X hS (hN) dX10_wearerLine_82 ?_
              refine lv_iconst (v := nI 1) hx hb dX10_wearerLine_85 (by decide) ?_
              obtain ⟨g23, hX⟩ := gin_of hX
              refine r_iald (ci := 10) (o := 100) (k := 20) (n := 4) X hS (hN) rfl rfl g23 dX10_wearerLine_86 ?_
              obtain ⟨g24, hX⟩ := gin_of hX
              refine r_iast (ci := 10) (o := 100) (k := 19) (n := 138) X hS (hN) rfl rfl g24 dX10_wearerLine_87 (fun H locs hS => ?_)
              obtain ⟨M25, eM25, hS, hX⟩ := nm_mem hS hX
              refine lv_aload_n hx hb dX10_wearerLine_88 rfl (lv_at hl 1 rfl) ?_
              refine fg_X10_38 X hS (hN) dX10_wearerLine_89 ?_
              refine lv_bipush (v := nI 17) hx hb dX10_wearerLine_92 (by decide) ?_
              refine lv_iload_n hx hb dX10_wearerLine_94 rfl (lv_at hl 0 rfl) ?_
              refine lv_iadd hx hb dX10_wearerLine_95 ?_
              refine lv_aload_n hx hb dX10_wearerLine_96 rfl (lv_at hl 1 rfl) ?_
              refine fg_X10_41 X hS (hN) dX10_wearerLine_97 ?_
              refine lv_iconst (v := nI 2) hx hb dX10_wearerLine_100 (by decide) ?_
              obtain ⟨g26, hX⟩ := gin_of hX
              refine r_iald (ci := 10) (o := 100) (k := 20) (n := 4) X hS (hN) rfl rfl g26 dX10_wearerLine_101 ?_
              obtain ⟨g27, hX⟩ := gin_of hX
              refine r_iast (ci := 10) (o := 100) (k := 19) (n := 138) X hS (hN) rfl rfl g27 dX10_wearerLine_102 (fun H locs hS => ?_)
              obtain ⟨M28, eM28, hS, hX⟩ := nm_mem hS hX
              refine lv_aload_n hx hb dX10_wearerLine_103 rfl (lv_at hl 1 rfl) ?_
              refine fg_X10_38 X hS (hN) dX10_wearerLine_104 ?_
              refine lv_bipush (v := nI 23) hx hb dX10_wearerLine_107 (by decide) ?_
              refine lv_iload_n hx hb dX10_wearerLine_109 rfl (lv_at hl 0 rfl) ?_
              refine lv_iadd hx hb dX10_wearerLine_110 ?_
              refine lv_aload_n hx hb dX10_wearerLine_111 rfl (lv_at hl 1 rfl) ?_
              refine fg_X10_41 X hS (hN) dX10_wearerLine_112 ?_
              refine lv_iconst (v := nI 3) hx hb dX10_wearerLine_115 (by decide) ?_
              obtain ⟨g29, hX⟩ := gin_of hX
              refine r_iald (ci := 10) (o := 100) (k := 20) (n := 4) X hS (hN) rfl rfl g29 dX10_wearerLine_116 ?_
              obtain ⟨g30, hX⟩ := gin_of hX
              refine r_iast (ci := 10) (o := 100) (k := 19) (n := 138) X hS (hN) rfl rfl g30 dX10_wearerLine_117 (fun H locs hS => ?_)
              obtain ⟨M31, eM31, hS, hX⟩ := nm_mem hS hX
              refine lv_aload_n hx hb dX10_wearerLine_118 rfl (lv_at hl 1 rfl) ?_
              refine fg_X10_38 X hS (hN) dX10_wearerLine_119 ?_
              refine lv_iconst (v := nI 0) hx hb dX10_wearerLine_122 (by decide) ?_
              refine lv_dup2_11 hx hb dX10_wearerLine_123 rfl rfl ?_
              obtain ⟨g32, hX⟩ := gin_of hX
              refine r_iald (ci := 10) (o := 100) (k := 19) (n := 138) X hS (hN) rfl rfl g32 dX10_wearerLine_124 ?_
              refine lv_iconst (v := nI 1) hx hb dX10_wearerLine_125 (by decide) ?_
              refine lv_iadd hx hb dX10_wearerLine_126 ?_
              obtain ⟨g33, hX⟩ := gin_of hX
              refine r_iast (ci := 10) (o := 100) (k := 19) (n := 138) X hS (hN) rfl rfl g33 dX10_wearerLine_127 (fun H locs hS => ?_)
              obtain ⟨M34, eM34, hS, hX⟩ := nm_mem hS hX
              refine lv_iconst (v := nI 1) hx hb dX10_wearerLine_128 (by decide) ?_
              obtain rfl := some_of hX
              exact x_Z (v := true) X hS dX10_wearerLine_129
          · have hX := if_bf c16 hX
            refine lv_iconst (v := nI 0) hx hb dX10_wearerLine_44 (by decide) ?_
            obtain rfl := some_of hX
            exact x_Z (v := false) X hS dX10_wearerLine_45
  rw [hH, hlo] at hgoal
  exact hgoal
theorem mv_X10_wearerLine : Mv yX10_wearerLine RX10 cX10_wearerLine 2 ((some .boolean)) 0 := ⟨t6_188, t6_187, ts_26, t1_11, ⟨by decide, by decide⟩, by decide +kernel⟩
/-! SewnYearModel.awayLine()Z -/
def rm_X10_awayLine : Room := { frames := 4, cells := 0, slots := 0, locals := 91 }
def f_X10_awayLine (M : Mem) : Option (Bool × Mem) :=
  bp (f_X10_take M (nI 0) (nI 0) (nI 5)) fun r3 M2 => if r3 = true then (bp (f_X10_take M2 (nI 1) (nI 0) (nI 99)) fun r7 M6 => if r7 = true then (gin (nI 1) 4 <| bp (f_X10_take M6 (nI 2) (gA M6 100 20 (ix (nI 1))) (nI 99)) fun r12 M11 => if r12 = true then (gin (nI 0) 4 <| bn (f_X10_greater (gI M11 100 21) (gA M11 100 20 (ix (nI 0)))) fun r16 => nm (sI M11 100 21 r16) fun M17 => if (gI M17 100 22) = (nI 0) then (some (true, M17)) else (gin (nI 0) 4 <| gin (nI 1) 4 <| gin ((nI 29) + (gA M17 100 20 (ix (nI 0)))) 138 <| nm (sA M17 100 19 (ix ((nI 29) + (gA M17 100 20 (ix (nI 0))))) (gA M17 100 20 (ix (nI 1)))) fun M22 => gin (nI 0) 4 <| gin (nI 2) 4 <| gin ((nI 35) + (gA M22 100 20 (ix (nI 0)))) 138 <| nm (sA M22 100 19 (ix ((nI 35) + (gA M22 100 20 (ix (nI 0))))) (gA M22 100 20 (ix (nI 2)))) fun M26 => some (true, M26))) else (some (false, M11))) else (some (false, M6))) else (some (false, M2))
set_option maxRecDepth 100000 in
set_option maxHeartbeats 4000000 in
theorem m_X10_awayLine {l : Launch} {D : va_G} {cy : Nat → ClassId} {ad : Nat → Nat → Nat} {ns : List (Nat × Nat)} {A : Nat → Prop} {M : Mem} (hN : Ob ns 10 100) {r : Bool × Mem} (hX : f_X10_awayLine M = some r) : Ct l yX10_awayLine cX10_awayLine 1 ((some .boolean)) rm_X10_awayLine D cy ad ns A [.ref (ad 100 0)] M r.2 (some (.int (b2i r.1))) := by
  refine ct_of (lv := [(0, .ref (ad 100 0))]) (by decide) (Nat.le_of_ble_eq_true rfl) rfl ?_
  intro p e s m args below meth c ls X hl hS
  obtain ⟨hx, hb, hml, hown, hts, hK, hr, hlk, hA, hG⟩ := id X
  obtain ⟨H, hH⟩ : ∃ z, z = s.heap := ⟨_, rfl⟩
  obtain ⟨locs, hlo⟩ : ∃ z : List Loc, z = [] := ⟨_, rfl⟩
  have hS : St D cy ad ns A M s.heap H locs := by rw [hH, hlo]; exact hS
  have hgoal : W p l e rm_X10_awayLine s m args below meth c H locs 0 0 (MQ below (QC D cy ad ns A r.2 (some (.int (b2i r.1)))) args s 0 0 A) (F0 m 0 ls []) := by
    unfold f_X10_awayLine at hX
    refine lv_aload_n hx hb dX10_awayLine_0 rfl (lv_at hl 0 rfl) ?_
    refine lv_iconst (v := nI 0) hx hb dX10_awayLine_1 (by decide) ?_
    refine lv_iconst (v := nI 0) hx hb dX10_awayLine_2 (by decide) ?_
    refine lv_iconst (v := nI 5) hx hb dX10_awayLine_3 (by decide) ?_
    obtain ⟨r3, M2, h1, hX⟩ := bp_of hX
    refine r_callV1 (v := .int (b2i r3)) (As := [.int (nI 0), .int (nI 0), .int (nI 5)]) (rest := []) X hS (m_X10_take hN h1) mv_X10_take rfl (hN) t6_140 ⟨rfl, rfl, Nat.le_of_ble_eq_true rfl, Nat.le_of_ble_eq_true rfl⟩ rfl hl.1 rfl (Nat.le_of_ble_eq_true rfl) ⟨Nat.zero_le _, Nat.zero_le _⟩ dX10_awayLine_4 (fun H locs hS => ?_)
    refine lv_if_eq (tgt := 37) hx hb dX10_awayLine_7 (by decide) (fun c4 => ?_) (fun c4 => ?_)
    · have hX := if_bf c4 hX
      refine lv_iconst (v := nI 0) hx hb dX10_awayLine_37 (by decide) ?_
      obtain rfl := some_of hX
      exact x_Z (v := false) X hS dX10_awayLine_38
    · have hX := if_bt c4 hX
      refine lv_aload_n hx hb dX10_awayLine_10 rfl (lv_at hl 0 rfl) ?_
      refine lv_iconst (v := nI 1) hx hb dX10_awayLine_11 (by decide) ?_
      refine lv_iconst (v := nI 0) hx hb dX10_awayLine_12 (by decide) ?_
      refine lv_bipush (v := nI 99) hx hb dX10_awayLine_13 (by decide) ?_
      obtain ⟨r7, M6, h5, hX⟩ := bp_of hX
      refine r_callV1 (v := .int (b2i r7)) (As := [.int (nI 1), .int (nI 0), .int (nI 99)]) (rest := []) X hS (m_X10_take hN h5) mv_X10_take rfl (hN) t6_140 ⟨rfl, rfl, Nat.le_of_ble_eq_true rfl, Nat.le_of_ble_eq_true rfl⟩ rfl hl.1 rfl (Nat.le_of_ble_eq_true rfl) ⟨Nat.zero_le _, Nat.zero_le _⟩ dX10_awayLine_15 (fun H locs hS => ?_)
      refine lv_if_eq (tgt := 37) hx hb dX10_awayLine_18 (by decide) (fun c8 => ?_) (fun c8 => ?_)
      · have hX := if_bf c8 hX
        refine lv_iconst (v := nI 0) hx hb dX10_awayLine_37 (by decide) ?_
        obtain rfl := some_of hX
        exact x_Z (v := false) X hS dX10_awayLine_38
      · have hX := if_bt c8 hX
        refine lv_aload_n hx hb dX10_awayLine_21 rfl (lv_at hl 0 rfl) ?_
        refine lv_iconst (v := nI 2) hx hb dX10_awayLine_22 (by decide) ?_
        refine lv_aload_n hx hb dX10_awayLine_23 rfl (lv_at hl 0 rfl) ?_
        refine fg_X10_41 X hS (hN) dX10_awayLine_24 ?_
        refine lv_iconst (v := nI 1) hx hb dX10_awayLine_27 (by decide) ?_
        obtain ⟨g9, hX⟩ := gin_of hX
        refine r_iald (ci := 10) (o := 100) (k := 20) (n := 4) X hS (hN) rfl rfl g9 dX10_awayLine_28 ?_
        refine lv_bipush (v := nI 99) hx hb dX10_awayLine_29 (by decide) ?_
        obtain ⟨r12, M11, h10, hX⟩ := bp_of hX
        refine r_callV1 (v := .int (b2i r12)) (As := [.int (nI 2), .int (gA M6 100 20 (ix (nI 1))), .int (nI 99)]) (rest := []) X hS (m_X10_take hN h10) mv_X10_take rfl (hN) t6_140 ⟨rfl, rfl, Nat.le_of_ble_eq_true rfl, Nat.le_of_ble_eq_true rfl⟩ rfl hl.1 rfl (Nat.le_of_ble_eq_true rfl) ⟨Nat.zero_le _, Nat.zero_le _⟩ dX10_awayLine_31 (fun H locs hS => ?_)
        refine lv_if_ne (tgt := 39) hx hb dX10_awayLine_34 (by decide) (fun c13 => ?_) (fun c13 => ?_)
        · have hX := if_bt c13 hX
          refine lv_aload_n hx hb dX10_awayLine_39 rfl (lv_at hl 0 rfl) ?_
          refine lv_aload_n hx hb dX10_awayLine_40 rfl (lv_at hl 0 rfl) ?_
          refine fg_X10_168 X hS (hN) dX10_awayLine_41 ?_
          refine lv_aload_n hx hb dX10_awayLine_44 rfl (lv_at hl 0 rfl) ?_
          refine fg_X10_41 X hS (hN) dX10_awayLine_45 ?_
          refine lv_iconst (v := nI 0) hx hb dX10_awayLine_48 (by decide) ?_
          obtain ⟨g14, hX⟩ := gin_of hX
          refine r_iald (ci := 10) (o := 100) (k := 20) (n := 4) X hS (hN) rfl rfl g14 dX10_awayLine_49 ?_
          obtain ⟨r16, h15, hX⟩ := bn_of hX
          refine r_callS1 (v := .int r16) (As := [.int (gI M11 100 21), .int (gA M11 100 20 (ix (nI 0)))]) (rest := [.ref (ad 100 0)]) X hS (m_X10_greater (M := M11) hN h15) ms_X10_greater t6_156 ⟨rfl, rfl, Nat.le_of_ble_eq_true rfl, Nat.le_of_ble_eq_true rfl⟩ rfl hl.1 rfl (Nat.le_of_ble_eq_true rfl) ⟨Nat.zero_le _, Nat.zero_le _⟩ dX10_awayLine_50 (fun H locs hS => ?_)
          refine fp_X10_168 X hS (hN) dX10_awayLine_53 (fun H locs hS => ?_)
          obtain ⟨M17, eM17, hS, hX⟩ := nm_mem hS hX
          refine lv_aload_n hx hb dX10_awayLine_56 rfl (lv_at hl 0 rfl) ?_
          refine fg_X10_154 X hS (hN) dX10_awayLine_57 ?_
          refine lv_if_eq (tgt := 103) hx hb dX10_awayLine_60 (by decide) (fun c18 => ?_) (fun c18 => ?_)
          · have hX := if_t c18 hX
            refine lv_iconst (v := nI 1) hx hb dX10_awayLine_103 (by decide) ?_
            obtain rfl := some_of hX
            exact x_Z (v := true) X hS dX10_awayLine_104
          · have hX := if_f c18 hX
            refine lv_aload_n hx hb dX10_awayLine_63 rfl (lv_at hl 0 rfl) ?_
            refine fg_X10_38 X hS (hN) dX10_awayLine_64 ?_
            refine lv_bipush (v := nI 29) hx hb dX10_awayLine_67 (by decide) ?_
            refine lv_aload_n hx hb dX10_awayLine_69 rfl (lv_at hl 0 rfl) ?_
            refine fg_X10_41 X hS (hN) dX10_awayLine_70 ?_
            refine lv_iconst (v := nI 0) hx hb dX10_awayLine_73 (by decide) ?_
            obtain ⟨g19, hX⟩ := gin_of hX
            refine r_iald (ci := 10) (o := 100) (k := 20) (n := 4) X hS (hN) rfl rfl g19 dX10_awayLine_74 ?_
            refine lv_iadd hx hb dX10_awayLine_75 ?_
            refine lv_aload_n hx hb dX10_awayLine_76 rfl (lv_at hl 0 rfl) ?_
            refine fg_X10_41 X hS (hN) dX10_awayLine_77 ?_
            refine lv_iconst (v := nI 1) hx hb dX10_awayLine_80 (by decide) ?_
            obtain ⟨g20, hX⟩ := gin_of hX
            refine r_iald (ci := 10) (o := 100) (k := 20) (n := 4) X hS (hN) rfl rfl g20 dX10_awayLine_81 ?_
            obtain ⟨g21, hX⟩ := gin_of hX
            refine r_iast (ci := 10) (o := 100) (k := 19) (n := 138) X hS (hN) rfl rfl g21 dX10_awayLine_82 (fun H locs hS => ?_)
            obtain ⟨M22, eM22, hS, hX⟩ := nm_mem hS hX
            refine lv_aload_n hx hb dX10_awayLine_83 rfl (lv_at hl 0 rfl) ?_
            refine fg_X10_38 X hS (hN) dX10_awayLine_84 ?_
            refine lv_bipush (v := nI 35) hx hb dX10_awayLine_87 (by decide) ?_
            refine lv_aload_n hx hb dX10_awayLine_89 rfl (lv_at hl 0 rfl) ?_
            refine fg_X10_41 X hS (hN) dX10_awayLine_90 ?_
            refine lv_iconst (v := nI 0) hx hb dX10_awayLine_93 (by decide) ?_
            obtain ⟨g23, hX⟩ := gin_of hX
            refine r_iald (ci := 10) (o := 100) (k := 20) (n := 4) X hS (hN) rfl rfl g23 dX10_awayLine_94 ?_
            refine lv_iadd hx hb dX10_awayLine_95 ?_
            refine lv_aload_n hx hb dX10_awayLine_96 rfl (lv_at hl 0 rfl) ?_
            refine fg_X10_41 X hS (hN) dX10_awayLine_97 ?_
            refine lv_iconst (v := nI 2) hx hb dX10_awayLine_100 (by decide) ?_
            obtain ⟨g24, hX⟩ := gin_of hX
            refine r_iald (ci := 10) (o := 100) (k := 20) (n := 4) X hS (hN) rfl rfl g24 dX10_awayLine_101 ?_
            obtain ⟨g25, hX⟩ := gin_of hX
            refine r_iast (ci := 10) (o := 100) (k := 19) (n := 138) X hS (hN) rfl rfl g25 dX10_awayLine_102 (fun H locs hS => ?_)
            obtain ⟨M26, eM26, hS, hX⟩ := nm_mem hS hX
            refine lv_iconst (v := nI 1) hx hb dX10_awayLine_103 (by decide) ?_
            obtain rfl := some_of hX
            exact x_Z (v := true) X hS dX10_awayLine_104
        · have hX := if_bf c13 hX
          refine lv_iconst (v := nI 0) hx hb dX10_awayLine_37 (by decide) ?_
          obtain rfl := some_of hX
          exact x_Z (v := false) X hS dX10_awayLine_38
  rw [hH, hlo] at hgoal
  exact hgoal
theorem mv_X10_awayLine : Mv yX10_awayLine RX10 cX10_awayLine 1 ((some .boolean)) 0 := ⟨t6_192, t6_191, ts_27, t1_11, ⟨by decide, by decide⟩, by decide +kernel⟩
/-! SewnYearModel.townLine(JI)Z -/
def rm_X10_townLine : Room := { frames := 5, cells := 0, slots := 0, locals := 114 }
def f_X10_townLine_95 (a1 : Int64) (a2 : Int32) (s_1 : Int32) (M : Mem) : Option (Bool × Mem) :=
  bp (f_X10_plainLine M s_1 (nI 1) (nI 9)) fun r3 M2 => some (r3, M2)
def f_X10_townLine_81 (a1 : Int64) (a2 : Int32) (M : Mem) : Option (Bool × Mem) :=
  if (lg_cmp a1 (lN 495806932324)) = (nI 0) then (f_X10_townLine_95 a1 a2 (nI 1) M) else (f_X10_townLine_95 a1 a2 (nI 2) M)
def f_X10_townLine_61 (a1 : Int64) (a2 : Int32) (M : Mem) : Option (Bool × Mem) :=
  bn (f_X10_token M) fun M6 => if (lg_cmp a1 (lN 495806932324)) = (nI 0) then (f_X10_townLine_81 a1 a2 M6) else (if (lg_cmp a1 (lN 469920146803)) = (nI 0) then (f_X10_townLine_81 a1 a2 M6) else (if (lg_cmp a1 (lN 127961729363826)) = (nI 0) then (bp (f_X10_take M6 (nI 0) (nI 0) (nI 9)) fun r12 M11 => if r12 = true then (bp (f_X10_take M11 (nI 1) (nI 0) (nI 9)) fun r16 M15 => if r16 = true then (gin (nI 0) 4 <| gin (nI 3) 138 <| nm (sA M15 100 19 (ix (nI 3)) (gA M15 100 20 (ix (nI 0)))) fun M20 => gin (nI 1) 4 <| gin (nI 4) 138 <| nm (sA M20 100 19 (ix (nI 4)) (gA M20 100 20 (ix (nI 1)))) fun M23 => some (true, M23)) else (some (false, M15))) else (some (false, M11))) else (if (lg_cmp a1 (lN 131277310289266)) = (nI 0) then (bp (f_X10_wearerLine M6) fun r30 M29 => some (r30, M29)) else (bp (f_X10_awayLine M6) fun r27 M26 => some (r27, M26)))))
def f_X10_townLine_45 (a1 : Int64) (a2 : Int32) (M : Mem) : Option (Bool × Mem) :=
  if (lg_cmp a1 (lN 131277310289266)) = (nI 0) then (bn (f_X10_full M (nI 0) (nI 6) a2) fun M33 => f_X10_townLine_61 a1 a2 M33) else (f_X10_townLine_61 a1 a2 M)
def f_X10_townLine (M : Mem) (a1 : Int64) (a2 : Int32) : Option (Bool × Mem) :=
  if (lg_cmp a1 (lN 495806932324)) = (nI 0) then (f_X10_townLine_45 a1 a2 M) else (if (lg_cmp a1 (lN 469920146803)) = (nI 0) then (f_X10_townLine_45 a1 a2 M) else (if (lg_cmp a1 (lN 127961729363826)) = (nI 0) then (f_X10_townLine_45 a1 a2 M) else (if (lg_cmp a1 (lN 131277310289266)) = (nI 0) then (f_X10_townLine_45 a1 a2 M) else (if (lg_cmp a1 (lN 1635213689)) = (nI 0) then (f_X10_townLine_45 a1 a2 M) else (bp (f_X10_fails M) fun r41 M40 => some (r41, M40))))))
set_option maxRecDepth 100000 in
set_option maxHeartbeats 4000000 in
theorem n_X10_townLine_95 {a1 : Int64} {a2 : Int32} (X : Cx p s m args meth c D cy ad A RX10 cX10_townLine 4 ((some .boolean))) (hN : Ob ns 10 100) {s_1 : Int32} {M : Mem} {r : Bool × Mem} (hX : f_X10_townLine_95 a1 a2 s_1 M = some r) : ∀ (ls : Array Slot) (H : Heap) (locs : List Loc), lv_has ls 4 [] → St D cy ad ns A M s.heap H locs → W p l e rm_X10_townLine s m args below meth c H locs 0 0 (MQ below (QC D cy ad ns A r.2 (some (.int (b2i r.1)))) args s 0 0 A) (F0 m 95 ls [.int s_1, .ref (ad 100 0)]) := by
  obtain ⟨hx, hb, hml, hown, hts, hK, hr, hlk, hA, hG⟩ := id X
  intro ls H locs hl hS
  unfold f_X10_townLine_95 at hX
  refine lv_iconst (v := nI 1) hx hb dX10_townLine_95 (by decide) ?_
  refine lv_bipush (v := nI 9) hx hb dX10_townLine_96 (by decide) ?_
  obtain ⟨r3, M2, h1, hX⟩ := bp_of hX
  refine r_callV1 (v := .int (b2i r3)) (As := [.int s_1, .int (nI 1), .int (nI 9)]) (rest := []) X hS (m_X10_plainLine hN h1) mv_X10_plainLine rfl (hN) t6_136 ⟨rfl, rfl, Nat.le_of_ble_eq_true rfl, Nat.le_of_ble_eq_true rfl⟩ rfl hl.1 rfl (Nat.le_of_ble_eq_true rfl) ⟨Nat.zero_le _, Nat.zero_le _⟩ dX10_townLine_98 (fun H locs hS => ?_)
  obtain rfl := some_of hX
  exact x_Z (v := r3) X hS dX10_townLine_101
set_option maxRecDepth 100000 in
set_option maxHeartbeats 4000000 in
theorem n_X10_townLine_81 {a1 : Int64} {a2 : Int32} (X : Cx p s m args meth c D cy ad A RX10 cX10_townLine 4 ((some .boolean))) (hN : Ob ns 10 100) {M : Mem} {r : Bool × Mem} (hX : f_X10_townLine_81 a1 a2 M = some r) : ∀ (ls : Array Slot) (H : Heap) (locs : List Loc), lv_has ls 4 [(0, .ref (ad 100 0)), (1, .long a1)] → St D cy ad ns A M s.heap H locs → W p l e rm_X10_townLine s m args below meth c H locs 0 0 (MQ below (QC D cy ad ns A r.2 (some (.int (b2i r.1)))) args s 0 0 A) (F0 m 81 ls []) := by
  obtain ⟨hx, hb, hml, hown, hts, hK, hr, hlk, hA, hG⟩ := id X
  intro ls H locs hl hS
  unfold f_X10_townLine_81 at hX
  refine lv_aload_n hx hb dX10_townLine_81 rfl (lv_at hl 0 rfl) ?_
  refine lv_lload_n hx hb dX10_townLine_82 rfl (lv_at hl 1 rfl) ?_
  refine lv_ldc2 hx hb (own := RX10) hown (hts _ t6_180) dX10_townLine_83 ?_
  refine W.lcmp hx hb dX10_townLine_86 ?_
  refine lv_if_ne (tgt := 94) hx hb dX10_townLine_87 (by decide) (fun c4 => ?_) (fun c4 => ?_)
  · have hX := if_f c4 hX
    refine lv_iconst (v := nI 2) hx hb dX10_townLine_94 (by decide) ?_
    exact n_X10_townLine_95 X hN hX _ _ _ (lv_sub hl [] rfl) hS
  · have hX := if_t c4 hX
    refine lv_iconst (v := nI 1) hx hb dX10_townLine_90 (by decide) ?_
    refine lv_goto (tgt := 95) hx hb dX10_townLine_91 (by decide) ?_
    exact n_X10_townLine_95 X hN hX _ _ _ (lv_sub hl [] rfl) hS
set_option maxRecDepth 100000 in
set_option maxHeartbeats 4000000 in
theorem n_X10_townLine_61 {a1 : Int64} {a2 : Int32} (X : Cx p s m args meth c D cy ad A RX10 cX10_townLine 4 ((some .boolean))) (hN : Ob ns 10 100) {M : Mem} {r : Bool × Mem} (hX : f_X10_townLine_61 a1 a2 M = some r) : ∀ (ls : Array Slot) (H : Heap) (locs : List Loc), lv_has ls 4 [(0, .ref (ad 100 0)), (1, .long a1)] → St D cy ad ns A M s.heap H locs → W p l e rm_X10_townLine s m args below meth c H locs 0 0 (MQ below (QC D cy ad ns A r.2 (some (.int (b2i r.1)))) args s 0 0 A) (F0 m 61 ls []) := by
  obtain ⟨hx, hb, hml, hown, hts, hK, hr, hlk, hA, hG⟩ := id X
  intro ls H locs hl hS
  unfold f_X10_townLine_61 at hX
  refine lv_aload_n hx hb dX10_townLine_61 rfl (lv_at hl 0 rfl) ?_
  obtain ⟨M6, h5, hX⟩ := bn_of hX
  refine r_callV0 (As := []) (rest := []) X hS (m_X10_token hN h5) mv_X10_token rfl (hN) t6_100 ⟨rfl, rfl, Nat.le_of_ble_eq_true rfl, Nat.le_of_ble_eq_true rfl⟩ rfl hl.1 rfl (Nat.le_of_ble_eq_true rfl) ⟨Nat.zero_le _, Nat.zero_le _⟩ dX10_townLine_62 (fun H locs hS => ?_)
  refine lv_lload_n hx hb dX10_townLine_65 rfl (lv_at hl 1 rfl) ?_
  refine lv_ldc2 hx hb (own := RX10) hown (hts _ t6_180) dX10_townLine_66 ?_
  refine W.lcmp hx hb dX10_townLine_69 ?_
  refine lv_if_eq (tgt := 81) hx hb dX10_townLine_70 (by decide) (fun c7 => ?_) (fun c7 => ?_)
  · have hX := if_t c7 hX
    exact n_X10_townLine_81 X hN hX _ _ _ (lv_sub hl [0, 1] rfl) hS
  · have hX := if_f c7 hX
    refine lv_lload_n hx hb dX10_townLine_73 rfl (lv_at hl 1 rfl) ?_
    refine lv_ldc2 hx hb (own := RX10) hown (hts _ t6_181) dX10_townLine_74 ?_
    refine W.lcmp hx hb dX10_townLine_77 ?_
    refine lv_if_ne (tgt := 102) hx hb dX10_townLine_78 (by decide) (fun c8 => ?_) (fun c8 => ?_)
    · have hX := if_f c8 hX
      refine lv_lload_n hx hb dX10_townLine_102 rfl (lv_at hl 1 rfl) ?_
      refine lv_ldc2 hx hb (own := RX10) hown (hts _ t6_182) dX10_townLine_103 ?_
      refine W.lcmp hx hb dX10_townLine_106 ?_
      refine lv_if_eq (tgt := 130) hx hb dX10_townLine_107 (by decide) (fun c9 => ?_) (fun c9 => ?_)
      · have hX := if_t c9 hX
        refine lv_aload_n hx hb dX10_townLine_130 rfl (lv_at hl 0 rfl) ?_
        refine lv_iconst (v := nI 0) hx hb dX10_townLine_131 (by decide) ?_
        refine lv_iconst (v := nI 0) hx hb dX10_townLine_132 (by decide) ?_
        refine lv_bipush (v := nI 9) hx hb dX10_townLine_133 (by decide) ?_
        obtain ⟨r12, M11, h10, hX⟩ := bp_of hX
        refine r_callV1 (v := .int (b2i r12)) (As := [.int (nI 0), .int (nI 0), .int (nI 9)]) (rest := []) X hS (m_X10_take hN h10) mv_X10_take rfl (hN) t6_140 ⟨rfl, rfl, Nat.le_of_ble_eq_true rfl, Nat.le_of_ble_eq_true rfl⟩ rfl hl.1 rfl (Nat.le_of_ble_eq_true rfl) ⟨Nat.zero_le _, Nat.zero_le _⟩ dX10_townLine_135 (fun H locs hS => ?_)
        refine lv_if_eq (tgt := 152) hx hb dX10_townLine_138 (by decide) (fun c13 => ?_) (fun c13 => ?_)
        · have hX := if_bf c13 hX
          refine lv_iconst (v := nI 0) hx hb dX10_townLine_152 (by decide) ?_
          obtain rfl := some_of hX
          exact x_Z (v := false) X hS dX10_townLine_153
        · have hX := if_bt c13 hX
          refine lv_aload_n hx hb dX10_townLine_141 rfl (lv_at hl 0 rfl) ?_
          refine lv_iconst (v := nI 1) hx hb dX10_townLine_142 (by decide) ?_
          refine lv_iconst (v := nI 0) hx hb dX10_townLine_143 (by decide) ?_
          refine lv_bipush (v := nI 9) hx hb dX10_townLine_144 (by decide) ?_
          obtain ⟨r16, M15, h14, hX⟩ := bp_of hX
          refine r_callV1 (v := .int (b2i r16)) (As := [.int (nI 1), .int (nI 0), .int (nI 9)]) (rest := []) X hS (m_X10_take hN h14) mv_X10_take rfl (hN) t6_140 ⟨rfl, rfl, Nat.le_of_ble_eq_true rfl, Nat.le_of_ble_eq_true rfl⟩ rfl hl.1 rfl (Nat.le_of_ble_eq_true rfl) ⟨Nat.zero_le _, Nat.zero_le _⟩ dX10_townLine_146 (fun H locs hS => ?_)
          refine lv_if_ne (tgt := 154) hx hb dX10_townLine_149 (by decide) (fun c17 => ?_) (fun c17 => ?_)
          · have hX := if_bt c17 hX
            refine lv_aload_n hx hb dX10_townLine_154 rfl (lv_at hl 0 rfl) ?_
            refine fg_X10_38 X hS (hN) dX10_townLine_155 ?_
            refine lv_iconst (v := nI 3) hx hb dX10_townLine_158 (by decide) ?_
            refine lv_aload_n hx hb dX10_townLine_159 rfl (lv_at hl 0 rfl) ?_
            refine fg_X10_41 X hS (hN) dX10_townLine_160 ?_
            refine lv_iconst (v := nI 0) hx hb dX10_townLine_163 (by decide) ?_
            obtain ⟨g18, hX⟩ := gin_of hX
            refine r_iald (ci := 10) (o := 100) (k := 20) (n := 4) X hS (hN) rfl rfl g18 dX10_townLine_164 ?_
            obtain ⟨g19, hX⟩ := gin_of hX
            refine r_iast (ci := 10) (o := 100) (k := 19) (n := 138) X hS (hN) rfl rfl g19 dX10_townLine_165 (fun H locs hS => ?_)
            obtain ⟨M20, eM20, hS, hX⟩ := nm_mem hS hX
            refine lv_aload_n hx hb dX10_townLine_166 rfl (lv_at hl 0 rfl) ?_
            refine fg_X10_38 X hS (hN) dX10_townLine_167 ?_
            refine lv_iconst (v := nI 4) hx hb dX10_townLine_170 (by decide) ?_
            refine lv_aload_n hx hb dX10_townLine_171 rfl (lv_at hl 0 rfl) ?_
            refine fg_X10_41 X hS (hN) dX10_townLine_172 ?_
            refine lv_iconst (v := nI 1) hx hb dX10_townLine_175 (by decide) ?_
            obtain ⟨g21, hX⟩ := gin_of hX
            refine r_iald (ci := 10) (o := 100) (k := 20) (n := 4) X hS (hN) rfl rfl g21 dX10_townLine_176 ?_
            obtain ⟨g22, hX⟩ := gin_of hX
            refine r_iast (ci := 10) (o := 100) (k := 19) (n := 138) X hS (hN) rfl rfl g22 dX10_townLine_177 (fun H locs hS => ?_)
            obtain ⟨M23, eM23, hS, hX⟩ := nm_mem hS hX
            refine lv_iconst (v := nI 1) hx hb dX10_townLine_178 (by decide) ?_
            obtain rfl := some_of hX
            exact x_Z (v := true) X hS dX10_townLine_179
          · have hX := if_bf c17 hX
            refine lv_iconst (v := nI 0) hx hb dX10_townLine_152 (by decide) ?_
            obtain rfl := some_of hX
            exact x_Z (v := false) X hS dX10_townLine_153
      · have hX := if_f c9 hX
        refine lv_lload_n hx hb dX10_townLine_110 rfl (lv_at hl 1 rfl) ?_
        refine lv_ldc2 hx hb (own := RX10) hown (hts _ t6_183) dX10_townLine_111 ?_
        refine W.lcmp hx hb dX10_townLine_114 ?_
        refine lv_if_ne (tgt := 125) hx hb dX10_townLine_115 (by decide) (fun c24 => ?_) (fun c24 => ?_)
        · have hX := if_f c24 hX
          refine lv_aload_n hx hb dX10_townLine_125 rfl (lv_at hl 0 rfl) ?_
          obtain ⟨r27, M26, h25, hX⟩ := bp_of hX
          refine r_callV1 (v := .int (b2i r27)) (As := []) (rest := []) X hS (m_X10_awayLine hN h25) mv_X10_awayLine rfl (hN) t6_189 ⟨rfl, rfl, Nat.le_of_ble_eq_true rfl, Nat.le_of_ble_eq_true rfl⟩ rfl hl.1 rfl (Nat.le_of_ble_eq_true rfl) ⟨Nat.zero_le _, Nat.zero_le _⟩ dX10_townLine_126 (fun H locs hS => ?_)
          obtain rfl := some_of hX
          exact x_Z (v := r27) X hS dX10_townLine_129
        · have hX := if_t c24 hX
          refine lv_aload_n hx hb dX10_townLine_118 rfl (lv_at hl 0 rfl) ?_
          obtain ⟨r30, M29, h28, hX⟩ := bp_of hX
          refine r_callV1 (v := .int (b2i r30)) (As := []) (rest := []) X hS (m_X10_wearerLine hN h28) mv_X10_wearerLine rfl (hN) t6_185 ⟨rfl, rfl, Nat.le_of_ble_eq_true rfl, Nat.le_of_ble_eq_true rfl⟩ rfl hl.1 rfl (Nat.le_of_ble_eq_true rfl) ⟨Nat.zero_le _, Nat.zero_le _⟩ dX10_townLine_119 (fun H locs hS => ?_)
          refine lv_goto (tgt := 129) hx hb dX10_townLine_122 (by decide) ?_
          obtain rfl := some_of hX
          exact x_Z (v := r30) X hS dX10_townLine_129
    · have hX := if_t c8 hX
      exact n_X10_townLine_81 X hN hX _ _ _ (lv_sub hl [0, 1] rfl) hS
set_option maxRecDepth 100000 in
set_option maxHeartbeats 4000000 in
theorem n_X10_townLine_45 {a1 : Int64} {a2 : Int32} (X : Cx p s m args meth c D cy ad A RX10 cX10_townLine 4 ((some .boolean))) (hN : Ob ns 10 100) {M : Mem} {r : Bool × Mem} (hX : f_X10_townLine_45 a1 a2 M = some r) : ∀ (ls : Array Slot) (H : Heap) (locs : List Loc), lv_has ls 4 [(0, .ref (ad 100 0)), (1, .long a1), (3, .int a2)] → St D cy ad ns A M s.heap H locs → W p l e rm_X10_townLine s m args below meth c H locs 0 0 (MQ below (QC D cy ad ns A r.2 (some (.int (b2i r.1)))) args s 0 0 A) (F0 m 45 ls []) := by
  obtain ⟨hx, hb, hml, hown, hts, hK, hr, hlk, hA, hG⟩ := id X
  intro ls H locs hl hS
  unfold f_X10_townLine_45 at hX
  refine lv_lload_n hx hb dX10_townLine_45 rfl (lv_at hl 1 rfl) ?_
  refine lv_ldc2 hx hb (own := RX10) hown (hts _ t6_183) dX10_townLine_46 ?_
  refine W.lcmp hx hb dX10_townLine_49 ?_
  refine lv_if_ne (tgt := 61) hx hb dX10_townLine_50 (by decide) (fun c31 => ?_) (fun c31 => ?_)
  · have hX := if_f c31 hX
    exact n_X10_townLine_61 X hN hX _ _ _ (lv_sub hl [0, 1] rfl) hS
  · have hX := if_t c31 hX
    refine lv_aload_n hx hb dX10_townLine_53 rfl (lv_at hl 0 rfl) ?_
    refine lv_iconst (v := nI 0) hx hb dX10_townLine_54 (by decide) ?_
    refine lv_bipush (v := nI 6) hx hb dX10_townLine_55 (by decide) ?_
    refine lv_iload_n hx hb dX10_townLine_57 rfl (lv_at hl 2 rfl) ?_
    obtain ⟨M33, h32, hX⟩ := bn_of hX
    refine r_callV0 (As := [.int (nI 0), .int (nI 6), .int a2]) (rest := []) X hS (m_X10_full hN h32) mv_X10_full rfl (hN) t6_128 ⟨rfl, rfl, Nat.le_of_ble_eq_true rfl, Nat.le_of_ble_eq_true rfl⟩ rfl hl.1 rfl (Nat.le_of_ble_eq_true rfl) ⟨Nat.zero_le _, Nat.zero_le _⟩ dX10_townLine_58 (fun H locs hS => ?_)
    exact n_X10_townLine_61 X hN hX _ _ _ (lv_sub hl [0, 1] rfl) hS
set_option maxRecDepth 100000 in
set_option maxHeartbeats 4000000 in
theorem m_X10_townLine {l : Launch} {D : va_G} {cy : Nat → ClassId} {ad : Nat → Nat → Nat} {ns : List (Nat × Nat)} {A : Nat → Prop} {M : Mem} (hN : Ob ns 10 100) {a1 : Int64} {a2 : Int32} {r : Bool × Mem} (hX : f_X10_townLine M a1 a2 = some r) : Ct l yX10_townLine cX10_townLine 4 ((some .boolean)) rm_X10_townLine D cy ad ns A [.ref (ad 100 0), .long a1, .int a2] M r.2 (some (.int (b2i r.1))) := by
  refine ct_of (lv := [(0, .ref (ad 100 0)), (1, .long a1), (3, .int a2)]) (by decide) (Nat.le_of_ble_eq_true rfl) rfl ?_
  intro p e s m args below meth c ls X hl hS
  obtain ⟨hx, hb, hml, hown, hts, hK, hr, hlk, hA, hG⟩ := id X
  obtain ⟨H, hH⟩ : ∃ z, z = s.heap := ⟨_, rfl⟩
  obtain ⟨locs, hlo⟩ : ∃ z : List Loc, z = [] := ⟨_, rfl⟩
  have hS : St D cy ad ns A M s.heap H locs := by rw [hH, hlo]; exact hS
  have hgoal : W p l e rm_X10_townLine s m args below meth c H locs 0 0 (MQ below (QC D cy ad ns A r.2 (some (.int (b2i r.1)))) args s 0 0 A) (F0 m 0 ls []) := by
    unfold f_X10_townLine at hX
    refine lv_lload_n hx hb dX10_townLine_0 rfl (lv_at hl 1 rfl) ?_
    refine lv_ldc2 hx hb (own := RX10) hown (hts _ t6_180) dX10_townLine_1 ?_
    refine W.lcmp hx hb dX10_townLine_4 ?_
    refine lv_if_eq (tgt := 45) hx hb dX10_townLine_5 (by decide) (fun c34 => ?_) (fun c34 => ?_)
    · have hX := if_t c34 hX
      exact n_X10_townLine_45 X hN hX _ _ _ (lv_sub hl [0, 1, 2] rfl) hS
    · have hX := if_f c34 hX
      refine lv_lload_n hx hb dX10_townLine_8 rfl (lv_at hl 1 rfl) ?_
      refine lv_ldc2 hx hb (own := RX10) hown (hts _ t6_181) dX10_townLine_9 ?_
      refine W.lcmp hx hb dX10_townLine_12 ?_
      refine lv_if_eq (tgt := 45) hx hb dX10_townLine_13 (by decide) (fun c35 => ?_) (fun c35 => ?_)
      · have hX := if_t c35 hX
        exact n_X10_townLine_45 X hN hX _ _ _ (lv_sub hl [0, 1, 2] rfl) hS
      · have hX := if_f c35 hX
        refine lv_lload_n hx hb dX10_townLine_16 rfl (lv_at hl 1 rfl) ?_
        refine lv_ldc2 hx hb (own := RX10) hown (hts _ t6_182) dX10_townLine_17 ?_
        refine W.lcmp hx hb dX10_townLine_20 ?_
        refine lv_if_eq (tgt := 45) hx hb dX10_townLine_21 (by decide) (fun c36 => ?_) (fun c36 => ?_)
        · have hX := if_t c36 hX
          exact n_X10_townLine_45 X hN hX _ _ _ (lv_sub hl [0, 1, 2] rfl) hS
        · have hX := if_f c36 hX
          refine lv_lload_n hx hb dX10_townLine_24 rfl (lv_at hl 1 rfl) ?_
          refine lv_ldc2 hx hb (own := RX10) hown (hts _ t6_183) dX10_townLine_25 ?_
          refine W.lcmp hx hb dX10_townLine_28 ?_
          refine lv_if_eq (tgt := 45) hx hb dX10_townLine_29 (by decide) (fun c37 => ?_) (fun c37 => ?_)
          · have hX := if_t c37 hX
            exact n_X10_townLine_45 X hN hX _ _ _ (lv_sub hl [0, 1, 2] rfl) hS
          · have hX := if_f c37 hX
            refine lv_lload_n hx hb dX10_townLine_32 rfl (lv_at hl 1 rfl) ?_
            refine lv_ldc2 hx hb (own := RX10) hown (hts _ t6_184) dX10_townLine_33 ?_
            refine W.lcmp hx hb dX10_townLine_36 ?_
            refine lv_if_eq (tgt := 45) hx hb dX10_townLine_37 (by decide) (fun c38 => ?_) (fun c38 => ?_)
            · have hX := if_t c38 hX
              exact n_X10_townLine_45 X hN hX _ _ _ (lv_sub hl [0, 1, 2] rfl) hS
            · have hX := if_f c38 hX
              refine lv_aload_n hx hb dX10_townLine_40 rfl (lv_at hl 0 rfl) ?_
              obtain ⟨r41, M40, h39, hX⟩ := bp_of hX
              refine r_callV1 (v := .int (b2i r41)) (As := []) (rest := []) X hS (m_X10_fails hN h39) mv_X10_fails rfl (hN) t6_124 ⟨rfl, rfl, Nat.le_of_ble_eq_true rfl, Nat.le_of_ble_eq_true rfl⟩ rfl hl.1 rfl (Nat.le_of_ble_eq_true rfl) ⟨Nat.zero_le _, Nat.zero_le _⟩ dX10_townLine_41 (fun H locs hS => ?_)
              obtain rfl := some_of hX
              exact x_Z (v := r41) X hS dX10_townLine_44
  rw [hH, hlo] at hgoal
  exact hgoal
theorem mv_X10_townLine : Mv yX10_townLine RX10 cX10_townLine 4 ((some .boolean)) 2 := ⟨t6_179, t6_178, ts_25, t1_11, ⟨by decide, by decide⟩, by decide +kernel⟩
/-! SewnYearModel.sightLine(JI)Z -/
def rm_X10_sightLine : Room := { frames := 4, cells := 0, slots := 0, locals := 91 }
def f_X10_sightLine_93 (a1 : Int64) (a2 : Int32) (v_4 : Int32) (s_1 : Int32) (s_2 : Bool) (s_3 : Int32) (s_4 : Int32) (M : Mem) : Option (Bool × Mem) :=
  bp (f_X10_takeBut M s_1 (b2i s_2) s_3 s_4) fun r3 M2 => if r3 = true then (gin (nI 0) 4 <| nm (sA M2 100 20 (ix (nI 0)) v_4) fun M6 => bn (f_X10_keep M6 (nI 3) (nI 10)) fun M8 => some (true, M8)) else (some (false, M2))
def f_X10_sightLine_37 (a1 : Int64) (a2 : Int32) (s_0 : Int32) (M : Mem) : Option (Bool × Mem) :=
  if s_0 = (-1) then (bp (f_X10_fails M) fun r22 M21 => some (r22, M21)) else (bn (f_X10_full M (nI 0) (nI 10) a2) fun M11 => bn (f_X10_token M11) fun M13 => bp (f_X10_take M13 (nI 1) (nI 0) (nI 8)) fun r16 M15 => if r16 = true then (if s_0 = (nI 0) then (gin (nI 1) 4 <| f_X10_sightLine_93 a1 a2 s_0 (nI 2) false (nI 8) (gA M15 100 20 (ix (nI 1))) M15) else (f_X10_sightLine_93 a1 a2 s_0 (nI 2) false (nI 8) (-1) M15)) else (some (false, M15)))
def f_X10_sightLine (M : Mem) (a1 : Int64) (a2 : Int32) : Option (Bool × Mem) :=
  if (lg_cmp a1 (lN 108187649798757)) = (nI 0) then (f_X10_sightLine_37 a1 a2 (nI 0) M) else (if (lg_cmp a1 (lN 24948)) = (nI 0) then (f_X10_sightLine_37 a1 a2 (nI 1) M) else (if (lg_cmp a1 (lN 7237492)) = (nI 0) then (f_X10_sightLine_37 a1 a2 (nI 2) M) else (f_X10_sightLine_37 a1 a2 (-1) M)))
set_option maxRecDepth 100000 in
set_option maxHeartbeats 4000000 in
theorem n_X10_sightLine_93 {a1 : Int64} {a2 : Int32} (X : Cx p s m args meth c D cy ad A RX10 cX10_sightLine 5 ((some .boolean))) (hN : Ob ns 10 100) {v_4 : Int32} {s_1 : Int32} {s_2 : Bool} {s_3 : Int32} {s_4 : Int32} {M : Mem} {r : Bool × Mem} (hX : f_X10_sightLine_93 a1 a2 v_4 s_1 s_2 s_3 s_4 M = some r) : ∀ (ls : Array Slot) (H : Heap) (locs : List Loc), lv_has ls 5 [(0, .ref (ad 100 0)), (4, .int v_4)] → St D cy ad ns A M s.heap H locs → W p l e rm_X10_sightLine s m args below meth c H locs 0 0 (MQ below (QC D cy ad ns A r.2 (some (.int (b2i r.1)))) args s 0 0 A) (F0 m 93 ls [.int s_4, .int s_3, .int (b2i s_2), .int s_1, .ref (ad 100 0)]) := by
  obtain ⟨hx, hb, hml, hown, hts, hK, hr, hlk, hA, hG⟩ := id X
  intro ls H locs hl hS
  unfold f_X10_sightLine_93 at hX
  obtain ⟨r3, M2, h1, hX⟩ := bp_of hX
  refine r_callV1 (v := .int (b2i r3)) (As := [.int s_1, .int (b2i s_2), .int s_3, .int s_4]) (rest := []) X hS (m_X10_takeBut hN h1) mv_X10_takeBut rfl (hN) t6_144 ⟨rfl, rfl, Nat.le_of_ble_eq_true rfl, Nat.le_of_ble_eq_true rfl⟩ rfl hl.1 rfl (Nat.le_of_ble_eq_true rfl) ⟨Nat.zero_le _, Nat.zero_le _⟩ dX10_sightLine_93 (fun H locs hS => ?_)
  refine lv_if_ne (tgt := 101) hx hb dX10_sightLine_96 (by decide) (fun c4 => ?_) (fun c4 => ?_)
  · have hX := if_bt c4 hX
    refine lv_aload_n hx hb dX10_sightLine_101 rfl (lv_at hl 0 rfl) ?_
    refine fg_X10_41 X hS (hN) dX10_sightLine_102 ?_
    refine lv_iconst (v := nI 0) hx hb dX10_sightLine_105 (by decide) ?_
    refine lv_iload hx hb dX10_sightLine_106 (lv_at hl 1 rfl) ?_
    obtain ⟨g5, hX⟩ := gin_of hX
    refine r_iast (ci := 10) (o := 100) (k := 20) (n := 4) X hS (hN) rfl rfl g5 dX10_sightLine_108 (fun H locs hS => ?_)
    obtain ⟨M6, eM6, hS, hX⟩ := nm_mem hS hX
    refine lv_aload_n hx hb dX10_sightLine_109 rfl (lv_at hl 0 rfl) ?_
    refine lv_iconst (v := nI 3) hx hb dX10_sightLine_110 (by decide) ?_
    refine lv_bipush (v := nI 10) hx hb dX10_sightLine_111 (by decide) ?_
    obtain ⟨M8, h7, hX⟩ := bn_of hX
    refine r_callV0 (As := [.int (nI 3), .int (nI 10)]) (rest := []) X hS (m_X10_keep hN h7) mv_X10_keep rfl (hN) t6_172 ⟨rfl, rfl, Nat.le_of_ble_eq_true rfl, Nat.le_of_ble_eq_true rfl⟩ rfl hl.1 rfl (Nat.le_of_ble_eq_true rfl) ⟨Nat.zero_le _, Nat.zero_le _⟩ dX10_sightLine_113 (fun H locs hS => ?_)
    refine lv_iconst (v := nI 1) hx hb dX10_sightLine_116 (by decide) ?_
    obtain rfl := some_of hX
    exact x_Z (v := true) X hS dX10_sightLine_117
  · have hX := if_bf c4 hX
    refine lv_iconst (v := nI 0) hx hb dX10_sightLine_99 (by decide) ?_
    obtain rfl := some_of hX
    exact x_Z (v := false) X hS dX10_sightLine_100
set_option maxRecDepth 100000 in
set_option maxHeartbeats 4000000 in
theorem n_X10_sightLine_37 {a1 : Int64} {a2 : Int32} (X : Cx p s m args meth c D cy ad A RX10 cX10_sightLine 5 ((some .boolean))) (hN : Ob ns 10 100) {s_0 : Int32} {M : Mem} {r : Bool × Mem} (hX : f_X10_sightLine_37 a1 a2 s_0 M = some r) : ∀ (ls : Array Slot) (H : Heap) (locs : List Loc), lv_has ls 5 [(0, .ref (ad 100 0)), (3, .int a2)] → St D cy ad ns A M s.heap H locs → W p l e rm_X10_sightLine s m args below meth c H locs 0 0 (MQ below (QC D cy ad ns A r.2 (some (.int (b2i r.1)))) args s 0 0 A) (F0 m 37 ls [.int s_0]) := by
  obtain ⟨hx, hb, hml, hown, hts, hK, hr, hlk, hA, hG⟩ := id X
  intro ls H locs hl hS
  unfold f_X10_sightLine_37 at hX
  refine lv_istore (lv' := [(4, .int s_0), (0, .ref (ad 100 0)), (3, .int a2)]) hx hb dX10_sightLine_37 hl (by decide) rfl (fun ls hl => ?_)
  refine lv_iload hx hb dX10_sightLine_39 (lv_at hl 0 rfl) ?_
  refine lv_iconst (v := (-1)) hx hb dX10_sightLine_41 (by decide) ?_
  refine lv_icmp_ne (tgt := 50) hx hb dX10_sightLine_42 (by decide) (fun c9 => ?_) (fun c9 => ?_)
  · have hX := if_f c9 hX
    refine lv_aload_n hx hb dX10_sightLine_50 rfl (lv_at hl 1 rfl) ?_
    refine lv_iconst (v := nI 0) hx hb dX10_sightLine_51 (by decide) ?_
    refine lv_bipush (v := nI 10) hx hb dX10_sightLine_52 (by decide) ?_
    refine lv_iload_n hx hb dX10_sightLine_54 rfl (lv_at hl 2 rfl) ?_
    obtain ⟨M11, h10, hX⟩ := bn_of hX
    refine r_callV0 (As := [.int (nI 0), .int (nI 10), .int a2]) (rest := []) X hS (m_X10_full hN h10) mv_X10_full rfl (hN) t6_128 ⟨rfl, rfl, Nat.le_of_ble_eq_true rfl, Nat.le_of_ble_eq_true rfl⟩ rfl hl.1 rfl (Nat.le_of_ble_eq_true rfl) ⟨Nat.zero_le _, Nat.zero_le _⟩ dX10_sightLine_55 (fun H locs hS => ?_)
    refine lv_aload_n hx hb dX10_sightLine_58 rfl (lv_at hl 1 rfl) ?_
    obtain ⟨M13, h12, hX⟩ := bn_of hX
    refine r_callV0 (As := []) (rest := []) X hS (m_X10_token hN h12) mv_X10_token rfl (hN) t6_100 ⟨rfl, rfl, Nat.le_of_ble_eq_true rfl, Nat.le_of_ble_eq_true rfl⟩ rfl hl.1 rfl (Nat.le_of_ble_eq_true rfl) ⟨Nat.zero_le _, Nat.zero_le _⟩ dX10_sightLine_59 (fun H locs hS => ?_)
    refine lv_aload_n hx hb dX10_sightLine_62 rfl (lv_at hl 1 rfl) ?_
    refine lv_iconst (v := nI 1) hx hb dX10_sightLine_63 (by decide) ?_
    refine lv_iconst (v := nI 0) hx hb dX10_sightLine_64 (by decide) ?_
    refine lv_bipush (v := nI 8) hx hb dX10_sightLine_65 (by decide) ?_
    obtain ⟨r16, M15, h14, hX⟩ := bp_of hX
    refine r_callV1 (v := .int (b2i r16)) (As := [.int (nI 1), .int (nI 0), .int (nI 8)]) (rest := []) X hS (m_X10_take hN h14) mv_X10_take rfl (hN) t6_140 ⟨rfl, rfl, Nat.le_of_ble_eq_true rfl, Nat.le_of_ble_eq_true rfl⟩ rfl hl.1 rfl (Nat.le_of_ble_eq_true rfl) ⟨Nat.zero_le _, Nat.zero_le _⟩ dX10_sightLine_67 (fun H locs hS => ?_)
    refine lv_if_eq (tgt := 99) hx hb dX10_sightLine_70 (by decide) (fun c17 => ?_) (fun c17 => ?_)
    · have hX := if_bf c17 hX
      refine lv_iconst (v := nI 0) hx hb dX10_sightLine_99 (by decide) ?_
      obtain rfl := some_of hX
      exact x_Z (v := false) X hS dX10_sightLine_100
    · have hX := if_bt c17 hX
      refine lv_aload_n hx hb dX10_sightLine_73 rfl (lv_at hl 1 rfl) ?_
      refine lv_iconst (v := nI 2) hx hb dX10_sightLine_74 (by decide) ?_
      refine lv_iconst (v := nI 0) hx hb dX10_sightLine_75 (by decide) ?_
      refine lv_bipush (v := nI 8) hx hb dX10_sightLine_76 (by decide) ?_
      refine lv_iload hx hb dX10_sightLine_78 (lv_at hl 0 rfl) ?_
      refine lv_if_ne (tgt := 92) hx hb dX10_sightLine_80 (by decide) (fun c18 => ?_) (fun c18 => ?_)
      · have hX := if_f c18 hX
        refine lv_iconst (v := (-1)) hx hb dX10_sightLine_92 (by decide) ?_
        exact n_X10_sightLine_93 X hN hX _ _ _ (lv_sub hl [1, 0] rfl) hS
      · have hX := if_t c18 hX
        refine lv_aload_n hx hb dX10_sightLine_83 rfl (lv_at hl 1 rfl) ?_
        refine fg_X10_41 X hS (hN) dX10_sightLine_84 ?_
        refine lv_iconst (v := nI 1) hx hb dX10_sightLine_87 (by decide) ?_
        obtain ⟨g19, hX⟩ := gin_of hX
        refine r_iald (ci := 10) (o := 100) (k := 20) (n := 4) X hS (hN) rfl rfl g19 dX10_sightLine_88 ?_
        refine lv_goto (tgt := 93) hx hb dX10_sightLine_89 (by decide) ?_
        exact n_X10_sightLine_93 X hN hX _ _ _ (lv_sub hl [1, 0] rfl) hS
  · have hX := if_t c9 hX
    refine lv_aload_n hx hb dX10_sightLine_45 rfl (lv_at hl 1 rfl) ?_
    obtain ⟨r22, M21, h20, hX⟩ := bp_of hX
    refine r_callV1 (v := .int (b2i r22)) (As := []) (rest := []) X hS (m_X10_fails hN h20) mv_X10_fails rfl (hN) t6_124 ⟨rfl, rfl, Nat.le_of_ble_eq_true rfl, Nat.le_of_ble_eq_true rfl⟩ rfl hl.1 rfl (Nat.le_of_ble_eq_true rfl) ⟨Nat.zero_le _, Nat.zero_le _⟩ dX10_sightLine_46 (fun H locs hS => ?_)
    obtain rfl := some_of hX
    exact x_Z (v := r22) X hS dX10_sightLine_49
set_option maxRecDepth 100000 in
set_option maxHeartbeats 4000000 in
theorem m_X10_sightLine {l : Launch} {D : va_G} {cy : Nat → ClassId} {ad : Nat → Nat → Nat} {ns : List (Nat × Nat)} {A : Nat → Prop} {M : Mem} (hN : Ob ns 10 100) {a1 : Int64} {a2 : Int32} {r : Bool × Mem} (hX : f_X10_sightLine M a1 a2 = some r) : Ct l yX10_sightLine cX10_sightLine 5 ((some .boolean)) rm_X10_sightLine D cy ad ns A [.ref (ad 100 0), .long a1, .int a2] M r.2 (some (.int (b2i r.1))) := by
  refine ct_of (lv := [(0, .ref (ad 100 0)), (1, .long a1), (3, .int a2)]) (by decide) (Nat.le_of_ble_eq_true rfl) rfl ?_
  intro p e s m args below meth c ls X hl hS
  obtain ⟨hx, hb, hml, hown, hts, hK, hr, hlk, hA, hG⟩ := id X
  obtain ⟨H, hH⟩ : ∃ z, z = s.heap := ⟨_, rfl⟩
  obtain ⟨locs, hlo⟩ : ∃ z : List Loc, z = [] := ⟨_, rfl⟩
  have hS : St D cy ad ns A M s.heap H locs := by rw [hH, hlo]; exact hS
  have hgoal : W p l e rm_X10_sightLine s m args below meth c H locs 0 0 (MQ below (QC D cy ad ns A r.2 (some (.int (b2i r.1)))) args s 0 0 A) (F0 m 0 ls []) := by
    unfold f_X10_sightLine at hX
    refine lv_lload_n hx hb dX10_sightLine_0 rfl (lv_at hl 1 rfl) ?_
    refine lv_ldc2 hx hb (own := RX10) hown (hts _ t6_197) dX10_sightLine_1 ?_
    refine W.lcmp hx hb dX10_sightLine_4 ?_
    refine lv_if_ne (tgt := 12) hx hb dX10_sightLine_5 (by decide) (fun c23 => ?_) (fun c23 => ?_)
    · have hX := if_f c23 hX
      refine lv_lload_n hx hb dX10_sightLine_12 rfl (lv_at hl 1 rfl) ?_
      refine lv_ldc2 hx hb (own := RX10) hown (hts _ t6_198) dX10_sightLine_13 ?_
      refine W.lcmp hx hb dX10_sightLine_16 ?_
      refine lv_if_ne (tgt := 24) hx hb dX10_sightLine_17 (by decide) (fun c24 => ?_) (fun c24 => ?_)
      · have hX := if_f c24 hX
        refine lv_lload_n hx hb dX10_sightLine_24 rfl (lv_at hl 1 rfl) ?_
        refine lv_ldc2 hx hb (own := RX10) hown (hts _ t6_199) dX10_sightLine_25 ?_
        refine W.lcmp hx hb dX10_sightLine_28 ?_
        refine lv_if_ne (tgt := 36) hx hb dX10_sightLine_29 (by decide) (fun c25 => ?_) (fun c25 => ?_)
        · have hX := if_f c25 hX
          refine lv_iconst (v := (-1)) hx hb dX10_sightLine_36 (by decide) ?_
          exact n_X10_sightLine_37 X hN hX _ _ _ (lv_sub hl [0, 2] rfl) hS
        · have hX := if_t c25 hX
          refine lv_iconst (v := nI 2) hx hb dX10_sightLine_32 (by decide) ?_
          refine lv_goto (tgt := 37) hx hb dX10_sightLine_33 (by decide) ?_
          exact n_X10_sightLine_37 X hN hX _ _ _ (lv_sub hl [0, 2] rfl) hS
      · have hX := if_t c24 hX
        refine lv_iconst (v := nI 1) hx hb dX10_sightLine_20 (by decide) ?_
        refine lv_goto (tgt := 37) hx hb dX10_sightLine_21 (by decide) ?_
        exact n_X10_sightLine_37 X hN hX _ _ _ (lv_sub hl [0, 2] rfl) hS
    · have hX := if_t c23 hX
      refine lv_iconst (v := nI 0) hx hb dX10_sightLine_8 (by decide) ?_
      refine lv_goto (tgt := 37) hx hb dX10_sightLine_9 (by decide) ?_
      exact n_X10_sightLine_37 X hN hX _ _ _ (lv_sub hl [0, 2] rfl) hS
  rw [hH, hlo] at hgoal
  exact hgoal
theorem mv_X10_sightLine : Mv yX10_sightLine RX10 cX10_sightLine 5 ((some .boolean)) 2 := ⟨t6_196, t6_195, ts_28, t1_11, ⟨by decide, by decide⟩, by decide +kernel⟩
/-! SewnYearModel.lineOf(IJI)Z -/
def rm_X10_lineOf : Room := { frames := 6, cells := 0, slots := 0, locals := 137 }
def f_X10_lineOf (M : Mem) (a1 : Int32) (a2 : Int64) (a3 : Int32) : Option (Bool × Mem) :=
  if a1 = nI 0 then (bp (f_X10_coatLine M a2 a3) fun r4 M3 => some (r4, M3)) else if a1 = nI 1 then (bp (f_X10_lifeLine M a2 a3) fun r8 M7 => some (r8, M7)) else if a1 = nI 2 then (bp (f_X10_townLine M a2 a3) fun r12 M11 => some (r12, M11)) else (bp (f_X10_sightLine M a2 a3) fun r15 M14 => some (r15, M14))
set_option maxRecDepth 100000 in
set_option maxHeartbeats 4000000 in
theorem m_X10_lineOf {l : Launch} {D : va_G} {cy : Nat → ClassId} {ad : Nat → Nat → Nat} {ns : List (Nat × Nat)} {A : Nat → Prop} {M : Mem} (hN : Ob ns 10 100) {a1 : Int32} {a2 : Int64} {a3 : Int32} {r : Bool × Mem} (hX : f_X10_lineOf M a1 a2 a3 = some r) : Ct l yX10_lineOf cX10_lineOf 5 ((some .boolean)) rm_X10_lineOf D cy ad ns A [.ref (ad 100 0), .int a1, .long a2, .int a3] M r.2 (some (.int (b2i r.1))) := by
  refine ct_of (lv := [(0, .ref (ad 100 0)), (1, .int a1), (2, .long a2), (4, .int a3)]) (by decide) (Nat.le_of_ble_eq_true rfl) rfl ?_
  intro p e s m args below meth c ls X hl hS
  obtain ⟨hx, hb, hml, hown, hts, hK, hr, hlk, hA, hG⟩ := id X
  obtain ⟨H, hH⟩ : ∃ z, z = s.heap := ⟨_, rfl⟩
  obtain ⟨locs, hlo⟩ : ∃ z : List Loc, z = [] := ⟨_, rfl⟩
  have hS : St D cy ad ns A M s.heap H locs := by rw [hH, hlo]; exact hS
  have hgoal : W p l e rm_X10_lineOf s m args below meth c H locs 0 0 (MQ below (QC D cy ad ns A r.2 (some (.int (b2i r.1)))) args s 0 0 A) (F0 m 0 ls []) := by
    unfold f_X10_lineOf at hX
    refine lv_iload_n hx hb dX10_lineOf_0 rfl (lv_at hl 1 rfl) ?_
    by_cases c1 : a1 = nI 0
    · have hX := if_t c1 hX
      refine r_tabIn c1 (off := 27) (tgt := 28) hx hb dX10_lineOf_1 (by decide) (by decide) (by decide) (by decide) ?_
      refine lv_aload_n hx hb dX10_lineOf_28 rfl (lv_at hl 0 rfl) ?_
      refine lv_lload_n hx hb dX10_lineOf_29 rfl (lv_at hl 2 rfl) ?_
      refine lv_iload hx hb dX10_lineOf_30 (lv_at hl 3 rfl) ?_
      obtain ⟨r4, M3, h2, hX⟩ := bp_of hX
      refine r_callV1 (v := .int (b2i r4)) (As := [.long a2, .int a3]) (rest := []) X hS (m_X10_coatLine hN h2) mv_X10_coatLine rfl (hN) t6_116 ⟨rfl, rfl, Nat.le_of_ble_eq_true rfl, Nat.le_of_ble_eq_true rfl⟩ rfl hl.1 rfl (Nat.le_of_ble_eq_true rfl) ⟨Nat.zero_le _, Nat.zero_le _⟩ dX10_lineOf_32 (fun H locs hS => ?_)
      obtain rfl := some_of hX
      exact x_Z (v := r4) X hS dX10_lineOf_35
    have hX := if_f c1 hX
    by_cases c5 : a1 = nI 1
    · have hX := if_t c5 hX
      refine r_tabIn c5 (off := 35) (tgt := 36) hx hb dX10_lineOf_1 (by decide) (by decide) (by decide) (by decide) ?_
      refine lv_aload_n hx hb dX10_lineOf_36 rfl (lv_at hl 0 rfl) ?_
      refine lv_lload_n hx hb dX10_lineOf_37 rfl (lv_at hl 2 rfl) ?_
      refine lv_iload hx hb dX10_lineOf_38 (lv_at hl 3 rfl) ?_
      obtain ⟨r8, M7, h6, hX⟩ := bp_of hX
      refine r_callV1 (v := .int (b2i r8)) (As := [.long a2, .int a3]) (rest := []) X hS (m_X10_lifeLine hN h6) mv_X10_lifeLine rfl (hN) t6_159 ⟨rfl, rfl, Nat.le_of_ble_eq_true rfl, Nat.le_of_ble_eq_true rfl⟩ rfl hl.1 rfl (Nat.le_of_ble_eq_true rfl) ⟨Nat.zero_le _, Nat.zero_le _⟩ dX10_lineOf_40 (fun H locs hS => ?_)
      obtain rfl := some_of hX
      exact x_Z (v := r8) X hS dX10_lineOf_43
    have hX := if_f c5 hX
    by_cases c9 : a1 = nI 2
    · have hX := if_t c9 hX
      refine r_tabIn c9 (off := 43) (tgt := 44) hx hb dX10_lineOf_1 (by decide) (by decide) (by decide) (by decide) ?_
      refine lv_aload_n hx hb dX10_lineOf_44 rfl (lv_at hl 0 rfl) ?_
      refine lv_lload_n hx hb dX10_lineOf_45 rfl (lv_at hl 2 rfl) ?_
      refine lv_iload hx hb dX10_lineOf_46 (lv_at hl 3 rfl) ?_
      obtain ⟨r12, M11, h10, hX⟩ := bp_of hX
      refine r_callV1 (v := .int (b2i r12)) (As := [.long a2, .int a3]) (rest := []) X hS (m_X10_townLine hN h10) mv_X10_townLine rfl (hN) t6_176 ⟨rfl, rfl, Nat.le_of_ble_eq_true rfl, Nat.le_of_ble_eq_true rfl⟩ rfl hl.1 rfl (Nat.le_of_ble_eq_true rfl) ⟨Nat.zero_le _, Nat.zero_le _⟩ dX10_lineOf_48 (fun H locs hS => ?_)
      obtain rfl := some_of hX
      exact x_Z (v := r12) X hS dX10_lineOf_51
    have hX := if_f c9 hX
    have ic1 : ¬ a1.toInt = 0 := lv_neT c1 rfl
    have ic5 : ¬ a1.toInt = 1 := lv_neT c5 rfl
    have ic9 : ¬ a1.toInt = 2 := lv_neT c9 rfl
    refine lv_tableOut (tgt := 52) hx hb dX10_lineOf_1 (by omega) (by decide) ?_
    refine lv_aload_n hx hb dX10_lineOf_52 rfl (lv_at hl 0 rfl) ?_
    refine lv_lload_n hx hb dX10_lineOf_53 rfl (lv_at hl 2 rfl) ?_
    refine lv_iload hx hb dX10_lineOf_54 (lv_at hl 3 rfl) ?_
    obtain ⟨r15, M14, h13, hX⟩ := bp_of hX
    refine r_callV1 (v := .int (b2i r15)) (As := [.long a2, .int a3]) (rest := []) X hS (m_X10_sightLine hN h13) mv_X10_sightLine rfl (hN) t6_193 ⟨rfl, rfl, Nat.le_of_ble_eq_true rfl, Nat.le_of_ble_eq_true rfl⟩ rfl hl.1 rfl (Nat.le_of_ble_eq_true rfl) ⟨Nat.zero_le _, Nat.zero_le _⟩ dX10_lineOf_56 (fun H locs hS => ?_)
    obtain rfl := some_of hX
    exact x_Z (v := r15) X hS dX10_lineOf_59
  rw [hH, hlo] at hgoal
  exact hgoal
theorem mv_X10_lineOf : Mv yX10_lineOf RX10 cX10_lineOf 5 ((some .boolean)) 3 := ⟨t6_115, t6_114, ts_13, t1_11, ⟨by decide, by decide⟩, by decide +kernel⟩
/-! SewnYearModel.lines(I)Z -/
def rm_X10_lines : Room := { frames := 7, cells := 0, slots := 0, locals := 161 }
def f_X10_lines_71 (a1 : Int32) (k_2 : Bool → Mem → Option (Bool × Mem)) (v_2 : Bool) (M : Mem) : Option (Bool × Mem) :=
  k_2 v_2 M
def f_X10_lines_63 (a1 : Int32) (k_2 : Bool → Mem → Option (Bool × Mem)) (v_2 : Bool) (M : Mem) : Option (Bool × Mem) :=
  if v_2 = true then (bn (f_X10_token M) fun M3 => f_X10_lines_71 a1 k_2 v_2 M3) else (f_X10_lines_71 a1 k_2 v_2 M)
def f_X10_lines_41 (a1 : Int32) (k_2 : Bool → Mem → Option (Bool × Mem)) (v_3 : Int32) (s_1 : Int32) (s_2 : Int64) (M : Mem) : Option (Bool × Mem) :=
  bp (f_X10_lineOf M s_1 s_2 v_3) fun r6 M5 => if r6 = true then (if (gI M5 100 13) = (nI 4) then (f_X10_lines_63 a1 k_2 r6 M5) else (bp (f_X10_fails M5) fun r11 M10 => f_X10_lines_63 a1 k_2 r11 M10)) else (f_X10_lines_63 a1 k_2 r6 M5)
def b_X10_lines_2 (a1 : Int32) (rc : Bool → Mem → Option (Bool × Mem)) (v_2 : Bool) (M : Mem) : Option (Bool × Mem) :=
  if v_2 = true then (if (gI M 100 13) = (nI 0) then (some (v_2, M)) else (nm (gI M 100 12) fun v14 => nm (sI M 100 22 (b2i true)) fun M15 => if (gI M15 100 13) = (nI 2) then (f_X10_lines_41 a1 rc v14 a1 (gL M15 100 15) M15) else (f_X10_lines_41 a1 rc v14 a1 (lN 0) M15))) else (some (v_2, M))
def f_X10_lines_2 (a1 : Int32) : Nat → (Bool × Mem) → Option (Bool × Mem) := lp (fun rc q => b_X10_lines_2 a1 (fun x0 x1 => rc (x0, x1)) q.1 q.2)
def f_X10_lines (M : Mem) (a1 : Int32) : Option (Bool × Mem) :=
  f_X10_lines_2 a1 FU (true, M)
set_option maxRecDepth 100000 in
set_option maxHeartbeats 4000000 in
theorem n_X10_lines_71 {a1 : Int32} (X : Cx p s m args meth c D cy ad A RX10 cX10_lines 4 ((some .boolean))) (hN : Ob ns 10 100) {k_2 : Bool → Mem → Option (Bool × Mem)} {v_2 : Bool} {M : Mem} {r : Bool × Mem} (hX : f_X10_lines_71 a1 k_2 v_2 M = some r) : (∀ (v_2 : Bool) (M : Mem) (r : Bool × Mem), k_2 v_2 M = some r → ∀ (ls : Array Slot) (H : Heap) (locs : List Loc), lv_has ls 4 [(0, .ref (ad 100 0)), (1, .int a1), (2, .int (b2i v_2))] → St D cy ad ns A M s.heap H locs → W p l e rm_X10_lines s m args below meth c H locs 0 0 (MQ below (QC D cy ad ns A r.2 (some (.int (b2i r.1)))) args s 0 0 A) (F0 m 2 ls [])) → ∀ (ls : Array Slot) (H : Heap) (locs : List Loc), lv_has ls 4 [(0, .ref (ad 100 0)), (1, .int a1), (2, .int (b2i v_2))] → St D cy ad ns A M s.heap H locs → W p l e rm_X10_lines s m args below meth c H locs 0 0 (MQ below (QC D cy ad ns A r.2 (some (.int (b2i r.1)))) args s 0 0 A) (F0 m 71 ls []) := by
  obtain ⟨hx, hb, hml, hown, hts, hK, hr, hlk, hA, hG⟩ := id X
  intro hk_2 ls H locs hl hS
  unfold f_X10_lines_71 at hX
  refine lv_goto (tgt := 2) hx hb dX10_lines_71 (by decide) ?_
  exact hk_2 _ _ _ hX _ _ _ (lv_sub hl [0, 1, 2] rfl) hS
set_option maxRecDepth 100000 in
set_option maxHeartbeats 4000000 in
theorem n_X10_lines_63 {a1 : Int32} (X : Cx p s m args meth c D cy ad A RX10 cX10_lines 4 ((some .boolean))) (hN : Ob ns 10 100) {k_2 : Bool → Mem → Option (Bool × Mem)} {v_2 : Bool} {M : Mem} {r : Bool × Mem} (hX : f_X10_lines_63 a1 k_2 v_2 M = some r) : (∀ (v_2 : Bool) (M : Mem) (r : Bool × Mem), k_2 v_2 M = some r → ∀ (ls : Array Slot) (H : Heap) (locs : List Loc), lv_has ls 4 [(0, .ref (ad 100 0)), (1, .int a1), (2, .int (b2i v_2))] → St D cy ad ns A M s.heap H locs → W p l e rm_X10_lines s m args below meth c H locs 0 0 (MQ below (QC D cy ad ns A r.2 (some (.int (b2i r.1)))) args s 0 0 A) (F0 m 2 ls [])) → ∀ (ls : Array Slot) (H : Heap) (locs : List Loc), lv_has ls 4 [(0, .ref (ad 100 0)), (1, .int a1), (2, .int (b2i v_2))] → St D cy ad ns A M s.heap H locs → W p l e rm_X10_lines s m args below meth c H locs 0 0 (MQ below (QC D cy ad ns A r.2 (some (.int (b2i r.1)))) args s 0 0 A) (F0 m 63 ls []) := by
  obtain ⟨hx, hb, hml, hown, hts, hK, hr, hlk, hA, hG⟩ := id X
  intro hk_2 ls H locs hl hS
  unfold f_X10_lines_63 at hX
  refine lv_iload_n hx hb dX10_lines_63 rfl (lv_at hl 2 rfl) ?_
  refine lv_if_eq (tgt := 71) hx hb dX10_lines_64 (by decide) (fun c1 => ?_) (fun c1 => ?_)
  · have hX := if_bf c1 hX
    exact n_X10_lines_71 X hN hX hk_2 _ _ _ (lv_sub hl [0, 1, 2] rfl) hS
  · have hX := if_bt c1 hX
    refine lv_aload_n hx hb dX10_lines_67 rfl (lv_at hl 0 rfl) ?_
    obtain ⟨M3, h2, hX⟩ := bn_of hX
    refine r_callV0 (As := []) (rest := []) X hS (m_X10_token hN h2) mv_X10_token rfl (hN) t6_100 ⟨rfl, rfl, Nat.le_of_ble_eq_true rfl, Nat.le_of_ble_eq_true rfl⟩ rfl hl.1 rfl (Nat.le_of_ble_eq_true rfl) ⟨Nat.zero_le _, Nat.zero_le _⟩ dX10_lines_68 (fun H locs hS => ?_)
    exact n_X10_lines_71 X hN hX hk_2 _ _ _ (lv_sub hl [0, 1, 2] rfl) hS
set_option maxRecDepth 100000 in
set_option maxHeartbeats 4000000 in
theorem n_X10_lines_41 {a1 : Int32} (X : Cx p s m args meth c D cy ad A RX10 cX10_lines 4 ((some .boolean))) (hN : Ob ns 10 100) {k_2 : Bool → Mem → Option (Bool × Mem)} {v_3 : Int32} {s_1 : Int32} {s_2 : Int64} {M : Mem} {r : Bool × Mem} (hX : f_X10_lines_41 a1 k_2 v_3 s_1 s_2 M = some r) : (∀ (v_2 : Bool) (M : Mem) (r : Bool × Mem), k_2 v_2 M = some r → ∀ (ls : Array Slot) (H : Heap) (locs : List Loc), lv_has ls 4 [(0, .ref (ad 100 0)), (1, .int a1), (2, .int (b2i v_2))] → St D cy ad ns A M s.heap H locs → W p l e rm_X10_lines s m args below meth c H locs 0 0 (MQ below (QC D cy ad ns A r.2 (some (.int (b2i r.1)))) args s 0 0 A) (F0 m 2 ls [])) → ∀ (ls : Array Slot) (H : Heap) (locs : List Loc), lv_has ls 4 [(0, .ref (ad 100 0)), (1, .int a1), (3, .int v_3)] → St D cy ad ns A M s.heap H locs → W p l e rm_X10_lines s m args below meth c H locs 0 0 (MQ below (QC D cy ad ns A r.2 (some (.int (b2i r.1)))) args s 0 0 A) (F0 m 41 ls [.long s_2, .int s_1, .ref (ad 100 0)]) := by
  obtain ⟨hx, hb, hml, hown, hts, hK, hr, hlk, hA, hG⟩ := id X
  intro hk_2 ls H locs hl hS
  unfold f_X10_lines_41 at hX
  refine lv_iload_n hx hb dX10_lines_41 rfl (lv_at hl 2 rfl) ?_
  obtain ⟨r6, M5, h4, hX⟩ := bp_of hX
  refine r_callV1 (v := .int (b2i r6)) (As := [.int s_1, .long s_2, .int v_3]) (rest := []) X hS (m_X10_lineOf hN h4) mv_X10_lineOf rfl (hN) t6_112 ⟨rfl, rfl, Nat.le_of_ble_eq_true rfl, Nat.le_of_ble_eq_true rfl⟩ rfl hl.1 rfl (Nat.le_of_ble_eq_true rfl) ⟨Nat.zero_le _, Nat.zero_le _⟩ dX10_lines_42 (fun H locs hS => ?_)
  refine lv_istore_n (lv' := [(2, .int (b2i r6)), (0, .ref (ad 100 0)), (1, .int a1), (3, .int v_3)]) hx hb dX10_lines_45 rfl hl (by decide) rfl (fun ls hl => ?_)
  refine lv_iload_n hx hb dX10_lines_46 rfl (lv_at hl 0 rfl) ?_
  refine lv_if_eq (tgt := 63) hx hb dX10_lines_47 (by decide) (fun c7 => ?_) (fun c7 => ?_)
  · have hX := if_bf c7 hX
    exact n_X10_lines_63 X hN hX hk_2 _ _ _ (lv_sub hl [1, 2, 0] rfl) hS
  · have hX := if_bt c7 hX
    refine lv_aload_n hx hb dX10_lines_50 rfl (lv_at hl 1 rfl) ?_
    refine fg_X10_131 X hS (hN) dX10_lines_51 ?_
    refine lv_iconst (v := nI 4) hx hb dX10_lines_54 (by decide) ?_
    refine lv_icmp_eq (tgt := 63) hx hb dX10_lines_55 (by decide) (fun c8 => ?_) (fun c8 => ?_)
    · have hX := if_t c8 hX
      exact n_X10_lines_63 X hN hX hk_2 _ _ _ (lv_sub hl [1, 2, 0] rfl) hS
    · have hX := if_f c8 hX
      refine lv_aload_n hx hb dX10_lines_58 rfl (lv_at hl 1 rfl) ?_
      obtain ⟨r11, M10, h9, hX⟩ := bp_of hX
      refine r_callV1 (v := .int (b2i r11)) (As := []) (rest := []) X hS (m_X10_fails hN h9) mv_X10_fails rfl (hN) t6_124 ⟨rfl, rfl, Nat.le_of_ble_eq_true rfl, Nat.le_of_ble_eq_true rfl⟩ rfl hl.1 rfl (Nat.le_of_ble_eq_true rfl) ⟨Nat.zero_le _, Nat.zero_le _⟩ dX10_lines_59 (fun H locs hS => ?_)
      refine lv_istore_n (lv' := [(2, .int (b2i r11)), (0, .ref (ad 100 0)), (1, .int a1), (3, .int v_3)]) hx hb dX10_lines_62 rfl hl (by decide) rfl (fun ls hl => ?_)
      exact n_X10_lines_63 X hN hX hk_2 _ _ _ (lv_sub hl [1, 2, 0] rfl) hS
set_option maxRecDepth 100000 in
set_option maxHeartbeats 4000000 in
theorem n_X10_lines_2 {a1 : Int32} (X : Cx p s m args meth c D cy ad A RX10 cX10_lines 4 ((some .boolean))) (hN : Ob ns 10 100) : ∀ (n : Nat) (v_2 : Bool) (M : Mem) (r : Bool × Mem), f_X10_lines_2 a1 n (v_2, M) = some r → ∀ (ls : Array Slot) (H : Heap) (locs : List Loc), lv_has ls 4 [(0, .ref (ad 100 0)), (1, .int a1), (2, .int (b2i v_2))] → St D cy ad ns A M s.heap H locs → W p l e rm_X10_lines s m args below meth c H locs 0 0 (MQ below (QC D cy ad ns A r.2 (some (.int (b2i r.1)))) args s 0 0 A) (F0 m 2 ls []) := by
  obtain ⟨hx, hb, hml, hown, hts, hK, hr, hlk, hA, hG⟩ := id X
  intro n
  induction n with
  | zero => intro v_2 M r hX; cases (show (none : Option (Bool × Mem)) = some r from hX)
  | succ n ih =>
    intro v_2 M r hX ls H locs hl hS
    have hX : b_X10_lines_2 a1 (fun x0 x1 => f_X10_lines_2 a1 n (x0, x1)) v_2 M = some r := hX
    unfold b_X10_lines_2 at hX
    refine lv_iload_n hx hb dX10_lines_2 rfl (lv_at hl 2 rfl) ?_
    refine lv_if_eq (tgt := 74) hx hb dX10_lines_3 (by decide) (fun c12 => ?_) (fun c12 => ?_)
    · have hX := if_bf c12 hX
      refine lv_iload_n hx hb dX10_lines_74 rfl (lv_at hl 2 rfl) ?_
      obtain rfl := some_of hX
      exact x_Z (v := v_2) X hS dX10_lines_75
    · have hX := if_bt c12 hX
      refine lv_aload_n hx hb dX10_lines_6 rfl (lv_at hl 0 rfl) ?_
      refine fg_X10_131 X hS (hN) dX10_lines_7 ?_
      refine lv_if_eq (tgt := 74) hx hb dX10_lines_10 (by decide) (fun c13 => ?_) (fun c13 => ?_)
      · have hX := if_t c13 hX
        refine lv_iload_n hx hb dX10_lines_74 rfl (lv_at hl 2 rfl) ?_
        obtain rfl := some_of hX
        exact x_Z (v := v_2) X hS dX10_lines_75
      · have hX := if_f c13 hX
        refine lv_aload_n hx hb dX10_lines_13 rfl (lv_at hl 0 rfl) ?_
        refine fg_X10_124 X hS (hN) dX10_lines_14 ?_
        refine lv_topi (fun v14 ev14 => ?_)
        have hX := nm_of ev14 hX
        refine lv_istore_n (lv' := [(3, .int v14), (0, .ref (ad 100 0)), (1, .int a1), (2, .int (b2i v_2))]) hx hb dX10_lines_17 rfl hl (by decide) rfl (fun ls hl => ?_)
        refine lv_aload_n hx hb dX10_lines_18 rfl (lv_at hl 1 rfl) ?_
        refine lv_iconst (v := nI 1) hx hb dX10_lines_19 (by decide) ?_
        refine fp_X10_154 (v := true) X hS (hN) dX10_lines_20 (fun H locs hS => ?_)
        obtain ⟨M15, eM15, hS, hX⟩ := nm_mem hS hX
        refine lv_aload_n hx hb dX10_lines_23 rfl (lv_at hl 1 rfl) ?_
        refine lv_iload_n hx hb dX10_lines_24 rfl (lv_at hl 2 rfl) ?_
        refine lv_aload_n hx hb dX10_lines_25 rfl (lv_at hl 1 rfl) ?_
        refine fg_X10_131 X hS (hN) dX10_lines_26 ?_
        refine lv_iconst (v := nI 2) hx hb dX10_lines_29 (by decide) ?_
        refine lv_icmp_ne (tgt := 40) hx hb dX10_lines_30 (by decide) (fun c16 => ?_) (fun c16 => ?_)
        · have hX := if_f c16 hX
          refine lv_lconst (v := lN 0) hx hb dX10_lines_40 (by decide) ?_
          exact n_X10_lines_41 X hN hX (fun z0 z1 r h ls H locs hl hS => ih z0 z1 r h ls H locs hl hS) _ _ _ (lv_sub hl [1, 2, 0] rfl) hS
        · have hX := if_t c16 hX
          refine lv_aload_n hx hb dX10_lines_33 rfl (lv_at hl 1 rfl) ?_
          refine fg_X10_127 X hS (hN) dX10_lines_34 ?_
          refine lv_goto (tgt := 41) hx hb dX10_lines_37 (by decide) ?_
          exact n_X10_lines_41 X hN hX (fun z0 z1 r h ls H locs hl hS => ih z0 z1 r h ls H locs hl hS) _ _ _ (lv_sub hl [1, 2, 0] rfl) hS
set_option maxRecDepth 100000 in
set_option maxHeartbeats 4000000 in
theorem m_X10_lines {l : Launch} {D : va_G} {cy : Nat → ClassId} {ad : Nat → Nat → Nat} {ns : List (Nat × Nat)} {A : Nat → Prop} {M : Mem} (hN : Ob ns 10 100) {a1 : Int32} {r : Bool × Mem} (hX : f_X10_lines M a1 = some r) : Ct l yX10_lines cX10_lines 4 ((some .boolean)) rm_X10_lines D cy ad ns A [.ref (ad 100 0), .int a1] M r.2 (some (.int (b2i r.1))) := by
  refine ct_of (lv := [(0, .ref (ad 100 0)), (1, .int a1)]) (by decide) (Nat.le_of_ble_eq_true rfl) rfl ?_
  intro p e s m args below meth c ls X hl hS
  obtain ⟨hx, hb, hml, hown, hts, hK, hr, hlk, hA, hG⟩ := id X
  obtain ⟨H, hH⟩ : ∃ z, z = s.heap := ⟨_, rfl⟩
  obtain ⟨locs, hlo⟩ : ∃ z : List Loc, z = [] := ⟨_, rfl⟩
  have hS : St D cy ad ns A M s.heap H locs := by rw [hH, hlo]; exact hS
  have hgoal : W p l e rm_X10_lines s m args below meth c H locs 0 0 (MQ below (QC D cy ad ns A r.2 (some (.int (b2i r.1)))) args s 0 0 A) (F0 m 0 ls []) := by
    unfold f_X10_lines at hX
    refine lv_iconst (v := nI 1) hx hb dX10_lines_0 (by decide) ?_
    refine lv_istore_n (lv' := [(2, .int (nI 1)), (0, .ref (ad 100 0)), (1, .int a1)]) hx hb dX10_lines_1 rfl hl (by decide) rfl (fun ls hl => ?_)
    exact n_X10_lines_2 X hN _ _ _ _ hX _ _ _ (lv_sub hl [1, 2, 0] rfl) hS
  rw [hH, hlo] at hgoal
  exact hgoal
theorem mv_X10_lines : Mv yX10_lines RX10 cX10_lines 4 ((some .boolean)) 1 := ⟨t6_111, t6_110, ts_12, t1_11, ⟨by decide, by decide⟩, by decide +kernel⟩
/-! SewnYearModel.blank(I)V -/
def rm_X10_blank : Room := { frames := 1, cells := 0, slots := 0, locals := 22 }
def f_X10_blank_34 (a1 : Int32) (k_35 : Int32 → Int32 → Int32 → Mem → Option (Mem)) (v_2 : Int32) (s_1 : Int32) (M : Mem) : Option (Mem) :=
  k_35 v_2 s_1 (nI 0) M
def f_X10_blank_35 (a1 : Int32) (k_2 : Int32 → Mem → Option (Mem)) (v_2 : Int32) (s_1 : Int32) (s_2 : Int32) (M : Mem) : Option (Mem) :=
  gin s_1 138 <| nm (sA M 100 19 (ix s_1) s_2) fun M2 => nm (v_2 + nI 1) fun v3 => k_2 v3 M2
def f_X10_blank_53 (a1 : Int32) (M : Mem) : Option (Mem) :=
  if a1 = (nI 2) then (gin (nI 1) 138 <| nm (sA M 100 19 (ix (nI 1)) (nI 3)) fun M6 => gin (nI 2) 138 <| nm (sA M6 100 19 (ix (nI 2)) (nI 2)) fun M8 => some M8) else (some M)
def b_X10_blank_2 (a1 : Int32) (rc : Int32 → Mem → Option (Mem)) (v_2 : Int32) (M : Mem) : Option (Mem) :=
  if (nI 138) ≤ v_2 then (if a1 = (nI 0) then (gin (nI 1) 138 <| nm (sA M 100 19 (ix (nI 1)) (nI 1)) fun M12 => f_X10_blank_53 a1 M12) else (f_X10_blank_53 a1 M)) else (if a1 = (nI 2) then (bn (f_X10_in v_2 (nI 29) (nI 40)) fun r15 => if r15 = true then (f_X10_blank_35 a1 rc v_2 v_2 (-1) M) else (f_X10_blank_34 a1 (fun x0 x1 x2 y => f_X10_blank_35 a1 rc x0 x1 x2 y) v_2 v_2 M)) else (f_X10_blank_34 a1 (fun x0 x1 x2 y => f_X10_blank_35 a1 rc x0 x1 x2 y) v_2 v_2 M))
def f_X10_blank_2 (a1 : Int32) : Nat → (Int32 × Mem) → Option (Mem) := lp (fun rc q => b_X10_blank_2 a1 (fun x0 x1 => rc (x0, x1)) q.1 q.2)
def f_X10_blank (M : Mem) (a1 : Int32) : Option (Mem) :=
  f_X10_blank_2 a1 FU ((nI 0), M)
set_option maxRecDepth 100000 in
set_option maxHeartbeats 4000000 in
theorem n_X10_blank_34 {a1 : Int32} (X : Cx p s m args meth c D cy ad A RX10 cX10_blank 3 ((none : Option Jvm.ClassFile.FieldType))) (hN : Ob ns 10 100) {k_35 : Int32 → Int32 → Int32 → Mem → Option (Mem)} {v_2 : Int32} {s_1 : Int32} {M : Mem} {r : Mem} (hX : f_X10_blank_34 a1 k_35 v_2 s_1 M = some r) : (∀ (v_2 : Int32) (s_1 : Int32) (s_2 : Int32) (M : Mem) (r : Mem), k_35 v_2 s_1 s_2 M = some r → ∀ (ls : Array Slot) (H : Heap) (locs : List Loc), lv_has ls 3 [(0, .ref (ad 100 0)), (1, .int a1), (2, .int v_2)] → St D cy ad ns A M s.heap H locs → W p l e rm_X10_blank s m args below meth c H locs 0 0 (MQ below (QC D cy ad ns A r none) args s 0 0 A) (F0 m 35 ls [.int s_2, .int s_1, .ref (ad 100 (19 + 1))])) → ∀ (ls : Array Slot) (H : Heap) (locs : List Loc), lv_has ls 3 [(0, .ref (ad 100 0)), (1, .int a1), (2, .int v_2)] → St D cy ad ns A M s.heap H locs → W p l e rm_X10_blank s m args below meth c H locs 0 0 (MQ below (QC D cy ad ns A r none) args s 0 0 A) (F0 m 34 ls [.int s_1, .ref (ad 100 (19 + 1))]) := by
  obtain ⟨hx, hb, hml, hown, hts, hK, hr, hlk, hA, hG⟩ := id X
  intro hk_35 ls H locs hl hS
  unfold f_X10_blank_34 at hX
  refine lv_iconst (v := nI 0) hx hb dX10_blank_34 (by decide) ?_
  exact hk_35 _ _ _ _ _ hX _ _ _ (lv_sub hl [0, 1, 2] rfl) hS
set_option maxRecDepth 100000 in
set_option maxHeartbeats 4000000 in
theorem n_X10_blank_35 {a1 : Int32} (X : Cx p s m args meth c D cy ad A RX10 cX10_blank 3 ((none : Option Jvm.ClassFile.FieldType))) (hN : Ob ns 10 100) {k_2 : Int32 → Mem → Option (Mem)} {v_2 : Int32} {s_1 : Int32} {s_2 : Int32} {M : Mem} {r : Mem} (hX : f_X10_blank_35 a1 k_2 v_2 s_1 s_2 M = some r) : (∀ (v_2 : Int32) (M : Mem) (r : Mem), k_2 v_2 M = some r → ∀ (ls : Array Slot) (H : Heap) (locs : List Loc), lv_has ls 3 [(0, .ref (ad 100 0)), (1, .int a1), (2, .int v_2)] → St D cy ad ns A M s.heap H locs → W p l e rm_X10_blank s m args below meth c H locs 0 0 (MQ below (QC D cy ad ns A r none) args s 0 0 A) (F0 m 2 ls [])) → ∀ (ls : Array Slot) (H : Heap) (locs : List Loc), lv_has ls 3 [(0, .ref (ad 100 0)), (1, .int a1), (2, .int v_2)] → St D cy ad ns A M s.heap H locs → W p l e rm_X10_blank s m args below meth c H locs 0 0 (MQ below (QC D cy ad ns A r none) args s 0 0 A) (F0 m 35 ls [.int s_2, .int s_1, .ref (ad 100 (19 + 1))]) := by
  obtain ⟨hx, hb, hml, hown, hts, hK, hr, hlk, hA, hG⟩ := id X
  intro hk_2 ls H locs hl hS
  unfold f_X10_blank_35 at hX
  obtain ⟨g1, hX⟩ := gin_of hX
  refine r_iast (ci := 10) (o := 100) (k := 19) (n := 138) X hS (hN) rfl rfl g1 dX10_blank_35 (fun H locs hS => ?_)
  obtain ⟨M2, eM2, hS, hX⟩ := nm_mem hS hX
  obtain ⟨v3, ev3⟩ : ∃ y : Int32, y = (v_2 + nI 1) := ⟨_, rfl⟩
  have hX := nm_of ev3 hX
  refine lv_iinc (v := v3) (lv' := [(2, .int v3), (0, .ref (ad 100 0)), (1, .int a1)]) hx hb dX10_blank_36 hl (k := 2) rfl (by rw [ev3]; rfl) (by decide) rfl (fun ls hl => ?_)
  refine lv_goto (tgt := 2) hx hb dX10_blank_39 (by decide) ?_
  exact hk_2 _ _ _ hX _ _ _ (lv_sub hl [1, 2, 0] rfl) hS
set_option maxRecDepth 100000 in
set_option maxHeartbeats 4000000 in
theorem n_X10_blank_53 {a1 : Int32} (X : Cx p s m args meth c D cy ad A RX10 cX10_blank 3 ((none : Option Jvm.ClassFile.FieldType))) (hN : Ob ns 10 100) {M : Mem} {r : Mem} (hX : f_X10_blank_53 a1 M = some r) : ∀ (ls : Array Slot) (H : Heap) (locs : List Loc), lv_has ls 3 [(0, .ref (ad 100 0)), (1, .int a1)] → St D cy ad ns A M s.heap H locs → W p l e rm_X10_blank s m args below meth c H locs 0 0 (MQ below (QC D cy ad ns A r none) args s 0 0 A) (F0 m 53 ls []) := by
  obtain ⟨hx, hb, hml, hown, hts, hK, hr, hlk, hA, hG⟩ := id X
  intro ls H locs hl hS
  unfold f_X10_blank_53 at hX
  refine lv_iload_n hx hb dX10_blank_53 rfl (lv_at hl 1 rfl) ?_
  refine lv_iconst (v := nI 2) hx hb dX10_blank_54 (by decide) ?_
  refine lv_icmp_ne (tgt := 72) hx hb dX10_blank_55 (by decide) (fun c4 => ?_) (fun c4 => ?_)
  · have hX := if_f c4 hX
    obtain rfl := some_of hX
    exact x_V X hS dX10_blank_72
  · have hX := if_t c4 hX
    refine lv_aload_n hx hb dX10_blank_58 rfl (lv_at hl 0 rfl) ?_
    refine fg_X10_38 X hS (hN) dX10_blank_59 ?_
    refine lv_iconst (v := nI 1) hx hb dX10_blank_62 (by decide) ?_
    refine lv_iconst (v := nI 3) hx hb dX10_blank_63 (by decide) ?_
    obtain ⟨g5, hX⟩ := gin_of hX
    refine r_iast (ci := 10) (o := 100) (k := 19) (n := 138) X hS (hN) rfl rfl g5 dX10_blank_64 (fun H locs hS => ?_)
    obtain ⟨M6, eM6, hS, hX⟩ := nm_mem hS hX
    refine lv_aload_n hx hb dX10_blank_65 rfl (lv_at hl 0 rfl) ?_
    refine fg_X10_38 X hS (hN) dX10_blank_66 ?_
    refine lv_iconst (v := nI 2) hx hb dX10_blank_69 (by decide) ?_
    refine lv_iconst (v := nI 2) hx hb dX10_blank_70 (by decide) ?_
    obtain ⟨g7, hX⟩ := gin_of hX
    refine r_iast (ci := 10) (o := 100) (k := 19) (n := 138) X hS (hN) rfl rfl g7 dX10_blank_71 (fun H locs hS => ?_)
    obtain ⟨M8, eM8, hS, hX⟩ := nm_mem hS hX
    obtain rfl := some_of hX
    exact x_V X hS dX10_blank_72
set_option maxRecDepth 100000 in
set_option maxHeartbeats 4000000 in
theorem n_X10_blank_2 {a1 : Int32} (X : Cx p s m args meth c D cy ad A RX10 cX10_blank 3 ((none : Option Jvm.ClassFile.FieldType))) (hN : Ob ns 10 100) : ∀ (n : Nat) (v_2 : Int32) (M : Mem) (r : Mem), f_X10_blank_2 a1 n (v_2, M) = some r → ∀ (ls : Array Slot) (H : Heap) (locs : List Loc), lv_has ls 3 [(0, .ref (ad 100 0)), (1, .int a1), (2, .int v_2)] → St D cy ad ns A M s.heap H locs → W p l e rm_X10_blank s m args below meth c H locs 0 0 (MQ below (QC D cy ad ns A r none) args s 0 0 A) (F0 m 2 ls []) := by
  obtain ⟨hx, hb, hml, hown, hts, hK, hr, hlk, hA, hG⟩ := id X
  intro n
  induction n with
  | zero => intro v_2 M r hX; cases (show (none : Option (Mem)) = some r from hX)
  | succ n ih =>
    intro v_2 M r hX ls H locs hl hS
    have hX : b_X10_blank_2 a1 (fun x0 x1 => f_X10_blank_2 a1 n (x0, x1)) v_2 M = some r := hX
    unfold b_X10_blank_2 at hX
    refine lv_iload_n hx hb dX10_blank_2 rfl (lv_at hl 2 rfl) ?_
    refine lv_sipush (v := nI 138) hx hb dX10_blank_3 (by decide) ?_
    refine lv_icmp_ge (tgt := 42) hx hb dX10_blank_6 (by decide) (fun c9 => ?_) (fun c9 => ?_)
    · have hX := if_t c9 hX
      refine lv_iload_n hx hb dX10_blank_42 rfl (lv_at hl 1 rfl) ?_
      refine lv_if_ne (tgt := 53) hx hb dX10_blank_43 (by decide) (fun c10 => ?_) (fun c10 => ?_)
      · have hX := if_f c10 hX
        exact n_X10_blank_53 X hN hX _ _ _ (lv_sub hl [0, 1] rfl) hS
      · have hX := if_t c10 hX
        refine lv_aload_n hx hb dX10_blank_46 rfl (lv_at hl 0 rfl) ?_
        refine fg_X10_38 X hS (hN) dX10_blank_47 ?_
        refine lv_iconst (v := nI 1) hx hb dX10_blank_50 (by decide) ?_
        refine lv_iconst (v := nI 1) hx hb dX10_blank_51 (by decide) ?_
        obtain ⟨g11, hX⟩ := gin_of hX
        refine r_iast (ci := 10) (o := 100) (k := 19) (n := 138) X hS (hN) rfl rfl g11 dX10_blank_52 (fun H locs hS => ?_)
        obtain ⟨M12, eM12, hS, hX⟩ := nm_mem hS hX
        exact n_X10_blank_53 X hN hX _ _ _ (lv_sub hl [0, 1] rfl) hS
    · have hX := if_f c9 hX
      refine lv_aload_n hx hb dX10_blank_9 rfl (lv_at hl 0 rfl) ?_
      refine fg_X10_38 X hS (hN) dX10_blank_10 ?_
      refine lv_iload_n hx hb dX10_blank_13 rfl (lv_at hl 2 rfl) ?_
      refine lv_iload_n hx hb dX10_blank_14 rfl (lv_at hl 1 rfl) ?_
      refine lv_iconst (v := nI 2) hx hb dX10_blank_15 (by decide) ?_
      refine lv_icmp_ne (tgt := 34) hx hb dX10_blank_16 (by decide) (fun c13 => ?_) (fun c13 => ?_)
      · have hX := if_f c13 hX
        exact n_X10_blank_34 X hN hX (fun z0 z1 z2 z3 r h ls H locs hl hS => n_X10_blank_35 X hN h (fun z0 z1 r h ls H locs hl hS => ih z0 z1 r h ls H locs hl hS) _ _ _ hl hS) _ _ _ (lv_sub hl [0, 1, 2] rfl) hS
      · have hX := if_t c13 hX
        refine lv_iload_n hx hb dX10_blank_19 rfl (lv_at hl 2 rfl) ?_
        refine lv_bipush (v := nI 29) hx hb dX10_blank_20 (by decide) ?_
        refine lv_bipush (v := nI 40) hx hb dX10_blank_22 (by decide) ?_
        obtain ⟨r15, h14, hX⟩ := bn_of hX
        refine r_callS1 (v := .int (b2i r15)) (As := [.int v_2, .int (nI 29), .int (nI 40)]) (rest := [.int v_2, .ref (ad 100 (19 + 1))]) X hS (m_X10_in (M := M) hN h14) ms_X10_in t6_81 ⟨rfl, rfl, Nat.le_of_ble_eq_true rfl, Nat.le_of_ble_eq_true rfl⟩ rfl hl.1 rfl (Nat.le_of_ble_eq_true rfl) ⟨Nat.zero_le _, Nat.zero_le _⟩ dX10_blank_24 (fun H locs hS => ?_)
        refine lv_if_eq (tgt := 34) hx hb dX10_blank_27 (by decide) (fun c16 => ?_) (fun c16 => ?_)
        · have hX := if_bf c16 hX
          exact n_X10_blank_34 X hN hX (fun z0 z1 z2 z3 r h ls H locs hl hS => n_X10_blank_35 X hN h (fun z0 z1 r h ls H locs hl hS => ih z0 z1 r h ls H locs hl hS) _ _ _ hl hS) _ _ _ (lv_sub hl [0, 1, 2] rfl) hS
        · have hX := if_bt c16 hX
          refine lv_iconst (v := (-1)) hx hb dX10_blank_30 (by decide) ?_
          refine lv_goto (tgt := 35) hx hb dX10_blank_31 (by decide) ?_
          exact n_X10_blank_35 X hN hX (fun z0 z1 r h ls H locs hl hS => ih z0 z1 r h ls H locs hl hS) _ _ _ (lv_sub hl [0, 1, 2] rfl) hS
set_option maxRecDepth 100000 in
set_option maxHeartbeats 4000000 in
theorem m_X10_blank {l : Launch} {D : va_G} {cy : Nat → ClassId} {ad : Nat → Nat → Nat} {ns : List (Nat × Nat)} {A : Nat → Prop} {M : Mem} (hN : Ob ns 10 100) {a1 : Int32} {r : Mem} (hX : f_X10_blank M a1 = some r) : Ct l yX10_blank cX10_blank 3 ((none : Option Jvm.ClassFile.FieldType)) rm_X10_blank D cy ad ns A [.ref (ad 100 0), .int a1] M r none := by
  refine ct_of (lv := [(0, .ref (ad 100 0)), (1, .int a1)]) (by decide) (Nat.le_of_ble_eq_true rfl) rfl ?_
  intro p e s m args below meth c ls X hl hS
  obtain ⟨hx, hb, hml, hown, hts, hK, hr, hlk, hA, hG⟩ := id X
  obtain ⟨H, hH⟩ : ∃ z, z = s.heap := ⟨_, rfl⟩
  obtain ⟨locs, hlo⟩ : ∃ z : List Loc, z = [] := ⟨_, rfl⟩
  have hS : St D cy ad ns A M s.heap H locs := by rw [hH, hlo]; exact hS
  have hgoal : W p l e rm_X10_blank s m args below meth c H locs 0 0 (MQ below (QC D cy ad ns A r none) args s 0 0 A) (F0 m 0 ls []) := by
    unfold f_X10_blank at hX
    refine lv_iconst (v := nI 0) hx hb dX10_blank_0 (by decide) ?_
    refine lv_istore_n (lv' := [(2, .int (nI 0)), (0, .ref (ad 100 0)), (1, .int a1)]) hx hb dX10_blank_1 rfl hl (by decide) rfl (fun ls hl => ?_)
    exact n_X10_blank_2 X hN _ _ _ _ hX _ _ _ (lv_sub hl [1, 2, 0] rfl) hS
  rw [hH, hlo] at hgoal
  exact hgoal
theorem mv_X10_blank : Mv yX10_blank RX10 cX10_blank 3 ((none : Option Jvm.ClassFile.FieldType)) 1 := ⟨t6_99, t6_98, ts_9, t1_11, ⟨by decide, by decide⟩, by decide +kernel⟩
/-! SewnYearModel.readText(I)Z -/
def rm_X10_readText : Room := { frames := 8, cells := 0, slots := 0, locals := 184 }
def f_X10_readText_121 (a1 : Int32) (s_1 : Bool) (s_2 : Int32) (M : Mem) : Option (Bool × Mem) :=
  gin (b2i s_1) 4 <| nm (sA M 100 4 (ix (b2i s_1)) s_2) fun M2 => gin (nI 0) 4 <| if (gA M2 100 3 (ix (nI 0))) = (nI 0) then (some (true, M2)) else (some (false, M2))
def f_X10_readText_89 (a1 : Int32) (v_2 : Bool) (s_1 : Bool) (s_2 : Int32) (M : Mem) : Option (Bool × Mem) :=
  gin (b2i s_1) 4 <| nm (sA M 100 3 (ix (b2i s_1)) s_2) fun M6 => if v_2 = true then (if (gI M6 100 17) ≤ (nI 0) then (f_X10_readText_121 a1 false (-1) M6) else (f_X10_readText_121 a1 false (gI M6 100 18) M6)) else (f_X10_readText_121 a1 false (gI M6 100 16) M6)
def f_X10_readText_50 (a1 : Int32) (k_72 : Bool → Mem → Option (Bool × Mem)) (v_2 : Bool) (M : Mem) : Option (Bool × Mem) :=
  gin (nI 0) 138 <| if (gI M 100 21) < (gA M 100 19 (ix (nI 0))) then (k_72 v_2 M) else (bn (f_X10_later M (nI 4) (gI M 100 12)) fun M12 => k_72 v_2 M12)
def f_X10_readText_72 (a1 : Int32) (v_2 : Bool) (M : Mem) : Option (Bool × Mem) :=
  if v_2 = true then (f_X10_readText_89 a1 v_2 false (gI M 100 17) M) else (f_X10_readText_89 a1 v_2 false (nI 1) M)
def f_X10_readText (M : Mem) (a1 : Int32) : Option (Bool × Mem) :=
  bn (f_X10_blank M a1) fun M15 => nm (sI M15 100 21 (-1)) fun M16 => nm (sI M16 100 10 (nI 0)) fun M17 => nm (sI M17 100 17 (nI 0)) fun M18 => bn (f_X10_token M18) fun M20 => bp (f_X10_lines M20 a1) fun r23 M22 => if r23 = true then (if (gI M22 100 17) = (nI 0) then (if a1 = (nI 0) then (f_X10_readText_50 a1 (fun x0 y => f_X10_readText_72 a1 x0 y) r23 M22) else (if a1 = (nI 2) then (f_X10_readText_50 a1 (fun x0 y => f_X10_readText_72 a1 x0 y) r23 M22) else (f_X10_readText_72 a1 r23 M22))) else (f_X10_readText_72 a1 r23 M22)) else (f_X10_readText_72 a1 r23 M22)
set_option maxRecDepth 100000 in
set_option maxHeartbeats 4000000 in
theorem n_X10_readText_121 {a1 : Int32} (X : Cx p s m args meth c D cy ad A RX10 cX10_readText 3 ((some .boolean))) (hN : Ob ns 10 100) {s_1 : Bool} {s_2 : Int32} {M : Mem} {r : Bool × Mem} (hX : f_X10_readText_121 a1 s_1 s_2 M = some r) : ∀ (ls : Array Slot) (H : Heap) (locs : List Loc), lv_has ls 3 [(0, .ref (ad 100 0))] → St D cy ad ns A M s.heap H locs → W p l e rm_X10_readText s m args below meth c H locs 0 0 (MQ below (QC D cy ad ns A r.2 (some (.int (b2i r.1)))) args s 0 0 A) (F0 m 121 ls [.int s_2, .int (b2i s_1), .ref (ad 100 (4 + 1))]) := by
  obtain ⟨hx, hb, hml, hown, hts, hK, hr, hlk, hA, hG⟩ := id X
  intro ls H locs hl hS
  unfold f_X10_readText_121 at hX
  obtain ⟨g1, hX⟩ := gin_of hX
  refine r_iast (ci := 10) (o := 100) (k := 4) (n := 4) X hS (hN) rfl rfl g1 dX10_readText_121 (fun H locs hS => ?_)
  obtain ⟨M2, eM2, hS, hX⟩ := nm_mem hS hX
  refine lv_aload_n hx hb dX10_readText_122 rfl (lv_at hl 0 rfl) ?_
  refine fg_X10_17 X hS (hN) dX10_readText_123 ?_
  refine lv_iconst (v := nI 0) hx hb dX10_readText_126 (by decide) ?_
  obtain ⟨g3, hX⟩ := gin_of hX
  refine r_iald (ci := 10) (o := 100) (k := 3) (n := 4) X hS (hN) rfl rfl g3 dX10_readText_127 ?_
  refine lv_if_ne (tgt := 135) hx hb dX10_readText_128 (by decide) (fun c4 => ?_) (fun c4 => ?_)
  · have hX := if_f c4 hX
    refine lv_iconst (v := nI 0) hx hb dX10_readText_135 (by decide) ?_
    obtain rfl := some_of hX
    exact x_Z (v := false) X hS dX10_readText_136
  · have hX := if_t c4 hX
    refine lv_iconst (v := nI 1) hx hb dX10_readText_131 (by decide) ?_
    refine lv_goto (tgt := 136) hx hb dX10_readText_132 (by decide) ?_
    obtain rfl := some_of hX
    exact x_Z (v := true) X hS dX10_readText_136
set_option maxRecDepth 100000 in
set_option maxHeartbeats 4000000 in
theorem n_X10_readText_89 {a1 : Int32} (X : Cx p s m args meth c D cy ad A RX10 cX10_readText 3 ((some .boolean))) (hN : Ob ns 10 100) {v_2 : Bool} {s_1 : Bool} {s_2 : Int32} {M : Mem} {r : Bool × Mem} (hX : f_X10_readText_89 a1 v_2 s_1 s_2 M = some r) : ∀ (ls : Array Slot) (H : Heap) (locs : List Loc), lv_has ls 3 [(0, .ref (ad 100 0)), (2, .int (b2i v_2))] → St D cy ad ns A M s.heap H locs → W p l e rm_X10_readText s m args below meth c H locs 0 0 (MQ below (QC D cy ad ns A r.2 (some (.int (b2i r.1)))) args s 0 0 A) (F0 m 89 ls [.int s_2, .int (b2i s_1), .ref (ad 100 (3 + 1))]) := by
  obtain ⟨hx, hb, hml, hown, hts, hK, hr, hlk, hA, hG⟩ := id X
  intro ls H locs hl hS
  unfold f_X10_readText_89 at hX
  obtain ⟨g5, hX⟩ := gin_of hX
  refine r_iast (ci := 10) (o := 100) (k := 3) (n := 4) X hS (hN) rfl rfl g5 dX10_readText_89 (fun H locs hS => ?_)
  obtain ⟨M6, eM6, hS, hX⟩ := nm_mem hS hX
  refine lv_aload_n hx hb dX10_readText_90 rfl (lv_at hl 0 rfl) ?_
  refine fg_X10_20 X hS (hN) dX10_readText_91 ?_
  refine lv_iconst (v := nI 0) hx hb dX10_readText_94 (by decide) ?_
  refine lv_iload_n hx hb dX10_readText_95 rfl (lv_at hl 1 rfl) ?_
  refine lv_if_ne (tgt := 106) hx hb dX10_readText_96 (by decide) (fun c7 => ?_) (fun c7 => ?_)
  · have hX := if_bt c7 hX
    refine lv_aload_n hx hb dX10_readText_106 rfl (lv_at hl 0 rfl) ?_
    refine fg_X10_140 X hS (hN) dX10_readText_107 ?_
    refine lv_if_le (tgt := 120) hx hb dX10_readText_110 (by decide) (fun c8 => ?_) (fun c8 => ?_)
    · have hX := if_t c8 hX
      refine lv_iconst (v := (-1)) hx hb dX10_readText_120 (by decide) ?_
      exact n_X10_readText_121 X hN hX _ _ _ (lv_sub hl [0] rfl) hS
    · have hX := if_f c8 hX
      refine lv_aload_n hx hb dX10_readText_113 rfl (lv_at hl 0 rfl) ?_
      refine fg_X10_143 X hS (hN) dX10_readText_114 ?_
      refine lv_goto (tgt := 121) hx hb dX10_readText_117 (by decide) ?_
      exact n_X10_readText_121 X hN hX _ _ _ (lv_sub hl [0] rfl) hS
  · have hX := if_bf c7 hX
    refine lv_aload_n hx hb dX10_readText_99 rfl (lv_at hl 0 rfl) ?_
    refine fg_X10_137 X hS (hN) dX10_readText_100 ?_
    refine lv_goto (tgt := 121) hx hb dX10_readText_103 (by decide) ?_
    exact n_X10_readText_121 X hN hX _ _ _ (lv_sub hl [0] rfl) hS
set_option maxRecDepth 100000 in
set_option maxHeartbeats 4000000 in
theorem n_X10_readText_50 {a1 : Int32} (X : Cx p s m args meth c D cy ad A RX10 cX10_readText 3 ((some .boolean))) (hN : Ob ns 10 100) {k_72 : Bool → Mem → Option (Bool × Mem)} {v_2 : Bool} {M : Mem} {r : Bool × Mem} (hX : f_X10_readText_50 a1 k_72 v_2 M = some r) : (∀ (v_2 : Bool) (M : Mem) (r : Bool × Mem), k_72 v_2 M = some r → ∀ (ls : Array Slot) (H : Heap) (locs : List Loc), lv_has ls 3 [(0, .ref (ad 100 0)), (2, .int (b2i v_2))] → St D cy ad ns A M s.heap H locs → W p l e rm_X10_readText s m args below meth c H locs 0 0 (MQ below (QC D cy ad ns A r.2 (some (.int (b2i r.1)))) args s 0 0 A) (F0 m 72 ls [])) → ∀ (ls : Array Slot) (H : Heap) (locs : List Loc), lv_has ls 3 [(0, .ref (ad 100 0)), (2, .int (b2i v_2))] → St D cy ad ns A M s.heap H locs → W p l e rm_X10_readText s m args below meth c H locs 0 0 (MQ below (QC D cy ad ns A r.2 (some (.int (b2i r.1)))) args s 0 0 A) (F0 m 50 ls []) := by
  obtain ⟨hx, hb, hml, hown, hts, hK, hr, hlk, hA, hG⟩ := id X
  intro hk_72 ls H locs hl hS
  unfold f_X10_readText_50 at hX
  refine lv_aload_n hx hb dX10_readText_50 rfl (lv_at hl 0 rfl) ?_
  refine fg_X10_168 X hS (hN) dX10_readText_51 ?_
  refine lv_aload_n hx hb dX10_readText_54 rfl (lv_at hl 0 rfl) ?_
  refine fg_X10_38 X hS (hN) dX10_readText_55 ?_
  refine lv_iconst (v := nI 0) hx hb dX10_readText_58 (by decide) ?_
  obtain ⟨g9, hX⟩ := gin_of hX
  refine r_iald (ci := 10) (o := 100) (k := 19) (n := 138) X hS (hN) rfl rfl g9 dX10_readText_59 ?_
  refine lv_icmp_lt (tgt := 72) hx hb dX10_readText_60 (by decide) (fun c10 => ?_) (fun c10 => ?_)
  · have hX := if_t c10 hX
    exact hk_72 _ _ _ hX _ _ _ (lv_sub hl [0, 1] rfl) hS
  · have hX := if_f c10 hX
    refine lv_aload_n hx hb dX10_readText_63 rfl (lv_at hl 0 rfl) ?_
    refine lv_iconst (v := nI 4) hx hb dX10_readText_64 (by decide) ?_
    refine lv_aload_n hx hb dX10_readText_65 rfl (lv_at hl 0 rfl) ?_
    refine fg_X10_124 X hS (hN) dX10_readText_66 ?_
    obtain ⟨M12, h11, hX⟩ := bn_of hX
    refine r_callV0 (As := [.int (nI 4), .int (gI M 100 12)]) (rest := []) X hS (m_X10_later hN h11) mv_X10_later rfl (hN) t6_132 ⟨rfl, rfl, Nat.le_of_ble_eq_true rfl, Nat.le_of_ble_eq_true rfl⟩ rfl hl.1 rfl (Nat.le_of_ble_eq_true rfl) ⟨Nat.zero_le _, Nat.zero_le _⟩ dX10_readText_69 (fun H locs hS => ?_)
    exact hk_72 _ _ _ hX _ _ _ (lv_sub hl [0, 1] rfl) hS
set_option maxRecDepth 100000 in
set_option maxHeartbeats 4000000 in
theorem n_X10_readText_72 {a1 : Int32} (X : Cx p s m args meth c D cy ad A RX10 cX10_readText 3 ((some .boolean))) (hN : Ob ns 10 100) {v_2 : Bool} {M : Mem} {r : Bool × Mem} (hX : f_X10_readText_72 a1 v_2 M = some r) : ∀ (ls : Array Slot) (H : Heap) (locs : List Loc), lv_has ls 3 [(0, .ref (ad 100 0)), (2, .int (b2i v_2))] → St D cy ad ns A M s.heap H locs → W p l e rm_X10_readText s m args below meth c H locs 0 0 (MQ below (QC D cy ad ns A r.2 (some (.int (b2i r.1)))) args s 0 0 A) (F0 m 72 ls []) := by
  obtain ⟨hx, hb, hml, hown, hts, hK, hr, hlk, hA, hG⟩ := id X
  intro ls H locs hl hS
  unfold f_X10_readText_72 at hX
  refine lv_aload_n hx hb dX10_readText_72 rfl (lv_at hl 0 rfl) ?_
  refine fg_X10_17 X hS (hN) dX10_readText_73 ?_
  refine lv_iconst (v := nI 0) hx hb dX10_readText_76 (by decide) ?_
  refine lv_iload_n hx hb dX10_readText_77 rfl (lv_at hl 1 rfl) ?_
  refine lv_if_eq (tgt := 88) hx hb dX10_readText_78 (by decide) (fun c13 => ?_) (fun c13 => ?_)
  · have hX := if_bf c13 hX
    refine lv_iconst (v := nI 1) hx hb dX10_readText_88 (by decide) ?_
    exact n_X10_readText_89 X hN hX _ _ _ (lv_sub hl [0, 1] rfl) hS
  · have hX := if_bt c13 hX
    refine lv_aload_n hx hb dX10_readText_81 rfl (lv_at hl 0 rfl) ?_
    refine fg_X10_140 X hS (hN) dX10_readText_82 ?_
    refine lv_goto (tgt := 89) hx hb dX10_readText_85 (by decide) ?_
    exact n_X10_readText_89 X hN hX _ _ _ (lv_sub hl [0, 1] rfl) hS
set_option maxRecDepth 100000 in
set_option maxHeartbeats 4000000 in
theorem m_X10_readText {l : Launch} {D : va_G} {cy : Nat → ClassId} {ad : Nat → Nat → Nat} {ns : List (Nat × Nat)} {A : Nat → Prop} {M : Mem} (hN : Ob ns 10 100) {a1 : Int32} {r : Bool × Mem} (hX : f_X10_readText M a1 = some r) : Ct l yX10_readText cX10_readText 3 ((some .boolean)) rm_X10_readText D cy ad ns A [.ref (ad 100 0), .int a1] M r.2 (some (.int (b2i r.1))) := by
  refine ct_of (lv := [(0, .ref (ad 100 0)), (1, .int a1)]) (by decide) (Nat.le_of_ble_eq_true rfl) rfl ?_
  intro p e s m args below meth c ls X hl hS
  obtain ⟨hx, hb, hml, hown, hts, hK, hr, hlk, hA, hG⟩ := id X
  obtain ⟨H, hH⟩ : ∃ z, z = s.heap := ⟨_, rfl⟩
  obtain ⟨locs, hlo⟩ : ∃ z : List Loc, z = [] := ⟨_, rfl⟩
  have hS : St D cy ad ns A M s.heap H locs := by rw [hH, hlo]; exact hS
  have hgoal : W p l e rm_X10_readText s m args below meth c H locs 0 0 (MQ below (QC D cy ad ns A r.2 (some (.int (b2i r.1)))) args s 0 0 A) (F0 m 0 ls []) := by
    unfold f_X10_readText at hX
    refine lv_aload_n hx hb dX10_readText_0 rfl (lv_at hl 0 rfl) ?_
    refine lv_iload_n hx hb dX10_readText_1 rfl (lv_at hl 1 rfl) ?_
    obtain ⟨M15, h14, hX⟩ := bn_of hX
    refine r_callV0 (As := [.int a1]) (rest := []) X hS (m_X10_blank hN h14) mv_X10_blank rfl (hN) t6_96 ⟨rfl, rfl, Nat.le_of_ble_eq_true rfl, Nat.le_of_ble_eq_true rfl⟩ rfl hl.1 rfl (Nat.le_of_ble_eq_true rfl) ⟨Nat.zero_le _, Nat.zero_le _⟩ dX10_readText_2 (fun H locs hS => ?_)
    refine lv_aload_n hx hb dX10_readText_5 rfl (lv_at hl 0 rfl) ?_
    refine lv_iconst (v := (-1)) hx hb dX10_readText_6 (by decide) ?_
    refine fp_X10_168 X hS (hN) dX10_readText_7 (fun H locs hS => ?_)
    obtain ⟨M16, eM16, hS, hX⟩ := nm_mem hS hX
    refine lv_aload_n hx hb dX10_readText_10 rfl (lv_at hl 0 rfl) ?_
    refine lv_iconst (v := nI 0) hx hb dX10_readText_11 (by decide) ?_
    refine fp_X10_114 X hS (hN) dX10_readText_12 (fun H locs hS => ?_)
    obtain ⟨M17, eM17, hS, hX⟩ := nm_mem hS hX
    refine lv_aload_n hx hb dX10_readText_15 rfl (lv_at hl 0 rfl) ?_
    refine lv_iconst (v := nI 0) hx hb dX10_readText_16 (by decide) ?_
    refine fp_X10_140 X hS (hN) dX10_readText_17 (fun H locs hS => ?_)
    obtain ⟨M18, eM18, hS, hX⟩ := nm_mem hS hX
    refine lv_aload_n hx hb dX10_readText_20 rfl (lv_at hl 0 rfl) ?_
    obtain ⟨M20, h19, hX⟩ := bn_of hX
    refine r_callV0 (As := []) (rest := []) X hS (m_X10_token hN h19) mv_X10_token rfl (hN) t6_100 ⟨rfl, rfl, Nat.le_of_ble_eq_true rfl, Nat.le_of_ble_eq_true rfl⟩ rfl hl.1 rfl (Nat.le_of_ble_eq_true rfl) ⟨Nat.zero_le _, Nat.zero_le _⟩ dX10_readText_21 (fun H locs hS => ?_)
    refine lv_aload_n hx hb dX10_readText_24 rfl (lv_at hl 0 rfl) ?_
    refine lv_iload_n hx hb dX10_readText_25 rfl (lv_at hl 1 rfl) ?_
    obtain ⟨r23, M22, h21, hX⟩ := bp_of hX
    refine r_callV1 (v := .int (b2i r23)) (As := [.int a1]) (rest := []) X hS (m_X10_lines hN h21) mv_X10_lines rfl (hN) t6_108 ⟨rfl, rfl, Nat.le_of_ble_eq_true rfl, Nat.le_of_ble_eq_true rfl⟩ rfl hl.1 rfl (Nat.le_of_ble_eq_true rfl) ⟨Nat.zero_le _, Nat.zero_le _⟩ dX10_readText_26 (fun H locs hS => ?_)
    refine lv_istore_n (lv' := [(2, .int (b2i r23)), (0, .ref (ad 100 0)), (1, .int a1)]) hx hb dX10_readText_29 rfl hl (by decide) rfl (fun ls hl => ?_)
    refine lv_iload_n hx hb dX10_readText_30 rfl (lv_at hl 0 rfl) ?_
    refine lv_if_eq (tgt := 72) hx hb dX10_readText_31 (by decide) (fun c24 => ?_) (fun c24 => ?_)
    · have hX := if_bf c24 hX
      exact n_X10_readText_72 X hN hX _ _ _ (lv_sub hl [1, 0] rfl) hS
    · have hX := if_bt c24 hX
      refine lv_aload_n hx hb dX10_readText_34 rfl (lv_at hl 1 rfl) ?_
      refine fg_X10_140 X hS (hN) dX10_readText_35 ?_
      refine lv_if_ne (tgt := 72) hx hb dX10_readText_38 (by decide) (fun c25 => ?_) (fun c25 => ?_)
      · have hX := if_f c25 hX
        exact n_X10_readText_72 X hN hX _ _ _ (lv_sub hl [1, 0] rfl) hS
      · have hX := if_t c25 hX
        refine lv_iload_n hx hb dX10_readText_41 rfl (lv_at hl 2 rfl) ?_
        refine lv_if_eq (tgt := 50) hx hb dX10_readText_42 (by decide) (fun c26 => ?_) (fun c26 => ?_)
        · have hX := if_t c26 hX
          exact n_X10_readText_50 X hN hX (fun z0 z1 r h ls H locs hl hS => n_X10_readText_72 X hN h _ _ _ hl hS) _ _ _ (lv_sub hl [1, 0] rfl) hS
        · have hX := if_f c26 hX
          refine lv_iload_n hx hb dX10_readText_45 rfl (lv_at hl 2 rfl) ?_
          refine lv_iconst (v := nI 2) hx hb dX10_readText_46 (by decide) ?_
          refine lv_icmp_ne (tgt := 72) hx hb dX10_readText_47 (by decide) (fun c27 => ?_) (fun c27 => ?_)
          · have hX := if_f c27 hX
            exact n_X10_readText_72 X hN hX _ _ _ (lv_sub hl [1, 0] rfl) hS
          · have hX := if_t c27 hX
            exact n_X10_readText_50 X hN hX (fun z0 z1 r h ls H locs hl hS => n_X10_readText_72 X hN h _ _ _ hl hS) _ _ _ (lv_sub hl [1, 0] rfl) hS
  rw [hH, hlo] at hgoal
  exact hgoal
theorem mv_X10_readText : Mv yX10_readText RX10 cX10_readText 3 ((some .boolean)) 1 := ⟨t6_95, t6_94, ts_8, t1_11, ⟨by decide, by decide⟩, by decide +kernel⟩
/-! SewnYearModel.store([III)V -/
def rm_X10_store : Room := { frames := 0, cells := 0, slots := 0, locals := 0 }
def b_X10_store_3 (a1 : Nat) (a2 : Int32) (a3 : Int32) (rc : Int32 → Mem → Option (Mem)) (v_4 : Int32) (M : Mem) : Option (Mem) :=
  if a2 ≤ v_4 then (some M) else (gin v_4 138 <| gin ((a2 * a3) + v_4) (ln 10 a1) <| nm (sA M 100 a1 (ix ((a2 * a3) + v_4)) (gA M 100 19 (ix v_4))) fun M4 => nm (v_4 + nI 1) fun v5 => rc v5 M4)
def f_X10_store_3 (a1 : Nat) (a2 : Int32) (a3 : Int32) : Nat → (Int32 × Mem) → Option (Mem) := lp (fun rc q => b_X10_store_3 a1 a2 a3 (fun x0 x1 => rc (x0, x1)) q.1 q.2)
def f_X10_store (M : Mem) (a1 : Nat) (a2 : Int32) (a3 : Int32) : Option (Mem) :=
  f_X10_store_3 a1 a2 a3 FU ((nI 0), M)
set_option maxRecDepth 100000 in
set_option maxHeartbeats 4000000 in
theorem n_X10_store_3 {a1 : Nat} {a2 : Int32} {a3 : Int32} (X : Cx p s m args meth c D cy ad A RX10 cX10_store 5 ((none : Option Jvm.ClassFile.FieldType))) (hN : Ob ns 10 100) (ha1 : ak 10 a1 = 0) : ∀ (n : Nat) (v_4 : Int32) (M : Mem) (r : Mem), f_X10_store_3 a1 a2 a3 n (v_4, M) = some r → ∀ (ls : Array Slot) (H : Heap) (locs : List Loc), lv_has ls 5 [(0, .ref (ad 100 0)), (1, .ref (ad 100 (a1 + 1))), (2, .int a2), (3, .int a3), (4, .int v_4)] → St D cy ad ns A M s.heap H locs → W p l e rm_X10_store s m args below meth c H locs 0 0 (MQ below (QC D cy ad ns A r none) args s 0 0 A) (F0 m 3 ls []) := by
  obtain ⟨hx, hb, hml, hown, hts, hK, hr, hlk, hA, hG⟩ := id X
  intro n
  induction n with
  | zero => intro v_4 M r hX; cases (show (none : Option (Mem)) = some r from hX)
  | succ n ih =>
    intro v_4 M r hX ls H locs hl hS
    have hX : b_X10_store_3 a1 a2 a3 (fun x0 x1 => f_X10_store_3 a1 a2 a3 n (x0, x1)) v_4 M = some r := hX
    unfold b_X10_store_3 at hX
    refine lv_iload hx hb dX10_store_3 (lv_at hl 4 rfl) ?_
    refine lv_iload_n hx hb dX10_store_5 rfl (lv_at hl 2 rfl) ?_
    refine lv_icmp_ge (tgt := 30) hx hb dX10_store_6 (by decide) (fun c1 => ?_) (fun c1 => ?_)
    · have hX := if_t c1 hX
      obtain rfl := some_of hX
      exact x_V X hS dX10_store_30
    · have hX := if_f c1 hX
      refine lv_aload_n hx hb dX10_store_9 rfl (lv_at hl 1 rfl) ?_
      refine lv_iload_n hx hb dX10_store_10 rfl (lv_at hl 2 rfl) ?_
      refine lv_iload_n hx hb dX10_store_11 rfl (lv_at hl 3 rfl) ?_
      refine lv_imul hx hb dX10_store_12 ?_
      refine lv_iload hx hb dX10_store_13 (lv_at hl 4 rfl) ?_
      refine lv_iadd hx hb dX10_store_15 ?_
      refine lv_aload_n hx hb dX10_store_16 rfl (lv_at hl 0 rfl) ?_
      refine fg_X10_38 X hS (hN) dX10_store_17 ?_
      refine lv_iload hx hb dX10_store_20 (lv_at hl 4 rfl) ?_
      obtain ⟨g2, hX⟩ := gin_of hX
      refine r_iald (ci := 10) (o := 100) (k := 19) (n := 138) X hS (hN) rfl rfl g2 dX10_store_22 ?_
      obtain ⟨g3, hX⟩ := gin_of hX
      refine r_iast (ci := 10) (o := 100) (k := a1) (n := (ln 10 a1)) X hS hN ha1 rfl g3 dX10_store_23 (fun H locs hS => ?_)
      obtain ⟨M4, eM4, hS, hX⟩ := nm_mem hS hX
      obtain ⟨v5, ev5⟩ : ∃ y : Int32, y = (v_4 + nI 1) := ⟨_, rfl⟩
      have hX := nm_of ev5 hX
      refine lv_iinc (v := v5) (lv' := [(4, .int v5), (0, .ref (ad 100 0)), (1, .ref (ad 100 (a1 + 1))), (2, .int a2), (3, .int a3)]) hx hb dX10_store_24 hl (k := 4) rfl (by rw [ev5]; rfl) (by decide) rfl (fun ls hl => ?_)
      refine lv_goto (tgt := 3) hx hb dX10_store_27 (by decide) ?_
      exact ih _ _ _ hX _ _ _ (lv_sub hl [1, 2, 3, 4, 0] rfl) hS
set_option maxRecDepth 100000 in
set_option maxHeartbeats 4000000 in
theorem m_X10_store {l : Launch} {D : va_G} {cy : Nat → ClassId} {ad : Nat → Nat → Nat} {ns : List (Nat × Nat)} {A : Nat → Prop} {M : Mem} (hN : Ob ns 10 100) {a1 : Nat} {a2 : Int32} {a3 : Int32} (ha1 : ak 10 a1 = 0) {r : Mem} (hX : f_X10_store M a1 a2 a3 = some r) : Ct l yX10_store cX10_store 5 ((none : Option Jvm.ClassFile.FieldType)) rm_X10_store D cy ad ns A [.ref (ad 100 0), .ref (ad 100 (a1 + 1)), .int a2, .int a3] M r none := by
  refine ct_of (lv := [(0, .ref (ad 100 0)), (1, .ref (ad 100 (a1 + 1))), (2, .int a2), (3, .int a3)]) (by decide) (Nat.le_of_ble_eq_true rfl) rfl ?_
  intro p e s m args below meth c ls X hl hS
  obtain ⟨hx, hb, hml, hown, hts, hK, hr, hlk, hA, hG⟩ := id X
  obtain ⟨H, hH⟩ : ∃ z, z = s.heap := ⟨_, rfl⟩
  obtain ⟨locs, hlo⟩ : ∃ z : List Loc, z = [] := ⟨_, rfl⟩
  have hS : St D cy ad ns A M s.heap H locs := by rw [hH, hlo]; exact hS
  have hgoal : W p l e rm_X10_store s m args below meth c H locs 0 0 (MQ below (QC D cy ad ns A r none) args s 0 0 A) (F0 m 0 ls []) := by
    unfold f_X10_store at hX
    refine lv_iconst (v := nI 0) hx hb dX10_store_0 (by decide) ?_
    refine lv_istore (lv' := [(4, .int (nI 0)), (0, .ref (ad 100 0)), (1, .ref (ad 100 (a1 + 1))), (2, .int a2), (3, .int a3)]) hx hb dX10_store_1 hl (by decide) rfl (fun ls hl => ?_)
    exact n_X10_store_3 X hN ha1 _ _ _ _ hX _ _ _ (lv_sub hl [1, 2, 3, 4, 0] rfl) hS
  rw [hH, hlo] at hgoal
  exact hgoal
theorem mv_X10_store : Mv yX10_store RX10 cX10_store 5 ((none : Option Jvm.ClassFile.FieldType)) 3 := ⟨t6_207, t6_206, ts_30, t1_11, ⟨by decide, by decide⟩, by decide +kernel⟩
/-! SewnYearModel.storeAll(II)V -/
def rm_X10_storeAll : Room := { frames := 1, cells := 0, slots := 0, locals := 24 }
def f_X10_storeAll (M : Mem) (a1 : Int32) (a2 : Int32) : Option (Mem) :=
  if a1 = nI 0 then (bn (f_X10_store M 6 (nI 138) a2) fun M3 => some M3) else if a1 = nI 1 then (bn (f_X10_store M 7 (nI 81) a2) fun M6 => some M6) else if a1 = nI 2 then (bn (f_X10_store M 8 (nI 41) a2) fun M9 => some M9) else (bn (f_X10_store M 9 (nI 31) a2) fun M11 => some M11)
set_option maxRecDepth 100000 in
set_option maxHeartbeats 4000000 in
theorem m_X10_storeAll {l : Launch} {D : va_G} {cy : Nat → ClassId} {ad : Nat → Nat → Nat} {ns : List (Nat × Nat)} {A : Nat → Prop} {M : Mem} (hN : Ob ns 10 100) {a1 : Int32} {a2 : Int32} {r : Mem} (hX : f_X10_storeAll M a1 a2 = some r) : Ct l yX10_storeAll cX10_storeAll 3 ((none : Option Jvm.ClassFile.FieldType)) rm_X10_storeAll D cy ad ns A [.ref (ad 100 0), .int a1, .int a2] M r none := by
  refine ct_of (lv := [(0, .ref (ad 100 0)), (1, .int a1), (2, .int a2)]) (by decide) (Nat.le_of_ble_eq_true rfl) rfl ?_
  intro p e s m args below meth c ls X hl hS
  obtain ⟨hx, hb, hml, hown, hts, hK, hr, hlk, hA, hG⟩ := id X
  obtain ⟨H, hH⟩ : ∃ z, z = s.heap := ⟨_, rfl⟩
  obtain ⟨locs, hlo⟩ : ∃ z : List Loc, z = [] := ⟨_, rfl⟩
  have hS : St D cy ad ns A M s.heap H locs := by rw [hH, hlo]; exact hS
  have hgoal : W p l e rm_X10_storeAll s m args below meth c H locs 0 0 (MQ below (QC D cy ad ns A r none) args s 0 0 A) (F0 m 0 ls []) := by
    unfold f_X10_storeAll at hX
    refine lv_iload_n hx hb dX10_storeAll_0 rfl (lv_at hl 1 rfl) ?_
    by_cases c1 : a1 = nI 0
    · have hX := if_t c1 hX
      refine r_tabIn c1 (off := 27) (tgt := 28) hx hb dX10_storeAll_1 (by decide) (by decide) (by decide) (by decide) ?_
      refine lv_aload_n hx hb dX10_storeAll_28 rfl (lv_at hl 0 rfl) ?_
      refine lv_aload_n hx hb dX10_storeAll_29 rfl (lv_at hl 0 rfl) ?_
      refine fg_X10_26 X hS (hN) dX10_storeAll_30 ?_
      refine lv_sipush (v := nI 138) hx hb dX10_storeAll_33 (by decide) ?_
      refine lv_iload_n hx hb dX10_storeAll_36 rfl (lv_at hl 2 rfl) ?_
      obtain ⟨M3, h2, hX⟩ := bn_of hX
      refine r_callV0 (As := [.ref (ad 100 (6 + 1)), .int (nI 138), .int a2]) (rest := []) X hS (m_X10_store hN rfl h2) mv_X10_store rfl (hN) t6_204 ⟨rfl, rfl, Nat.le_of_ble_eq_true rfl, Nat.le_of_ble_eq_true rfl⟩ rfl hl.1 rfl (Nat.le_of_ble_eq_true rfl) ⟨Nat.zero_le _, Nat.zero_le _⟩ dX10_storeAll_37 (fun H locs hS => ?_)
      obtain rfl := some_of hX
      exact x_V X hS dX10_storeAll_40
    have hX := if_f c1 hX
    by_cases c4 : a1 = nI 1
    · have hX := if_t c4 hX
      refine r_tabIn c4 (off := 40) (tgt := 41) hx hb dX10_storeAll_1 (by decide) (by decide) (by decide) (by decide) ?_
      refine lv_aload_n hx hb dX10_storeAll_41 rfl (lv_at hl 0 rfl) ?_
      refine lv_aload_n hx hb dX10_storeAll_42 rfl (lv_at hl 0 rfl) ?_
      refine fg_X10_29 X hS (hN) dX10_storeAll_43 ?_
      refine lv_bipush (v := nI 81) hx hb dX10_storeAll_46 (by decide) ?_
      refine lv_iload_n hx hb dX10_storeAll_48 rfl (lv_at hl 2 rfl) ?_
      obtain ⟨M6, h5, hX⟩ := bn_of hX
      refine r_callV0 (As := [.ref (ad 100 (7 + 1)), .int (nI 81), .int a2]) (rest := []) X hS (m_X10_store hN rfl h5) mv_X10_store rfl (hN) t6_204 ⟨rfl, rfl, Nat.le_of_ble_eq_true rfl, Nat.le_of_ble_eq_true rfl⟩ rfl hl.1 rfl (Nat.le_of_ble_eq_true rfl) ⟨Nat.zero_le _, Nat.zero_le _⟩ dX10_storeAll_49 (fun H locs hS => ?_)
      obtain rfl := some_of hX
      exact x_V X hS dX10_storeAll_52
    have hX := if_f c4 hX
    by_cases c7 : a1 = nI 2
    · have hX := if_t c7 hX
      refine r_tabIn c7 (off := 52) (tgt := 53) hx hb dX10_storeAll_1 (by decide) (by decide) (by decide) (by decide) ?_
      refine lv_aload_n hx hb dX10_storeAll_53 rfl (lv_at hl 0 rfl) ?_
      refine lv_aload_n hx hb dX10_storeAll_54 rfl (lv_at hl 0 rfl) ?_
      refine fg_X10_32 X hS (hN) dX10_storeAll_55 ?_
      refine lv_bipush (v := nI 41) hx hb dX10_storeAll_58 (by decide) ?_
      refine lv_iload_n hx hb dX10_storeAll_60 rfl (lv_at hl 2 rfl) ?_
      obtain ⟨M9, h8, hX⟩ := bn_of hX
      refine r_callV0 (As := [.ref (ad 100 (8 + 1)), .int (nI 41), .int a2]) (rest := []) X hS (m_X10_store hN rfl h8) mv_X10_store rfl (hN) t6_204 ⟨rfl, rfl, Nat.le_of_ble_eq_true rfl, Nat.le_of_ble_eq_true rfl⟩ rfl hl.1 rfl (Nat.le_of_ble_eq_true rfl) ⟨Nat.zero_le _, Nat.zero_le _⟩ dX10_storeAll_61 (fun H locs hS => ?_)
      obtain rfl := some_of hX
      exact x_V X hS dX10_storeAll_64
    have hX := if_f c7 hX
    have ic1 : ¬ a1.toInt = 0 := lv_neT c1 rfl
    have ic4 : ¬ a1.toInt = 1 := lv_neT c4 rfl
    have ic7 : ¬ a1.toInt = 2 := lv_neT c7 rfl
    refine lv_tableOut (tgt := 65) hx hb dX10_storeAll_1 (by omega) (by decide) ?_
    refine lv_aload_n hx hb dX10_storeAll_65 rfl (lv_at hl 0 rfl) ?_
    refine lv_aload_n hx hb dX10_storeAll_66 rfl (lv_at hl 0 rfl) ?_
    refine fg_X10_35 X hS (hN) dX10_storeAll_67 ?_
    refine lv_bipush (v := nI 31) hx hb dX10_storeAll_70 (by decide) ?_
    refine lv_iload_n hx hb dX10_storeAll_72 rfl (lv_at hl 2 rfl) ?_
    obtain ⟨M11, h10, hX⟩ := bn_of hX
    refine r_callV0 (As := [.ref (ad 100 (9 + 1)), .int (nI 31), .int a2]) (rest := []) X hS (m_X10_store hN rfl h10) mv_X10_store rfl (hN) t6_204 ⟨rfl, rfl, Nat.le_of_ble_eq_true rfl, Nat.le_of_ble_eq_true rfl⟩ rfl hl.1 rfl (Nat.le_of_ble_eq_true rfl) ⟨Nat.zero_le _, Nat.zero_le _⟩ dX10_storeAll_73 (fun H locs hS => ?_)
    obtain rfl := some_of hX
    exact x_V X hS dX10_storeAll_76
  rw [hH, hlo] at hgoal
  exact hgoal
theorem mv_X10_storeAll : Mv yX10_storeAll RX10 cX10_storeAll 3 ((none : Option Jvm.ClassFile.FieldType)) 2 := ⟨t6_203, t6_202, ts_29, t1_11, ⟨by decide, by decide⟩, by decide +kernel⟩
/-! SewnYearModel.text(II)I -/
def rm_X10_text : Room := { frames := 9, cells := 0, slots := 0, locals := 206 }
def f_X10_text_118 (a1 : Int32) (a2 : Int32) (v_3 : Int32) (s_1 : Int32) (s_2 : Int32) (s_3 : Bool) (M : Mem) : Option (Int32 × Mem) :=
  gin s_1 16 <| nm (sA M 100 5 (ix s_1) (s_2 + (b2i s_3))) fun M2 => bn (f_X10_storeAll M2 a1 v_3) fun M4 => some (v_3, M4)
def f_X10_text_100 (a1 : Int32) (a2 : Int32) (s_0 : Int32) (M : Mem) : Option (Int32 × Mem) :=
  gin a1 16 <| if a2 = (-1) then (f_X10_text_118 a1 a2 s_0 a1 (gA M 100 5 (ix a1)) true M) else (f_X10_text_118 a1 a2 s_0 a1 (gA M 100 5 (ix a1)) false M)
def f_X10_text_75 (a1 : Int32) (a2 : Int32) (M : Mem) : Option (Int32 × Mem) :=
  bp (f_X10_readText M a1) fun r9 M8 => if r9 = true then (if a2 = (-1) then (gin a1 16 <| f_X10_text_100 a1 a2 (gA M8 100 5 (ix a1)) M8) else (f_X10_text_100 a1 a2 a2 M8)) else (some ((-1), M8))
def f_X10_text (M : Mem) (a1 : Int32) (a2 : Int32) : Option (Int32 × Mem) :=
  nm (sI M 100 0 (nI 0)) fun M13 => gin (nI 0) 4 <| nm (sI M13 100 11 (gA M13 100 2 (ix (nI 0)))) fun M15 => gin (nI 0) 4 <| nm (sA M15 100 2 (ix (nI 0)) (nI 0)) fun M17 => gin (nI 0) 4 <| nm (sA M17 100 3 (ix (nI 0)) (nI 0)) fun M19 => gin (nI 0) 4 <| nm (sA M19 100 4 (ix (nI 0)) (-1)) fun M21 => bn (f_X10_in a1 (nI 0) (nI 3)) fun r23 => if r23 = true then (if a2 = (-1) then (gin a1 16 <| if (gA M21 100 5 (ix a1)) = (nI 2) then (some ((-2), M21)) else (f_X10_text_75 a1 a2 M21)) else (bn (f_X10_is M21 a1 a2) fun r27 => if r27 = true then (f_X10_text_75 a1 a2 M21) else (some ((-2), M21)))) else (some ((-2), M21))
set_option maxRecDepth 100000 in
set_option maxHeartbeats 4000000 in
theorem n_X10_text_118 {a1 : Int32} {a2 : Int32} (X : Cx p s m args meth c D cy ad A RX10 cX10_text 4 ((some .int))) (hN : Ob ns 10 100) {v_3 : Int32} {s_1 : Int32} {s_2 : Int32} {s_3 : Bool} {M : Mem} {r : Int32 × Mem} (hX : f_X10_text_118 a1 a2 v_3 s_1 s_2 s_3 M = some r) : ∀ (ls : Array Slot) (H : Heap) (locs : List Loc), lv_has ls 4 [(0, .ref (ad 100 0)), (1, .int a1), (3, .int v_3)] → St D cy ad ns A M s.heap H locs → W p l e rm_X10_text s m args below meth c H locs 0 0 (MQ below (QC D cy ad ns A r.2 (some (.int r.1))) args s 0 0 A) (F0 m 118 ls [.int (b2i s_3), .int s_2, .int s_1, .ref (ad 100 (5 + 1))]) := by
  obtain ⟨hx, hb, hml, hown, hts, hK, hr, hlk, hA, hG⟩ := id X
  intro ls H locs hl hS
  unfold f_X10_text_118 at hX
  refine lv_iadd hx hb dX10_text_118 ?_
  obtain ⟨g1, hX⟩ := gin_of hX
  refine r_iast (ci := 10) (o := 100) (k := 5) (n := 16) X hS (hN) rfl rfl g1 dX10_text_119 (fun H locs hS => ?_)
  obtain ⟨M2, eM2, hS, hX⟩ := nm_mem hS hX
  refine lv_aload_n hx hb dX10_text_120 rfl (lv_at hl 0 rfl) ?_
  refine lv_iload_n hx hb dX10_text_121 rfl (lv_at hl 1 rfl) ?_
  refine lv_iload_n hx hb dX10_text_122 rfl (lv_at hl 2 rfl) ?_
  obtain ⟨M4, h3, hX⟩ := bn_of hX
  refine r_callV0 (As := [.int a1, .int v_3]) (rest := []) X hS (m_X10_storeAll hN h3) mv_X10_storeAll rfl (hN) t6_200 ⟨rfl, rfl, Nat.le_of_ble_eq_true rfl, Nat.le_of_ble_eq_true rfl⟩ rfl hl.1 rfl (Nat.le_of_ble_eq_true rfl) ⟨Nat.zero_le _, Nat.zero_le _⟩ dX10_text_123 (fun H locs hS => ?_)
  refine lv_iload_n hx hb dX10_text_126 rfl (lv_at hl 2 rfl) ?_
  obtain rfl := some_of hX
  exact x_I (v := v_3) X hS dX10_text_127
set_option maxRecDepth 100000 in
set_option maxHeartbeats 4000000 in
theorem n_X10_text_100 {a1 : Int32} {a2 : Int32} (X : Cx p s m args meth c D cy ad A RX10 cX10_text 4 ((some .int))) (hN : Ob ns 10 100) {s_0 : Int32} {M : Mem} {r : Int32 × Mem} (hX : f_X10_text_100 a1 a2 s_0 M = some r) : ∀ (ls : Array Slot) (H : Heap) (locs : List Loc), lv_has ls 4 [(0, .ref (ad 100 0)), (1, .int a1), (2, .int a2)] → St D cy ad ns A M s.heap H locs → W p l e rm_X10_text s m args below meth c H locs 0 0 (MQ below (QC D cy ad ns A r.2 (some (.int r.1))) args s 0 0 A) (F0 m 100 ls [.int s_0]) := by
  obtain ⟨hx, hb, hml, hown, hts, hK, hr, hlk, hA, hG⟩ := id X
  intro ls H locs hl hS
  unfold f_X10_text_100 at hX
  refine lv_istore_n (lv' := [(3, .int s_0), (0, .ref (ad 100 0)), (1, .int a1), (2, .int a2)]) hx hb dX10_text_100 rfl hl (by decide) rfl (fun ls hl => ?_)
  refine lv_aload_n hx hb dX10_text_101 rfl (lv_at hl 1 rfl) ?_
  refine fg_X10_23 X hS (hN) dX10_text_102 ?_
  refine lv_iload_n hx hb dX10_text_105 rfl (lv_at hl 2 rfl) ?_
  refine lv_dup2_11 hx hb dX10_text_106 rfl rfl ?_
  obtain ⟨g5, hX⟩ := gin_of hX
  refine r_iald (ci := 10) (o := 100) (k := 5) (n := 16) X hS (hN) rfl rfl g5 dX10_text_107 ?_
  refine lv_iload_n hx hb dX10_text_108 rfl (lv_at hl 3 rfl) ?_
  refine lv_iconst (v := (-1)) hx hb dX10_text_109 (by decide) ?_
  refine lv_icmp_ne (tgt := 117) hx hb dX10_text_110 (by decide) (fun c6 => ?_) (fun c6 => ?_)
  · have hX := if_f c6 hX
    refine lv_iconst (v := nI 0) hx hb dX10_text_117 (by decide) ?_
    exact n_X10_text_118 X hN hX _ _ _ (lv_sub hl [1, 2, 0] rfl) hS
  · have hX := if_t c6 hX
    refine lv_iconst (v := nI 1) hx hb dX10_text_113 (by decide) ?_
    refine lv_goto (tgt := 118) hx hb dX10_text_114 (by decide) ?_
    exact n_X10_text_118 X hN hX _ _ _ (lv_sub hl [1, 2, 0] rfl) hS
set_option maxRecDepth 100000 in
set_option maxHeartbeats 4000000 in
theorem n_X10_text_75 {a1 : Int32} {a2 : Int32} (X : Cx p s m args meth c D cy ad A RX10 cX10_text 4 ((some .int))) (hN : Ob ns 10 100) {M : Mem} {r : Int32 × Mem} (hX : f_X10_text_75 a1 a2 M = some r) : ∀ (ls : Array Slot) (H : Heap) (locs : List Loc), lv_has ls 4 [(0, .ref (ad 100 0)), (1, .int a1), (2, .int a2)] → St D cy ad ns A M s.heap H locs → W p l e rm_X10_text s m args below meth c H locs 0 0 (MQ below (QC D cy ad ns A r.2 (some (.int r.1))) args s 0 0 A) (F0 m 75 ls []) := by
  obtain ⟨hx, hb, hml, hown, hts, hK, hr, hlk, hA, hG⟩ := id X
  intro ls H locs hl hS
  unfold f_X10_text_75 at hX
  refine lv_aload_n hx hb dX10_text_75 rfl (lv_at hl 0 rfl) ?_
  refine lv_iload_n hx hb dX10_text_76 rfl (lv_at hl 1 rfl) ?_
  obtain ⟨r9, M8, h7, hX⟩ := bp_of hX
  refine r_callV1 (v := .int (b2i r9)) (As := [.int a1]) (rest := []) X hS (m_X10_readText hN h7) mv_X10_readText rfl (hN) t6_92 ⟨rfl, rfl, Nat.le_of_ble_eq_true rfl, Nat.le_of_ble_eq_true rfl⟩ rfl hl.1 rfl (Nat.le_of_ble_eq_true rfl) ⟨Nat.zero_le _, Nat.zero_le _⟩ dX10_text_77 (fun H locs hS => ?_)
  refine lv_if_ne (tgt := 85) hx hb dX10_text_80 (by decide) (fun c10 => ?_) (fun c10 => ?_)
  · have hX := if_bt c10 hX
    refine lv_iload_n hx hb dX10_text_85 rfl (lv_at hl 2 rfl) ?_
    refine lv_iconst (v := (-1)) hx hb dX10_text_86 (by decide) ?_
    refine lv_icmp_ne (tgt := 99) hx hb dX10_text_87 (by decide) (fun c11 => ?_) (fun c11 => ?_)
    · have hX := if_f c11 hX
      refine lv_iload_n hx hb dX10_text_99 rfl (lv_at hl 2 rfl) ?_
      exact n_X10_text_100 X hN hX _ _ _ (lv_sub hl [0, 1, 2] rfl) hS
    · have hX := if_t c11 hX
      refine lv_aload_n hx hb dX10_text_90 rfl (lv_at hl 0 rfl) ?_
      refine fg_X10_23 X hS (hN) dX10_text_91 ?_
      refine lv_iload_n hx hb dX10_text_94 rfl (lv_at hl 1 rfl) ?_
      obtain ⟨g12, hX⟩ := gin_of hX
      refine r_iald (ci := 10) (o := 100) (k := 5) (n := 16) X hS (hN) rfl rfl g12 dX10_text_95 ?_
      refine lv_goto (tgt := 100) hx hb dX10_text_96 (by decide) ?_
      exact n_X10_text_100 X hN hX _ _ _ (lv_sub hl [0, 1, 2] rfl) hS
  · have hX := if_bf c10 hX
    refine lv_iconst (v := (-1)) hx hb dX10_text_83 (by decide) ?_
    obtain rfl := some_of hX
    exact x_I (v := (-1)) X hS dX10_text_84
set_option maxRecDepth 100000 in
set_option maxHeartbeats 4000000 in
theorem m_X10_text {l : Launch} {D : va_G} {cy : Nat → ClassId} {ad : Nat → Nat → Nat} {ns : List (Nat × Nat)} {A : Nat → Prop} {M : Mem} (hN : Ob ns 10 100) {a1 : Int32} {a2 : Int32} {r : Int32 × Mem} (hX : f_X10_text M a1 a2 = some r) : Ct l yX10_text cX10_text 4 ((some .int)) rm_X10_text D cy ad ns A [.ref (ad 100 0), .int a1, .int a2] M r.2 (some (.int r.1)) := by
  refine ct_of (lv := [(0, .ref (ad 100 0)), (1, .int a1), (2, .int a2)]) (by decide) (Nat.le_of_ble_eq_true rfl) rfl ?_
  intro p e s m args below meth c ls X hl hS
  obtain ⟨hx, hb, hml, hown, hts, hK, hr, hlk, hA, hG⟩ := id X
  obtain ⟨H, hH⟩ : ∃ z, z = s.heap := ⟨_, rfl⟩
  obtain ⟨locs, hlo⟩ : ∃ z : List Loc, z = [] := ⟨_, rfl⟩
  have hS : St D cy ad ns A M s.heap H locs := by rw [hH, hlo]; exact hS
  have hgoal : W p l e rm_X10_text s m args below meth c H locs 0 0 (MQ below (QC D cy ad ns A r.2 (some (.int r.1))) args s 0 0 A) (F0 m 0 ls []) := by
    unfold f_X10_text at hX
    refine lv_aload_n hx hb dX10_text_0 rfl (lv_at hl 0 rfl) ?_
    refine lv_iconst (v := nI 0) hx hb dX10_text_1 (by decide) ?_
    refine fp_X10_94 X hS (hN) dX10_text_2 (fun H locs hS => ?_)
    obtain ⟨M13, eM13, hS, hX⟩ := nm_mem hS hX
    refine lv_aload_n hx hb dX10_text_5 rfl (lv_at hl 0 rfl) ?_
    refine lv_aload_n hx hb dX10_text_6 rfl (lv_at hl 0 rfl) ?_
    refine fg_X10_13 X hS (hN) dX10_text_7 ?_
    refine lv_iconst (v := nI 0) hx hb dX10_text_10 (by decide) ?_
    obtain ⟨g14, hX⟩ := gin_of hX
    refine r_iald (ci := 10) (o := 100) (k := 2) (n := 4) X hS (hN) rfl rfl g14 dX10_text_11 ?_
    refine fp_X10_117 X hS (hN) dX10_text_12 (fun H locs hS => ?_)
    obtain ⟨M15, eM15, hS, hX⟩ := nm_mem hS hX
    refine lv_aload_n hx hb dX10_text_15 rfl (lv_at hl 0 rfl) ?_
    refine fg_X10_13 X hS (hN) dX10_text_16 ?_
    refine lv_iconst (v := nI 0) hx hb dX10_text_19 (by decide) ?_
    refine lv_iconst (v := nI 0) hx hb dX10_text_20 (by decide) ?_
    obtain ⟨g16, hX⟩ := gin_of hX
    refine r_iast (ci := 10) (o := 100) (k := 2) (n := 4) X hS (hN) rfl rfl g16 dX10_text_21 (fun H locs hS => ?_)
    obtain ⟨M17, eM17, hS, hX⟩ := nm_mem hS hX
    refine lv_aload_n hx hb dX10_text_22 rfl (lv_at hl 0 rfl) ?_
    refine fg_X10_17 X hS (hN) dX10_text_23 ?_
    refine lv_iconst (v := nI 0) hx hb dX10_text_26 (by decide) ?_
    refine lv_iconst (v := nI 0) hx hb dX10_text_27 (by decide) ?_
    obtain ⟨g18, hX⟩ := gin_of hX
    refine r_iast (ci := 10) (o := 100) (k := 3) (n := 4) X hS (hN) rfl rfl g18 dX10_text_28 (fun H locs hS => ?_)
    obtain ⟨M19, eM19, hS, hX⟩ := nm_mem hS hX
    refine lv_aload_n hx hb dX10_text_29 rfl (lv_at hl 0 rfl) ?_
    refine fg_X10_20 X hS (hN) dX10_text_30 ?_
    refine lv_iconst (v := nI 0) hx hb dX10_text_33 (by decide) ?_
    refine lv_iconst (v := (-1)) hx hb dX10_text_34 (by decide) ?_
    obtain ⟨g20, hX⟩ := gin_of hX
    refine r_iast (ci := 10) (o := 100) (k := 4) (n := 4) X hS (hN) rfl rfl g20 dX10_text_35 (fun H locs hS => ?_)
    obtain ⟨M21, eM21, hS, hX⟩ := nm_mem hS hX
    refine lv_iload_n hx hb dX10_text_36 rfl (lv_at hl 1 rfl) ?_
    refine lv_iconst (v := nI 0) hx hb dX10_text_37 (by decide) ?_
    refine lv_iconst (v := nI 3) hx hb dX10_text_38 (by decide) ?_
    obtain ⟨r23, h22, hX⟩ := bn_of hX
    refine r_callS1 (v := .int (b2i r23)) (As := [.int a1, .int (nI 0), .int (nI 3)]) (rest := []) X hS (m_X10_in (M := M21) hN h22) ms_X10_in t6_81 ⟨rfl, rfl, Nat.le_of_ble_eq_true rfl, Nat.le_of_ble_eq_true rfl⟩ rfl hl.1 rfl (Nat.le_of_ble_eq_true rfl) ⟨Nat.zero_le _, Nat.zero_le _⟩ dX10_text_39 (fun H locs hS => ?_)
    refine lv_if_eq (tgt := 72) hx hb dX10_text_42 (by decide) (fun c24 => ?_) (fun c24 => ?_)
    · have hX := if_bf c24 hX
      refine lv_bipush (v := (-2)) hx hb dX10_text_72 (by decide) ?_
      obtain rfl := some_of hX
      exact x_I (v := (-2)) X hS dX10_text_74
    · have hX := if_bt c24 hX
      refine lv_iload_n hx hb dX10_text_45 rfl (lv_at hl 2 rfl) ?_
      refine lv_iconst (v := (-1)) hx hb dX10_text_46 (by decide) ?_
      refine lv_icmp_ne (tgt := 63) hx hb dX10_text_47 (by decide) (fun c25 => ?_) (fun c25 => ?_)
      · have hX := if_f c25 hX
        refine lv_aload_n hx hb dX10_text_63 rfl (lv_at hl 0 rfl) ?_
        refine lv_iload_n hx hb dX10_text_64 rfl (lv_at hl 1 rfl) ?_
        refine lv_iload_n hx hb dX10_text_65 rfl (lv_at hl 2 rfl) ?_
        obtain ⟨r27, h26, hX⟩ := bn_of hX
        refine r_callV1 (v := .int (b2i r27)) (As := [.int a1, .int a2]) (rest := []) X hS (m_X10_is hN h26) mv_X10_is rfl (hN) t6_88 ⟨rfl, rfl, Nat.le_of_ble_eq_true rfl, Nat.le_of_ble_eq_true rfl⟩ rfl hl.1 rfl (Nat.le_of_ble_eq_true rfl) ⟨Nat.zero_le _, Nat.zero_le _⟩ dX10_text_66 (fun H locs hS => ?_)
        refine lv_if_ne (tgt := 75) hx hb dX10_text_69 (by decide) (fun c28 => ?_) (fun c28 => ?_)
        · have hX := if_bt c28 hX
          exact n_X10_text_75 X hN hX _ _ _ (lv_sub hl [0, 1, 2] rfl) hS
        · have hX := if_bf c28 hX
          refine lv_bipush (v := (-2)) hx hb dX10_text_72 (by decide) ?_
          obtain rfl := some_of hX
          exact x_I (v := (-2)) X hS dX10_text_74
      · have hX := if_t c25 hX
        refine lv_aload_n hx hb dX10_text_50 rfl (lv_at hl 0 rfl) ?_
        refine fg_X10_23 X hS (hN) dX10_text_51 ?_
        refine lv_iload_n hx hb dX10_text_54 rfl (lv_at hl 1 rfl) ?_
        obtain ⟨g29, hX⟩ := gin_of hX
        refine r_iald (ci := 10) (o := 100) (k := 5) (n := 16) X hS (hN) rfl rfl g29 dX10_text_55 ?_
        refine lv_iconst (v := nI 2) hx hb dX10_text_56 (by decide) ?_
        refine lv_icmp_ne (tgt := 75) hx hb dX10_text_57 (by decide) (fun c30 => ?_) (fun c30 => ?_)
        · have hX := if_f c30 hX
          exact n_X10_text_75 X hN hX _ _ _ (lv_sub hl [0, 1, 2] rfl) hS
        · have hX := if_t c30 hX
          refine lv_goto (tgt := 72) hx hb dX10_text_60 (by decide) ?_
          refine lv_bipush (v := (-2)) hx hb dX10_text_72 (by decide) ?_
          obtain rfl := some_of hX
          exact x_I (v := (-2)) X hS dX10_text_74
  rw [hH, hlo] at hgoal
  exact hgoal
theorem mv_X10_text : Mv yX10_text RX10 cX10_text 4 ((some .int)) 2 := ⟨t6_87, t6_85, t6_86, t1_11, ⟨by decide, by decide⟩, by decide +kernel⟩
end MT_30_M0
