section FR_17_X2
variable {p : Program} {l : Launch} {e : Env} {R : Room} {s : State} {m : MethodId} {args : Array Value} {below : List Frame} {meth : Method} {c : Code} {H : Heap} {locs : List Loc} {cells slots : Nat} {Q : State → Prop} {D : va_G} {cy : Nat → ClassId} {ad : Nat → Nat → Nat} {ns : List (Nat × Nat)} {A : Nat → Prop} {M M' : Mem} {cc : ByteArray} {nL : Nat} {ret : Option FieldType} {pc : Nat} {ls : Array Slot} {rest : List Value}
theorem fg_X2_12 (X : Cx p s m args meth c D cy ad A RX2 cc nL ret) (hS : St D cy ad ns A M s.heap H locs) (ho : Ob ns 2 10) (hdg : decode cc pc = .ok (.getfield 12, 3)) (kk : W p l e R s m args below meth c H locs cells slots Q (F0 m (pc + 3) ls (.ref (ad 11 0) :: rest))) : W p l e R s m args below meth c H locs cells slots Q (F0 m pc ls (.ref (ad 10 0) :: rest)) := r_get X hS (C := RX2) (T := TX2) (N := 14) (k := 0) tf2 rfl rfl ho (by decide) t2_1 ⟨rfl, rfl, rfl⟩ rfl hdg kk
theorem fg_X2_21 (X : Cx p s m args meth c D cy ad A RX2 cc nL ret) (hS : St D cy ad ns A M s.heap H locs) (ho : Ob ns 2 10) (hdg : decode cc pc = .ok (.getfield 21, 3)) (kk : W p l e R s m args below meth c H locs cells slots Q (F0 m (pc + 3) ls (.ref (ad 12 0) :: rest))) : W p l e R s m args below meth c H locs cells slots Q (F0 m pc ls (.ref (ad 10 0) :: rest)) := r_get X hS (C := RX2) (T := TX2) (N := 14) (k := 1) tf2 rfl rfl ho (by decide) t2_3 ⟨rfl, rfl, rfl⟩ rfl hdg kk
theorem fg_X2_28 (X : Cx p s m args meth c D cy ad A RX2 cc nL ret) (hS : St D cy ad ns A M s.heap H locs) (ho : Ob ns 2 10) (hdg : decode cc pc = .ok (.getfield 28, 3)) (kk : W p l e R s m args below meth c H locs cells slots Q (F0 m (pc + 3) ls (.ref (ad 13 0) :: rest))) : W p l e R s m args below meth c H locs cells slots Q (F0 m pc ls (.ref (ad 10 0) :: rest)) := r_get X hS (C := RX2) (T := TX2) (N := 14) (k := 2) tf2 rfl rfl ho (by decide) t2_5 ⟨rfl, rfl, rfl⟩ rfl hdg kk
theorem fg_X2_35 (X : Cx p s m args meth c D cy ad A RX2 cc nL ret) (hS : St D cy ad ns A M s.heap H locs) (ho : Ob ns 2 10) (hdg : decode cc pc = .ok (.getfield 35, 3)) (kk : W p l e R s m args below meth c H locs cells slots Q (F0 m (pc + 3) ls (.ref (ad 14 0) :: rest))) : W p l e R s m args below meth c H locs cells slots Q (F0 m pc ls (.ref (ad 10 0) :: rest)) := r_get X hS (C := RX2) (T := TX2) (N := 14) (k := 3) tf2 rfl rfl ho (by decide) t2_7 ⟨rfl, rfl, rfl⟩ rfl hdg kk
theorem fg_X2_39 (X : Cx p s m args meth c D cy ad A RX2 cc nL ret) (hS : St D cy ad ns A M s.heap H locs) (ho : Ob ns 2 10) (hdg : decode cc pc = .ok (.getfield 39, 3)) (kk : W p l e R s m args below meth c H locs cells slots Q (F0 m (pc + 3) ls (.ref (ad 10 (4 + 1)) :: rest))) : W p l e R s m args below meth c H locs cells slots Q (F0 m pc ls (.ref (ad 10 0) :: rest)) := r_get X hS (C := RX2) (T := TX2) (N := 14) (k := 4) tf2 rfl rfl ho (by decide) t2_9 ⟨rfl, rfl, rfl⟩ rfl hdg kk
theorem fg_X2_43 (X : Cx p s m args meth c D cy ad A RX2 cc nL ret) (hS : St D cy ad ns A M s.heap H locs) (ho : Ob ns 2 10) (hdg : decode cc pc = .ok (.getfield 43, 3)) (kk : W p l e R s m args below meth c H locs cells slots Q (F0 m (pc + 3) ls (.ref (ad 10 (5 + 1)) :: rest))) : W p l e R s m args below meth c H locs cells slots Q (F0 m pc ls (.ref (ad 10 0) :: rest)) := r_get X hS (C := RX2) (T := TX2) (N := 14) (k := 5) tf2 rfl rfl ho (by decide) t2_10 ⟨rfl, rfl, rfl⟩ rfl hdg kk
theorem fg_X2_46 (X : Cx p s m args meth c D cy ad A RX2 cc nL ret) (hS : St D cy ad ns A M s.heap H locs) (ho : Ob ns 2 10) (hdg : decode cc pc = .ok (.getfield 46, 3)) (kk : W p l e R s m args below meth c H locs cells slots Q (F0 m (pc + 3) ls (.ref (if gR M 10 6 = 0 then ad 10 (6 + 1) else ad (gR M 10 6) (0 + 1)) :: rest))) : W p l e R s m args below meth c H locs cells slots Q (F0 m pc ls (.ref (ad 10 0) :: rest)) := r_get X hS (C := RX2) (T := TX2) (N := 14) (k := 6) tf2 rfl rfl ho (by decide) t2_11 ⟨rfl, rfl, rfl⟩ rfl hdg kk
theorem fp_X2_46 (X : Cx p s m args meth c D cy ad A RX2 cc nL ret) (hS : St D cy ad ns A M s.heap H locs) (ho : Ob ns 2 10) (hN : NsC ns) {u : Nat} (hu : Ob ns 5 u) (hdg : decode cc pc = .ok (.putfield 46, 3)) (kk : ∀ (H1 : Heap) (locs1 : List Loc), St D cy ad ns A (sR M 10 6 u) s.heap H1 locs1 → W p l e R s m args below meth c H1 locs1 cells slots Q (F0 m (pc + 3) ls rest)) : W p l e R s m args below meth c H locs cells slots Q (F0 m pc ls (.ref (ad u (0 + 1)) :: .ref (ad 10 0) :: rest)) := r_put X hS (C := RX2) (T := TX2) (N := 14) (k := 6) tf2 rfl rfl tyX2 tyX2_ok nmX2 ho (by decide) t2_11 ⟨rfl, rfl, rfl⟩ rfl (ty := (.array .byte)) (by decide +kernel) rfl rfl (wr_sR10 hN hS.1.2.2 hu) (cel_sR4 (by decide) rfl (ne_of_Ob hu)) (fun q hq => cel_sR' hq) hdg kk
theorem fg_X2_56 (X : Cx p s m args meth c D cy ad A RX2 cc nL ret) (hS : St D cy ad ns A M s.heap H locs) (ho : Ob ns 2 10) (hdg : decode cc pc = .ok (.getfield 56, 3)) (kk : W p l e R s m args below meth c H locs cells slots Q (F0 m (pc + 3) ls (.int (gI M 10 7) :: rest))) : W p l e R s m args below meth c H locs cells slots Q (F0 m pc ls (.ref (ad 10 0) :: rest)) := r_get X hS (C := RX2) (T := TX2) (N := 14) (k := 7) tf2 rfl rfl ho (by decide) t2_12 ⟨rfl, rfl, rfl⟩ rfl hdg kk
theorem fp_X2_56 (X : Cx p s m args meth c D cy ad A RX2 cc nL ret) (hS : St D cy ad ns A M s.heap H locs) (ho : Ob ns 2 10) {v : Int32} (hdg : decode cc pc = .ok (.putfield 56, 3)) (kk : ∀ (H1 : Heap) (locs1 : List Loc), St D cy ad ns A (sI M 10 7 v) s.heap H1 locs1 → W p l e R s m args below meth c H1 locs1 cells slots Q (F0 m (pc + 3) ls rest)) : W p l e R s m args below meth c H locs cells slots Q (F0 m pc ls (.int v :: .ref (ad 10 0) :: rest)) := r_put X hS (C := RX2) (T := TX2) (N := 14) (k := 7) tf2 rfl rfl tyX2 tyX2_ok nmX2 ho (by decide) t2_12 ⟨rfl, rfl, rfl⟩ rfl (ty := .int) (by decide +kernel) rfl rfl (wr_sI hS.1.2.2) (cel_sI (by decide) rfl) (fun q hq => cel_sI' hq) hdg kk
theorem fg_X2_60 (X : Cx p s m args meth c D cy ad A RX2 cc nL ret) (hS : St D cy ad ns A M s.heap H locs) (ho : Ob ns 2 10) (hdg : decode cc pc = .ok (.getfield 60, 3)) (kk : W p l e R s m args below meth c H locs cells slots Q (F0 m (pc + 3) ls (.int (gI M 10 10) :: rest))) : W p l e R s m args below meth c H locs cells slots Q (F0 m pc ls (.ref (ad 10 0) :: rest)) := r_get X hS (C := RX2) (T := TX2) (N := 14) (k := 10) tf2 rfl rfl ho (by decide) t2_15 ⟨rfl, rfl, rfl⟩ rfl hdg kk
theorem fp_X2_60 (X : Cx p s m args meth c D cy ad A RX2 cc nL ret) (hS : St D cy ad ns A M s.heap H locs) (ho : Ob ns 2 10) {v : Int32} (hdg : decode cc pc = .ok (.putfield 60, 3)) (kk : ∀ (H1 : Heap) (locs1 : List Loc), St D cy ad ns A (sI M 10 10 v) s.heap H1 locs1 → W p l e R s m args below meth c H1 locs1 cells slots Q (F0 m (pc + 3) ls rest)) : W p l e R s m args below meth c H locs cells slots Q (F0 m pc ls (.int v :: .ref (ad 10 0) :: rest)) := r_put X hS (C := RX2) (T := TX2) (N := 14) (k := 10) tf2 rfl rfl tyX2 tyX2_ok nmX2 ho (by decide) t2_15 ⟨rfl, rfl, rfl⟩ rfl (ty := .int) (by decide +kernel) rfl rfl (wr_sI hS.1.2.2) (cel_sI (by decide) rfl) (fun q hq => cel_sI' hq) hdg kk
theorem fg_X2_63 (X : Cx p s m args meth c D cy ad A RX2 cc nL ret) (hS : St D cy ad ns A M s.heap H locs) (ho : Ob ns 2 10) (hdg : decode cc pc = .ok (.getfield 63, 3)) (kk : W p l e R s m args below meth c H locs cells slots Q (F0 m (pc + 3) ls (.int (gI M 10 11) :: rest))) : W p l e R s m args below meth c H locs cells slots Q (F0 m pc ls (.ref (ad 10 0) :: rest)) := r_get X hS (C := RX2) (T := TX2) (N := 14) (k := 11) tf2 rfl rfl ho (by decide) t2_16 ⟨rfl, rfl, rfl⟩ rfl hdg kk
theorem fp_X2_63 (X : Cx p s m args meth c D cy ad A RX2 cc nL ret) (hS : St D cy ad ns A M s.heap H locs) (ho : Ob ns 2 10) {v : Int32} (hdg : decode cc pc = .ok (.putfield 63, 3)) (kk : ∀ (H1 : Heap) (locs1 : List Loc), St D cy ad ns A (sI M 10 11 v) s.heap H1 locs1 → W p l e R s m args below meth c H1 locs1 cells slots Q (F0 m (pc + 3) ls rest)) : W p l e R s m args below meth c H locs cells slots Q (F0 m pc ls (.int v :: .ref (ad 10 0) :: rest)) := r_put X hS (C := RX2) (T := TX2) (N := 14) (k := 11) tf2 rfl rfl tyX2 tyX2_ok nmX2 ho (by decide) t2_16 ⟨rfl, rfl, rfl⟩ rfl (ty := .int) (by decide +kernel) rfl rfl (wr_sI hS.1.2.2) (cel_sI (by decide) rfl) (fun q hq => cel_sI' hq) hdg kk
theorem fg_X2_66 (X : Cx p s m args meth c D cy ad A RX2 cc nL ret) (hS : St D cy ad ns A M s.heap H locs) (ho : Ob ns 2 10) (hdg : decode cc pc = .ok (.getfield 66, 3)) (kk : W p l e R s m args below meth c H locs cells slots Q (F0 m (pc + 3) ls (.int (gI M 10 12) :: rest))) : W p l e R s m args below meth c H locs cells slots Q (F0 m pc ls (.ref (ad 10 0) :: rest)) := r_get X hS (C := RX2) (T := TX2) (N := 14) (k := 12) tf2 rfl rfl ho (by decide) t2_17 ⟨rfl, rfl, rfl⟩ rfl hdg kk
theorem fp_X2_66 (X : Cx p s m args meth c D cy ad A RX2 cc nL ret) (hS : St D cy ad ns A M s.heap H locs) (ho : Ob ns 2 10) {v : Int32} (hdg : decode cc pc = .ok (.putfield 66, 3)) (kk : ∀ (H1 : Heap) (locs1 : List Loc), St D cy ad ns A (sI M 10 12 v) s.heap H1 locs1 → W p l e R s m args below meth c H1 locs1 cells slots Q (F0 m (pc + 3) ls rest)) : W p l e R s m args below meth c H locs cells slots Q (F0 m pc ls (.int v :: .ref (ad 10 0) :: rest)) := r_put X hS (C := RX2) (T := TX2) (N := 14) (k := 12) tf2 rfl rfl tyX2 tyX2_ok nmX2 ho (by decide) t2_17 ⟨rfl, rfl, rfl⟩ rfl (ty := .int) (by decide +kernel) rfl rfl (wr_sI hS.1.2.2) (cel_sI (by decide) rfl) (fun q hq => cel_sI' hq) hdg kk
theorem fp_X2_69 (X : Cx p s m args meth c D cy ad A RX2 cc nL ret) (hS : St D cy ad ns A M s.heap H locs) (ho : Ob ns 2 10) {v : Int32} (hdg : decode cc pc = .ok (.putfield 69, 3)) (kk : ∀ (H1 : Heap) (locs1 : List Loc), St D cy ad ns A (sI M 10 13 v) s.heap H1 locs1 → W p l e R s m args below meth c H1 locs1 cells slots Q (F0 m (pc + 3) ls rest)) : W p l e R s m args below meth c H locs cells slots Q (F0 m pc ls (.int v :: .ref (ad 10 0) :: rest)) := r_put X hS (C := RX2) (T := TX2) (N := 14) (k := 13) tf2 rfl rfl tyX2 tyX2_ok nmX2 ho (by decide) t2_19 ⟨rfl, rfl, rfl⟩ rfl (ty := .int) (by decide +kernel) rfl rfl (wr_sI hS.1.2.2) (cel_sI (by decide) rfl) (fun q hq => cel_sI' hq) hdg kk
theorem fg_X2_75 (X : Cx p s m args meth c D cy ad A RX2 cc nL ret) (hS : St D cy ad ns A M s.heap H locs) {o : Nat} (ho : Ob ns 1 o) (hdg : decode cc pc = .ok (.getfield 75, 3)) (kk : W p l e R s m args below meth c H locs cells slots Q (F0 m (pc + 3) ls (.int (gI M o 0) :: rest))) : W p l e R s m args below meth c H locs cells slots Q (F0 m pc ls (.ref (ad o 0) :: rest)) := r_get X hS (C := RX1) (T := TX1) (N := 3) (k := 0) tf1 rfl rfl ho (by decide) t1_93 ⟨rfl, rfl, rfl⟩ (by unfold fv; rw [ho.1]; rfl) hdg kk
theorem fp_X2_75 (X : Cx p s m args meth c D cy ad A RX2 cc nL ret) (hS : St D cy ad ns A M s.heap H locs) {o : Nat} (ho : Ob ns 1 o) {v : Int32} (hdg : decode cc pc = .ok (.putfield 75, 3)) (kk : ∀ (H1 : Heap) (locs1 : List Loc), St D cy ad ns A (sI M o 0 v) s.heap H1 locs1 → W p l e R s m args below meth c H1 locs1 cells slots Q (F0 m (pc + 3) ls rest)) : W p l e R s m args below meth c H locs cells slots Q (F0 m pc ls (.int v :: .ref (ad o 0) :: rest)) := r_put X hS (C := RX1) (T := TX1) (N := 3) (k := 0) tf1 rfl rfl tyX1 tyX1_ok nmX1 ho (by decide) t1_93 ⟨rfl, rfl, rfl⟩ rfl (ty := .int) (by decide +kernel) rfl rfl (wr_sI hS.1.2.2) (cel_sI (by rw [ho.1]; decide) (by rw [ho.1]; rfl)) (fun q hq => cel_sI' hq) hdg kk
theorem fg_X2_79 (X : Cx p s m args meth c D cy ad A RX2 cc nL ret) (hS : St D cy ad ns A M s.heap H locs) {o : Nat} (ho : Ob ns 4 o) (hdg : decode cc pc = .ok (.getfield 79, 3)) (kk : W p l e R s m args below meth c H locs cells slots Q (F0 m (pc + 3) ls (.int (gI M o 0) :: rest))) : W p l e R s m args below meth c H locs cells slots Q (F0 m pc ls (.ref (ad o 0) :: rest)) := r_get X hS (C := RX4) (T := TX4) (N := 4) (k := 0) tf4 rfl rfl ho (by decide) t1_172 ⟨rfl, rfl, rfl⟩ (by unfold fv; rw [ho.1]; rfl) hdg kk
theorem fp_X2_79 (X : Cx p s m args meth c D cy ad A RX2 cc nL ret) (hS : St D cy ad ns A M s.heap H locs) {o : Nat} (ho : Ob ns 4 o) {v : Int32} (hdg : decode cc pc = .ok (.putfield 79, 3)) (kk : ∀ (H1 : Heap) (locs1 : List Loc), St D cy ad ns A (sI M o 0 v) s.heap H1 locs1 → W p l e R s m args below meth c H1 locs1 cells slots Q (F0 m (pc + 3) ls rest)) : W p l e R s m args below meth c H locs cells slots Q (F0 m pc ls (.int v :: .ref (ad o 0) :: rest)) := r_put X hS (C := RX4) (T := TX4) (N := 4) (k := 0) tf4 rfl rfl tyX4 tyX4_ok nmX4 ho (by decide) t1_172 ⟨rfl, rfl, rfl⟩ rfl (ty := .int) (by decide +kernel) rfl rfl (wr_sI hS.1.2.2) (cel_sI (by rw [ho.1]; decide) (by rw [ho.1]; rfl)) (fun q hq => cel_sI' hq) hdg kk
theorem fg_X2_85 (X : Cx p s m args meth c D cy ad A RX2 cc nL ret) (hS : St D cy ad ns A M s.heap H locs) (ho : Ob ns 2 10) (hdg : decode cc pc = .ok (.getfield 85, 3)) (kk : W p l e R s m args below meth c H locs cells slots Q (F0 m (pc + 3) ls (.int (gI M 10 8) :: rest))) : W p l e R s m args below meth c H locs cells slots Q (F0 m pc ls (.ref (ad 10 0) :: rest)) := r_get X hS (C := RX2) (T := TX2) (N := 14) (k := 8) tf2 rfl rfl ho (by decide) t2_13 ⟨rfl, rfl, rfl⟩ rfl hdg kk
theorem fp_X2_85 (X : Cx p s m args meth c D cy ad A RX2 cc nL ret) (hS : St D cy ad ns A M s.heap H locs) (ho : Ob ns 2 10) {v : Int32} (hdg : decode cc pc = .ok (.putfield 85, 3)) (kk : ∀ (H1 : Heap) (locs1 : List Loc), St D cy ad ns A (sI M 10 8 v) s.heap H1 locs1 → W p l e R s m args below meth c H1 locs1 cells slots Q (F0 m (pc + 3) ls rest)) : W p l e R s m args below meth c H locs cells slots Q (F0 m pc ls (.int v :: .ref (ad 10 0) :: rest)) := r_put X hS (C := RX2) (T := TX2) (N := 14) (k := 8) tf2 rfl rfl tyX2 tyX2_ok nmX2 ho (by decide) t2_13 ⟨rfl, rfl, rfl⟩ rfl (ty := .int) (by decide +kernel) rfl rfl (wr_sI hS.1.2.2) (cel_sI (by decide) rfl) (fun q hq => cel_sI' hq) hdg kk
theorem fg_X2_92 (X : Cx p s m args meth c D cy ad A RX2 cc nL ret) (hS : St D cy ad ns A M s.heap H locs) {o : Nat} (ho : Ob ns 0 o) (hdg : decode cc pc = .ok (.getfield 92, 3)) (kk : W p l e R s m args below meth c H locs cells slots Q (F0 m (pc + 3) ls (.int (gI M o 0) :: rest))) : W p l e R s m args below meth c H locs cells slots Q (F0 m pc ls (.ref (ad o 0) :: rest)) := r_get X hS (C := RX0) (T := TX0) (N := 7) (k := 0) tf0 rfl rfl ho (by decide) t1_43 ⟨rfl, rfl, rfl⟩ (by unfold fv; rw [ho.1]; rfl) hdg kk
theorem fg_X2_95 (X : Cx p s m args meth c D cy ad A RX2 cc nL ret) (hS : St D cy ad ns A M s.heap H locs) {o : Nat} (ho : Ob ns 6 o) (hdg : decode cc pc = .ok (.getfield 95, 3)) (kk : W p l e R s m args below meth c H locs cells slots Q (F0 m (pc + 3) ls (.int (gI M o 4) :: rest))) : W p l e R s m args below meth c H locs cells slots Q (F0 m pc ls (.ref (ad o 0) :: rest)) := r_get X hS (C := RX6) (T := TX6) (N := 11) (k := 4) tf6 rfl rfl ho (by decide) t1_126 ⟨rfl, rfl, rfl⟩ (by unfold fv; rw [ho.1]; rfl) hdg kk
theorem fg_X2_102 (X : Cx p s m args meth c D cy ad A RX2 cc nL ret) (hS : St D cy ad ns A M s.heap H locs) (ho : Ob ns 2 10) (hdg : decode cc pc = .ok (.getfield 102, 3)) (kk : W p l e R s m args below meth c H locs cells slots Q (F0 m (pc + 3) ls (.int (gI M 10 9) :: rest))) : W p l e R s m args below meth c H locs cells slots Q (F0 m pc ls (.ref (ad 10 0) :: rest)) := r_get X hS (C := RX2) (T := TX2) (N := 14) (k := 9) tf2 rfl rfl ho (by decide) t2_14 ⟨rfl, rfl, rfl⟩ rfl hdg kk
theorem fp_X2_102 (X : Cx p s m args meth c D cy ad A RX2 cc nL ret) (hS : St D cy ad ns A M s.heap H locs) (ho : Ob ns 2 10) {v : Int32} (hdg : decode cc pc = .ok (.putfield 102, 3)) (kk : ∀ (H1 : Heap) (locs1 : List Loc), St D cy ad ns A (sI M 10 9 v) s.heap H1 locs1 → W p l e R s m args below meth c H1 locs1 cells slots Q (F0 m (pc + 3) ls rest)) : W p l e R s m args below meth c H locs cells slots Q (F0 m pc ls (.int v :: .ref (ad 10 0) :: rest)) := r_put X hS (C := RX2) (T := TX2) (N := 14) (k := 9) tf2 rfl rfl tyX2 tyX2_ok nmX2 ho (by decide) t2_14 ⟨rfl, rfl, rfl⟩ rfl (ty := .int) (by decide +kernel) rfl rfl (wr_sI hS.1.2.2) (cel_sI (by decide) rfl) (fun q hq => cel_sI' hq) hdg kk
theorem fg_X2_188 (X : Cx p s m args meth c D cy ad A RX2 cc nL ret) (hS : St D cy ad ns A M s.heap H locs) {o : Nat} (ho : Ob ns 0 o) (hdg : decode cc pc = .ok (.getfield 188, 3)) (kk : W p l e R s m args below meth c H locs cells slots Q (F0 m (pc + 3) ls (.ref (ad o (5 + 1)) :: rest))) : W p l e R s m args below meth c H locs cells slots Q (F0 m pc ls (.ref (ad o 0) :: rest)) := r_get X hS (C := RX0) (T := TX0) (N := 7) (k := 5) tf0 rfl rfl ho (by decide) t1_61 ⟨rfl, rfl, rfl⟩ (by unfold fv; rw [ho.1]; rfl) hdg kk
theorem fg_X2_191 (X : Cx p s m args meth c D cy ad A RX2 cc nL ret) (hS : St D cy ad ns A M s.heap H locs) {o : Nat} (ho : Ob ns 0 o) (hdg : decode cc pc = .ok (.getfield 191, 3)) (kk : W p l e R s m args below meth c H locs cells slots Q (F0 m (pc + 3) ls (.ref (ad o (6 + 1)) :: rest))) : W p l e R s m args below meth c H locs cells slots Q (F0 m pc ls (.ref (ad o 0) :: rest)) := r_get X hS (C := RX0) (T := TX0) (N := 7) (k := 6) tf0 rfl rfl ho (by decide) t1_65 ⟨rfl, rfl, rfl⟩ (by unfold fv; rw [ho.1]; rfl) hdg kk
theorem fp_X2_194 (X : Cx p s m args meth c D cy ad A RX2 cc nL ret) (hS : St D cy ad ns A M s.heap H locs) {o : Nat} (ho : Ob ns 0 o) {v : Int32} (hdg : decode cc pc = .ok (.putfield 194, 3)) (kk : ∀ (H1 : Heap) (locs1 : List Loc), St D cy ad ns A (sI M o 1 v) s.heap H1 locs1 → W p l e R s m args below meth c H1 locs1 cells slots Q (F0 m (pc + 3) ls rest)) : W p l e R s m args below meth c H locs cells slots Q (F0 m pc ls (.int v :: .ref (ad o 0) :: rest)) := r_put X hS (C := RX0) (T := TX0) (N := 7) (k := 1) tf0 rfl rfl tyX0 tyX0_ok nmX0 ho (by decide) t1_47 ⟨rfl, rfl, rfl⟩ rfl (ty := .int) (by decide +kernel) rfl rfl (wr_sI hS.1.2.2) (cel_sI (by rw [ho.1]; decide) (by rw [ho.1]; rfl)) (fun q hq => cel_sI' hq) hdg kk
theorem fp_X2_199 (X : Cx p s m args meth c D cy ad A RX2 cc nL ret) (hS : St D cy ad ns A M s.heap H locs) {o : Nat} (ho : Ob ns 6 o) {v : Int32} (hdg : decode cc pc = .ok (.putfield 199, 3)) (kk : ∀ (H1 : Heap) (locs1 : List Loc), St D cy ad ns A (sI M o 2 v) s.heap H1 locs1 → W p l e R s m args below meth c H1 locs1 cells slots Q (F0 m (pc + 3) ls rest)) : W p l e R s m args below meth c H locs cells slots Q (F0 m pc ls (.int v :: .ref (ad o 0) :: rest)) := r_put X hS (C := RX6) (T := TX6) (N := 11) (k := 2) tf6 rfl rfl tyX6 tyX6_ok nmX6 ho (by decide) t1_121 ⟨rfl, rfl, rfl⟩ rfl (ty := .int) (by decide +kernel) rfl rfl (wr_sI hS.1.2.2) (cel_sI (by rw [ho.1]; decide) (by rw [ho.1]; rfl)) (fun q hq => cel_sI' hq) hdg kk
theorem fp_X2_201 (X : Cx p s m args meth c D cy ad A RX2 cc nL ret) (hS : St D cy ad ns A M s.heap H locs) {o : Nat} (ho : Ob ns 6 o) {v : Int32} (hdg : decode cc pc = .ok (.putfield 201, 3)) (kk : ∀ (H1 : Heap) (locs1 : List Loc), St D cy ad ns A (sI M o 3 v) s.heap H1 locs1 → W p l e R s m args below meth c H1 locs1 cells slots Q (F0 m (pc + 3) ls rest)) : W p l e R s m args below meth c H locs cells slots Q (F0 m pc ls (.int v :: .ref (ad o 0) :: rest)) := r_put X hS (C := RX6) (T := TX6) (N := 11) (k := 3) tf6 rfl rfl tyX6 tyX6_ok nmX6 ho (by decide) t1_123 ⟨rfl, rfl, rfl⟩ rfl (ty := .int) (by decide +kernel) rfl rfl (wr_sI hS.1.2.2) (cel_sI (by rw [ho.1]; decide) (by rw [ho.1]; rfl)) (fun q hq => cel_sI' hq) hdg kk
theorem fp_X2_203 (X : Cx p s m args meth c D cy ad A RX2 cc nL ret) (hS : St D cy ad ns A M s.heap H locs) {o : Nat} (ho : Ob ns 6 o) {v : Int32} (hdg : decode cc pc = .ok (.putfield 203, 3)) (kk : ∀ (H1 : Heap) (locs1 : List Loc), St D cy ad ns A (sI M o 0 v) s.heap H1 locs1 → W p l e R s m args below meth c H1 locs1 cells slots Q (F0 m (pc + 3) ls rest)) : W p l e R s m args below meth c H locs cells slots Q (F0 m pc ls (.int v :: .ref (ad o 0) :: rest)) := r_put X hS (C := RX6) (T := TX6) (N := 11) (k := 0) tf6 rfl rfl tyX6 tyX6_ok nmX6 ho (by decide) t1_115 ⟨rfl, rfl, rfl⟩ rfl (ty := .int) (by decide +kernel) rfl rfl (wr_sI hS.1.2.2) (cel_sI (by rw [ho.1]; decide) (by rw [ho.1]; rfl)) (fun q hq => cel_sI' hq) hdg kk
theorem fp_X2_206 (X : Cx p s m args meth c D cy ad A RX2 cc nL ret) (hS : St D cy ad ns A M s.heap H locs) {o : Nat} (ho : Ob ns 6 o) {v : Int32} (hdg : decode cc pc = .ok (.putfield 206, 3)) (kk : ∀ (H1 : Heap) (locs1 : List Loc), St D cy ad ns A (sI M o 1 v) s.heap H1 locs1 → W p l e R s m args below meth c H1 locs1 cells slots Q (F0 m (pc + 3) ls rest)) : W p l e R s m args below meth c H locs cells slots Q (F0 m pc ls (.int v :: .ref (ad o 0) :: rest)) := r_put X hS (C := RX6) (T := TX6) (N := 11) (k := 1) tf6 rfl rfl tyX6 tyX6_ok nmX6 ho (by decide) t1_118 ⟨rfl, rfl, rfl⟩ rfl (ty := .int) (by decide +kernel) rfl rfl (wr_sI hS.1.2.2) (cel_sI (by rw [ho.1]; decide) (by rw [ho.1]; rfl)) (fun q hq => cel_sI' hq) hdg kk
theorem fg_X2_213 (X : Cx p s m args meth c D cy ad A RX2 cc nL ret) (hS : St D cy ad ns A M s.heap H locs) {o : Nat} (ho : Ob ns 6 o) (hdg : decode cc pc = .ok (.getfield 213, 3)) (kk : W p l e R s m args below meth c H locs cells slots Q (F0 m (pc + 3) ls (.ref (ad o (9 + 1)) :: rest))) : W p l e R s m args below meth c H locs cells slots Q (F0 m pc ls (.ref (ad o 0) :: rest)) := r_get X hS (C := RX6) (T := TX6) (N := 11) (k := 9) tf6 rfl rfl ho (by decide) t1_138 ⟨rfl, rfl, rfl⟩ (by unfold fv; rw [ho.1]; rfl) hdg kk
theorem fg_X2_216 (X : Cx p s m args meth c D cy ad A RX2 cc nL ret) (hS : St D cy ad ns A M s.heap H locs) {o : Nat} (ho : Ob ns 6 o) (hdg : decode cc pc = .ok (.getfield 216, 3)) (kk : W p l e R s m args below meth c H locs cells slots Q (F0 m (pc + 3) ls (.ref (ad o (10 + 1)) :: rest))) : W p l e R s m args below meth c H locs cells slots Q (F0 m pc ls (.ref (ad o 0) :: rest)) := r_get X hS (C := RX6) (T := TX6) (N := 11) (k := 10) tf6 rfl rfl ho (by decide) t1_140 ⟨rfl, rfl, rfl⟩ (by unfold fv; rw [ho.1]; rfl) hdg kk
end FR_17_X2
section MT_17_X2
variable {p : Program} {l : Launch} {e : Env} {s : State} {m : MethodId} {args : Array Value} {below : List Frame} {meth : Method} {c : Code} {D : va_G} {cy : Nat → ClassId} {ad : Nat → Nat → Nat} {ns : List (Nat × Nat)} {A : Nat → Prop}
/-! SewnYear$Reader.isBlank(I)Z -/
def rm_X2_isBlank : Room := { frames := 0, cells := 0, slots := 0, locals := 0 }
def f_X2_isBlank (a1 : Int32) : Option (Bool) :=
  if a1 = (nI 10) then (some true) else (if a1 = (nI 32) then (some true) else (some false))
set_option maxRecDepth 100000 in
set_option maxHeartbeats 4000000 in
theorem m_X2_isBlank {l : Launch} {D : va_G} {cy : Nat → ClassId} {ad : Nat → Nat → Nat} {ns : List (Nat × Nat)} {A : Nat → Prop} {M : Mem} (hN : NsC ns) {a1 : Int32} {r : Bool} (hX : f_X2_isBlank a1 = some r) : Ct l yX2_isBlank cX2_isBlank 1 ((some .boolean)) rm_X2_isBlank D cy ad ns A [.int a1] M M (some (.int (b2i r))) := by
  refine ct_of (lv := [(0, .int a1)]) (by decide) (Nat.le_of_ble_eq_true rfl) rfl ?_
  intro p e s m args below meth c ls X hl hS
  obtain ⟨hx, hb, hml, hown, hts, hK, hr, hlk, hA, hG⟩ := id X
  obtain ⟨H, hH⟩ : ∃ z, z = s.heap := ⟨_, rfl⟩
  obtain ⟨locs, hlo⟩ : ∃ z : List Loc, z = [] := ⟨_, rfl⟩
  have hS : St D cy ad ns A M s.heap H locs := by rw [hH, hlo]; exact hS
  have hgoal : W p l e rm_X2_isBlank s m args below meth c H locs 0 0 (MQ below (QC D cy ad ns A M (some (.int (b2i r)))) args s 0 0 A) (F0 m 0 ls []) := by
    unfold f_X2_isBlank at hX
    refine lv_iload_n hx hb dX2_isBlank_0 rfl (lv_at hl 0 rfl) ?_
    refine lv_bipush (v := nI 10) hx hb dX2_isBlank_1 (by decide) ?_
    refine lv_icmp_eq (tgt := 12) hx hb dX2_isBlank_3 (by decide) (fun c1 => ?_) (fun c1 => ?_)
    · have hX := if_t c1 hX
      refine lv_iconst (v := nI 1) hx hb dX2_isBlank_12 (by decide) ?_
      refine lv_goto (tgt := 17) hx hb dX2_isBlank_13 (by decide) ?_
      obtain rfl := some_of hX
      exact x_Z (v := true) X hS dX2_isBlank_17
    · have hX := if_f c1 hX
      refine lv_iload_n hx hb dX2_isBlank_6 rfl (lv_at hl 0 rfl) ?_
      refine lv_bipush (v := nI 32) hx hb dX2_isBlank_7 (by decide) ?_
      refine lv_icmp_ne (tgt := 16) hx hb dX2_isBlank_9 (by decide) (fun c2 => ?_) (fun c2 => ?_)
      · have hX := if_f c2 hX
        refine lv_iconst (v := nI 0) hx hb dX2_isBlank_16 (by decide) ?_
        obtain rfl := some_of hX
        exact x_Z (v := false) X hS dX2_isBlank_17
      · have hX := if_t c2 hX
        refine lv_iconst (v := nI 1) hx hb dX2_isBlank_12 (by decide) ?_
        refine lv_goto (tgt := 17) hx hb dX2_isBlank_13 (by decide) ?_
        obtain rfl := some_of hX
        exact x_Z (v := true) X hS dX2_isBlank_17
  rw [hH, hlo] at hgoal
  exact hgoal
theorem ms_X2_isBlank : Ms yX2_isBlank cX2_isBlank 1 ((some .boolean)) 1 := ⟨t2_235, t2_234, t1_7, ⟨by decide, by decide⟩, by decide +kernel⟩
/-! SewnYear$Reader.isLetter(I)Z -/
def rm_X2_isLetter : Room := { frames := 0, cells := 0, slots := 0, locals := 0 }
def f_X2_isLetter (a1 : Int32) : Option (Bool) :=
  if a1 < (nI 97) then (some false) else (if (nI 122) < a1 then (some false) else (some true))
set_option maxRecDepth 100000 in
set_option maxHeartbeats 4000000 in
theorem m_X2_isLetter {l : Launch} {D : va_G} {cy : Nat → ClassId} {ad : Nat → Nat → Nat} {ns : List (Nat × Nat)} {A : Nat → Prop} {M : Mem} (hN : NsC ns) {a1 : Int32} {r : Bool} (hX : f_X2_isLetter a1 = some r) : Ct l yX2_isLetter cX2_isLetter 1 ((some .boolean)) rm_X2_isLetter D cy ad ns A [.int a1] M M (some (.int (b2i r))) := by
  refine ct_of (lv := [(0, .int a1)]) (by decide) (Nat.le_of_ble_eq_true rfl) rfl ?_
  intro p e s m args below meth c ls X hl hS
  obtain ⟨hx, hb, hml, hown, hts, hK, hr, hlk, hA, hG⟩ := id X
  obtain ⟨H, hH⟩ : ∃ z, z = s.heap := ⟨_, rfl⟩
  obtain ⟨locs, hlo⟩ : ∃ z : List Loc, z = [] := ⟨_, rfl⟩
  have hS : St D cy ad ns A M s.heap H locs := by rw [hH, hlo]; exact hS
  have hgoal : W p l e rm_X2_isLetter s m args below meth c H locs 0 0 (MQ below (QC D cy ad ns A M (some (.int (b2i r)))) args s 0 0 A) (F0 m 0 ls []) := by
    unfold f_X2_isLetter at hX
    refine lv_iload_n hx hb dX2_isLetter_0 rfl (lv_at hl 0 rfl) ?_
    refine lv_bipush (v := nI 97) hx hb dX2_isLetter_1 (by decide) ?_
    refine lv_icmp_lt (tgt := 16) hx hb dX2_isLetter_3 (by decide) (fun c1 => ?_) (fun c1 => ?_)
    · have hX := if_t c1 hX
      refine lv_iconst (v := nI 0) hx hb dX2_isLetter_16 (by decide) ?_
      obtain rfl := some_of hX
      exact x_Z (v := false) X hS dX2_isLetter_17
    · have hX := if_f c1 hX
      refine lv_iload_n hx hb dX2_isLetter_6 rfl (lv_at hl 0 rfl) ?_
      refine lv_bipush (v := nI 122) hx hb dX2_isLetter_7 (by decide) ?_
      refine lv_icmp_gt (tgt := 16) hx hb dX2_isLetter_9 (by decide) (fun c2 => ?_) (fun c2 => ?_)
      · have hX := if_t c2 hX
        refine lv_iconst (v := nI 0) hx hb dX2_isLetter_16 (by decide) ?_
        obtain rfl := some_of hX
        exact x_Z (v := false) X hS dX2_isLetter_17
      · have hX := if_f c2 hX
        refine lv_iconst (v := nI 1) hx hb dX2_isLetter_12 (by decide) ?_
        refine lv_goto (tgt := 17) hx hb dX2_isLetter_13 (by decide) ?_
        obtain rfl := some_of hX
        exact x_Z (v := true) X hS dX2_isLetter_17
  rw [hH, hlo] at hgoal
  exact hgoal
theorem ms_X2_isLetter : Ms yX2_isLetter cX2_isLetter 1 ((some .boolean)) 1 := ⟨t2_238, t2_237, t1_7, ⟨by decide, by decide⟩, by decide +kernel⟩
/-! SewnYear$Reader.isDigit(I)Z -/
def rm_X2_isDigit : Room := { frames := 0, cells := 0, slots := 0, locals := 0 }
def f_X2_isDigit (a1 : Int32) : Option (Bool) :=
  if a1 < (nI 48) then (some false) else (if (nI 57) < a1 then (some false) else (some true))
set_option maxRecDepth 100000 in
set_option maxHeartbeats 4000000 in
theorem m_X2_isDigit {l : Launch} {D : va_G} {cy : Nat → ClassId} {ad : Nat → Nat → Nat} {ns : List (Nat × Nat)} {A : Nat → Prop} {M : Mem} (hN : NsC ns) {a1 : Int32} {r : Bool} (hX : f_X2_isDigit a1 = some r) : Ct l yX2_isDigit cX2_isDigit 1 ((some .boolean)) rm_X2_isDigit D cy ad ns A [.int a1] M M (some (.int (b2i r))) := by
  refine ct_of (lv := [(0, .int a1)]) (by decide) (Nat.le_of_ble_eq_true rfl) rfl ?_
  intro p e s m args below meth c ls X hl hS
  obtain ⟨hx, hb, hml, hown, hts, hK, hr, hlk, hA, hG⟩ := id X
  obtain ⟨H, hH⟩ : ∃ z, z = s.heap := ⟨_, rfl⟩
  obtain ⟨locs, hlo⟩ : ∃ z : List Loc, z = [] := ⟨_, rfl⟩
  have hS : St D cy ad ns A M s.heap H locs := by rw [hH, hlo]; exact hS
  have hgoal : W p l e rm_X2_isDigit s m args below meth c H locs 0 0 (MQ below (QC D cy ad ns A M (some (.int (b2i r)))) args s 0 0 A) (F0 m 0 ls []) := by
    unfold f_X2_isDigit at hX
    refine lv_iload_n hx hb dX2_isDigit_0 rfl (lv_at hl 0 rfl) ?_
    refine lv_bipush (v := nI 48) hx hb dX2_isDigit_1 (by decide) ?_
    refine lv_icmp_lt (tgt := 16) hx hb dX2_isDigit_3 (by decide) (fun c1 => ?_) (fun c1 => ?_)
    · have hX := if_t c1 hX
      refine lv_iconst (v := nI 0) hx hb dX2_isDigit_16 (by decide) ?_
      obtain rfl := some_of hX
      exact x_Z (v := false) X hS dX2_isDigit_17
    · have hX := if_f c1 hX
      refine lv_iload_n hx hb dX2_isDigit_6 rfl (lv_at hl 0 rfl) ?_
      refine lv_bipush (v := nI 57) hx hb dX2_isDigit_7 (by decide) ?_
      refine lv_icmp_gt (tgt := 16) hx hb dX2_isDigit_9 (by decide) (fun c2 => ?_) (fun c2 => ?_)
      · have hX := if_t c2 hX
        refine lv_iconst (v := nI 0) hx hb dX2_isDigit_16 (by decide) ?_
        obtain rfl := some_of hX
        exact x_Z (v := false) X hS dX2_isDigit_17
      · have hX := if_f c2 hX
        refine lv_iconst (v := nI 1) hx hb dX2_isDigit_12 (by decide) ?_
        refine lv_goto (tgt := 17) hx hb dX2_isDigit_13 (by decide) ?_
        obtain rfl := some_of hX
        exact x_Z (v := true) X hS dX2_isDigit_17
  rw [hH, hlo] at hgoal
  exact hgoal
theorem ms_X2_isDigit : Ms yX2_isDigit cX2_isDigit 1 ((some .boolean)) 1 := ⟨t3_1, t3_0, t1_7, ⟨by decide, by decide⟩, by decide +kernel⟩
/-! SewnYear$Reader.step()V -/
def rm_X2_step : Room := { frames := 1, cells := 0, slots := 0, locals := 20 }
def f_X2_step_167 (M : Mem) : Option (Mem) :=
  if (nI 2) < ((gI M 10 10) - (gI M 10 9)) then (nm (sI M 10 8 (nI 4)) fun M2 => some M2) else (nm (sI M 10 8 (nI 2)) fun M3 => some M3)
def b_X2_step_69 (rc : Mem → Option (Mem)) (M : Mem) : Option (Mem) :=
  if (gI M 10 7) ≤ (gI M 10 10) then (nm (sI M 10 8 (nI 1)) fun M5 => some M5) else (if (gR M 10 6) = 0 then none else gin (gI M 10 10) 600 <| bn (f_X2_isLetter (Int8.toInt32 (Int32.toInt8 (gA M (gR M 10 6) 0 (ix (gI M 10 10)))))) fun r9 => if r9 = true then (nm (sI M 10 10 ((gI M 10 10) + (nI 1))) fun M12 => rc M12) else (nm (sI M 10 8 (nI 1)) fun M11 => some M11))
def f_X2_step_69 : Nat → Mem → Option (Mem) := lp (fun rc q => b_X2_step_69 (fun x0 => rc x0) q)
def b_X2_step_128 (rc : Mem → Option (Mem)) (M : Mem) : Option (Mem) :=
  if (gI M 10 7) ≤ (gI M 10 10) then (f_X2_step_167 M) else (if (gR M 10 6) = 0 then none else gin (gI M 10 10) 600 <| bn (f_X2_isDigit (Int8.toInt32 (Int32.toInt8 (gA M (gR M 10 6) 0 (ix (gI M 10 10)))))) fun r17 => if r17 = true then (nm (sI M 10 10 ((gI M 10 10) + (nI 1))) fun M19 => rc M19) else (f_X2_step_167 M))
def f_X2_step_128 : Nat → Mem → Option (Mem) := lp (fun rc q => b_X2_step_128 (fun x0 => rc x0) q)
def f_X2_step_209 (s_1 : Int32) (M : Mem) : Option (Mem) :=
  nm (sI M 10 8 s_1) fun M20 => nm (sI M20 10 10 ((gI M20 10 10) + (nI 1))) fun M21 => some M21
def f_X2_step_31 (v_1 : Int32) (M : Mem) : Option (Mem) :=
  nm (sI M 10 9 v_1) fun M22 => nm (sI M22 10 10 v_1) fun M23 => if v_1 < (gI M23 10 7) then (if (gR M23 10 6) = 0 then none else gin v_1 600 <| bn (f_X2_isLetter (Int8.toInt32 (Int32.toInt8 (gA M23 (gR M23 10 6) 0 (ix v_1))))) fun r28 => if r28 = true then (f_X2_step_69 FU M23) else (if (gR M23 10 6) = 0 then none else gin v_1 600 <| bn (f_X2_isDigit (Int8.toInt32 (Int32.toInt8 (gA M23 (gR M23 10 6) 0 (ix v_1))))) fun r33 => if r33 = true then (f_X2_step_128 FU M23) else (if (gR M23 10 6) = 0 then none else gin v_1 600 <| if (Int8.toInt32 (Int32.toInt8 (gA M23 (gR M23 10 6) 0 (ix v_1)))) = (nI 59) then (f_X2_step_209 (nI 3) M23) else (f_X2_step_209 (nI 4) M23)))) else (nm (sI M23 10 8 (nI 0)) fun M38 => some M38)
def b_X2_step_5 (rc : Int32 → Mem → Option (Mem)) (v_1 : Int32) (M : Mem) : Option (Mem) :=
  if (gI M 10 7) ≤ v_1 then (f_X2_step_31 v_1 M) else (if (gR M 10 6) = 0 then none else gin v_1 600 <| bn (f_X2_isBlank (Int8.toInt32 (Int32.toInt8 (gA M (gR M 10 6) 0 (ix v_1))))) fun r43 => if r43 = true then (nm (v_1 + nI 1) fun v45 => rc v45 M) else (f_X2_step_31 v_1 M))
def f_X2_step_5 : Nat → (Int32 × Mem) → Option (Mem) := lp (fun rc q => b_X2_step_5 (fun x0 x1 => rc (x0, x1)) q.1 q.2)
def f_X2_step (M : Mem) : Option (Mem) :=
  nm (gI M 10 10) fun v46 => f_X2_step_5 FU (v46, M)
set_option maxRecDepth 100000 in
set_option maxHeartbeats 4000000 in
theorem n_X2_step_167 (X : Cx p s m args meth c D cy ad A RX2 cX2_step 2 ((none : Option Jvm.ClassFile.FieldType))) (hN : NsC ns) {M : Mem} {r : Mem} (hX : f_X2_step_167 M = some r) : ∀ (ls : Array Slot) (H : Heap) (locs : List Loc), lv_has ls 2 [(0, .ref (ad 10 0))] → St D cy ad ns A M s.heap H locs → W p l e rm_X2_step s m args below meth c H locs 0 0 (MQ below (QC D cy ad ns A r none) args s 0 0 A) (F0 m 167 ls []) := by
  obtain ⟨hx, hb, hml, hown, hts, hK, hr, hlk, hA, hG⟩ := id X
  intro ls H locs hl hS
  unfold f_X2_step_167 at hX
  refine lv_aload_n hx hb dX2_step_167 rfl (lv_at hl 0 rfl) ?_
  refine lv_aload_n hx hb dX2_step_168 rfl (lv_at hl 0 rfl) ?_
  refine fg_X2_60 X hS (o_of hN (o := 10) (c := 2) (by decide) rfl) dX2_step_169 ?_
  refine lv_aload_n hx hb dX2_step_172 rfl (lv_at hl 0 rfl) ?_
  refine fg_X2_102 X hS (o_of hN (o := 10) (c := 2) (by decide) rfl) dX2_step_173 ?_
  refine lv_isub hx hb dX2_step_176 ?_
  refine lv_iconst (v := nI 2) hx hb dX2_step_177 (by decide) ?_
  refine lv_icmp_gt (tgt := 185) hx hb dX2_step_178 (by decide) (fun c1 => ?_) (fun c1 => ?_)
  · have hX := if_t c1 hX
    refine lv_iconst (v := nI 4) hx hb dX2_step_185 (by decide) ?_
    refine fp_X2_85 X hS (o_of hN (o := 10) (c := 2) (by decide) rfl) dX2_step_186 (fun H locs hS => ?_)
    obtain ⟨M2, eM2, hS, hX⟩ := nm_mem hS hX
    refine lv_goto (tgt := 222) hx hb dX2_step_189 (by decide) ?_
    obtain rfl := some_of hX
    exact x_V X hS dX2_step_222
  · have hX := if_f c1 hX
    refine lv_iconst (v := nI 2) hx hb dX2_step_181 (by decide) ?_
    refine lv_goto (tgt := 186) hx hb dX2_step_182 (by decide) ?_
    refine fp_X2_85 X hS (o_of hN (o := 10) (c := 2) (by decide) rfl) dX2_step_186 (fun H locs hS => ?_)
    obtain ⟨M3, eM3, hS, hX⟩ := nm_mem hS hX
    refine lv_goto (tgt := 222) hx hb dX2_step_189 (by decide) ?_
    obtain rfl := some_of hX
    exact x_V X hS dX2_step_222
set_option maxRecDepth 100000 in
set_option maxHeartbeats 4000000 in
theorem n_X2_step_69 (X : Cx p s m args meth c D cy ad A RX2 cX2_step 2 ((none : Option Jvm.ClassFile.FieldType))) (hN : NsC ns) : ∀ (n : Nat) (M : Mem) (r : Mem), f_X2_step_69 n M = some r → ∀ (ls : Array Slot) (H : Heap) (locs : List Loc), lv_has ls 2 [(0, .ref (ad 10 0))] → St D cy ad ns A M s.heap H locs → W p l e rm_X2_step s m args below meth c H locs 0 0 (MQ below (QC D cy ad ns A r none) args s 0 0 A) (F0 m 69 ls []) := by
  obtain ⟨hx, hb, hml, hown, hts, hK, hr, hlk, hA, hG⟩ := id X
  intro n
  induction n with
  | zero => intro M r hX; cases (show (none : Option (Mem)) = some r from hX)
  | succ n ih =>
    intro M r hX ls H locs hl hS
    have hX : b_X2_step_69 (fun x0 => f_X2_step_69 n x0) M = some r := hX
    unfold b_X2_step_69 at hX
    refine lv_aload_n hx hb dX2_step_69 rfl (lv_at hl 0 rfl) ?_
    refine fg_X2_60 X hS (o_of hN (o := 10) (c := 2) (by decide) rfl) dX2_step_70 ?_
    refine lv_aload_n hx hb dX2_step_73 rfl (lv_at hl 0 rfl) ?_
    refine fg_X2_56 X hS (o_of hN (o := 10) (c := 2) (by decide) rfl) dX2_step_74 ?_
    refine lv_icmp_ge (tgt := 108) hx hb dX2_step_77 (by decide) (fun c4 => ?_) (fun c4 => ?_)
    · have hX := if_t c4 hX
      refine lv_aload_n hx hb dX2_step_108 rfl (lv_at hl 0 rfl) ?_
      refine lv_iconst (v := nI 1) hx hb dX2_step_109 (by decide) ?_
      refine fp_X2_85 X hS (o_of hN (o := 10) (c := 2) (by decide) rfl) dX2_step_110 (fun H locs hS => ?_)
      obtain ⟨M5, eM5, hS, hX⟩ := nm_mem hS hX
      refine lv_goto (tgt := 222) hx hb dX2_step_113 (by decide) ?_
      obtain rfl := some_of hX
      exact x_V X hS dX2_step_222
    · have hX := if_f c4 hX
      refine lv_aload_n hx hb dX2_step_80 rfl (lv_at hl 0 rfl) ?_
      refine fg_X2_46 X hS (o_of hN (o := 10) (c := 2) (by decide) rfl) dX2_step_81 ?_
      obtain ⟨cq6, hX⟩ := ifn_of hX
      have q6 := wr_10 hN hS cq6
      rw [if_neg cq6]
      refine lv_aload_n hx hb dX2_step_84 rfl (lv_at hl 0 rfl) ?_
      refine fg_X2_60 X hS (o_of hN (o := 10) (c := 2) (by decide) rfl) dX2_step_85 ?_
      obtain ⟨g7, hX⟩ := gin_of hX
      refine r_bald (ci := 5) (o := (gR M 10 6)) (k := 0) (n := 600) X hS q6 rfl rfl g7 dX2_step_88 ?_
      obtain ⟨r9, h8, hX⟩ := bn_of hX
      refine r_callS1 (v := .int (b2i r9)) (As := [.int (Int8.toInt32 (Int32.toInt8 (gA M (gR M 10 6) 0 (ix (gI M 10 10)))))]) (rest := []) X hS (m_X2_isLetter (M := M) hN h8) ms_X2_isLetter t2_236 ⟨rfl, rfl, Nat.le_of_ble_eq_true rfl, Nat.le_of_ble_eq_true rfl⟩ rfl hl.1 rfl (Nat.le_of_ble_eq_true rfl) ⟨Nat.zero_le _, Nat.zero_le _⟩ dX2_step_89 (fun H locs hS => ?_)
      refine lv_if_eq (tgt := 108) hx hb dX2_step_92 (by decide) (fun c10 => ?_) (fun c10 => ?_)
      · have hX := if_bf c10 hX
        refine lv_aload_n hx hb dX2_step_108 rfl (lv_at hl 0 rfl) ?_
        refine lv_iconst (v := nI 1) hx hb dX2_step_109 (by decide) ?_
        refine fp_X2_85 X hS (o_of hN (o := 10) (c := 2) (by decide) rfl) dX2_step_110 (fun H locs hS => ?_)
        obtain ⟨M11, eM11, hS, hX⟩ := nm_mem hS hX
        refine lv_goto (tgt := 222) hx hb dX2_step_113 (by decide) ?_
        obtain rfl := some_of hX
        exact x_V X hS dX2_step_222
      · have hX := if_bt c10 hX
        refine lv_aload_n hx hb dX2_step_95 rfl (lv_at hl 0 rfl) ?_
        refine lv_dup hx hb dX2_step_96 rfl ?_
        refine fg_X2_60 X hS (o_of hN (o := 10) (c := 2) (by decide) rfl) dX2_step_97 ?_
        refine lv_iconst (v := nI 1) hx hb dX2_step_100 (by decide) ?_
        refine lv_iadd hx hb dX2_step_101 ?_
        refine fp_X2_60 X hS (o_of hN (o := 10) (c := 2) (by decide) rfl) dX2_step_102 (fun H locs hS => ?_)
        obtain ⟨M12, eM12, hS, hX⟩ := nm_mem hS hX
        refine lv_goto (tgt := 69) hx hb dX2_step_105 (by decide) ?_
        exact ih _ _ hX _ _ _ (lv_sub hl [0] rfl) hS
set_option maxRecDepth 100000 in
set_option maxHeartbeats 4000000 in
theorem n_X2_step_128 (X : Cx p s m args meth c D cy ad A RX2 cX2_step 2 ((none : Option Jvm.ClassFile.FieldType))) (hN : NsC ns) : ∀ (n : Nat) (M : Mem) (r : Mem), f_X2_step_128 n M = some r → ∀ (ls : Array Slot) (H : Heap) (locs : List Loc), lv_has ls 2 [(0, .ref (ad 10 0))] → St D cy ad ns A M s.heap H locs → W p l e rm_X2_step s m args below meth c H locs 0 0 (MQ below (QC D cy ad ns A r none) args s 0 0 A) (F0 m 128 ls []) := by
  obtain ⟨hx, hb, hml, hown, hts, hK, hr, hlk, hA, hG⟩ := id X
  intro n
  induction n with
  | zero => intro M r hX; cases (show (none : Option (Mem)) = some r from hX)
  | succ n ih =>
    intro M r hX ls H locs hl hS
    have hX : b_X2_step_128 (fun x0 => f_X2_step_128 n x0) M = some r := hX
    unfold b_X2_step_128 at hX
    refine lv_aload_n hx hb dX2_step_128 rfl (lv_at hl 0 rfl) ?_
    refine fg_X2_60 X hS (o_of hN (o := 10) (c := 2) (by decide) rfl) dX2_step_129 ?_
    refine lv_aload_n hx hb dX2_step_132 rfl (lv_at hl 0 rfl) ?_
    refine fg_X2_56 X hS (o_of hN (o := 10) (c := 2) (by decide) rfl) dX2_step_133 ?_
    refine lv_icmp_ge (tgt := 167) hx hb dX2_step_136 (by decide) (fun c13 => ?_) (fun c13 => ?_)
    · have hX := if_t c13 hX
      exact n_X2_step_167 X hN hX _ _ _ (lv_sub hl [0] rfl) hS
    · have hX := if_f c13 hX
      refine lv_aload_n hx hb dX2_step_139 rfl (lv_at hl 0 rfl) ?_
      refine fg_X2_46 X hS (o_of hN (o := 10) (c := 2) (by decide) rfl) dX2_step_140 ?_
      obtain ⟨cq14, hX⟩ := ifn_of hX
      have q14 := wr_10 hN hS cq14
      rw [if_neg cq14]
      refine lv_aload_n hx hb dX2_step_143 rfl (lv_at hl 0 rfl) ?_
      refine fg_X2_60 X hS (o_of hN (o := 10) (c := 2) (by decide) rfl) dX2_step_144 ?_
      obtain ⟨g15, hX⟩ := gin_of hX
      refine r_bald (ci := 5) (o := (gR M 10 6)) (k := 0) (n := 600) X hS q14 rfl rfl g15 dX2_step_147 ?_
      obtain ⟨r17, h16, hX⟩ := bn_of hX
      refine r_callS1 (v := .int (b2i r17)) (As := [.int (Int8.toInt32 (Int32.toInt8 (gA M (gR M 10 6) 0 (ix (gI M 10 10)))))]) (rest := []) X hS (m_X2_isDigit (M := M) hN h16) ms_X2_isDigit t2_239 ⟨rfl, rfl, Nat.le_of_ble_eq_true rfl, Nat.le_of_ble_eq_true rfl⟩ rfl hl.1 rfl (Nat.le_of_ble_eq_true rfl) ⟨Nat.zero_le _, Nat.zero_le _⟩ dX2_step_148 (fun H locs hS => ?_)
      refine lv_if_eq (tgt := 167) hx hb dX2_step_151 (by decide) (fun c18 => ?_) (fun c18 => ?_)
      · have hX := if_bf c18 hX
        exact n_X2_step_167 X hN hX _ _ _ (lv_sub hl [0] rfl) hS
      · have hX := if_bt c18 hX
        refine lv_aload_n hx hb dX2_step_154 rfl (lv_at hl 0 rfl) ?_
        refine lv_dup hx hb dX2_step_155 rfl ?_
        refine fg_X2_60 X hS (o_of hN (o := 10) (c := 2) (by decide) rfl) dX2_step_156 ?_
        refine lv_iconst (v := nI 1) hx hb dX2_step_159 (by decide) ?_
        refine lv_iadd hx hb dX2_step_160 ?_
        refine fp_X2_60 X hS (o_of hN (o := 10) (c := 2) (by decide) rfl) dX2_step_161 (fun H locs hS => ?_)
        obtain ⟨M19, eM19, hS, hX⟩ := nm_mem hS hX
        refine lv_goto (tgt := 128) hx hb dX2_step_164 (by decide) ?_
        exact ih _ _ hX _ _ _ (lv_sub hl [0] rfl) hS
set_option maxRecDepth 100000 in
set_option maxHeartbeats 4000000 in
theorem n_X2_step_209 (X : Cx p s m args meth c D cy ad A RX2 cX2_step 2 ((none : Option Jvm.ClassFile.FieldType))) (hN : NsC ns) {s_1 : Int32} {M : Mem} {r : Mem} (hX : f_X2_step_209 s_1 M = some r) : ∀ (ls : Array Slot) (H : Heap) (locs : List Loc), lv_has ls 2 [(0, .ref (ad 10 0))] → St D cy ad ns A M s.heap H locs → W p l e rm_X2_step s m args below meth c H locs 0 0 (MQ below (QC D cy ad ns A r none) args s 0 0 A) (F0 m 209 ls [.int s_1, .ref (ad 10 0)]) := by
  obtain ⟨hx, hb, hml, hown, hts, hK, hr, hlk, hA, hG⟩ := id X
  intro ls H locs hl hS
  unfold f_X2_step_209 at hX
  refine fp_X2_85 X hS (o_of hN (o := 10) (c := 2) (by decide) rfl) dX2_step_209 (fun H locs hS => ?_)
  obtain ⟨M20, eM20, hS, hX⟩ := nm_mem hS hX
  refine lv_aload_n hx hb dX2_step_212 rfl (lv_at hl 0 rfl) ?_
  refine lv_dup hx hb dX2_step_213 rfl ?_
  refine fg_X2_60 X hS (o_of hN (o := 10) (c := 2) (by decide) rfl) dX2_step_214 ?_
  refine lv_iconst (v := nI 1) hx hb dX2_step_217 (by decide) ?_
  refine lv_iadd hx hb dX2_step_218 ?_
  refine fp_X2_60 X hS (o_of hN (o := 10) (c := 2) (by decide) rfl) dX2_step_219 (fun H locs hS => ?_)
  obtain ⟨M21, eM21, hS, hX⟩ := nm_mem hS hX
  obtain rfl := some_of hX
  exact x_V X hS dX2_step_222
set_option maxRecDepth 100000 in
set_option maxHeartbeats 4000000 in
theorem n_X2_step_31 (X : Cx p s m args meth c D cy ad A RX2 cX2_step 2 ((none : Option Jvm.ClassFile.FieldType))) (hN : NsC ns) {v_1 : Int32} {M : Mem} {r : Mem} (hX : f_X2_step_31 v_1 M = some r) : ∀ (ls : Array Slot) (H : Heap) (locs : List Loc), lv_has ls 2 [(0, .ref (ad 10 0)), (1, .int v_1)] → St D cy ad ns A M s.heap H locs → W p l e rm_X2_step s m args below meth c H locs 0 0 (MQ below (QC D cy ad ns A r none) args s 0 0 A) (F0 m 31 ls []) := by
  obtain ⟨hx, hb, hml, hown, hts, hK, hr, hlk, hA, hG⟩ := id X
  intro ls H locs hl hS
  unfold f_X2_step_31 at hX
  refine lv_aload_n hx hb dX2_step_31 rfl (lv_at hl 0 rfl) ?_
  refine lv_iload_n hx hb dX2_step_32 rfl (lv_at hl 1 rfl) ?_
  refine fp_X2_102 X hS (o_of hN (o := 10) (c := 2) (by decide) rfl) dX2_step_33 (fun H locs hS => ?_)
  obtain ⟨M22, eM22, hS, hX⟩ := nm_mem hS hX
  refine lv_aload_n hx hb dX2_step_36 rfl (lv_at hl 0 rfl) ?_
  refine lv_iload_n hx hb dX2_step_37 rfl (lv_at hl 1 rfl) ?_
  refine fp_X2_60 X hS (o_of hN (o := 10) (c := 2) (by decide) rfl) dX2_step_38 (fun H locs hS => ?_)
  obtain ⟨M23, eM23, hS, hX⟩ := nm_mem hS hX
  refine lv_iload_n hx hb dX2_step_41 rfl (lv_at hl 1 rfl) ?_
  refine lv_aload_n hx hb dX2_step_42 rfl (lv_at hl 0 rfl) ?_
  refine fg_X2_56 X hS (o_of hN (o := 10) (c := 2) (by decide) rfl) dX2_step_43 ?_
  refine lv_icmp_lt (tgt := 57) hx hb dX2_step_46 (by decide) (fun c24 => ?_) (fun c24 => ?_)
  · have hX := if_t c24 hX
    refine lv_aload_n hx hb dX2_step_57 rfl (lv_at hl 0 rfl) ?_
    refine fg_X2_46 X hS (o_of hN (o := 10) (c := 2) (by decide) rfl) dX2_step_58 ?_
    obtain ⟨cq25, hX⟩ := ifn_of hX
    have q25 := wr_10 hN hS cq25
    rw [if_neg cq25]
    refine lv_iload_n hx hb dX2_step_61 rfl (lv_at hl 1 rfl) ?_
    obtain ⟨g26, hX⟩ := gin_of hX
    refine r_bald (ci := 5) (o := (gR M23 10 6)) (k := 0) (n := 600) X hS q25 rfl rfl g26 dX2_step_62 ?_
    obtain ⟨r28, h27, hX⟩ := bn_of hX
    refine r_callS1 (v := .int (b2i r28)) (As := [.int (Int8.toInt32 (Int32.toInt8 (gA M23 (gR M23 10 6) 0 (ix v_1))))]) (rest := []) X hS (m_X2_isLetter (M := M23) hN h27) ms_X2_isLetter t2_236 ⟨rfl, rfl, Nat.le_of_ble_eq_true rfl, Nat.le_of_ble_eq_true rfl⟩ rfl hl.1 rfl (Nat.le_of_ble_eq_true rfl) ⟨Nat.zero_le _, Nat.zero_le _⟩ dX2_step_63 (fun H locs hS => ?_)
    refine lv_if_eq (tgt := 116) hx hb dX2_step_66 (by decide) (fun c29 => ?_) (fun c29 => ?_)
    · have hX := if_bf c29 hX
      refine lv_aload_n hx hb dX2_step_116 rfl (lv_at hl 0 rfl) ?_
      refine fg_X2_46 X hS (o_of hN (o := 10) (c := 2) (by decide) rfl) dX2_step_117 ?_
      obtain ⟨cq30, hX⟩ := ifn_of hX
      have q30 := wr_10 hN hS cq30
      rw [if_neg cq30]
      refine lv_iload_n hx hb dX2_step_120 rfl (lv_at hl 1 rfl) ?_
      obtain ⟨g31, hX⟩ := gin_of hX
      refine r_bald (ci := 5) (o := (gR M23 10 6)) (k := 0) (n := 600) X hS q30 rfl rfl g31 dX2_step_121 ?_
      obtain ⟨r33, h32, hX⟩ := bn_of hX
      refine r_callS1 (v := .int (b2i r33)) (As := [.int (Int8.toInt32 (Int32.toInt8 (gA M23 (gR M23 10 6) 0 (ix v_1))))]) (rest := []) X hS (m_X2_isDigit (M := M23) hN h32) ms_X2_isDigit t2_239 ⟨rfl, rfl, Nat.le_of_ble_eq_true rfl, Nat.le_of_ble_eq_true rfl⟩ rfl hl.1 rfl (Nat.le_of_ble_eq_true rfl) ⟨Nat.zero_le _, Nat.zero_le _⟩ dX2_step_122 (fun H locs hS => ?_)
      refine lv_if_eq (tgt := 192) hx hb dX2_step_125 (by decide) (fun c34 => ?_) (fun c34 => ?_)
      · have hX := if_bf c34 hX
        refine lv_aload_n hx hb dX2_step_192 rfl (lv_at hl 0 rfl) ?_
        refine lv_aload_n hx hb dX2_step_193 rfl (lv_at hl 0 rfl) ?_
        refine fg_X2_46 X hS (o_of hN (o := 10) (c := 2) (by decide) rfl) dX2_step_194 ?_
        obtain ⟨cq35, hX⟩ := ifn_of hX
        have q35 := wr_10 hN hS cq35
        rw [if_neg cq35]
        refine lv_iload_n hx hb dX2_step_197 rfl (lv_at hl 1 rfl) ?_
        obtain ⟨g36, hX⟩ := gin_of hX
        refine r_bald (ci := 5) (o := (gR M23 10 6)) (k := 0) (n := 600) X hS q35 rfl rfl g36 dX2_step_198 ?_
        refine lv_bipush (v := nI 59) hx hb dX2_step_199 (by decide) ?_
        refine lv_icmp_ne (tgt := 208) hx hb dX2_step_201 (by decide) (fun c37 => ?_) (fun c37 => ?_)
        · have hX := if_f c37 hX
          refine lv_iconst (v := nI 4) hx hb dX2_step_208 (by decide) ?_
          exact n_X2_step_209 X hN hX _ _ _ (lv_sub hl [0] rfl) hS
        · have hX := if_t c37 hX
          refine lv_iconst (v := nI 3) hx hb dX2_step_204 (by decide) ?_
          refine lv_goto (tgt := 209) hx hb dX2_step_205 (by decide) ?_
          exact n_X2_step_209 X hN hX _ _ _ (lv_sub hl [0] rfl) hS
      · have hX := if_bt c34 hX
        exact n_X2_step_128 X hN _ _ _ hX _ _ _ (lv_sub hl [0] rfl) hS
    · have hX := if_bt c29 hX
      exact n_X2_step_69 X hN _ _ _ hX _ _ _ (lv_sub hl [0] rfl) hS
  · have hX := if_f c24 hX
    refine lv_aload_n hx hb dX2_step_49 rfl (lv_at hl 0 rfl) ?_
    refine lv_iconst (v := nI 0) hx hb dX2_step_50 (by decide) ?_
    refine fp_X2_85 X hS (o_of hN (o := 10) (c := 2) (by decide) rfl) dX2_step_51 (fun H locs hS => ?_)
    obtain ⟨M38, eM38, hS, hX⟩ := nm_mem hS hX
    refine lv_goto (tgt := 222) hx hb dX2_step_54 (by decide) ?_
    obtain rfl := some_of hX
    exact x_V X hS dX2_step_222
set_option maxRecDepth 100000 in
set_option maxHeartbeats 4000000 in
theorem n_X2_step_5 (X : Cx p s m args meth c D cy ad A RX2 cX2_step 2 ((none : Option Jvm.ClassFile.FieldType))) (hN : NsC ns) : ∀ (n : Nat) (v_1 : Int32) (M : Mem) (r : Mem), f_X2_step_5 n (v_1, M) = some r → ∀ (ls : Array Slot) (H : Heap) (locs : List Loc), lv_has ls 2 [(0, .ref (ad 10 0)), (1, .int v_1)] → St D cy ad ns A M s.heap H locs → W p l e rm_X2_step s m args below meth c H locs 0 0 (MQ below (QC D cy ad ns A r none) args s 0 0 A) (F0 m 5 ls []) := by
  obtain ⟨hx, hb, hml, hown, hts, hK, hr, hlk, hA, hG⟩ := id X
  intro n
  induction n with
  | zero => intro v_1 M r hX; cases (show (none : Option (Mem)) = some r from hX)
  | succ n ih =>
    intro v_1 M r hX ls H locs hl hS
    have hX : b_X2_step_5 (fun x0 x1 => f_X2_step_5 n (x0, x1)) v_1 M = some r := hX
    unfold b_X2_step_5 at hX
    refine lv_iload_n hx hb dX2_step_5 rfl (lv_at hl 1 rfl) ?_
    refine lv_aload_n hx hb dX2_step_6 rfl (lv_at hl 0 rfl) ?_
    refine fg_X2_56 X hS (o_of hN (o := 10) (c := 2) (by decide) rfl) dX2_step_7 ?_
    refine lv_icmp_ge (tgt := 31) hx hb dX2_step_10 (by decide) (fun c39 => ?_) (fun c39 => ?_)
    · have hX := if_t c39 hX
      exact n_X2_step_31 X hN hX _ _ _ (lv_sub hl [0, 1] rfl) hS
    · have hX := if_f c39 hX
      refine lv_aload_n hx hb dX2_step_13 rfl (lv_at hl 0 rfl) ?_
      refine fg_X2_46 X hS (o_of hN (o := 10) (c := 2) (by decide) rfl) dX2_step_14 ?_
      obtain ⟨cq40, hX⟩ := ifn_of hX
      have q40 := wr_10 hN hS cq40
      rw [if_neg cq40]
      refine lv_iload_n hx hb dX2_step_17 rfl (lv_at hl 1 rfl) ?_
      obtain ⟨g41, hX⟩ := gin_of hX
      refine r_bald (ci := 5) (o := (gR M 10 6)) (k := 0) (n := 600) X hS q40 rfl rfl g41 dX2_step_18 ?_
      obtain ⟨r43, h42, hX⟩ := bn_of hX
      refine r_callS1 (v := .int (b2i r43)) (As := [.int (Int8.toInt32 (Int32.toInt8 (gA M (gR M 10 6) 0 (ix v_1))))]) (rest := []) X hS (m_X2_isBlank (M := M) hN h42) ms_X2_isBlank t2_233 ⟨rfl, rfl, Nat.le_of_ble_eq_true rfl, Nat.le_of_ble_eq_true rfl⟩ rfl hl.1 rfl (Nat.le_of_ble_eq_true rfl) ⟨Nat.zero_le _, Nat.zero_le _⟩ dX2_step_19 (fun H locs hS => ?_)
      refine lv_if_eq (tgt := 31) hx hb dX2_step_22 (by decide) (fun c44 => ?_) (fun c44 => ?_)
      · have hX := if_bf c44 hX
        exact n_X2_step_31 X hN hX _ _ _ (lv_sub hl [0, 1] rfl) hS
      · have hX := if_bt c44 hX
        obtain ⟨v45, ev45⟩ : ∃ y : Int32, y = (v_1 + nI 1) := ⟨_, rfl⟩
        have hX := nm_of ev45 hX
        refine lv_iinc (v := v45) (lv' := [(1, .int v45), (0, .ref (ad 10 0))]) hx hb dX2_step_25 hl (k := 1) rfl (by rw [ev45]; rfl) (by decide) rfl (fun ls hl => ?_)
        refine lv_goto (tgt := 5) hx hb dX2_step_28 (by decide) ?_
        exact ih _ _ _ hX _ _ _ (lv_sub hl [1, 0] rfl) hS
set_option maxRecDepth 100000 in
set_option maxHeartbeats 4000000 in
theorem m_X2_step {l : Launch} {D : va_G} {cy : Nat → ClassId} {ad : Nat → Nat → Nat} {ns : List (Nat × Nat)} {A : Nat → Prop} {M : Mem} (hN : NsC ns) {r : Mem} (hX : f_X2_step M = some r) : Ct l yX2_step cX2_step 2 ((none : Option Jvm.ClassFile.FieldType)) rm_X2_step D cy ad ns A [.ref (ad 10 0)] M r none := by
  refine ct_of (lv := [(0, .ref (ad 10 0))]) (by decide) (Nat.le_of_ble_eq_true rfl) rfl ?_
  intro p e s m args below meth c ls X hl hS
  obtain ⟨hx, hb, hml, hown, hts, hK, hr, hlk, hA, hG⟩ := id X
  obtain ⟨H, hH⟩ : ∃ z, z = s.heap := ⟨_, rfl⟩
  obtain ⟨locs, hlo⟩ : ∃ z : List Loc, z = [] := ⟨_, rfl⟩
  have hS : St D cy ad ns A M s.heap H locs := by rw [hH, hlo]; exact hS
  have hgoal : W p l e rm_X2_step s m args below meth c H locs 0 0 (MQ below (QC D cy ad ns A r none) args s 0 0 A) (F0 m 0 ls []) := by
    unfold f_X2_step at hX
    refine lv_aload_n hx hb dX2_step_0 rfl (lv_at hl 0 rfl) ?_
    refine fg_X2_60 X hS (o_of hN (o := 10) (c := 2) (by decide) rfl) dX2_step_1 ?_
    refine lv_topi (fun v46 ev46 => ?_)
    have hX := nm_of ev46 hX
    refine lv_istore_n (lv' := [(1, .int v46), (0, .ref (ad 10 0))]) hx hb dX2_step_4 rfl hl (by decide) rfl (fun ls hl => ?_)
    exact n_X2_step_5 X hN _ _ _ _ hX _ _ _ (lv_sub hl [1, 0] rfl) hS
  rw [hH, hlo] at hgoal
  exact hgoal
theorem mv_X2_step : Mv yX2_step RX2 cX2_step 2 ((none : Option Jvm.ClassFile.FieldType)) 0 := ⟨t2_232, t2_230, t2_231, t1_7, ⟨by decide, by decide⟩, by decide +kernel⟩
/-! SewnYear$Reader.is(Ljava/lang/String;)Z -/
def rm_X2_is : Room := { frames := 4, cells := 0, slots := 0, locals := 111 }
def b_X2_is_31 (M : Mem) (a1 : Nat) (rc : Int32 → Option (Bool)) (v_2 : Int32) : Option (Bool) :=
  if (nI (strLn.getD a1 0)) ≤ v_2 then (some true) else (if (gR M 10 6) = 0 then none else gin ((gI M 10 9) + v_2) 600 <| gin v_2 (strLn.getD a1 0) <| if (Int8.toInt32 (Int32.toInt8 (gA M (gR M 10 6) 0 (ix ((gI M 10 9) + v_2))))) = (strCh a1 (ix v_2)) then (nm (v_2 + nI 1) fun v6 => rc v6) else (some false))
def f_X2_is_31 (M : Mem) (a1 : Nat) : Nat → Int32 → Option (Bool) := lp (fun rc q => b_X2_is_31 M a1 (fun x0 => rc x0) q)
def f_X2_is (M : Mem) (a1 : Nat) : Option (Bool) :=
  if ((gI M 10 10) - (gI M 10 9)) = (nI (strLn.getD a1 0)) then (if (gI M 10 10) ≤ (gI M 10 7) then (f_X2_is_31 M a1 FU (nI 0)) else (some false)) else (some false)
set_option maxRecDepth 100000 in
set_option maxHeartbeats 4000000 in
theorem n_X2_is_31 {a1 : Nat} (X : Cx p s m args meth c D cy ad A RX2 cX2_is 3 ((some .boolean))) (hN : NsC ns) (ha1 : a1 < 18) {M : Mem} : ∀ (n : Nat) (v_2 : Int32) (r : Bool), f_X2_is_31 M a1 n v_2 = some r → ∀ (ls : Array Slot) (H : Heap) (locs : List Loc), lv_has ls 3 [(0, .ref (ad 10 0)), (1, .ref (ad 200 a1)), (2, .int v_2)] → St D cy ad ns A M s.heap H locs → W p l e rm_X2_is s m args below meth c H locs 0 0 (MQ below (QC D cy ad ns A M (some (.int (b2i r)))) args s 0 0 A) (F0 m 31 ls []) := by
  obtain ⟨hx, hb, hml, hown, hts, hK, hr, hlk, hA, hG⟩ := id X
  intro n
  induction n with
  | zero => intro v_2 r hX; cases (show (none : Option (Bool)) = some r from hX)
  | succ n ih =>
    intro v_2 r hX ls H locs hl hS
    have hX : b_X2_is_31 M a1 (fun x0 => f_X2_is_31 M a1 n x0) v_2 = some r := hX
    unfold b_X2_is_31 at hX
    refine lv_iload_n hx hb dX2_is_31 rfl (lv_at hl 2 rfl) ?_
    refine lv_aload_n hx hb dX2_is_32 rfl (lv_at hl 1 rfl) ?_
    refine r_callV_length X hS ha1 (rest := [.int v_2]) t3_15 hl.1 (Nat.le_of_ble_eq_true rfl) (Nat.le_of_ble_eq_true rfl) (Nat.le_of_ble_eq_true rfl) dX2_is_33 (fun H locs hS => ?_)
    refine lv_icmp_ge (tgt := 66) hx hb dX2_is_36 (by decide) (fun c1 => ?_) (fun c1 => ?_)
    · have hX := if_t c1 hX
      refine lv_iconst (v := nI 1) hx hb dX2_is_66 (by decide) ?_
      obtain rfl := some_of hX
      exact x_Z (v := true) X hS dX2_is_67
    · have hX := if_f c1 hX
      refine lv_aload_n hx hb dX2_is_39 rfl (lv_at hl 0 rfl) ?_
      refine fg_X2_46 X hS (o_of hN (o := 10) (c := 2) (by decide) rfl) dX2_is_40 ?_
      obtain ⟨cq2, hX⟩ := ifn_of hX
      have q2 := wr_10 hN hS cq2
      rw [if_neg cq2]
      refine lv_aload_n hx hb dX2_is_43 rfl (lv_at hl 0 rfl) ?_
      refine fg_X2_102 X hS (o_of hN (o := 10) (c := 2) (by decide) rfl) dX2_is_44 ?_
      refine lv_iload_n hx hb dX2_is_47 rfl (lv_at hl 2 rfl) ?_
      refine lv_iadd hx hb dX2_is_48 ?_
      obtain ⟨g3, hX⟩ := gin_of hX
      refine r_bald (ci := 5) (o := (gR M 10 6)) (k := 0) (n := 600) X hS q2 rfl rfl g3 dX2_is_49 ?_
      refine lv_aload_n hx hb dX2_is_50 rfl (lv_at hl 1 rfl) ?_
      refine lv_iload_n hx hb dX2_is_51 rfl (lv_at hl 2 rfl) ?_
      obtain ⟨g4, hX⟩ := gin_of hX
      refine r_callV_charAt X hS ha1 g4 (rest := [.int (Int8.toInt32 (Int32.toInt8 (gA M (gR M 10 6) 0 (ix ((gI M 10 9) + v_2)))))]) t3_25 hl.1 (Nat.le_of_ble_eq_true rfl) (Nat.le_of_ble_eq_true rfl) (Nat.le_of_ble_eq_true rfl) dX2_is_52 (fun H locs hS => ?_)
      refine lv_icmp_eq (tgt := 60) hx hb dX2_is_55 (by decide) (fun c5 => ?_) (fun c5 => ?_)
      · have hX := if_t c5 hX
        obtain ⟨v6, ev6⟩ : ∃ y : Int32, y = (v_2 + nI 1) := ⟨_, rfl⟩
        have hX := nm_of ev6 hX
        refine lv_iinc (v := v6) (lv' := [(2, .int v6), (0, .ref (ad 10 0)), (1, .ref (ad 200 a1))]) hx hb dX2_is_60 hl (k := 2) rfl (by rw [ev6]; rfl) (by decide) rfl (fun ls hl => ?_)
        refine lv_goto (tgt := 31) hx hb dX2_is_63 (by decide) ?_
        exact ih _ _ hX _ _ _ (lv_sub hl [1, 2, 0] rfl) hS
      · have hX := if_f c5 hX
        refine lv_iconst (v := nI 0) hx hb dX2_is_58 (by decide) ?_
        obtain rfl := some_of hX
        exact x_Z (v := false) X hS dX2_is_59
set_option maxRecDepth 100000 in
set_option maxHeartbeats 4000000 in
theorem m_X2_is {l : Launch} {D : va_G} {cy : Nat → ClassId} {ad : Nat → Nat → Nat} {ns : List (Nat × Nat)} {A : Nat → Prop} {M : Mem} (hN : NsC ns) {a1 : Nat} (ha1 : a1 < 18) {r : Bool} (hX : f_X2_is M a1 = some r) : Ct l yX2_is cX2_is 3 ((some .boolean)) rm_X2_is D cy ad ns A [.ref (ad 10 0), .ref (ad 200 a1)] M M (some (.int (b2i r))) := by
  refine ct_of (lv := [(0, .ref (ad 10 0)), (1, .ref (ad 200 a1))]) (by decide) (Nat.le_of_ble_eq_true rfl) rfl ?_
  intro p e s m args below meth c ls X hl hS
  obtain ⟨hx, hb, hml, hown, hts, hK, hr, hlk, hA, hG⟩ := id X
  obtain ⟨H, hH⟩ : ∃ z, z = s.heap := ⟨_, rfl⟩
  obtain ⟨locs, hlo⟩ : ∃ z : List Loc, z = [] := ⟨_, rfl⟩
  have hS : St D cy ad ns A M s.heap H locs := by rw [hH, hlo]; exact hS
  have hgoal : W p l e rm_X2_is s m args below meth c H locs 0 0 (MQ below (QC D cy ad ns A M (some (.int (b2i r)))) args s 0 0 A) (F0 m 0 ls []) := by
    unfold f_X2_is at hX
    refine lv_aload_n hx hb dX2_is_0 rfl (lv_at hl 0 rfl) ?_
    refine fg_X2_60 X hS (o_of hN (o := 10) (c := 2) (by decide) rfl) dX2_is_1 ?_
    refine lv_aload_n hx hb dX2_is_4 rfl (lv_at hl 0 rfl) ?_
    refine fg_X2_102 X hS (o_of hN (o := 10) (c := 2) (by decide) rfl) dX2_is_5 ?_
    refine lv_isub hx hb dX2_is_8 ?_
    refine lv_aload_n hx hb dX2_is_9 rfl (lv_at hl 1 rfl) ?_
    refine r_callV_length X hS ha1 (rest := [.int ((gI M 10 10) - (gI M 10 9))]) t3_15 hl.1 (Nat.le_of_ble_eq_true rfl) (Nat.le_of_ble_eq_true rfl) (Nat.le_of_ble_eq_true rfl) dX2_is_10 (fun H locs hS => ?_)
    refine lv_icmp_ne (tgt := 27) hx hb dX2_is_13 (by decide) (fun c7 => ?_) (fun c7 => ?_)
    · have hX := if_f c7 hX
      refine lv_iconst (v := nI 0) hx hb dX2_is_27 (by decide) ?_
      obtain rfl := some_of hX
      exact x_Z (v := false) X hS dX2_is_28
    · have hX := if_t c7 hX
      refine lv_aload_n hx hb dX2_is_16 rfl (lv_at hl 0 rfl) ?_
      refine fg_X2_60 X hS (o_of hN (o := 10) (c := 2) (by decide) rfl) dX2_is_17 ?_
      refine lv_aload_n hx hb dX2_is_20 rfl (lv_at hl 0 rfl) ?_
      refine fg_X2_56 X hS (o_of hN (o := 10) (c := 2) (by decide) rfl) dX2_is_21 ?_
      refine lv_icmp_le (tgt := 29) hx hb dX2_is_24 (by decide) (fun c8 => ?_) (fun c8 => ?_)
      · have hX := if_t c8 hX
        refine lv_iconst (v := nI 0) hx hb dX2_is_29 (by decide) ?_
        refine lv_istore_n (lv' := [(2, .int (nI 0)), (0, .ref (ad 10 0)), (1, .ref (ad 200 a1))]) hx hb dX2_is_30 rfl hl (by decide) rfl (fun ls hl => ?_)
        exact n_X2_is_31 X hN ha1 _ _ _ hX _ _ _ (lv_sub hl [1, 2, 0] rfl) hS
      · have hX := if_f c8 hX
        refine lv_iconst (v := nI 0) hx hb dX2_is_27 (by decide) ?_
        obtain rfl := some_of hX
        exact x_Z (v := false) X hS dX2_is_28
  rw [hH, hlo] at hgoal
  exact hgoal
theorem mv_X2_is : Mv yX2_is RX2 cX2_is 3 ((some .boolean)) 1 := ⟨t3_14, t3_12, t3_13, t1_7, ⟨by decide, by decide⟩, by decide +kernel⟩
/-! SewnYear$Reader.wordOf(I)I -/
def rm_X2_wordOf : Room := { frames := 5, cells := 0, slots := 0, locals := 133 }
def f_X2_wordOf (M : Mem) (a1 : Int32) : Option (Int32) :=
  if a1 = nI 0 then (bn (f_X2_is M 0) fun r3 => if r3 = true then (some (nI 0)) else (bn (f_X2_is M 1) fun r6 => if r6 = true then (some (nI 1)) else (bn (f_X2_is M 2) fun r9 => if r9 = true then (some (nI 2)) else (bn (f_X2_is M 3) fun r12 => if r12 = true then (some (nI 3)) else (some (-1)))))) else if a1 = nI 1 then (bn (f_X2_is M 4) fun r16 => if r16 = true then (some (nI 0)) else (bn (f_X2_is M 5) fun r19 => if r19 = true then (some (nI 1)) else (bn (f_X2_is M 6) fun r22 => if r22 = true then (some (nI 2)) else (bn (f_X2_is M 7) fun r25 => if r25 = true then (some (nI 3)) else (bn (f_X2_is M 8) fun r28 => if r28 = true then (some (nI 4)) else (bn (f_X2_is M 9) fun r31 => if r31 = true then (some (nI 5)) else (some (-1)))))))) else if a1 = nI 2 then (bn (f_X2_is M 10) fun r35 => if r35 = true then (some (nI 0)) else (bn (f_X2_is M 11) fun r38 => if r38 = true then (some (nI 1)) else (bn (f_X2_is M 12) fun r41 => if r41 = true then (some (nI 2)) else (bn (f_X2_is M 13) fun r44 => if r44 = true then (some (nI 3)) else (bn (f_X2_is M 14) fun r47 => if r47 = true then (some (nI 4)) else (some (-1))))))) else if a1 = nI 3 then (bn (f_X2_is M 15) fun r51 => if r51 = true then (some (nI 0)) else (bn (f_X2_is M 16) fun r54 => if r54 = true then (some (nI 1)) else (bn (f_X2_is M 17) fun r57 => if r57 = true then (some (nI 2)) else (some (-1))))) else (some (-1))
set_option maxRecDepth 100000 in
set_option maxHeartbeats 4000000 in
theorem m_X2_wordOf {l : Launch} {D : va_G} {cy : Nat → ClassId} {ad : Nat → Nat → Nat} {ns : List (Nat × Nat)} {A : Nat → Prop} {M : Mem} (hN : NsC ns) {a1 : Int32} {r : Int32} (hX : f_X2_wordOf M a1 = some r) : Ct l yX2_wordOf cX2_wordOf 2 ((some .int)) rm_X2_wordOf D cy ad ns A [.ref (ad 10 0), .int a1] M M (some (.int r)) := by
  refine ct_of (lv := [(0, .ref (ad 10 0)), (1, .int a1)]) (by decide) (Nat.le_of_ble_eq_true rfl) rfl ?_
  intro p e s m args below meth c ls X hl hS
  obtain ⟨hx, hb, hml, hown, hts, hK, hr, hlk, hA, hG⟩ := id X
  obtain ⟨H, hH⟩ : ∃ z, z = s.heap := ⟨_, rfl⟩
  obtain ⟨locs, hlo⟩ : ∃ z : List Loc, z = [] := ⟨_, rfl⟩
  have hS : St D cy ad ns A M s.heap H locs := by rw [hH, hlo]; exact hS
  have hgoal : W p l e rm_X2_wordOf s m args below meth c H locs 0 0 (MQ below (QC D cy ad ns A M (some (.int r))) args s 0 0 A) (F0 m 0 ls []) := by
    unfold f_X2_wordOf at hX
    refine lv_iload_n hx hb dX2_wordOf_0 rfl (lv_at hl 1 rfl) ?_
    by_cases c1 : a1 = nI 0
    · have hX := if_t c1 hX
      refine r_tabIn c1 (off := 31) (tgt := 32) hx hb dX2_wordOf_1 (by decide) (by decide) (by decide) (by decide) ?_
      refine lv_aload_n hx hb dX2_wordOf_32 rfl (lv_at hl 0 rfl) ?_
      refine va_ldcS hx hb (own := RX2) hown (hG.2.2.1 0 (by decide)) dX2_wordOf_33 ?_
      obtain ⟨r3, h2, hX⟩ := bn_of hX
      refine r_callV1 (v := .int (b2i r3)) (As := [.ref (ad 200 0)]) (rest := []) X hS (m_X2_is hN (by decide) h2) mv_X2_is rfl (o_of hN (o := 10) (c := 2) (by decide) rfl) t3_11 ⟨rfl, rfl, Nat.le_of_ble_eq_true rfl, Nat.le_of_ble_eq_true rfl⟩ rfl hl.1 rfl (Nat.le_of_ble_eq_true rfl) ⟨Nat.zero_le _, Nat.zero_le _⟩ dX2_wordOf_35 (fun H locs hS => ?_)
      refine lv_if_eq (tgt := 45) hx hb dX2_wordOf_38 (by decide) (fun c4 => ?_) (fun c4 => ?_)
      · have hX := if_bf c4 hX
        refine lv_aload_n hx hb dX2_wordOf_45 rfl (lv_at hl 0 rfl) ?_
        refine va_ldcS hx hb (own := RX2) hown (hG.2.2.1 1 (by decide)) dX2_wordOf_46 ?_
        obtain ⟨r6, h5, hX⟩ := bn_of hX
        refine r_callV1 (v := .int (b2i r6)) (As := [.ref (ad 200 1)]) (rest := []) X hS (m_X2_is hN (by decide) h5) mv_X2_is rfl (o_of hN (o := 10) (c := 2) (by decide) rfl) t3_11 ⟨rfl, rfl, Nat.le_of_ble_eq_true rfl, Nat.le_of_ble_eq_true rfl⟩ rfl hl.1 rfl (Nat.le_of_ble_eq_true rfl) ⟨Nat.zero_le _, Nat.zero_le _⟩ dX2_wordOf_48 (fun H locs hS => ?_)
        refine lv_if_eq (tgt := 58) hx hb dX2_wordOf_51 (by decide) (fun c7 => ?_) (fun c7 => ?_)
        · have hX := if_bf c7 hX
          refine lv_aload_n hx hb dX2_wordOf_58 rfl (lv_at hl 0 rfl) ?_
          refine va_ldcS hx hb (own := RX2) hown (hG.2.2.1 2 (by decide)) dX2_wordOf_59 ?_
          obtain ⟨r9, h8, hX⟩ := bn_of hX
          refine r_callV1 (v := .int (b2i r9)) (As := [.ref (ad 200 2)]) (rest := []) X hS (m_X2_is hN (by decide) h8) mv_X2_is rfl (o_of hN (o := 10) (c := 2) (by decide) rfl) t3_11 ⟨rfl, rfl, Nat.le_of_ble_eq_true rfl, Nat.le_of_ble_eq_true rfl⟩ rfl hl.1 rfl (Nat.le_of_ble_eq_true rfl) ⟨Nat.zero_le _, Nat.zero_le _⟩ dX2_wordOf_61 (fun H locs hS => ?_)
          refine lv_if_eq (tgt := 71) hx hb dX2_wordOf_64 (by decide) (fun c10 => ?_) (fun c10 => ?_)
          · have hX := if_bf c10 hX
            refine lv_aload_n hx hb dX2_wordOf_71 rfl (lv_at hl 0 rfl) ?_
            refine va_ldcS hx hb (own := RX2) hown (hG.2.2.1 3 (by decide)) dX2_wordOf_72 ?_
            obtain ⟨r12, h11, hX⟩ := bn_of hX
            refine r_callV1 (v := .int (b2i r12)) (As := [.ref (ad 200 3)]) (rest := []) X hS (m_X2_is hN (by decide) h11) mv_X2_is rfl (o_of hN (o := 10) (c := 2) (by decide) rfl) t3_11 ⟨rfl, rfl, Nat.le_of_ble_eq_true rfl, Nat.le_of_ble_eq_true rfl⟩ rfl hl.1 rfl (Nat.le_of_ble_eq_true rfl) ⟨Nat.zero_le _, Nat.zero_le _⟩ dX2_wordOf_74 (fun H locs hS => ?_)
            refine lv_if_eq (tgt := 84) hx hb dX2_wordOf_77 (by decide) (fun c13 => ?_) (fun c13 => ?_)
            · have hX := if_bf c13 hX
              refine lv_iconst (v := (-1)) hx hb dX2_wordOf_84 (by decide) ?_
              obtain rfl := some_of hX
              exact x_I (v := (-1)) X hS dX2_wordOf_85
            · have hX := if_bt c13 hX
              refine lv_iconst (v := nI 3) hx hb dX2_wordOf_80 (by decide) ?_
              refine lv_goto (tgt := 85) hx hb dX2_wordOf_81 (by decide) ?_
              obtain rfl := some_of hX
              exact x_I (v := (nI 3)) X hS dX2_wordOf_85
          · have hX := if_bt c10 hX
            refine lv_iconst (v := nI 2) hx hb dX2_wordOf_67 (by decide) ?_
            refine lv_goto (tgt := 85) hx hb dX2_wordOf_68 (by decide) ?_
            obtain rfl := some_of hX
            exact x_I (v := (nI 2)) X hS dX2_wordOf_85
        · have hX := if_bt c7 hX
          refine lv_iconst (v := nI 1) hx hb dX2_wordOf_54 (by decide) ?_
          refine lv_goto (tgt := 85) hx hb dX2_wordOf_55 (by decide) ?_
          obtain rfl := some_of hX
          exact x_I (v := (nI 1)) X hS dX2_wordOf_85
      · have hX := if_bt c4 hX
        refine lv_iconst (v := nI 0) hx hb dX2_wordOf_41 (by decide) ?_
        refine lv_goto (tgt := 85) hx hb dX2_wordOf_42 (by decide) ?_
        obtain rfl := some_of hX
        exact x_I (v := (nI 0)) X hS dX2_wordOf_85
    have hX := if_f c1 hX
    by_cases c14 : a1 = nI 1
    · have hX := if_t c14 hX
      refine r_tabIn c14 (off := 85) (tgt := 86) hx hb dX2_wordOf_1 (by decide) (by decide) (by decide) (by decide) ?_
      refine lv_aload_n hx hb dX2_wordOf_86 rfl (lv_at hl 0 rfl) ?_
      refine va_ldcS hx hb (own := RX2) hown (hG.2.2.1 4 (by decide)) dX2_wordOf_87 ?_
      obtain ⟨r16, h15, hX⟩ := bn_of hX
      refine r_callV1 (v := .int (b2i r16)) (As := [.ref (ad 200 4)]) (rest := []) X hS (m_X2_is hN (by decide) h15) mv_X2_is rfl (o_of hN (o := 10) (c := 2) (by decide) rfl) t3_11 ⟨rfl, rfl, Nat.le_of_ble_eq_true rfl, Nat.le_of_ble_eq_true rfl⟩ rfl hl.1 rfl (Nat.le_of_ble_eq_true rfl) ⟨Nat.zero_le _, Nat.zero_le _⟩ dX2_wordOf_89 (fun H locs hS => ?_)
      refine lv_if_eq (tgt := 99) hx hb dX2_wordOf_92 (by decide) (fun c17 => ?_) (fun c17 => ?_)
      · have hX := if_bf c17 hX
        refine lv_aload_n hx hb dX2_wordOf_99 rfl (lv_at hl 0 rfl) ?_
        refine va_ldcS hx hb (own := RX2) hown (hG.2.2.1 5 (by decide)) dX2_wordOf_100 ?_
        obtain ⟨r19, h18, hX⟩ := bn_of hX
        refine r_callV1 (v := .int (b2i r19)) (As := [.ref (ad 200 5)]) (rest := []) X hS (m_X2_is hN (by decide) h18) mv_X2_is rfl (o_of hN (o := 10) (c := 2) (by decide) rfl) t3_11 ⟨rfl, rfl, Nat.le_of_ble_eq_true rfl, Nat.le_of_ble_eq_true rfl⟩ rfl hl.1 rfl (Nat.le_of_ble_eq_true rfl) ⟨Nat.zero_le _, Nat.zero_le _⟩ dX2_wordOf_102 (fun H locs hS => ?_)
        refine lv_if_eq (tgt := 112) hx hb dX2_wordOf_105 (by decide) (fun c20 => ?_) (fun c20 => ?_)
        · have hX := if_bf c20 hX
          refine lv_aload_n hx hb dX2_wordOf_112 rfl (lv_at hl 0 rfl) ?_
          refine va_ldcS hx hb (own := RX2) hown (hG.2.2.1 6 (by decide)) dX2_wordOf_113 ?_
          obtain ⟨r22, h21, hX⟩ := bn_of hX
          refine r_callV1 (v := .int (b2i r22)) (As := [.ref (ad 200 6)]) (rest := []) X hS (m_X2_is hN (by decide) h21) mv_X2_is rfl (o_of hN (o := 10) (c := 2) (by decide) rfl) t3_11 ⟨rfl, rfl, Nat.le_of_ble_eq_true rfl, Nat.le_of_ble_eq_true rfl⟩ rfl hl.1 rfl (Nat.le_of_ble_eq_true rfl) ⟨Nat.zero_le _, Nat.zero_le _⟩ dX2_wordOf_115 (fun H locs hS => ?_)
          refine lv_if_eq (tgt := 125) hx hb dX2_wordOf_118 (by decide) (fun c23 => ?_) (fun c23 => ?_)
          · have hX := if_bf c23 hX
            refine lv_aload_n hx hb dX2_wordOf_125 rfl (lv_at hl 0 rfl) ?_
            refine va_ldcS hx hb (own := RX2) hown (hG.2.2.1 7 (by decide)) dX2_wordOf_126 ?_
            obtain ⟨r25, h24, hX⟩ := bn_of hX
            refine r_callV1 (v := .int (b2i r25)) (As := [.ref (ad 200 7)]) (rest := []) X hS (m_X2_is hN (by decide) h24) mv_X2_is rfl (o_of hN (o := 10) (c := 2) (by decide) rfl) t3_11 ⟨rfl, rfl, Nat.le_of_ble_eq_true rfl, Nat.le_of_ble_eq_true rfl⟩ rfl hl.1 rfl (Nat.le_of_ble_eq_true rfl) ⟨Nat.zero_le _, Nat.zero_le _⟩ dX2_wordOf_128 (fun H locs hS => ?_)
            refine lv_if_eq (tgt := 138) hx hb dX2_wordOf_131 (by decide) (fun c26 => ?_) (fun c26 => ?_)
            · have hX := if_bf c26 hX
              refine lv_aload_n hx hb dX2_wordOf_138 rfl (lv_at hl 0 rfl) ?_
              refine va_ldcS hx hb (own := RX2) hown (hG.2.2.1 8 (by decide)) dX2_wordOf_139 ?_
              obtain ⟨r28, h27, hX⟩ := bn_of hX
              refine r_callV1 (v := .int (b2i r28)) (As := [.ref (ad 200 8)]) (rest := []) X hS (m_X2_is hN (by decide) h27) mv_X2_is rfl (o_of hN (o := 10) (c := 2) (by decide) rfl) t3_11 ⟨rfl, rfl, Nat.le_of_ble_eq_true rfl, Nat.le_of_ble_eq_true rfl⟩ rfl hl.1 rfl (Nat.le_of_ble_eq_true rfl) ⟨Nat.zero_le _, Nat.zero_le _⟩ dX2_wordOf_141 (fun H locs hS => ?_)
              refine lv_if_eq (tgt := 151) hx hb dX2_wordOf_144 (by decide) (fun c29 => ?_) (fun c29 => ?_)
              · have hX := if_bf c29 hX
                refine lv_aload_n hx hb dX2_wordOf_151 rfl (lv_at hl 0 rfl) ?_
                refine va_ldcS hx hb (own := RX2) hown (hG.2.2.1 9 (by decide)) dX2_wordOf_152 ?_
                obtain ⟨r31, h30, hX⟩ := bn_of hX
                refine r_callV1 (v := .int (b2i r31)) (As := [.ref (ad 200 9)]) (rest := []) X hS (m_X2_is hN (by decide) h30) mv_X2_is rfl (o_of hN (o := 10) (c := 2) (by decide) rfl) t3_11 ⟨rfl, rfl, Nat.le_of_ble_eq_true rfl, Nat.le_of_ble_eq_true rfl⟩ rfl hl.1 rfl (Nat.le_of_ble_eq_true rfl) ⟨Nat.zero_le _, Nat.zero_le _⟩ dX2_wordOf_154 (fun H locs hS => ?_)
                refine lv_if_eq (tgt := 164) hx hb dX2_wordOf_157 (by decide) (fun c32 => ?_) (fun c32 => ?_)
                · have hX := if_bf c32 hX
                  refine lv_iconst (v := (-1)) hx hb dX2_wordOf_164 (by decide) ?_
                  obtain rfl := some_of hX
                  exact x_I (v := (-1)) X hS dX2_wordOf_165
                · have hX := if_bt c32 hX
                  refine lv_iconst (v := nI 5) hx hb dX2_wordOf_160 (by decide) ?_
                  refine lv_goto (tgt := 165) hx hb dX2_wordOf_161 (by decide) ?_
                  obtain rfl := some_of hX
                  exact x_I (v := (nI 5)) X hS dX2_wordOf_165
              · have hX := if_bt c29 hX
                refine lv_iconst (v := nI 4) hx hb dX2_wordOf_147 (by decide) ?_
                refine lv_goto (tgt := 165) hx hb dX2_wordOf_148 (by decide) ?_
                obtain rfl := some_of hX
                exact x_I (v := (nI 4)) X hS dX2_wordOf_165
            · have hX := if_bt c26 hX
              refine lv_iconst (v := nI 3) hx hb dX2_wordOf_134 (by decide) ?_
              refine lv_goto (tgt := 165) hx hb dX2_wordOf_135 (by decide) ?_
              obtain rfl := some_of hX
              exact x_I (v := (nI 3)) X hS dX2_wordOf_165
          · have hX := if_bt c23 hX
            refine lv_iconst (v := nI 2) hx hb dX2_wordOf_121 (by decide) ?_
            refine lv_goto (tgt := 165) hx hb dX2_wordOf_122 (by decide) ?_
            obtain rfl := some_of hX
            exact x_I (v := (nI 2)) X hS dX2_wordOf_165
        · have hX := if_bt c20 hX
          refine lv_iconst (v := nI 1) hx hb dX2_wordOf_108 (by decide) ?_
          refine lv_goto (tgt := 165) hx hb dX2_wordOf_109 (by decide) ?_
          obtain rfl := some_of hX
          exact x_I (v := (nI 1)) X hS dX2_wordOf_165
      · have hX := if_bt c17 hX
        refine lv_iconst (v := nI 0) hx hb dX2_wordOf_95 (by decide) ?_
        refine lv_goto (tgt := 165) hx hb dX2_wordOf_96 (by decide) ?_
        obtain rfl := some_of hX
        exact x_I (v := (nI 0)) X hS dX2_wordOf_165
    have hX := if_f c14 hX
    by_cases c33 : a1 = nI 2
    · have hX := if_t c33 hX
      refine r_tabIn c33 (off := 165) (tgt := 166) hx hb dX2_wordOf_1 (by decide) (by decide) (by decide) (by decide) ?_
      refine lv_aload_n hx hb dX2_wordOf_166 rfl (lv_at hl 0 rfl) ?_
      refine va_ldcS hx hb (own := RX2) hown (hG.2.2.1 10 (by decide)) dX2_wordOf_167 ?_
      obtain ⟨r35, h34, hX⟩ := bn_of hX
      refine r_callV1 (v := .int (b2i r35)) (As := [.ref (ad 200 10)]) (rest := []) X hS (m_X2_is hN (by decide) h34) mv_X2_is rfl (o_of hN (o := 10) (c := 2) (by decide) rfl) t3_11 ⟨rfl, rfl, Nat.le_of_ble_eq_true rfl, Nat.le_of_ble_eq_true rfl⟩ rfl hl.1 rfl (Nat.le_of_ble_eq_true rfl) ⟨Nat.zero_le _, Nat.zero_le _⟩ dX2_wordOf_169 (fun H locs hS => ?_)
      refine lv_if_eq (tgt := 179) hx hb dX2_wordOf_172 (by decide) (fun c36 => ?_) (fun c36 => ?_)
      · have hX := if_bf c36 hX
        refine lv_aload_n hx hb dX2_wordOf_179 rfl (lv_at hl 0 rfl) ?_
        refine va_ldcS hx hb (own := RX2) hown (hG.2.2.1 11 (by decide)) dX2_wordOf_180 ?_
        obtain ⟨r38, h37, hX⟩ := bn_of hX
        refine r_callV1 (v := .int (b2i r38)) (As := [.ref (ad 200 11)]) (rest := []) X hS (m_X2_is hN (by decide) h37) mv_X2_is rfl (o_of hN (o := 10) (c := 2) (by decide) rfl) t3_11 ⟨rfl, rfl, Nat.le_of_ble_eq_true rfl, Nat.le_of_ble_eq_true rfl⟩ rfl hl.1 rfl (Nat.le_of_ble_eq_true rfl) ⟨Nat.zero_le _, Nat.zero_le _⟩ dX2_wordOf_182 (fun H locs hS => ?_)
        refine lv_if_eq (tgt := 192) hx hb dX2_wordOf_185 (by decide) (fun c39 => ?_) (fun c39 => ?_)
        · have hX := if_bf c39 hX
          refine lv_aload_n hx hb dX2_wordOf_192 rfl (lv_at hl 0 rfl) ?_
          refine va_ldcS hx hb (own := RX2) hown (hG.2.2.1 12 (by decide)) dX2_wordOf_193 ?_
          obtain ⟨r41, h40, hX⟩ := bn_of hX
          refine r_callV1 (v := .int (b2i r41)) (As := [.ref (ad 200 12)]) (rest := []) X hS (m_X2_is hN (by decide) h40) mv_X2_is rfl (o_of hN (o := 10) (c := 2) (by decide) rfl) t3_11 ⟨rfl, rfl, Nat.le_of_ble_eq_true rfl, Nat.le_of_ble_eq_true rfl⟩ rfl hl.1 rfl (Nat.le_of_ble_eq_true rfl) ⟨Nat.zero_le _, Nat.zero_le _⟩ dX2_wordOf_195 (fun H locs hS => ?_)
          refine lv_if_eq (tgt := 205) hx hb dX2_wordOf_198 (by decide) (fun c42 => ?_) (fun c42 => ?_)
          · have hX := if_bf c42 hX
            refine lv_aload_n hx hb dX2_wordOf_205 rfl (lv_at hl 0 rfl) ?_
            refine va_ldcS hx hb (own := RX2) hown (hG.2.2.1 13 (by decide)) dX2_wordOf_206 ?_
            obtain ⟨r44, h43, hX⟩ := bn_of hX
            refine r_callV1 (v := .int (b2i r44)) (As := [.ref (ad 200 13)]) (rest := []) X hS (m_X2_is hN (by decide) h43) mv_X2_is rfl (o_of hN (o := 10) (c := 2) (by decide) rfl) t3_11 ⟨rfl, rfl, Nat.le_of_ble_eq_true rfl, Nat.le_of_ble_eq_true rfl⟩ rfl hl.1 rfl (Nat.le_of_ble_eq_true rfl) ⟨Nat.zero_le _, Nat.zero_le _⟩ dX2_wordOf_208 (fun H locs hS => ?_)
            refine lv_if_eq (tgt := 218) hx hb dX2_wordOf_211 (by decide) (fun c45 => ?_) (fun c45 => ?_)
            · have hX := if_bf c45 hX
              refine lv_aload_n hx hb dX2_wordOf_218 rfl (lv_at hl 0 rfl) ?_
              refine va_ldcS hx hb (own := RX2) hown (hG.2.2.1 14 (by decide)) dX2_wordOf_219 ?_
              obtain ⟨r47, h46, hX⟩ := bn_of hX
              refine r_callV1 (v := .int (b2i r47)) (As := [.ref (ad 200 14)]) (rest := []) X hS (m_X2_is hN (by decide) h46) mv_X2_is rfl (o_of hN (o := 10) (c := 2) (by decide) rfl) t3_11 ⟨rfl, rfl, Nat.le_of_ble_eq_true rfl, Nat.le_of_ble_eq_true rfl⟩ rfl hl.1 rfl (Nat.le_of_ble_eq_true rfl) ⟨Nat.zero_le _, Nat.zero_le _⟩ dX2_wordOf_221 (fun H locs hS => ?_)
              refine lv_if_eq (tgt := 231) hx hb dX2_wordOf_224 (by decide) (fun c48 => ?_) (fun c48 => ?_)
              · have hX := if_bf c48 hX
                refine lv_iconst (v := (-1)) hx hb dX2_wordOf_231 (by decide) ?_
                obtain rfl := some_of hX
                exact x_I (v := (-1)) X hS dX2_wordOf_232
              · have hX := if_bt c48 hX
                refine lv_iconst (v := nI 4) hx hb dX2_wordOf_227 (by decide) ?_
                refine lv_goto (tgt := 232) hx hb dX2_wordOf_228 (by decide) ?_
                obtain rfl := some_of hX
                exact x_I (v := (nI 4)) X hS dX2_wordOf_232
            · have hX := if_bt c45 hX
              refine lv_iconst (v := nI 3) hx hb dX2_wordOf_214 (by decide) ?_
              refine lv_goto (tgt := 232) hx hb dX2_wordOf_215 (by decide) ?_
              obtain rfl := some_of hX
              exact x_I (v := (nI 3)) X hS dX2_wordOf_232
          · have hX := if_bt c42 hX
            refine lv_iconst (v := nI 2) hx hb dX2_wordOf_201 (by decide) ?_
            refine lv_goto (tgt := 232) hx hb dX2_wordOf_202 (by decide) ?_
            obtain rfl := some_of hX
            exact x_I (v := (nI 2)) X hS dX2_wordOf_232
        · have hX := if_bt c39 hX
          refine lv_iconst (v := nI 1) hx hb dX2_wordOf_188 (by decide) ?_
          refine lv_goto (tgt := 232) hx hb dX2_wordOf_189 (by decide) ?_
          obtain rfl := some_of hX
          exact x_I (v := (nI 1)) X hS dX2_wordOf_232
      · have hX := if_bt c36 hX
        refine lv_iconst (v := nI 0) hx hb dX2_wordOf_175 (by decide) ?_
        refine lv_goto (tgt := 232) hx hb dX2_wordOf_176 (by decide) ?_
        obtain rfl := some_of hX
        exact x_I (v := (nI 0)) X hS dX2_wordOf_232
    have hX := if_f c33 hX
    by_cases c49 : a1 = nI 3
    · have hX := if_t c49 hX
      refine r_tabIn c49 (off := 232) (tgt := 233) hx hb dX2_wordOf_1 (by decide) (by decide) (by decide) (by decide) ?_
      refine lv_aload_n hx hb dX2_wordOf_233 rfl (lv_at hl 0 rfl) ?_
      refine va_ldcS hx hb (own := RX2) hown (hG.2.2.1 15 (by decide)) dX2_wordOf_234 ?_
      obtain ⟨r51, h50, hX⟩ := bn_of hX
      refine r_callV1 (v := .int (b2i r51)) (As := [.ref (ad 200 15)]) (rest := []) X hS (m_X2_is hN (by decide) h50) mv_X2_is rfl (o_of hN (o := 10) (c := 2) (by decide) rfl) t3_11 ⟨rfl, rfl, Nat.le_of_ble_eq_true rfl, Nat.le_of_ble_eq_true rfl⟩ rfl hl.1 rfl (Nat.le_of_ble_eq_true rfl) ⟨Nat.zero_le _, Nat.zero_le _⟩ dX2_wordOf_236 (fun H locs hS => ?_)
      refine lv_if_eq (tgt := 246) hx hb dX2_wordOf_239 (by decide) (fun c52 => ?_) (fun c52 => ?_)
      · have hX := if_bf c52 hX
        refine lv_aload_n hx hb dX2_wordOf_246 rfl (lv_at hl 0 rfl) ?_
        refine va_ldcS hx hb (own := RX2) hown (hG.2.2.1 16 (by decide)) dX2_wordOf_247 ?_
        obtain ⟨r54, h53, hX⟩ := bn_of hX
        refine r_callV1 (v := .int (b2i r54)) (As := [.ref (ad 200 16)]) (rest := []) X hS (m_X2_is hN (by decide) h53) mv_X2_is rfl (o_of hN (o := 10) (c := 2) (by decide) rfl) t3_11 ⟨rfl, rfl, Nat.le_of_ble_eq_true rfl, Nat.le_of_ble_eq_true rfl⟩ rfl hl.1 rfl (Nat.le_of_ble_eq_true rfl) ⟨Nat.zero_le _, Nat.zero_le _⟩ dX2_wordOf_249 (fun H locs hS => ?_)
        refine lv_if_eq (tgt := 259) hx hb dX2_wordOf_252 (by decide) (fun c55 => ?_) (fun c55 => ?_)
        · have hX := if_bf c55 hX
          refine lv_aload_n hx hb dX2_wordOf_259 rfl (lv_at hl 0 rfl) ?_
          refine va_ldcS hx hb (own := RX2) hown (hG.2.2.1 17 (by decide)) dX2_wordOf_260 ?_
          obtain ⟨r57, h56, hX⟩ := bn_of hX
          refine r_callV1 (v := .int (b2i r57)) (As := [.ref (ad 200 17)]) (rest := []) X hS (m_X2_is hN (by decide) h56) mv_X2_is rfl (o_of hN (o := 10) (c := 2) (by decide) rfl) t3_11 ⟨rfl, rfl, Nat.le_of_ble_eq_true rfl, Nat.le_of_ble_eq_true rfl⟩ rfl hl.1 rfl (Nat.le_of_ble_eq_true rfl) ⟨Nat.zero_le _, Nat.zero_le _⟩ dX2_wordOf_262 (fun H locs hS => ?_)
          refine lv_if_eq (tgt := 272) hx hb dX2_wordOf_265 (by decide) (fun c58 => ?_) (fun c58 => ?_)
          · have hX := if_bf c58 hX
            refine lv_iconst (v := (-1)) hx hb dX2_wordOf_272 (by decide) ?_
            obtain rfl := some_of hX
            exact x_I (v := (-1)) X hS dX2_wordOf_273
          · have hX := if_bt c58 hX
            refine lv_iconst (v := nI 2) hx hb dX2_wordOf_268 (by decide) ?_
            refine lv_goto (tgt := 273) hx hb dX2_wordOf_269 (by decide) ?_
            obtain rfl := some_of hX
            exact x_I (v := (nI 2)) X hS dX2_wordOf_273
        · have hX := if_bt c55 hX
          refine lv_iconst (v := nI 1) hx hb dX2_wordOf_255 (by decide) ?_
          refine lv_goto (tgt := 273) hx hb dX2_wordOf_256 (by decide) ?_
          obtain rfl := some_of hX
          exact x_I (v := (nI 1)) X hS dX2_wordOf_273
      · have hX := if_bt c52 hX
        refine lv_iconst (v := nI 0) hx hb dX2_wordOf_242 (by decide) ?_
        refine lv_goto (tgt := 273) hx hb dX2_wordOf_243 (by decide) ?_
        obtain rfl := some_of hX
        exact x_I (v := (nI 0)) X hS dX2_wordOf_273
    have hX := if_f c49 hX
    have ic1 : ¬ a1.toInt = 0 := lv_neT c1 rfl
    have ic14 : ¬ a1.toInt = 1 := lv_neT c14 rfl
    have ic33 : ¬ a1.toInt = 2 := lv_neT c33 rfl
    have ic49 : ¬ a1.toInt = 3 := lv_neT c49 rfl
    refine lv_tableOut (tgt := 274) hx hb dX2_wordOf_1 (by omega) (by decide) ?_
    refine lv_iconst (v := (-1)) hx hb dX2_wordOf_274 (by decide) ?_
    obtain rfl := some_of hX
    exact x_I (v := (-1)) X hS dX2_wordOf_275
  rw [hH, hlo] at hgoal
  exact hgoal
theorem mv_X2_wordOf : Mv yX2_wordOf RX2 cX2_wordOf 2 ((some .int)) 1 := ⟨t3_9, t3_7, t3_8, t1_7, ⟨by decide, by decide⟩, by decide +kernel⟩
/-! SewnYear$Reader.breakOff()V -/
def rm_X2_breakOff : Room := { frames := 0, cells := 0, slots := 0, locals := 0 }
def f_X2_breakOff (M : Mem) : Option (Mem) :=
  nm (sI M 10 12 (nI 1)) fun M1 => nm (sI M1 10 13 (gI M1 10 9)) fun M2 => some M2
set_option maxRecDepth 100000 in
set_option maxHeartbeats 4000000 in
theorem m_X2_breakOff {l : Launch} {D : va_G} {cy : Nat → ClassId} {ad : Nat → Nat → Nat} {ns : List (Nat × Nat)} {A : Nat → Prop} {M : Mem} (hN : NsC ns) {r : Mem} (hX : f_X2_breakOff M = some r) : Ct l yX2_breakOff cX2_breakOff 1 ((none : Option Jvm.ClassFile.FieldType)) rm_X2_breakOff D cy ad ns A [.ref (ad 10 0)] M r none := by
  refine ct_of (lv := [(0, .ref (ad 10 0))]) (by decide) (Nat.le_of_ble_eq_true rfl) rfl ?_
  intro p e s m args below meth c ls X hl hS
  obtain ⟨hx, hb, hml, hown, hts, hK, hr, hlk, hA, hG⟩ := id X
  obtain ⟨H, hH⟩ : ∃ z, z = s.heap := ⟨_, rfl⟩
  obtain ⟨locs, hlo⟩ : ∃ z : List Loc, z = [] := ⟨_, rfl⟩
  have hS : St D cy ad ns A M s.heap H locs := by rw [hH, hlo]; exact hS
  have hgoal : W p l e rm_X2_breakOff s m args below meth c H locs 0 0 (MQ below (QC D cy ad ns A r none) args s 0 0 A) (F0 m 0 ls []) := by
    unfold f_X2_breakOff at hX
    refine lv_aload_n hx hb dX2_breakOff_0 rfl (lv_at hl 0 rfl) ?_
    refine lv_iconst (v := nI 1) hx hb dX2_breakOff_1 (by decide) ?_
    refine fp_X2_66 X hS (o_of hN (o := 10) (c := 2) (by decide) rfl) dX2_breakOff_2 (fun H locs hS => ?_)
    obtain ⟨M1, eM1, hS, hX⟩ := nm_mem hS hX
    refine lv_aload_n hx hb dX2_breakOff_5 rfl (lv_at hl 0 rfl) ?_
    refine lv_aload_n hx hb dX2_breakOff_6 rfl (lv_at hl 0 rfl) ?_
    refine fg_X2_102 X hS (o_of hN (o := 10) (c := 2) (by decide) rfl) dX2_breakOff_7 ?_
    refine fp_X2_69 X hS (o_of hN (o := 10) (c := 2) (by decide) rfl) dX2_breakOff_10 (fun H locs hS => ?_)
    obtain ⟨M2, eM2, hS, hX⟩ := nm_mem hS hX
    obtain rfl := some_of hX
    exact x_V X hS dX2_breakOff_13
  rw [hH, hlo] at hgoal
  exact hgoal
theorem mv_X2_breakOff : Mv yX2_breakOff RX2 cX2_breakOff 1 ((none : Option Jvm.ClassFile.FieldType)) 0 := ⟨t3_83, t3_81, t3_82, t1_7, ⟨by decide, by decide⟩, by decide +kernel⟩
/-! SewnYear$Reader.numbersOf(II)I -/
def rm_X2_numbersOf : Room := { frames := 0, cells := 0, slots := 0, locals := 0 }
def f_X2_numbersOf (a1 : Int32) (a2 : Int32) : Option (Int32) :=
  if a1 = nI 0 then (if a2 = (nI 0) then (some (nI 3)) else (if a2 = (nI 3) then (some (nI 1)) else (some (nI 2)))) else if a1 = nI 1 then (if a2 = (nI 5) then (some (nI 0)) else (some (nI 1))) else if a1 = nI 2 then (if a2 = (nI 3) then (some (nI 4)) else (if a2 = (nI 4) then (some (nI 3)) else (if a2 = (nI 2) then (some (nI 2)) else (some (nI 1))))) else (some (nI 2))
set_option maxRecDepth 100000 in
set_option maxHeartbeats 4000000 in
theorem m_X2_numbersOf {l : Launch} {D : va_G} {cy : Nat → ClassId} {ad : Nat → Nat → Nat} {ns : List (Nat × Nat)} {A : Nat → Prop} {M : Mem} (hN : NsC ns) {a1 : Int32} {a2 : Int32} {r : Int32} (hX : f_X2_numbersOf a1 a2 = some r) : Ct l yX2_numbersOf cX2_numbersOf 2 ((some .int)) rm_X2_numbersOf D cy ad ns A [.int a1, .int a2] M M (some (.int r)) := by
  refine ct_of (lv := [(0, .int a1), (1, .int a2)]) (by decide) (Nat.le_of_ble_eq_true rfl) rfl ?_
  intro p e s m args below meth c ls X hl hS
  obtain ⟨hx, hb, hml, hown, hts, hK, hr, hlk, hA, hG⟩ := id X
  obtain ⟨H, hH⟩ : ∃ z, z = s.heap := ⟨_, rfl⟩
  obtain ⟨locs, hlo⟩ : ∃ z : List Loc, z = [] := ⟨_, rfl⟩
  have hS : St D cy ad ns A M s.heap H locs := by rw [hH, hlo]; exact hS
  have hgoal : W p l e rm_X2_numbersOf s m args below meth c H locs 0 0 (MQ below (QC D cy ad ns A M (some (.int r))) args s 0 0 A) (F0 m 0 ls []) := by
    unfold f_X2_numbersOf at hX
    refine lv_iload_n hx hb dX2_numbersOf_0 rfl (lv_at hl 0 rfl) ?_
    by_cases c1 : a1 = nI 0
    · have hX := if_t c1 hX
      refine r_tabIn c1 (off := 27) (tgt := 28) hx hb dX2_numbersOf_1 (by decide) (by decide) (by decide) (by decide) ?_
      refine lv_iload_n hx hb dX2_numbersOf_28 rfl (lv_at hl 1 rfl) ?_
      refine lv_if_ne (tgt := 36) hx hb dX2_numbersOf_29 (by decide) (fun c2 => ?_) (fun c2 => ?_)
      · have hX := if_f c2 hX
        refine lv_iload_n hx hb dX2_numbersOf_36 rfl (lv_at hl 1 rfl) ?_
        refine lv_iconst (v := nI 3) hx hb dX2_numbersOf_37 (by decide) ?_
        refine lv_icmp_ne (tgt := 45) hx hb dX2_numbersOf_38 (by decide) (fun c3 => ?_) (fun c3 => ?_)
        · have hX := if_f c3 hX
          refine lv_iconst (v := nI 2) hx hb dX2_numbersOf_45 (by decide) ?_
          obtain rfl := some_of hX
          exact x_I (v := (nI 2)) X hS dX2_numbersOf_46
        · have hX := if_t c3 hX
          refine lv_iconst (v := nI 1) hx hb dX2_numbersOf_41 (by decide) ?_
          refine lv_goto (tgt := 46) hx hb dX2_numbersOf_42 (by decide) ?_
          obtain rfl := some_of hX
          exact x_I (v := (nI 1)) X hS dX2_numbersOf_46
      · have hX := if_t c2 hX
        refine lv_iconst (v := nI 3) hx hb dX2_numbersOf_32 (by decide) ?_
        refine lv_goto (tgt := 46) hx hb dX2_numbersOf_33 (by decide) ?_
        obtain rfl := some_of hX
        exact x_I (v := (nI 3)) X hS dX2_numbersOf_46
    have hX := if_f c1 hX
    by_cases c4 : a1 = nI 1
    · have hX := if_t c4 hX
      refine r_tabIn c4 (off := 46) (tgt := 47) hx hb dX2_numbersOf_1 (by decide) (by decide) (by decide) (by decide) ?_
      refine lv_iload_n hx hb dX2_numbersOf_47 rfl (lv_at hl 1 rfl) ?_
      refine lv_iconst (v := nI 5) hx hb dX2_numbersOf_48 (by decide) ?_
      refine lv_icmp_ne (tgt := 56) hx hb dX2_numbersOf_49 (by decide) (fun c5 => ?_) (fun c5 => ?_)
      · have hX := if_f c5 hX
        refine lv_iconst (v := nI 1) hx hb dX2_numbersOf_56 (by decide) ?_
        obtain rfl := some_of hX
        exact x_I (v := (nI 1)) X hS dX2_numbersOf_57
      · have hX := if_t c5 hX
        refine lv_iconst (v := nI 0) hx hb dX2_numbersOf_52 (by decide) ?_
        refine lv_goto (tgt := 57) hx hb dX2_numbersOf_53 (by decide) ?_
        obtain rfl := some_of hX
        exact x_I (v := (nI 0)) X hS dX2_numbersOf_57
    have hX := if_f c4 hX
    by_cases c6 : a1 = nI 2
    · have hX := if_t c6 hX
      refine r_tabIn c6 (off := 57) (tgt := 58) hx hb dX2_numbersOf_1 (by decide) (by decide) (by decide) (by decide) ?_
      refine lv_iload_n hx hb dX2_numbersOf_58 rfl (lv_at hl 1 rfl) ?_
      refine lv_iconst (v := nI 3) hx hb dX2_numbersOf_59 (by decide) ?_
      refine lv_icmp_ne (tgt := 67) hx hb dX2_numbersOf_60 (by decide) (fun c7 => ?_) (fun c7 => ?_)
      · have hX := if_f c7 hX
        refine lv_iload_n hx hb dX2_numbersOf_67 rfl (lv_at hl 1 rfl) ?_
        refine lv_iconst (v := nI 4) hx hb dX2_numbersOf_68 (by decide) ?_
        refine lv_icmp_ne (tgt := 76) hx hb dX2_numbersOf_69 (by decide) (fun c8 => ?_) (fun c8 => ?_)
        · have hX := if_f c8 hX
          refine lv_iload_n hx hb dX2_numbersOf_76 rfl (lv_at hl 1 rfl) ?_
          refine lv_iconst (v := nI 2) hx hb dX2_numbersOf_77 (by decide) ?_
          refine lv_icmp_ne (tgt := 85) hx hb dX2_numbersOf_78 (by decide) (fun c9 => ?_) (fun c9 => ?_)
          · have hX := if_f c9 hX
            refine lv_iconst (v := nI 1) hx hb dX2_numbersOf_85 (by decide) ?_
            obtain rfl := some_of hX
            exact x_I (v := (nI 1)) X hS dX2_numbersOf_86
          · have hX := if_t c9 hX
            refine lv_iconst (v := nI 2) hx hb dX2_numbersOf_81 (by decide) ?_
            refine lv_goto (tgt := 86) hx hb dX2_numbersOf_82 (by decide) ?_
            obtain rfl := some_of hX
            exact x_I (v := (nI 2)) X hS dX2_numbersOf_86
        · have hX := if_t c8 hX
          refine lv_iconst (v := nI 3) hx hb dX2_numbersOf_72 (by decide) ?_
          refine lv_goto (tgt := 86) hx hb dX2_numbersOf_73 (by decide) ?_
          obtain rfl := some_of hX
          exact x_I (v := (nI 3)) X hS dX2_numbersOf_86
      · have hX := if_t c7 hX
        refine lv_iconst (v := nI 4) hx hb dX2_numbersOf_63 (by decide) ?_
        refine lv_goto (tgt := 86) hx hb dX2_numbersOf_64 (by decide) ?_
        obtain rfl := some_of hX
        exact x_I (v := (nI 4)) X hS dX2_numbersOf_86
    have hX := if_f c6 hX
    have ic1 : ¬ a1.toInt = 0 := lv_neT c1 rfl
    have ic4 : ¬ a1.toInt = 1 := lv_neT c4 rfl
    have ic6 : ¬ a1.toInt = 2 := lv_neT c6 rfl
    refine lv_tableOut (tgt := 87) hx hb dX2_numbersOf_1 (by omega) (by decide) ?_
    refine lv_iconst (v := nI 2) hx hb dX2_numbersOf_87 (by decide) ?_
    obtain rfl := some_of hX
    exact x_I (v := (nI 2)) X hS dX2_numbersOf_88
  rw [hH, hlo] at hgoal
  exact hgoal
theorem ms_X2_numbersOf : Ms yX2_numbersOf cX2_numbersOf 2 ((some .int)) 2 := ⟨t3_86, t3_85, t1_7, ⟨by decide, by decide⟩, by decide +kernel⟩
/-! SewnYear$Reader.numberOfToken()I -/
def rm_X2_numberOfToken : Room := { frames := 0, cells := 0, slots := 0, locals := 0 }
def b_X2_numberOfToken_7 (M : Mem) (rc : Int32 → Int32 → Option (Int32)) (v_1 : Int32) (v_2 : Int32) : Option (Int32) :=
  if (gI M 10 10) ≤ v_2 then (some v_1) else (if (gI M 10 7) ≤ v_2 then (some v_1) else (if (gR M 10 6) = 0 then none else gin v_2 600 <| nm (((v_1 * (nI 10)) + (Int8.toInt32 (Int32.toInt8 (gA M (gR M 10 6) 0 (ix v_2))))) - (nI 48)) fun v5 => nm (v_2 + nI 1) fun v6 => rc v5 v6))
def f_X2_numberOfToken_7 (M : Mem) : Nat → (Int32 × Int32) → Option (Int32) := lp (fun rc q => b_X2_numberOfToken_7 M (fun x0 x1 => rc (x0, x1)) q.1 q.2)
def f_X2_numberOfToken (M : Mem) : Option (Int32) :=
  nm (gI M 10 9) fun v7 => f_X2_numberOfToken_7 M FU ((nI 0), v7)
set_option maxRecDepth 100000 in
set_option maxHeartbeats 4000000 in
theorem n_X2_numberOfToken_7 (X : Cx p s m args meth c D cy ad A RX2 cX2_numberOfToken 3 ((some .int))) (hN : NsC ns) {M : Mem} : ∀ (n : Nat) (v_1 : Int32) (v_2 : Int32) (r : Int32), f_X2_numberOfToken_7 M n (v_1, v_2) = some r → ∀ (ls : Array Slot) (H : Heap) (locs : List Loc), lv_has ls 3 [(0, .ref (ad 10 0)), (1, .int v_1), (2, .int v_2)] → St D cy ad ns A M s.heap H locs → W p l e rm_X2_numberOfToken s m args below meth c H locs 0 0 (MQ below (QC D cy ad ns A M (some (.int r))) args s 0 0 A) (F0 m 7 ls []) := by
  obtain ⟨hx, hb, hml, hown, hts, hK, hr, hlk, hA, hG⟩ := id X
  intro n
  induction n with
  | zero => intro v_1 v_2 r hX; cases (show (none : Option (Int32)) = some r from hX)
  | succ n ih =>
    intro v_1 v_2 r hX ls H locs hl hS
    have hX : b_X2_numberOfToken_7 M (fun x0 x1 => f_X2_numberOfToken_7 M n (x0, x1)) v_1 v_2 = some r := hX
    unfold b_X2_numberOfToken_7 at hX
    refine lv_iload_n hx hb dX2_numberOfToken_7 rfl (lv_at hl 2 rfl) ?_
    refine lv_aload_n hx hb dX2_numberOfToken_8 rfl (lv_at hl 0 rfl) ?_
    refine fg_X2_60 X hS (o_of hN (o := 10) (c := 2) (by decide) rfl) dX2_numberOfToken_9 ?_
    refine lv_icmp_ge (tgt := 44) hx hb dX2_numberOfToken_12 (by decide) (fun c1 => ?_) (fun c1 => ?_)
    · have hX := if_t c1 hX
      refine lv_iload_n hx hb dX2_numberOfToken_44 rfl (lv_at hl 1 rfl) ?_
      obtain rfl := some_of hX
      exact x_I (v := v_1) X hS dX2_numberOfToken_45
    · have hX := if_f c1 hX
      refine lv_iload_n hx hb dX2_numberOfToken_15 rfl (lv_at hl 2 rfl) ?_
      refine lv_aload_n hx hb dX2_numberOfToken_16 rfl (lv_at hl 0 rfl) ?_
      refine fg_X2_56 X hS (o_of hN (o := 10) (c := 2) (by decide) rfl) dX2_numberOfToken_17 ?_
      refine lv_icmp_ge (tgt := 44) hx hb dX2_numberOfToken_20 (by decide) (fun c2 => ?_) (fun c2 => ?_)
      · have hX := if_t c2 hX
        refine lv_iload_n hx hb dX2_numberOfToken_44 rfl (lv_at hl 1 rfl) ?_
        obtain rfl := some_of hX
        exact x_I (v := v_1) X hS dX2_numberOfToken_45
      · have hX := if_f c2 hX
        refine lv_iload_n hx hb dX2_numberOfToken_23 rfl (lv_at hl 1 rfl) ?_
        refine lv_bipush (v := nI 10) hx hb dX2_numberOfToken_24 (by decide) ?_
        refine lv_imul hx hb dX2_numberOfToken_26 ?_
        refine lv_aload_n hx hb dX2_numberOfToken_27 rfl (lv_at hl 0 rfl) ?_
        refine fg_X2_46 X hS (o_of hN (o := 10) (c := 2) (by decide) rfl) dX2_numberOfToken_28 ?_
        obtain ⟨cq3, hX⟩ := ifn_of hX
        have q3 := wr_10 hN hS cq3
        rw [if_neg cq3]
        refine lv_iload_n hx hb dX2_numberOfToken_31 rfl (lv_at hl 2 rfl) ?_
        obtain ⟨g4, hX⟩ := gin_of hX
        refine r_bald (ci := 5) (o := (gR M 10 6)) (k := 0) (n := 600) X hS q3 rfl rfl g4 dX2_numberOfToken_32 ?_
        refine lv_iadd hx hb dX2_numberOfToken_33 ?_
        refine lv_bipush (v := nI 48) hx hb dX2_numberOfToken_34 (by decide) ?_
        refine lv_isub hx hb dX2_numberOfToken_36 ?_
        refine lv_topi (fun v5 ev5 => ?_)
        have hX := nm_of ev5 hX
        refine lv_istore_n (lv' := [(1, .int v5), (0, .ref (ad 10 0)), (2, .int v_2)]) hx hb dX2_numberOfToken_37 rfl hl (by decide) rfl (fun ls hl => ?_)
        obtain ⟨v6, ev6⟩ : ∃ y : Int32, y = (v_2 + nI 1) := ⟨_, rfl⟩
        have hX := nm_of ev6 hX
        refine lv_iinc (v := v6) (lv' := [(2, .int v6), (1, .int v5), (0, .ref (ad 10 0))]) hx hb dX2_numberOfToken_38 hl (k := 2) rfl (by rw [ev6]; rfl) (by decide) rfl (fun ls hl => ?_)
        refine lv_goto (tgt := 7) hx hb dX2_numberOfToken_41 (by decide) ?_
        exact ih _ _ _ hX _ _ _ (lv_sub hl [2, 1, 0] rfl) hS
set_option maxRecDepth 100000 in
set_option maxHeartbeats 4000000 in
theorem m_X2_numberOfToken {l : Launch} {D : va_G} {cy : Nat → ClassId} {ad : Nat → Nat → Nat} {ns : List (Nat × Nat)} {A : Nat → Prop} {M : Mem} (hN : NsC ns) {r : Int32} (hX : f_X2_numberOfToken M = some r) : Ct l yX2_numberOfToken cX2_numberOfToken 3 ((some .int)) rm_X2_numberOfToken D cy ad ns A [.ref (ad 10 0)] M M (some (.int r)) := by
  refine ct_of (lv := [(0, .ref (ad 10 0))]) (by decide) (Nat.le_of_ble_eq_true rfl) rfl ?_
  intro p e s m args below meth c ls X hl hS
  obtain ⟨hx, hb, hml, hown, hts, hK, hr, hlk, hA, hG⟩ := id X
  obtain ⟨H, hH⟩ : ∃ z, z = s.heap := ⟨_, rfl⟩
  obtain ⟨locs, hlo⟩ : ∃ z : List Loc, z = [] := ⟨_, rfl⟩
  have hS : St D cy ad ns A M s.heap H locs := by rw [hH, hlo]; exact hS
  have hgoal : W p l e rm_X2_numberOfToken s m args below meth c H locs 0 0 (MQ below (QC D cy ad ns A M (some (.int r))) args s 0 0 A) (F0 m 0 ls []) := by
    unfold f_X2_numberOfToken at hX
    refine lv_iconst (v := nI 0) hx hb dX2_numberOfToken_0 (by decide) ?_
    refine lv_istore_n (lv' := [(1, .int (nI 0)), (0, .ref (ad 10 0))]) hx hb dX2_numberOfToken_1 rfl hl (by decide) rfl (fun ls hl => ?_)
    refine lv_aload_n hx hb dX2_numberOfToken_2 rfl (lv_at hl 1 rfl) ?_
    refine fg_X2_102 X hS (o_of hN (o := 10) (c := 2) (by decide) rfl) dX2_numberOfToken_3 ?_
    refine lv_topi (fun v7 ev7 => ?_)
    have hX := nm_of ev7 hX
    refine lv_istore_n (lv' := [(2, .int v7), (1, .int (nI 0)), (0, .ref (ad 10 0))]) hx hb dX2_numberOfToken_6 rfl hl (by decide) rfl (fun ls hl => ?_)
    exact n_X2_numberOfToken_7 X hN _ _ _ _ hX _ _ _ (lv_sub hl [2, 1, 0] rfl) hS
  rw [hH, hlo] at hgoal
  exact hgoal
theorem mv_X2_numberOfToken : Mv yX2_numberOfToken RX2 cX2_numberOfToken 3 ((some .int)) 0 := ⟨t3_90, t3_88, t3_89, t1_7, ⟨by decide, by decide⟩, by decide +kernel⟩
/-! SewnYear$Reader.note(II)V -/
def rm_X2_note : Room := { frames := 0, cells := 0, slots := 0, locals := 0 }
def f_X2_note (M : Mem) (a1 : Int32) (a2 : Int32) : Option (Mem) :=
  if (gI M 10 12) = (nI 0) then (nm (sI M 10 12 a1) fun M2 => nm (sI M2 10 13 a2) fun M3 => some M3) else (some M)
set_option maxRecDepth 100000 in
set_option maxHeartbeats 4000000 in
theorem m_X2_note {l : Launch} {D : va_G} {cy : Nat → ClassId} {ad : Nat → Nat → Nat} {ns : List (Nat × Nat)} {A : Nat → Prop} {M : Mem} (hN : NsC ns) {a1 : Int32} {a2 : Int32} {r : Mem} (hX : f_X2_note M a1 a2 = some r) : Ct l yX2_note cX2_note 3 ((none : Option Jvm.ClassFile.FieldType)) rm_X2_note D cy ad ns A [.ref (ad 10 0), .int a1, .int a2] M r none := by
  refine ct_of (lv := [(0, .ref (ad 10 0)), (1, .int a1), (2, .int a2)]) (by decide) (Nat.le_of_ble_eq_true rfl) rfl ?_
  intro p e s m args below meth c ls X hl hS
  obtain ⟨hx, hb, hml, hown, hts, hK, hr, hlk, hA, hG⟩ := id X
  obtain ⟨H, hH⟩ : ∃ z, z = s.heap := ⟨_, rfl⟩
  obtain ⟨locs, hlo⟩ : ∃ z : List Loc, z = [] := ⟨_, rfl⟩
  have hS : St D cy ad ns A M s.heap H locs := by rw [hH, hlo]; exact hS
  have hgoal : W p l e rm_X2_note s m args below meth c H locs 0 0 (MQ below (QC D cy ad ns A r none) args s 0 0 A) (F0 m 0 ls []) := by
    unfold f_X2_note at hX
    refine lv_aload_n hx hb dX2_note_0 rfl (lv_at hl 0 rfl) ?_
    refine fg_X2_66 X hS (o_of hN (o := 10) (c := 2) (by decide) rfl) dX2_note_1 ?_
    refine lv_if_ne (tgt := 17) hx hb dX2_note_4 (by decide) (fun c1 => ?_) (fun c1 => ?_)
    · have hX := if_f c1 hX
      obtain rfl := some_of hX
      exact x_V X hS dX2_note_17
    · have hX := if_t c1 hX
      refine lv_aload_n hx hb dX2_note_7 rfl (lv_at hl 0 rfl) ?_
      refine lv_iload_n hx hb dX2_note_8 rfl (lv_at hl 1 rfl) ?_
      refine fp_X2_66 X hS (o_of hN (o := 10) (c := 2) (by decide) rfl) dX2_note_9 (fun H locs hS => ?_)
      obtain ⟨M2, eM2, hS, hX⟩ := nm_mem hS hX
      refine lv_aload_n hx hb dX2_note_12 rfl (lv_at hl 0 rfl) ?_
      refine lv_iload_n hx hb dX2_note_13 rfl (lv_at hl 2 rfl) ?_
      refine fp_X2_69 X hS (o_of hN (o := 10) (c := 2) (by decide) rfl) dX2_note_14 (fun H locs hS => ?_)
      obtain ⟨M3, eM3, hS, hX⟩ := nm_mem hS hX
      obtain rfl := some_of hX
      exact x_V X hS dX2_note_17
  rw [hH, hlo] at hgoal
  exact hgoal
theorem mv_X2_note : Mv yX2_note RX2 cX2_note 3 ((none : Option Jvm.ClassFile.FieldType)) 2 := ⟨t3_102, t3_100, t3_101, t1_7, ⟨by decide, by decide⟩, by decide +kernel⟩
/-! SewnYear$Reader.leaveRoom(III)V -/
def rm_X2_leaveRoom : Room := { frames := 1, cells := 0, slots := 0, locals := 22 }
def f_X2_leaveRoom (M : Mem) (a1 : Int32) (a2 : Int32) (a3 : Int32) : Option (Mem) :=
  if a1 < a2 then (some M) else (bn (f_X2_note M (nI 3) a3) fun M3 => some M3)
set_option maxRecDepth 100000 in
set_option maxHeartbeats 4000000 in
theorem m_X2_leaveRoom {l : Launch} {D : va_G} {cy : Nat → ClassId} {ad : Nat → Nat → Nat} {ns : List (Nat × Nat)} {A : Nat → Prop} {M : Mem} (hN : NsC ns) {a1 : Int32} {a2 : Int32} {a3 : Int32} {r : Mem} (hX : f_X2_leaveRoom M a1 a2 a3 = some r) : Ct l yX2_leaveRoom cX2_leaveRoom 4 ((none : Option Jvm.ClassFile.FieldType)) rm_X2_leaveRoom D cy ad ns A [.ref (ad 10 0), .int a1, .int a2, .int a3] M r none := by
  refine ct_of (lv := [(0, .ref (ad 10 0)), (1, .int a1), (2, .int a2), (3, .int a3)]) (by decide) (Nat.le_of_ble_eq_true rfl) rfl ?_
  intro p e s m args below meth c ls X hl hS
  obtain ⟨hx, hb, hml, hown, hts, hK, hr, hlk, hA, hG⟩ := id X
  obtain ⟨H, hH⟩ : ∃ z, z = s.heap := ⟨_, rfl⟩
  obtain ⟨locs, hlo⟩ : ∃ z : List Loc, z = [] := ⟨_, rfl⟩
  have hS : St D cy ad ns A M s.heap H locs := by rw [hH, hlo]; exact hS
  have hgoal : W p l e rm_X2_leaveRoom s m args below meth c H locs 0 0 (MQ below (QC D cy ad ns A r none) args s 0 0 A) (F0 m 0 ls []) := by
    unfold f_X2_leaveRoom at hX
    refine lv_iload_n hx hb dX2_leaveRoom_0 rfl (lv_at hl 1 rfl) ?_
    refine lv_iload_n hx hb dX2_leaveRoom_1 rfl (lv_at hl 2 rfl) ?_
    refine lv_icmp_lt (tgt := 11) hx hb dX2_leaveRoom_2 (by decide) (fun c1 => ?_) (fun c1 => ?_)
    · have hX := if_t c1 hX
      obtain rfl := some_of hX
      exact x_V X hS dX2_leaveRoom_11
    · have hX := if_f c1 hX
      refine lv_aload_n hx hb dX2_leaveRoom_5 rfl (lv_at hl 0 rfl) ?_
      refine lv_iconst (v := nI 3) hx hb dX2_leaveRoom_6 (by decide) ?_
      refine lv_iload_n hx hb dX2_leaveRoom_7 rfl (lv_at hl 3 rfl) ?_
      obtain ⟨M3, h2, hX⟩ := bn_of hX
      refine r_callV0 (As := [.int (nI 3), .int a3]) (rest := []) X hS (m_X2_note hN h2) mv_X2_note rfl (o_of hN (o := 10) (c := 2) (by decide) rfl) t3_99 ⟨rfl, rfl, Nat.le_of_ble_eq_true rfl, Nat.le_of_ble_eq_true rfl⟩ rfl hl.1 rfl (Nat.le_of_ble_eq_true rfl) ⟨Nat.zero_le _, Nat.zero_le _⟩ dX2_leaveRoom_8 (fun H locs hS => ?_)
      obtain rfl := some_of hX
      exact x_V X hS dX2_leaveRoom_11
  rw [hH, hlo] at hgoal
  exact hgoal
theorem mv_X2_leaveRoom : Mv yX2_leaveRoom RX2 cX2_leaveRoom 4 ((none : Option Jvm.ClassFile.FieldType)) 3 := ⟨t3_98, t3_96, t3_97, t1_7, ⟨by decide, by decide⟩, by decide +kernel⟩
/-! SewnYear$Reader.bound(III)V -/
def rm_X2_bound : Room := { frames := 1, cells := 0, slots := 0, locals := 22 }
def f_X2_bound_29 (a1 : Int32) (a2 : Int32) (a3 : Int32) (M : Mem) : Option (Mem) :=
  gin a1 4 <| bn (f_X2_note M (nI 2) (gA M 10 5 (ix a1))) fun M3 => some M3
def f_X2_bound (M : Mem) (a1 : Int32) (a2 : Int32) (a3 : Int32) : Option (Mem) :=
  if a1 < (nI 0) then (some M) else (if (nI 4) ≤ a1 then (some M) else (gin a1 4 <| if (gA M 10 4 (ix a1)) < a2 then (f_X2_bound_29 a1 a2 a3 M) else (gin a1 4 <| if (gA M 10 4 (ix a1)) ≤ a3 then (some M) else (f_X2_bound_29 a1 a2 a3 M))))
set_option maxRecDepth 100000 in
set_option maxHeartbeats 4000000 in
theorem n_X2_bound_29 {a1 : Int32} {a2 : Int32} {a3 : Int32} (X : Cx p s m args meth c D cy ad A RX2 cX2_bound 4 ((none : Option Jvm.ClassFile.FieldType))) (hN : NsC ns) {M : Mem} {r : Mem} (hX : f_X2_bound_29 a1 a2 a3 M = some r) : ∀ (ls : Array Slot) (H : Heap) (locs : List Loc), lv_has ls 4 [(0, .ref (ad 10 0)), (1, .int a1)] → St D cy ad ns A M s.heap H locs → W p l e rm_X2_bound s m args below meth c H locs 0 0 (MQ below (QC D cy ad ns A r none) args s 0 0 A) (F0 m 29 ls []) := by
  obtain ⟨hx, hb, hml, hown, hts, hK, hr, hlk, hA, hG⟩ := id X
  intro ls H locs hl hS
  unfold f_X2_bound_29 at hX
  refine lv_aload_n hx hb dX2_bound_29 rfl (lv_at hl 0 rfl) ?_
  refine lv_iconst (v := nI 2) hx hb dX2_bound_30 (by decide) ?_
  refine lv_aload_n hx hb dX2_bound_31 rfl (lv_at hl 0 rfl) ?_
  refine fg_X2_43 X hS (o_of hN (o := 10) (c := 2) (by decide) rfl) dX2_bound_32 ?_
  refine lv_iload_n hx hb dX2_bound_35 rfl (lv_at hl 1 rfl) ?_
  obtain ⟨g1, hX⟩ := gin_of hX
  refine r_iald (ci := 2) (o := 10) (k := 5) (n := 4) X hS (o_of hN (o := 10) (c := 2) (by decide) rfl) rfl rfl g1 dX2_bound_36 ?_
  obtain ⟨M3, h2, hX⟩ := bn_of hX
  refine r_callV0 (As := [.int (nI 2), .int (gA M 10 5 (ix a1))]) (rest := []) X hS (m_X2_note hN h2) mv_X2_note rfl (o_of hN (o := 10) (c := 2) (by decide) rfl) t3_99 ⟨rfl, rfl, Nat.le_of_ble_eq_true rfl, Nat.le_of_ble_eq_true rfl⟩ rfl hl.1 rfl (Nat.le_of_ble_eq_true rfl) ⟨Nat.zero_le _, Nat.zero_le _⟩ dX2_bound_37 (fun H locs hS => ?_)
  obtain rfl := some_of hX
  exact x_V X hS dX2_bound_40
set_option maxRecDepth 100000 in
set_option maxHeartbeats 4000000 in
theorem m_X2_bound {l : Launch} {D : va_G} {cy : Nat → ClassId} {ad : Nat → Nat → Nat} {ns : List (Nat × Nat)} {A : Nat → Prop} {M : Mem} (hN : NsC ns) {a1 : Int32} {a2 : Int32} {a3 : Int32} {r : Mem} (hX : f_X2_bound M a1 a2 a3 = some r) : Ct l yX2_bound cX2_bound 4 ((none : Option Jvm.ClassFile.FieldType)) rm_X2_bound D cy ad ns A [.ref (ad 10 0), .int a1, .int a2, .int a3] M r none := by
  refine ct_of (lv := [(0, .ref (ad 10 0)), (1, .int a1), (2, .int a2), (3, .int a3)]) (by decide) (Nat.le_of_ble_eq_true rfl) rfl ?_
  intro p e s m args below meth c ls X hl hS
  obtain ⟨hx, hb, hml, hown, hts, hK, hr, hlk, hA, hG⟩ := id X
  obtain ⟨H, hH⟩ : ∃ z, z = s.heap := ⟨_, rfl⟩
  obtain ⟨locs, hlo⟩ : ∃ z : List Loc, z = [] := ⟨_, rfl⟩
  have hS : St D cy ad ns A M s.heap H locs := by rw [hH, hlo]; exact hS
  have hgoal : W p l e rm_X2_bound s m args below meth c H locs 0 0 (MQ below (QC D cy ad ns A r none) args s 0 0 A) (F0 m 0 ls []) := by
    unfold f_X2_bound at hX
    refine lv_iload_n hx hb dX2_bound_0 rfl (lv_at hl 1 rfl) ?_
    refine lv_if_lt (tgt := 40) hx hb dX2_bound_1 (by decide) (fun c4 => ?_) (fun c4 => ?_)
    · have hX := if_t c4 hX
      obtain rfl := some_of hX
      exact x_V X hS dX2_bound_40
    · have hX := if_f c4 hX
      refine lv_iload_n hx hb dX2_bound_4 rfl (lv_at hl 1 rfl) ?_
      refine lv_iconst (v := nI 4) hx hb dX2_bound_5 (by decide) ?_
      refine lv_icmp_ge (tgt := 40) hx hb dX2_bound_6 (by decide) (fun c5 => ?_) (fun c5 => ?_)
      · have hX := if_t c5 hX
        obtain rfl := some_of hX
        exact x_V X hS dX2_bound_40
      · have hX := if_f c5 hX
        refine lv_aload_n hx hb dX2_bound_9 rfl (lv_at hl 0 rfl) ?_
        refine fg_X2_39 X hS (o_of hN (o := 10) (c := 2) (by decide) rfl) dX2_bound_10 ?_
        refine lv_iload_n hx hb dX2_bound_13 rfl (lv_at hl 1 rfl) ?_
        obtain ⟨g6, hX⟩ := gin_of hX
        refine r_iald (ci := 2) (o := 10) (k := 4) (n := 4) X hS (o_of hN (o := 10) (c := 2) (by decide) rfl) rfl rfl g6 dX2_bound_14 ?_
        refine lv_iload_n hx hb dX2_bound_15 rfl (lv_at hl 2 rfl) ?_
        refine lv_icmp_lt (tgt := 29) hx hb dX2_bound_16 (by decide) (fun c7 => ?_) (fun c7 => ?_)
        · have hX := if_t c7 hX
          exact n_X2_bound_29 X hN hX _ _ _ (lv_sub hl [0, 1] rfl) hS
        · have hX := if_f c7 hX
          refine lv_aload_n hx hb dX2_bound_19 rfl (lv_at hl 0 rfl) ?_
          refine fg_X2_39 X hS (o_of hN (o := 10) (c := 2) (by decide) rfl) dX2_bound_20 ?_
          refine lv_iload_n hx hb dX2_bound_23 rfl (lv_at hl 1 rfl) ?_
          obtain ⟨g8, hX⟩ := gin_of hX
          refine r_iald (ci := 2) (o := 10) (k := 4) (n := 4) X hS (o_of hN (o := 10) (c := 2) (by decide) rfl) rfl rfl g8 dX2_bound_24 ?_
          refine lv_iload_n hx hb dX2_bound_25 rfl (lv_at hl 3 rfl) ?_
          refine lv_icmp_le (tgt := 40) hx hb dX2_bound_26 (by decide) (fun c9 => ?_) (fun c9 => ?_)
          · have hX := if_t c9 hX
            obtain rfl := some_of hX
            exact x_V X hS dX2_bound_40
          · have hX := if_f c9 hX
            exact n_X2_bound_29 X hN hX _ _ _ (lv_sub hl [0, 1] rfl) hS
  rw [hH, hlo] at hgoal
  exact hgoal
theorem mv_X2_bound : Mv yX2_bound RX2 cX2_bound 4 ((none : Option Jvm.ClassFile.FieldType)) 3 := ⟨t3_106, t3_104, t3_105, t1_7, ⟨by decide, by decide⟩, by decide +kernel⟩
/-! SewnYear$Reader.boundCouple()V -/
def rm_X2_boundCouple : Room := { frames := 2, cells := 0, slots := 0, locals := 45 }
def f_X2_boundCouple (M : Mem) : Option (Mem) :=
  bn (f_X2_bound M (nI 0) (nI 0) (nI 8)) fun M2 => bn (f_X2_bound M2 (nI 1) (nI 0) (nI 8)) fun M4 => gin (nI 0) 4 <| gin (nI 1) 4 <| if (gA M4 10 4 (ix (nI 0))) = (gA M4 10 4 (ix (nI 1))) then (gin (nI 1) 4 <| bn (f_X2_note M4 (nI 2) (gA M4 10 5 (ix (nI 1)))) fun M10 => some M10) else (some M4)
set_option maxRecDepth 100000 in
set_option maxHeartbeats 4000000 in
theorem m_X2_boundCouple {l : Launch} {D : va_G} {cy : Nat → ClassId} {ad : Nat → Nat → Nat} {ns : List (Nat × Nat)} {A : Nat → Prop} {M : Mem} (hN : NsC ns) {r : Mem} (hX : f_X2_boundCouple M = some r) : Ct l yX2_boundCouple cX2_boundCouple 1 ((none : Option Jvm.ClassFile.FieldType)) rm_X2_boundCouple D cy ad ns A [.ref (ad 10 0)] M r none := by
  refine ct_of (lv := [(0, .ref (ad 10 0))]) (by decide) (Nat.le_of_ble_eq_true rfl) rfl ?_
  intro p e s m args below meth c ls X hl hS
  obtain ⟨hx, hb, hml, hown, hts, hK, hr, hlk, hA, hG⟩ := id X
  obtain ⟨H, hH⟩ : ∃ z, z = s.heap := ⟨_, rfl⟩
  obtain ⟨locs, hlo⟩ : ∃ z : List Loc, z = [] := ⟨_, rfl⟩
  have hS : St D cy ad ns A M s.heap H locs := by rw [hH, hlo]; exact hS
  have hgoal : W p l e rm_X2_boundCouple s m args below meth c H locs 0 0 (MQ below (QC D cy ad ns A r none) args s 0 0 A) (F0 m 0 ls []) := by
    unfold f_X2_boundCouple at hX
    refine lv_aload_n hx hb dX2_boundCouple_0 rfl (lv_at hl 0 rfl) ?_
    refine lv_iconst (v := nI 0) hx hb dX2_boundCouple_1 (by decide) ?_
    refine lv_iconst (v := nI 0) hx hb dX2_boundCouple_2 (by decide) ?_
    refine lv_bipush (v := nI 8) hx hb dX2_boundCouple_3 (by decide) ?_
    obtain ⟨M2, h1, hX⟩ := bn_of hX
    refine r_callV0 (As := [.int (nI 0), .int (nI 0), .int (nI 8)]) (rest := []) X hS (m_X2_bound hN h1) mv_X2_bound rfl (o_of hN (o := 10) (c := 2) (by decide) rfl) t3_103 ⟨rfl, rfl, Nat.le_of_ble_eq_true rfl, Nat.le_of_ble_eq_true rfl⟩ rfl hl.1 rfl (Nat.le_of_ble_eq_true rfl) ⟨Nat.zero_le _, Nat.zero_le _⟩ dX2_boundCouple_5 (fun H locs hS => ?_)
    refine lv_aload_n hx hb dX2_boundCouple_8 rfl (lv_at hl 0 rfl) ?_
    refine lv_iconst (v := nI 1) hx hb dX2_boundCouple_9 (by decide) ?_
    refine lv_iconst (v := nI 0) hx hb dX2_boundCouple_10 (by decide) ?_
    refine lv_bipush (v := nI 8) hx hb dX2_boundCouple_11 (by decide) ?_
    obtain ⟨M4, h3, hX⟩ := bn_of hX
    refine r_callV0 (As := [.int (nI 1), .int (nI 0), .int (nI 8)]) (rest := []) X hS (m_X2_bound hN h3) mv_X2_bound rfl (o_of hN (o := 10) (c := 2) (by decide) rfl) t3_103 ⟨rfl, rfl, Nat.le_of_ble_eq_true rfl, Nat.le_of_ble_eq_true rfl⟩ rfl hl.1 rfl (Nat.le_of_ble_eq_true rfl) ⟨Nat.zero_le _, Nat.zero_le _⟩ dX2_boundCouple_13 (fun H locs hS => ?_)
    refine lv_aload_n hx hb dX2_boundCouple_16 rfl (lv_at hl 0 rfl) ?_
    refine fg_X2_39 X hS (o_of hN (o := 10) (c := 2) (by decide) rfl) dX2_boundCouple_17 ?_
    refine lv_iconst (v := nI 0) hx hb dX2_boundCouple_20 (by decide) ?_
    obtain ⟨g5, hX⟩ := gin_of hX
    refine r_iald (ci := 2) (o := 10) (k := 4) (n := 4) X hS (o_of hN (o := 10) (c := 2) (by decide) rfl) rfl rfl g5 dX2_boundCouple_21 ?_
    refine lv_aload_n hx hb dX2_boundCouple_22 rfl (lv_at hl 0 rfl) ?_
    refine fg_X2_39 X hS (o_of hN (o := 10) (c := 2) (by decide) rfl) dX2_boundCouple_23 ?_
    refine lv_iconst (v := nI 1) hx hb dX2_boundCouple_26 (by decide) ?_
    obtain ⟨g6, hX⟩ := gin_of hX
    refine r_iald (ci := 2) (o := 10) (k := 4) (n := 4) X hS (o_of hN (o := 10) (c := 2) (by decide) rfl) rfl rfl g6 dX2_boundCouple_27 ?_
    refine lv_icmp_ne (tgt := 42) hx hb dX2_boundCouple_28 (by decide) (fun c7 => ?_) (fun c7 => ?_)
    · have hX := if_f c7 hX
      obtain rfl := some_of hX
      exact x_V X hS dX2_boundCouple_42
    · have hX := if_t c7 hX
      refine lv_aload_n hx hb dX2_boundCouple_31 rfl (lv_at hl 0 rfl) ?_
      refine lv_iconst (v := nI 2) hx hb dX2_boundCouple_32 (by decide) ?_
      refine lv_aload_n hx hb dX2_boundCouple_33 rfl (lv_at hl 0 rfl) ?_
      refine fg_X2_43 X hS (o_of hN (o := 10) (c := 2) (by decide) rfl) dX2_boundCouple_34 ?_
      refine lv_iconst (v := nI 1) hx hb dX2_boundCouple_37 (by decide) ?_
      obtain ⟨g8, hX⟩ := gin_of hX
      refine r_iald (ci := 2) (o := 10) (k := 5) (n := 4) X hS (o_of hN (o := 10) (c := 2) (by decide) rfl) rfl rfl g8 dX2_boundCouple_38 ?_
      obtain ⟨M10, h9, hX⟩ := bn_of hX
      refine r_callV0 (As := [.int (nI 2), .int (gA M4 10 5 (ix (nI 1)))]) (rest := []) X hS (m_X2_note hN h9) mv_X2_note rfl (o_of hN (o := 10) (c := 2) (by decide) rfl) t3_99 ⟨rfl, rfl, Nat.le_of_ble_eq_true rfl, Nat.le_of_ble_eq_true rfl⟩ rfl hl.1 rfl (Nat.le_of_ble_eq_true rfl) ⟨Nat.zero_le _, Nat.zero_le _⟩ dX2_boundCouple_39 (fun H locs hS => ?_)
      obtain rfl := some_of hX
      exact x_V X hS dX2_boundCouple_42
  rw [hH, hlo] at hgoal
  exact hgoal
theorem mv_X2_boundCouple : Mv yX2_boundCouple RX2 cX2_boundCouple 1 ((none : Option Jvm.ClassFile.FieldType)) 0 := ⟨t3_114, t3_112, t3_113, t1_7, ⟨by decide, by decide⟩, by decide +kernel⟩
/-! SewnYear$Reader.isSeam(I)Z -/
def rm_X2_isSeam : Room := { frames := 0, cells := 0, slots := 0, locals := 0 }
def f_X2_isSeam (a1 : Int32) : Option (Bool) :=
  if a1 < (nI 0) then (some false) else (if (nI 9) ≤ a1 then (some false) else (some true))
set_option maxRecDepth 100000 in
set_option maxHeartbeats 4000000 in
theorem m_X2_isSeam {l : Launch} {D : va_G} {cy : Nat → ClassId} {ad : Nat → Nat → Nat} {ns : List (Nat × Nat)} {A : Nat → Prop} {M : Mem} (hN : NsC ns) {a1 : Int32} {r : Bool} (hX : f_X2_isSeam a1 = some r) : Ct l yX2_isSeam cX2_isSeam 1 ((some .boolean)) rm_X2_isSeam D cy ad ns A [.int a1] M M (some (.int (b2i r))) := by
  refine ct_of (lv := [(0, .int a1)]) (by decide) (Nat.le_of_ble_eq_true rfl) rfl ?_
  intro p e s m args below meth c ls X hl hS
  obtain ⟨hx, hb, hml, hown, hts, hK, hr, hlk, hA, hG⟩ := id X
  obtain ⟨H, hH⟩ : ∃ z, z = s.heap := ⟨_, rfl⟩
  obtain ⟨locs, hlo⟩ : ∃ z : List Loc, z = [] := ⟨_, rfl⟩
  have hS : St D cy ad ns A M s.heap H locs := by rw [hH, hlo]; exact hS
  have hgoal : W p l e rm_X2_isSeam s m args below meth c H locs 0 0 (MQ below (QC D cy ad ns A M (some (.int (b2i r)))) args s 0 0 A) (F0 m 0 ls []) := by
    unfold f_X2_isSeam at hX
    refine lv_iload_n hx hb dX2_isSeam_0 rfl (lv_at hl 0 rfl) ?_
    refine lv_if_lt (tgt := 14) hx hb dX2_isSeam_1 (by decide) (fun c1 => ?_) (fun c1 => ?_)
    · have hX := if_t c1 hX
      refine lv_iconst (v := nI 0) hx hb dX2_isSeam_14 (by decide) ?_
      obtain rfl := some_of hX
      exact x_Z (v := false) X hS dX2_isSeam_15
    · have hX := if_f c1 hX
      refine lv_iload_n hx hb dX2_isSeam_4 rfl (lv_at hl 0 rfl) ?_
      refine lv_bipush (v := nI 9) hx hb dX2_isSeam_5 (by decide) ?_
      refine lv_icmp_ge (tgt := 14) hx hb dX2_isSeam_7 (by decide) (fun c2 => ?_) (fun c2 => ?_)
      · have hX := if_t c2 hX
        refine lv_iconst (v := nI 0) hx hb dX2_isSeam_14 (by decide) ?_
        obtain rfl := some_of hX
        exact x_Z (v := false) X hS dX2_isSeam_15
      · have hX := if_f c2 hX
        refine lv_iconst (v := nI 1) hx hb dX2_isSeam_10 (by decide) ?_
        refine lv_goto (tgt := 15) hx hb dX2_isSeam_11 (by decide) ?_
        obtain rfl := some_of hX
        exact x_Z (v := true) X hS dX2_isSeam_15
  rw [hH, hlo] at hgoal
  exact hgoal
theorem ms_X2_isSeam : Ms yX2_isSeam cX2_isSeam 1 ((some .boolean)) 1 := ⟨t3_117, t3_116, t1_7, ⟨by decide, by decide⟩, by decide +kernel⟩
/-! SewnYear$Reader.lineOfCoat(II)V -/
def rm_X2_lineOfCoat : Room := { frames := 3, cells := 0, slots := 0, locals := 65 }
def f_X2_lineOfCoat (M : Mem) (a1 : Int32) (a2 : Int32) : Option (Mem) :=
  if a1 = nI 0 then (bn (f_X2_leaveRoom M (gI M 11 0) (nI 9) a2) fun M3 => bn (f_X2_bound M3 (nI 0) (nI 1) (nI 9)) fun M5 => bn (f_X2_bound M5 (nI 1) (nI 0) (nI 3)) fun M7 => bn (f_X2_bound M7 (nI 2) (nI 0) (nI 9)) fun M9 => gin (nI 0) 4 <| gin (nI 1) 4 <| gin (nI 2) 4 <| bn (f_X0_addSeam M9 11 (gA M9 10 4 (ix (nI 0))) (gA M9 10 4 (ix (nI 1))) (gA M9 10 4 (ix (nI 2)))) fun M14 => some M14) else if a1 = nI 1 then (bn (f_X2_boundCouple M) fun M17 => if (gI M17 10 12) = (nI 0) then (gin (nI 0) 4 <| bn (f_X2_isSeam (gA M17 10 4 (ix (nI 0)))) fun r21 => if r21 = true then (gin (nI 1) 4 <| bn (f_X2_isSeam (gA M17 10 4 (ix (nI 1)))) fun r25 => if r25 = true then (gin (nI 0) 4 <| gin (gA M17 10 4 (ix (nI 0))) 9 <| gin (nI 1) 4 <| gin (gA M17 10 4 (ix (nI 0))) 9 <| nm (sA M17 11 5 (ix (gA M17 10 4 (ix (nI 0)))) ((gA M17 11 5 (ix (gA M17 10 4 (ix (nI 0))))) ||| ((nI 1) <<< ((gA M17 10 4 (ix (nI 1))) &&& 31)))) fun M31 => gin (nI 0) 4 <| gin (nI 1) 4 <| nm (sI M31 10 11 ((gI M31 10 11) ||| (((nI 1) <<< ((gA M31 10 4 (ix (nI 0))) &&& 31)) ||| ((nI 1) <<< ((gA M31 10 4 (ix (nI 1))) &&& 31))))) fun M34 => some M34) else (some M17)) else (some M17)) else (some M17)) else if a1 = nI 2 then (bn (f_X2_bound M (nI 0) (nI 0) (nI 99)) fun M37 => bn (f_X2_bound M37 (nI 1) (nI 0) (nI 9)) fun M39 => gin (nI 0) 4 <| if (gA M39 10 4 (ix (nI 0))) < (nI 0) then (some M39) else (gin (nI 0) 4 <| if (nI 100) ≤ (gA M39 10 4 (ix (nI 0))) then (some M39) else (gin (nI 0) 4 <| gin (nI 1) 4 <| gin (gA M39 10 4 (ix (nI 0))) 100 <| nm (sA M39 11 6 (ix (gA M39 10 4 (ix (nI 0)))) (gA M39 10 4 (ix (nI 1)))) fun M47 => some M47))) else (bn (f_X2_bound M (nI 0) (nI 1) (nI 9)) fun M49 => gin (nI 0) 4 <| nm (sI M49 11 1 (gA M49 10 4 (ix (nI 0)))) fun M51 => some M51)
set_option maxRecDepth 100000 in
set_option maxHeartbeats 4000000 in
theorem m_X2_lineOfCoat {l : Launch} {D : va_G} {cy : Nat → ClassId} {ad : Nat → Nat → Nat} {ns : List (Nat × Nat)} {A : Nat → Prop} {M : Mem} (hN : NsC ns) {a1 : Int32} {a2 : Int32} {r : Mem} (hX : f_X2_lineOfCoat M a1 a2 = some r) : Ct l yX2_lineOfCoat cX2_lineOfCoat 3 ((none : Option Jvm.ClassFile.FieldType)) rm_X2_lineOfCoat D cy ad ns A [.ref (ad 10 0), .int a1, .int a2] M r none := by
  refine ct_of (lv := [(0, .ref (ad 10 0)), (1, .int a1), (2, .int a2)]) (by decide) (Nat.le_of_ble_eq_true rfl) rfl ?_
  intro p e s m args below meth c ls X hl hS
  obtain ⟨hx, hb, hml, hown, hts, hK, hr, hlk, hA, hG⟩ := id X
  obtain ⟨H, hH⟩ : ∃ z, z = s.heap := ⟨_, rfl⟩
  obtain ⟨locs, hlo⟩ : ∃ z : List Loc, z = [] := ⟨_, rfl⟩
  have hS : St D cy ad ns A M s.heap H locs := by rw [hH, hlo]; exact hS
  have hgoal : W p l e rm_X2_lineOfCoat s m args below meth c H locs 0 0 (MQ below (QC D cy ad ns A r none) args s 0 0 A) (F0 m 0 ls []) := by
    unfold f_X2_lineOfCoat at hX
    refine lv_iload_n hx hb dX2_lineOfCoat_0 rfl (lv_at hl 1 rfl) ?_
    by_cases c1 : a1 = nI 0
    · have hX := if_t c1 hX
      refine r_tabIn c1 (off := 27) (tgt := 28) hx hb dX2_lineOfCoat_1 (by decide) (by decide) (by decide) (by decide) ?_
      refine lv_aload_n hx hb dX2_lineOfCoat_28 rfl (lv_at hl 0 rfl) ?_
      refine lv_aload_n hx hb dX2_lineOfCoat_29 rfl (lv_at hl 0 rfl) ?_
      refine fg_X2_12 X hS (o_of hN (o := 10) (c := 2) (by decide) rfl) dX2_lineOfCoat_30 ?_
      refine fg_X2_92 X hS (o_of hN (o := 11) (c := 0) (by decide) rfl) dX2_lineOfCoat_33 ?_
      refine lv_bipush (v := nI 9) hx hb dX2_lineOfCoat_36 (by decide) ?_
      refine lv_iload_n hx hb dX2_lineOfCoat_38 rfl (lv_at hl 2 rfl) ?_
      obtain ⟨M3, h2, hX⟩ := bn_of hX
      refine r_callV0 (As := [.int (gI M 11 0), .int (nI 9), .int a2]) (rest := []) X hS (m_X2_leaveRoom hN h2) mv_X2_leaveRoom rfl (o_of hN (o := 10) (c := 2) (by decide) rfl) t3_95 ⟨rfl, rfl, Nat.le_of_ble_eq_true rfl, Nat.le_of_ble_eq_true rfl⟩ rfl hl.1 rfl (Nat.le_of_ble_eq_true rfl) ⟨Nat.zero_le _, Nat.zero_le _⟩ dX2_lineOfCoat_39 (fun H locs hS => ?_)
      refine lv_aload_n hx hb dX2_lineOfCoat_42 rfl (lv_at hl 0 rfl) ?_
      refine lv_iconst (v := nI 0) hx hb dX2_lineOfCoat_43 (by decide) ?_
      refine lv_iconst (v := nI 1) hx hb dX2_lineOfCoat_44 (by decide) ?_
      refine lv_bipush (v := nI 9) hx hb dX2_lineOfCoat_45 (by decide) ?_
      obtain ⟨M5, h4, hX⟩ := bn_of hX
      refine r_callV0 (As := [.int (nI 0), .int (nI 1), .int (nI 9)]) (rest := []) X hS (m_X2_bound hN h4) mv_X2_bound rfl (o_of hN (o := 10) (c := 2) (by decide) rfl) t3_103 ⟨rfl, rfl, Nat.le_of_ble_eq_true rfl, Nat.le_of_ble_eq_true rfl⟩ rfl hl.1 rfl (Nat.le_of_ble_eq_true rfl) ⟨Nat.zero_le _, Nat.zero_le _⟩ dX2_lineOfCoat_47 (fun H locs hS => ?_)
      refine lv_aload_n hx hb dX2_lineOfCoat_50 rfl (lv_at hl 0 rfl) ?_
      refine lv_iconst (v := nI 1) hx hb dX2_lineOfCoat_51 (by decide) ?_
      refine lv_iconst (v := nI 0) hx hb dX2_lineOfCoat_52 (by decide) ?_
      refine lv_iconst (v := nI 3) hx hb dX2_lineOfCoat_53 (by decide) ?_
      obtain ⟨M7, h6, hX⟩ := bn_of hX
      refine r_callV0 (As := [.int (nI 1), .int (nI 0), .int (nI 3)]) (rest := []) X hS (m_X2_bound hN h6) mv_X2_bound rfl (o_of hN (o := 10) (c := 2) (by decide) rfl) t3_103 ⟨rfl, rfl, Nat.le_of_ble_eq_true rfl, Nat.le_of_ble_eq_true rfl⟩ rfl hl.1 rfl (Nat.le_of_ble_eq_true rfl) ⟨Nat.zero_le _, Nat.zero_le _⟩ dX2_lineOfCoat_54 (fun H locs hS => ?_)
      refine lv_aload_n hx hb dX2_lineOfCoat_57 rfl (lv_at hl 0 rfl) ?_
      refine lv_iconst (v := nI 2) hx hb dX2_lineOfCoat_58 (by decide) ?_
      refine lv_iconst (v := nI 0) hx hb dX2_lineOfCoat_59 (by decide) ?_
      refine lv_bipush (v := nI 9) hx hb dX2_lineOfCoat_60 (by decide) ?_
      obtain ⟨M9, h8, hX⟩ := bn_of hX
      refine r_callV0 (As := [.int (nI 2), .int (nI 0), .int (nI 9)]) (rest := []) X hS (m_X2_bound hN h8) mv_X2_bound rfl (o_of hN (o := 10) (c := 2) (by decide) rfl) t3_103 ⟨rfl, rfl, Nat.le_of_ble_eq_true rfl, Nat.le_of_ble_eq_true rfl⟩ rfl hl.1 rfl (Nat.le_of_ble_eq_true rfl) ⟨Nat.zero_le _, Nat.zero_le _⟩ dX2_lineOfCoat_62 (fun H locs hS => ?_)
      refine lv_aload_n hx hb dX2_lineOfCoat_65 rfl (lv_at hl 0 rfl) ?_
      refine fg_X2_12 X hS (o_of hN (o := 10) (c := 2) (by decide) rfl) dX2_lineOfCoat_66 ?_
      refine lv_aload_n hx hb dX2_lineOfCoat_69 rfl (lv_at hl 0 rfl) ?_
      refine fg_X2_39 X hS (o_of hN (o := 10) (c := 2) (by decide) rfl) dX2_lineOfCoat_70 ?_
      refine lv_iconst (v := nI 0) hx hb dX2_lineOfCoat_73 (by decide) ?_
      obtain ⟨g10, hX⟩ := gin_of hX
      refine r_iald (ci := 2) (o := 10) (k := 4) (n := 4) X hS (o_of hN (o := 10) (c := 2) (by decide) rfl) rfl rfl g10 dX2_lineOfCoat_74 ?_
      refine lv_aload_n hx hb dX2_lineOfCoat_75 rfl (lv_at hl 0 rfl) ?_
      refine fg_X2_39 X hS (o_of hN (o := 10) (c := 2) (by decide) rfl) dX2_lineOfCoat_76 ?_
      refine lv_iconst (v := nI 1) hx hb dX2_lineOfCoat_79 (by decide) ?_
      obtain ⟨g11, hX⟩ := gin_of hX
      refine r_iald (ci := 2) (o := 10) (k := 4) (n := 4) X hS (o_of hN (o := 10) (c := 2) (by decide) rfl) rfl rfl g11 dX2_lineOfCoat_80 ?_
      refine lv_aload_n hx hb dX2_lineOfCoat_81 rfl (lv_at hl 0 rfl) ?_
      refine fg_X2_39 X hS (o_of hN (o := 10) (c := 2) (by decide) rfl) dX2_lineOfCoat_82 ?_
      refine lv_iconst (v := nI 2) hx hb dX2_lineOfCoat_85 (by decide) ?_
      obtain ⟨g12, hX⟩ := gin_of hX
      refine r_iald (ci := 2) (o := 10) (k := 4) (n := 4) X hS (o_of hN (o := 10) (c := 2) (by decide) rfl) rfl rfl g12 dX2_lineOfCoat_86 ?_
      obtain ⟨M14, h13, hX⟩ := bn_of hX
      refine r_callV0 (As := [.int (gA M9 10 4 (ix (nI 0))), .int (gA M9 10 4 (ix (nI 1))), .int (gA M9 10 4 (ix (nI 2)))]) (rest := []) X hS (m_X0_addSeam hN (o_of hN (o := 11) (c := 0) (by decide) rfl) h13) mv_X0_addSeam rfl (o_of hN (o := 11) (c := 0) (by decide) rfl) t3_107 ⟨rfl, rfl, Nat.le_of_ble_eq_true rfl, Nat.le_of_ble_eq_true rfl⟩ rfl hl.1 rfl (Nat.le_of_ble_eq_true rfl) ⟨Nat.zero_le _, Nat.zero_le _⟩ dX2_lineOfCoat_87 (fun H locs hS => ?_)
      refine lv_goto (tgt := 262) hx hb dX2_lineOfCoat_90 (by decide) ?_
      obtain rfl := some_of hX
      exact x_V X hS dX2_lineOfCoat_262
    have hX := if_f c1 hX
    by_cases c15 : a1 = nI 1
    · have hX := if_t c15 hX
      refine r_tabIn c15 (off := 92) (tgt := 93) hx hb dX2_lineOfCoat_1 (by decide) (by decide) (by decide) (by decide) ?_
      refine lv_aload_n hx hb dX2_lineOfCoat_93 rfl (lv_at hl 0 rfl) ?_
      obtain ⟨M17, h16, hX⟩ := bn_of hX
      refine r_callV0 (As := []) (rest := []) X hS (m_X2_boundCouple hN h16) mv_X2_boundCouple rfl (o_of hN (o := 10) (c := 2) (by decide) rfl) t3_111 ⟨rfl, rfl, Nat.le_of_ble_eq_true rfl, Nat.le_of_ble_eq_true rfl⟩ rfl hl.1 rfl (Nat.le_of_ble_eq_true rfl) ⟨Nat.zero_le _, Nat.zero_le _⟩ dX2_lineOfCoat_94 (fun H locs hS => ?_)
      refine lv_aload_n hx hb dX2_lineOfCoat_97 rfl (lv_at hl 0 rfl) ?_
      refine fg_X2_66 X hS (o_of hN (o := 10) (c := 2) (by decide) rfl) dX2_lineOfCoat_98 ?_
      refine lv_if_ne (tgt := 262) hx hb dX2_lineOfCoat_101 (by decide) (fun c18 => ?_) (fun c18 => ?_)
      · have hX := if_f c18 hX
        obtain rfl := some_of hX
        exact x_V X hS dX2_lineOfCoat_262
      · have hX := if_t c18 hX
        refine lv_aload_n hx hb dX2_lineOfCoat_104 rfl (lv_at hl 0 rfl) ?_
        refine fg_X2_39 X hS (o_of hN (o := 10) (c := 2) (by decide) rfl) dX2_lineOfCoat_105 ?_
        refine lv_iconst (v := nI 0) hx hb dX2_lineOfCoat_108 (by decide) ?_
        obtain ⟨g19, hX⟩ := gin_of hX
        refine r_iald (ci := 2) (o := 10) (k := 4) (n := 4) X hS (o_of hN (o := 10) (c := 2) (by decide) rfl) rfl rfl g19 dX2_lineOfCoat_109 ?_
        obtain ⟨r21, h20, hX⟩ := bn_of hX
        refine r_callS1 (v := .int (b2i r21)) (As := [.int (gA M17 10 4 (ix (nI 0)))]) (rest := []) X hS (m_X2_isSeam (M := M17) hN h20) ms_X2_isSeam t3_115 ⟨rfl, rfl, Nat.le_of_ble_eq_true rfl, Nat.le_of_ble_eq_true rfl⟩ rfl hl.1 rfl (Nat.le_of_ble_eq_true rfl) ⟨Nat.zero_le _, Nat.zero_le _⟩ dX2_lineOfCoat_110 (fun H locs hS => ?_)
        refine lv_if_eq (tgt := 262) hx hb dX2_lineOfCoat_113 (by decide) (fun c22 => ?_) (fun c22 => ?_)
        · have hX := if_bf c22 hX
          obtain rfl := some_of hX
          exact x_V X hS dX2_lineOfCoat_262
        · have hX := if_bt c22 hX
          refine lv_aload_n hx hb dX2_lineOfCoat_116 rfl (lv_at hl 0 rfl) ?_
          refine fg_X2_39 X hS (o_of hN (o := 10) (c := 2) (by decide) rfl) dX2_lineOfCoat_117 ?_
          refine lv_iconst (v := nI 1) hx hb dX2_lineOfCoat_120 (by decide) ?_
          obtain ⟨g23, hX⟩ := gin_of hX
          refine r_iald (ci := 2) (o := 10) (k := 4) (n := 4) X hS (o_of hN (o := 10) (c := 2) (by decide) rfl) rfl rfl g23 dX2_lineOfCoat_121 ?_
          obtain ⟨r25, h24, hX⟩ := bn_of hX
          refine r_callS1 (v := .int (b2i r25)) (As := [.int (gA M17 10 4 (ix (nI 1)))]) (rest := []) X hS (m_X2_isSeam (M := M17) hN h24) ms_X2_isSeam t3_115 ⟨rfl, rfl, Nat.le_of_ble_eq_true rfl, Nat.le_of_ble_eq_true rfl⟩ rfl hl.1 rfl (Nat.le_of_ble_eq_true rfl) ⟨Nat.zero_le _, Nat.zero_le _⟩ dX2_lineOfCoat_122 (fun H locs hS => ?_)
          refine lv_if_eq (tgt := 262) hx hb dX2_lineOfCoat_125 (by decide) (fun c26 => ?_) (fun c26 => ?_)
          · have hX := if_bf c26 hX
            obtain rfl := some_of hX
            exact x_V X hS dX2_lineOfCoat_262
          · have hX := if_bt c26 hX
            refine lv_aload_n hx hb dX2_lineOfCoat_128 rfl (lv_at hl 0 rfl) ?_
            refine fg_X2_12 X hS (o_of hN (o := 10) (c := 2) (by decide) rfl) dX2_lineOfCoat_129 ?_
            refine fg_X2_188 X hS (o_of hN (o := 11) (c := 0) (by decide) rfl) dX2_lineOfCoat_132 ?_
            refine lv_aload_n hx hb dX2_lineOfCoat_135 rfl (lv_at hl 0 rfl) ?_
            refine fg_X2_39 X hS (o_of hN (o := 10) (c := 2) (by decide) rfl) dX2_lineOfCoat_136 ?_
            refine lv_iconst (v := nI 0) hx hb dX2_lineOfCoat_139 (by decide) ?_
            obtain ⟨g27, hX⟩ := gin_of hX
            refine r_iald (ci := 2) (o := 10) (k := 4) (n := 4) X hS (o_of hN (o := 10) (c := 2) (by decide) rfl) rfl rfl g27 dX2_lineOfCoat_140 ?_
            refine lv_dup2_11 hx hb dX2_lineOfCoat_141 rfl rfl ?_
            obtain ⟨g28, hX⟩ := gin_of hX
            refine r_iald (ci := 0) (o := 11) (k := 5) (n := 9) X hS (o_of hN (o := 11) (c := 0) (by decide) rfl) rfl rfl g28 dX2_lineOfCoat_142 ?_
            refine lv_iconst (v := nI 1) hx hb dX2_lineOfCoat_143 (by decide) ?_
            refine lv_aload_n hx hb dX2_lineOfCoat_144 rfl (lv_at hl 0 rfl) ?_
            refine fg_X2_39 X hS (o_of hN (o := 10) (c := 2) (by decide) rfl) dX2_lineOfCoat_145 ?_
            refine lv_iconst (v := nI 1) hx hb dX2_lineOfCoat_148 (by decide) ?_
            obtain ⟨g29, hX⟩ := gin_of hX
            refine r_iald (ci := 2) (o := 10) (k := 4) (n := 4) X hS (o_of hN (o := 10) (c := 2) (by decide) rfl) rfl rfl g29 dX2_lineOfCoat_149 ?_
            refine lv_ishl hx hb dX2_lineOfCoat_150 ?_
            refine lv_ior hx hb dX2_lineOfCoat_151 ?_
            obtain ⟨g30, hX⟩ := gin_of hX
            refine r_iast (ci := 0) (o := 11) (k := 5) (n := 9) X hS (o_of hN (o := 11) (c := 0) (by decide) rfl) rfl rfl g30 dX2_lineOfCoat_152 (fun H locs hS => ?_)
            obtain ⟨M31, eM31, hS, hX⟩ := nm_mem hS hX
            refine lv_aload_n hx hb dX2_lineOfCoat_153 rfl (lv_at hl 0 rfl) ?_
            refine lv_dup hx hb dX2_lineOfCoat_154 rfl ?_
            refine fg_X2_63 X hS (o_of hN (o := 10) (c := 2) (by decide) rfl) dX2_lineOfCoat_155 ?_
            refine lv_iconst (v := nI 1) hx hb dX2_lineOfCoat_158 (by decide) ?_
            refine lv_aload_n hx hb dX2_lineOfCoat_159 rfl (lv_at hl 0 rfl) ?_
            refine fg_X2_39 X hS (o_of hN (o := 10) (c := 2) (by decide) rfl) dX2_lineOfCoat_160 ?_
            refine lv_iconst (v := nI 0) hx hb dX2_lineOfCoat_163 (by decide) ?_
            obtain ⟨g32, hX⟩ := gin_of hX
            refine r_iald (ci := 2) (o := 10) (k := 4) (n := 4) X hS (o_of hN (o := 10) (c := 2) (by decide) rfl) rfl rfl g32 dX2_lineOfCoat_164 ?_
            refine lv_ishl hx hb dX2_lineOfCoat_165 ?_
            refine lv_iconst (v := nI 1) hx hb dX2_lineOfCoat_166 (by decide) ?_
            refine lv_aload_n hx hb dX2_lineOfCoat_167 rfl (lv_at hl 0 rfl) ?_
            refine fg_X2_39 X hS (o_of hN (o := 10) (c := 2) (by decide) rfl) dX2_lineOfCoat_168 ?_
            refine lv_iconst (v := nI 1) hx hb dX2_lineOfCoat_171 (by decide) ?_
            obtain ⟨g33, hX⟩ := gin_of hX
            refine r_iald (ci := 2) (o := 10) (k := 4) (n := 4) X hS (o_of hN (o := 10) (c := 2) (by decide) rfl) rfl rfl g33 dX2_lineOfCoat_172 ?_
            refine lv_ishl hx hb dX2_lineOfCoat_173 ?_
            refine lv_ior hx hb dX2_lineOfCoat_174 ?_
            refine lv_ior hx hb dX2_lineOfCoat_175 ?_
            refine fp_X2_63 X hS (o_of hN (o := 10) (c := 2) (by decide) rfl) dX2_lineOfCoat_176 (fun H locs hS => ?_)
            obtain ⟨M34, eM34, hS, hX⟩ := nm_mem hS hX
            refine lv_goto (tgt := 262) hx hb dX2_lineOfCoat_179 (by decide) ?_
            obtain rfl := some_of hX
            exact x_V X hS dX2_lineOfCoat_262
    have hX := if_f c15 hX
    by_cases c35 : a1 = nI 2
    · have hX := if_t c35 hX
      refine r_tabIn c35 (off := 181) (tgt := 182) hx hb dX2_lineOfCoat_1 (by decide) (by decide) (by decide) (by decide) ?_
      refine lv_aload_n hx hb dX2_lineOfCoat_182 rfl (lv_at hl 0 rfl) ?_
      refine lv_iconst (v := nI 0) hx hb dX2_lineOfCoat_183 (by decide) ?_
      refine lv_iconst (v := nI 0) hx hb dX2_lineOfCoat_184 (by decide) ?_
      refine lv_bipush (v := nI 99) hx hb dX2_lineOfCoat_185 (by decide) ?_
      obtain ⟨M37, h36, hX⟩ := bn_of hX
      refine r_callV0 (As := [.int (nI 0), .int (nI 0), .int (nI 99)]) (rest := []) X hS (m_X2_bound hN h36) mv_X2_bound rfl (o_of hN (o := 10) (c := 2) (by decide) rfl) t3_103 ⟨rfl, rfl, Nat.le_of_ble_eq_true rfl, Nat.le_of_ble_eq_true rfl⟩ rfl hl.1 rfl (Nat.le_of_ble_eq_true rfl) ⟨Nat.zero_le _, Nat.zero_le _⟩ dX2_lineOfCoat_187 (fun H locs hS => ?_)
      refine lv_aload_n hx hb dX2_lineOfCoat_190 rfl (lv_at hl 0 rfl) ?_
      refine lv_iconst (v := nI 1) hx hb dX2_lineOfCoat_191 (by decide) ?_
      refine lv_iconst (v := nI 0) hx hb dX2_lineOfCoat_192 (by decide) ?_
      refine lv_bipush (v := nI 9) hx hb dX2_lineOfCoat_193 (by decide) ?_
      obtain ⟨M39, h38, hX⟩ := bn_of hX
      refine r_callV0 (As := [.int (nI 1), .int (nI 0), .int (nI 9)]) (rest := []) X hS (m_X2_bound hN h38) mv_X2_bound rfl (o_of hN (o := 10) (c := 2) (by decide) rfl) t3_103 ⟨rfl, rfl, Nat.le_of_ble_eq_true rfl, Nat.le_of_ble_eq_true rfl⟩ rfl hl.1 rfl (Nat.le_of_ble_eq_true rfl) ⟨Nat.zero_le _, Nat.zero_le _⟩ dX2_lineOfCoat_195 (fun H locs hS => ?_)
      refine lv_aload_n hx hb dX2_lineOfCoat_198 rfl (lv_at hl 0 rfl) ?_
      refine fg_X2_39 X hS (o_of hN (o := 10) (c := 2) (by decide) rfl) dX2_lineOfCoat_199 ?_
      refine lv_iconst (v := nI 0) hx hb dX2_lineOfCoat_202 (by decide) ?_
      obtain ⟨g40, hX⟩ := gin_of hX
      refine r_iald (ci := 2) (o := 10) (k := 4) (n := 4) X hS (o_of hN (o := 10) (c := 2) (by decide) rfl) rfl rfl g40 dX2_lineOfCoat_203 ?_
      refine lv_if_lt (tgt := 262) hx hb dX2_lineOfCoat_204 (by decide) (fun c41 => ?_) (fun c41 => ?_)
      · have hX := if_t c41 hX
        obtain rfl := some_of hX
        exact x_V X hS dX2_lineOfCoat_262
      · have hX := if_f c41 hX
        refine lv_aload_n hx hb dX2_lineOfCoat_207 rfl (lv_at hl 0 rfl) ?_
        refine fg_X2_39 X hS (o_of hN (o := 10) (c := 2) (by decide) rfl) dX2_lineOfCoat_208 ?_
        refine lv_iconst (v := nI 0) hx hb dX2_lineOfCoat_211 (by decide) ?_
        obtain ⟨g42, hX⟩ := gin_of hX
        refine r_iald (ci := 2) (o := 10) (k := 4) (n := 4) X hS (o_of hN (o := 10) (c := 2) (by decide) rfl) rfl rfl g42 dX2_lineOfCoat_212 ?_
        refine lv_bipush (v := nI 100) hx hb dX2_lineOfCoat_213 (by decide) ?_
        refine lv_icmp_ge (tgt := 262) hx hb dX2_lineOfCoat_215 (by decide) (fun c43 => ?_) (fun c43 => ?_)
        · have hX := if_t c43 hX
          obtain rfl := some_of hX
          exact x_V X hS dX2_lineOfCoat_262
        · have hX := if_f c43 hX
          refine lv_aload_n hx hb dX2_lineOfCoat_218 rfl (lv_at hl 0 rfl) ?_
          refine fg_X2_12 X hS (o_of hN (o := 10) (c := 2) (by decide) rfl) dX2_lineOfCoat_219 ?_
          refine fg_X2_191 X hS (o_of hN (o := 11) (c := 0) (by decide) rfl) dX2_lineOfCoat_222 ?_
          refine lv_aload_n hx hb dX2_lineOfCoat_225 rfl (lv_at hl 0 rfl) ?_
          refine fg_X2_39 X hS (o_of hN (o := 10) (c := 2) (by decide) rfl) dX2_lineOfCoat_226 ?_
          refine lv_iconst (v := nI 0) hx hb dX2_lineOfCoat_229 (by decide) ?_
          obtain ⟨g44, hX⟩ := gin_of hX
          refine r_iald (ci := 2) (o := 10) (k := 4) (n := 4) X hS (o_of hN (o := 10) (c := 2) (by decide) rfl) rfl rfl g44 dX2_lineOfCoat_230 ?_
          refine lv_aload_n hx hb dX2_lineOfCoat_231 rfl (lv_at hl 0 rfl) ?_
          refine fg_X2_39 X hS (o_of hN (o := 10) (c := 2) (by decide) rfl) dX2_lineOfCoat_232 ?_
          refine lv_iconst (v := nI 1) hx hb dX2_lineOfCoat_235 (by decide) ?_
          obtain ⟨g45, hX⟩ := gin_of hX
          refine r_iald (ci := 2) (o := 10) (k := 4) (n := 4) X hS (o_of hN (o := 10) (c := 2) (by decide) rfl) rfl rfl g45 dX2_lineOfCoat_236 ?_
          obtain ⟨g46, hX⟩ := gin_of hX
          refine r_iast (ci := 0) (o := 11) (k := 6) (n := 100) X hS (o_of hN (o := 11) (c := 0) (by decide) rfl) rfl rfl g46 dX2_lineOfCoat_237 (fun H locs hS => ?_)
          obtain ⟨M47, eM47, hS, hX⟩ := nm_mem hS hX
          refine lv_goto (tgt := 262) hx hb dX2_lineOfCoat_238 (by decide) ?_
          obtain rfl := some_of hX
          exact x_V X hS dX2_lineOfCoat_262
    have hX := if_f c35 hX
    have ic1 : ¬ a1.toInt = 0 := lv_neT c1 rfl
    have ic15 : ¬ a1.toInt = 1 := lv_neT c15 rfl
    have ic35 : ¬ a1.toInt = 2 := lv_neT c35 rfl
    refine lv_tableOut (tgt := 241) hx hb dX2_lineOfCoat_1 (by omega) (by decide) ?_
    refine lv_aload_n hx hb dX2_lineOfCoat_241 rfl (lv_at hl 0 rfl) ?_
    refine lv_iconst (v := nI 0) hx hb dX2_lineOfCoat_242 (by decide) ?_
    refine lv_iconst (v := nI 1) hx hb dX2_lineOfCoat_243 (by decide) ?_
    refine lv_bipush (v := nI 9) hx hb dX2_lineOfCoat_244 (by decide) ?_
    obtain ⟨M49, h48, hX⟩ := bn_of hX
    refine r_callV0 (As := [.int (nI 0), .int (nI 1), .int (nI 9)]) (rest := []) X hS (m_X2_bound hN h48) mv_X2_bound rfl (o_of hN (o := 10) (c := 2) (by decide) rfl) t3_103 ⟨rfl, rfl, Nat.le_of_ble_eq_true rfl, Nat.le_of_ble_eq_true rfl⟩ rfl hl.1 rfl (Nat.le_of_ble_eq_true rfl) ⟨Nat.zero_le _, Nat.zero_le _⟩ dX2_lineOfCoat_246 (fun H locs hS => ?_)
    refine lv_aload_n hx hb dX2_lineOfCoat_249 rfl (lv_at hl 0 rfl) ?_
    refine fg_X2_12 X hS (o_of hN (o := 10) (c := 2) (by decide) rfl) dX2_lineOfCoat_250 ?_
    refine lv_aload_n hx hb dX2_lineOfCoat_253 rfl (lv_at hl 0 rfl) ?_
    refine fg_X2_39 X hS (o_of hN (o := 10) (c := 2) (by decide) rfl) dX2_lineOfCoat_254 ?_
    refine lv_iconst (v := nI 0) hx hb dX2_lineOfCoat_257 (by decide) ?_
    obtain ⟨g50, hX⟩ := gin_of hX
    refine r_iald (ci := 2) (o := 10) (k := 4) (n := 4) X hS (o_of hN (o := 10) (c := 2) (by decide) rfl) rfl rfl g50 dX2_lineOfCoat_258 ?_
    refine fp_X2_194 X hS (o_of hN (o := 11) (c := 0) (by decide) rfl) dX2_lineOfCoat_259 (fun H locs hS => ?_)
    obtain ⟨M51, eM51, hS, hX⟩ := nm_mem hS hX
    obtain rfl := some_of hX
    exact x_V X hS dX2_lineOfCoat_262
  rw [hH, hlo] at hgoal
  exact hgoal
theorem mv_X2_lineOfCoat : Mv yX2_lineOfCoat RX2 cX2_lineOfCoat 3 ((none : Option Jvm.ClassFile.FieldType)) 2 := ⟨t3_94, t3_92, t3_93, t1_7, ⟨by decide, by decide⟩, by decide +kernel⟩
/-! SewnYear$Reader.lineOfLife(II)V -/
def rm_X2_lineOfLife : Room := { frames := 2, cells := 0, slots := 0, locals := 45 }
def f_X2_lineOfLife_39 (a1 : Int32) (a2 : Int32) (k_58 : Mem → Option (Mem)) (M : Mem) : Option (Mem) :=
  bn (f_X2_bound M (nI 0) (nI 1) (nI 9)) fun M2 => k_58 M2
def f_X2_lineOfLife_58 (a1 : Int32) (a2 : Int32) (M : Mem) : Option (Mem) :=
  gin (nI 0) 4 <| bn (f_X1_addDeed M 12 a1 (gA M 10 4 (ix (nI 0)))) fun M5 => some M5
def f_X2_lineOfLife (M : Mem) (a1 : Int32) (a2 : Int32) : Option (Mem) :=
  bn (f_X2_leaveRoom M (gI M 12 0) (nI 40) a2) fun M7 => if a1 = (nI 5) then (bn (f_X1_addDeed M7 12 a1 (-1)) fun M14 => some M14) else (if a1 = (nI 3) then (f_X2_lineOfLife_39 a1 a2 (fun y => f_X2_lineOfLife_58 a1 a2 y) M7) else (if a1 = (nI 4) then (f_X2_lineOfLife_39 a1 a2 (fun y => f_X2_lineOfLife_58 a1 a2 y) M7) else (bn (f_X2_bound M7 (nI 0) (nI 0) (nI 8)) fun M12 => f_X2_lineOfLife_58 a1 a2 M12)))
set_option maxRecDepth 100000 in
set_option maxHeartbeats 4000000 in
theorem n_X2_lineOfLife_39 {a1 : Int32} {a2 : Int32} (X : Cx p s m args meth c D cy ad A RX2 cX2_lineOfLife 3 ((none : Option Jvm.ClassFile.FieldType))) (hN : NsC ns) {k_58 : Mem → Option (Mem)} {M : Mem} {r : Mem} (hX : f_X2_lineOfLife_39 a1 a2 k_58 M = some r) : (∀ (M : Mem) (r : Mem), k_58 M = some r → ∀ (ls : Array Slot) (H : Heap) (locs : List Loc), lv_has ls 3 [(0, .ref (ad 10 0)), (1, .int a1)] → St D cy ad ns A M s.heap H locs → W p l e rm_X2_lineOfLife s m args below meth c H locs 0 0 (MQ below (QC D cy ad ns A r none) args s 0 0 A) (F0 m 58 ls [])) → ∀ (ls : Array Slot) (H : Heap) (locs : List Loc), lv_has ls 3 [(0, .ref (ad 10 0)), (1, .int a1)] → St D cy ad ns A M s.heap H locs → W p l e rm_X2_lineOfLife s m args below meth c H locs 0 0 (MQ below (QC D cy ad ns A r none) args s 0 0 A) (F0 m 39 ls []) := by
  obtain ⟨hx, hb, hml, hown, hts, hK, hr, hlk, hA, hG⟩ := id X
  intro hk_58 ls H locs hl hS
  unfold f_X2_lineOfLife_39 at hX
  refine lv_aload_n hx hb dX2_lineOfLife_39 rfl (lv_at hl 0 rfl) ?_
  refine lv_iconst (v := nI 0) hx hb dX2_lineOfLife_40 (by decide) ?_
  refine lv_iconst (v := nI 1) hx hb dX2_lineOfLife_41 (by decide) ?_
  refine lv_bipush (v := nI 9) hx hb dX2_lineOfLife_42 (by decide) ?_
  obtain ⟨M2, h1, hX⟩ := bn_of hX
  refine r_callV0 (As := [.int (nI 0), .int (nI 1), .int (nI 9)]) (rest := []) X hS (m_X2_bound hN h1) mv_X2_bound rfl (o_of hN (o := 10) (c := 2) (by decide) rfl) t3_103 ⟨rfl, rfl, Nat.le_of_ble_eq_true rfl, Nat.le_of_ble_eq_true rfl⟩ rfl hl.1 rfl (Nat.le_of_ble_eq_true rfl) ⟨Nat.zero_le _, Nat.zero_le _⟩ dX2_lineOfLife_44 (fun H locs hS => ?_)
  refine lv_goto (tgt := 58) hx hb dX2_lineOfLife_47 (by decide) ?_
  exact hk_58 _ _ hX _ _ _ (lv_sub hl [0, 1] rfl) hS
set_option maxRecDepth 100000 in
set_option maxHeartbeats 4000000 in
theorem n_X2_lineOfLife_58 {a1 : Int32} {a2 : Int32} (X : Cx p s m args meth c D cy ad A RX2 cX2_lineOfLife 3 ((none : Option Jvm.ClassFile.FieldType))) (hN : NsC ns) {M : Mem} {r : Mem} (hX : f_X2_lineOfLife_58 a1 a2 M = some r) : ∀ (ls : Array Slot) (H : Heap) (locs : List Loc), lv_has ls 3 [(0, .ref (ad 10 0)), (1, .int a1)] → St D cy ad ns A M s.heap H locs → W p l e rm_X2_lineOfLife s m args below meth c H locs 0 0 (MQ below (QC D cy ad ns A r none) args s 0 0 A) (F0 m 58 ls []) := by
  obtain ⟨hx, hb, hml, hown, hts, hK, hr, hlk, hA, hG⟩ := id X
  intro ls H locs hl hS
  unfold f_X2_lineOfLife_58 at hX
  refine lv_aload_n hx hb dX2_lineOfLife_58 rfl (lv_at hl 0 rfl) ?_
  refine fg_X2_21 X hS (o_of hN (o := 10) (c := 2) (by decide) rfl) dX2_lineOfLife_59 ?_
  refine lv_iload_n hx hb dX2_lineOfLife_62 rfl (lv_at hl 1 rfl) ?_
  refine lv_aload_n hx hb dX2_lineOfLife_63 rfl (lv_at hl 0 rfl) ?_
  refine fg_X2_39 X hS (o_of hN (o := 10) (c := 2) (by decide) rfl) dX2_lineOfLife_64 ?_
  refine lv_iconst (v := nI 0) hx hb dX2_lineOfLife_67 (by decide) ?_
  obtain ⟨g3, hX⟩ := gin_of hX
  refine r_iald (ci := 2) (o := 10) (k := 4) (n := 4) X hS (o_of hN (o := 10) (c := 2) (by decide) rfl) rfl rfl g3 dX2_lineOfLife_68 ?_
  obtain ⟨M5, h4, hX⟩ := bn_of hX
  refine r_callV0 (As := [.int a1, .int (gA M 10 4 (ix (nI 0)))]) (rest := []) X hS (m_X1_addDeed hN (o_of hN (o := 12) (c := 1) (by decide) rfl) h4) mv_X1_addDeed rfl (o_of hN (o := 12) (c := 1) (by decide) rfl) t3_122 ⟨rfl, rfl, Nat.le_of_ble_eq_true rfl, Nat.le_of_ble_eq_true rfl⟩ rfl hl.1 rfl (Nat.le_of_ble_eq_true rfl) ⟨Nat.zero_le _, Nat.zero_le _⟩ dX2_lineOfLife_69 (fun H locs hS => ?_)
  obtain rfl := some_of hX
  exact x_V X hS dX2_lineOfLife_72
set_option maxRecDepth 100000 in
set_option maxHeartbeats 4000000 in
theorem m_X2_lineOfLife {l : Launch} {D : va_G} {cy : Nat → ClassId} {ad : Nat → Nat → Nat} {ns : List (Nat × Nat)} {A : Nat → Prop} {M : Mem} (hN : NsC ns) {a1 : Int32} {a2 : Int32} {r : Mem} (hX : f_X2_lineOfLife M a1 a2 = some r) : Ct l yX2_lineOfLife cX2_lineOfLife 3 ((none : Option Jvm.ClassFile.FieldType)) rm_X2_lineOfLife D cy ad ns A [.ref (ad 10 0), .int a1, .int a2] M r none := by
  refine ct_of (lv := [(0, .ref (ad 10 0)), (1, .int a1), (2, .int a2)]) (by decide) (Nat.le_of_ble_eq_true rfl) rfl ?_
  intro p e s m args below meth c ls X hl hS
  obtain ⟨hx, hb, hml, hown, hts, hK, hr, hlk, hA, hG⟩ := id X
  obtain ⟨H, hH⟩ : ∃ z, z = s.heap := ⟨_, rfl⟩
  obtain ⟨locs, hlo⟩ : ∃ z : List Loc, z = [] := ⟨_, rfl⟩
  have hS : St D cy ad ns A M s.heap H locs := by rw [hH, hlo]; exact hS
  have hgoal : W p l e rm_X2_lineOfLife s m args below meth c H locs 0 0 (MQ below (QC D cy ad ns A r none) args s 0 0 A) (F0 m 0 ls []) := by
    unfold f_X2_lineOfLife at hX
    refine lv_aload_n hx hb dX2_lineOfLife_0 rfl (lv_at hl 0 rfl) ?_
    refine lv_aload_n hx hb dX2_lineOfLife_1 rfl (lv_at hl 0 rfl) ?_
    refine fg_X2_21 X hS (o_of hN (o := 10) (c := 2) (by decide) rfl) dX2_lineOfLife_2 ?_
    refine fg_X2_75 X hS (o_of hN (o := 12) (c := 1) (by decide) rfl) dX2_lineOfLife_5 ?_
    refine lv_bipush (v := nI 40) hx hb dX2_lineOfLife_8 (by decide) ?_
    refine lv_iload_n hx hb dX2_lineOfLife_10 rfl (lv_at hl 2 rfl) ?_
    obtain ⟨M7, h6, hX⟩ := bn_of hX
    refine r_callV0 (As := [.int (gI M 12 0), .int (nI 40), .int a2]) (rest := []) X hS (m_X2_leaveRoom hN h6) mv_X2_leaveRoom rfl (o_of hN (o := 10) (c := 2) (by decide) rfl) t3_95 ⟨rfl, rfl, Nat.le_of_ble_eq_true rfl, Nat.le_of_ble_eq_true rfl⟩ rfl hl.1 rfl (Nat.le_of_ble_eq_true rfl) ⟨Nat.zero_le _, Nat.zero_le _⟩ dX2_lineOfLife_11 (fun H locs hS => ?_)
    refine lv_iload_n hx hb dX2_lineOfLife_14 rfl (lv_at hl 1 rfl) ?_
    refine lv_iconst (v := nI 5) hx hb dX2_lineOfLife_15 (by decide) ?_
    refine lv_icmp_ne (tgt := 29) hx hb dX2_lineOfLife_16 (by decide) (fun c8 => ?_) (fun c8 => ?_)
    · have hX := if_f c8 hX
      refine lv_iload_n hx hb dX2_lineOfLife_29 rfl (lv_at hl 1 rfl) ?_
      refine lv_iconst (v := nI 3) hx hb dX2_lineOfLife_30 (by decide) ?_
      refine lv_icmp_eq (tgt := 39) hx hb dX2_lineOfLife_31 (by decide) (fun c9 => ?_) (fun c9 => ?_)
      · have hX := if_t c9 hX
        exact n_X2_lineOfLife_39 X hN hX (fun z0 r h ls H locs hl hS => n_X2_lineOfLife_58 X hN h _ _ _ hl hS) _ _ _ (lv_sub hl [0, 1] rfl) hS
      · have hX := if_f c9 hX
        refine lv_iload_n hx hb dX2_lineOfLife_34 rfl (lv_at hl 1 rfl) ?_
        refine lv_iconst (v := nI 4) hx hb dX2_lineOfLife_35 (by decide) ?_
        refine lv_icmp_ne (tgt := 50) hx hb dX2_lineOfLife_36 (by decide) (fun c10 => ?_) (fun c10 => ?_)
        · have hX := if_f c10 hX
          refine lv_aload_n hx hb dX2_lineOfLife_50 rfl (lv_at hl 0 rfl) ?_
          refine lv_iconst (v := nI 0) hx hb dX2_lineOfLife_51 (by decide) ?_
          refine lv_iconst (v := nI 0) hx hb dX2_lineOfLife_52 (by decide) ?_
          refine lv_bipush (v := nI 8) hx hb dX2_lineOfLife_53 (by decide) ?_
          obtain ⟨M12, h11, hX⟩ := bn_of hX
          refine r_callV0 (As := [.int (nI 0), .int (nI 0), .int (nI 8)]) (rest := []) X hS (m_X2_bound hN h11) mv_X2_bound rfl (o_of hN (o := 10) (c := 2) (by decide) rfl) t3_103 ⟨rfl, rfl, Nat.le_of_ble_eq_true rfl, Nat.le_of_ble_eq_true rfl⟩ rfl hl.1 rfl (Nat.le_of_ble_eq_true rfl) ⟨Nat.zero_le _, Nat.zero_le _⟩ dX2_lineOfLife_55 (fun H locs hS => ?_)
          exact n_X2_lineOfLife_58 X hN hX _ _ _ (lv_sub hl [0, 1] rfl) hS
        · have hX := if_t c10 hX
          exact n_X2_lineOfLife_39 X hN hX (fun z0 r h ls H locs hl hS => n_X2_lineOfLife_58 X hN h _ _ _ hl hS) _ _ _ (lv_sub hl [0, 1] rfl) hS
    · have hX := if_t c8 hX
      refine lv_aload_n hx hb dX2_lineOfLife_19 rfl (lv_at hl 0 rfl) ?_
      refine fg_X2_21 X hS (o_of hN (o := 10) (c := 2) (by decide) rfl) dX2_lineOfLife_20 ?_
      refine lv_iload_n hx hb dX2_lineOfLife_23 rfl (lv_at hl 1 rfl) ?_
      refine lv_iconst (v := (-1)) hx hb dX2_lineOfLife_24 (by decide) ?_
      obtain ⟨M14, h13, hX⟩ := bn_of hX
      refine r_callV0 (As := [.int a1, .int (-1)]) (rest := []) X hS (m_X1_addDeed hN (o_of hN (o := 12) (c := 1) (by decide) rfl) h13) mv_X1_addDeed rfl (o_of hN (o := 12) (c := 1) (by decide) rfl) t3_122 ⟨rfl, rfl, Nat.le_of_ble_eq_true rfl, Nat.le_of_ble_eq_true rfl⟩ rfl hl.1 rfl (Nat.le_of_ble_eq_true rfl) ⟨Nat.zero_le _, Nat.zero_le _⟩ dX2_lineOfLife_25 (fun H locs hS => ?_)
      obtain rfl := some_of hX
      exact x_V X hS dX2_lineOfLife_28
  rw [hH, hlo] at hgoal
  exact hgoal
theorem mv_X2_lineOfLife : Mv yX2_lineOfLife RX2 cX2_lineOfLife 3 ((none : Option Jvm.ClassFile.FieldType)) 2 := ⟨t3_121, t3_119, t3_120, t1_7, ⟨by decide, by decide⟩, by decide +kernel⟩
/-! SewnYear$Reader.lineOfTown(II)V -/
def rm_X2_lineOfTown : Room := { frames := 2, cells := 0, slots := 0, locals := 45 }
def f_X2_lineOfTown (M : Mem) (a1 : Int32) (a2 : Int32) : Option (Mem) :=
  if a1 = nI 0 then (bn (f_X2_bound M (nI 0) (nI 1) (nI 9)) fun M3 => gin (nI 0) 4 <| nm (sI M3 13 2 (gA M3 10 4 (ix (nI 0)))) fun M5 => some M5) else if a1 = nI 1 then (bn (f_X2_bound M (nI 0) (nI 1) (nI 9)) fun M8 => gin (nI 0) 4 <| nm (sI M8 13 3 (gA M8 10 4 (ix (nI 0)))) fun M10 => some M10) else if a1 = nI 2 then (bn (f_X2_bound M (nI 0) (nI 0) (nI 9)) fun M13 => bn (f_X2_bound M13 (nI 1) (nI 0) (nI 9)) fun M15 => gin (nI 0) 4 <| nm (sI M15 13 0 (gA M15 10 4 (ix (nI 0)))) fun M17 => gin (nI 1) 4 <| nm (sI M17 13 1 (gA M17 10 4 (ix (nI 1)))) fun M19 => some M19) else if a1 = nI 3 then (bn (f_X2_leaveRoom M (gI M 13 4) (nI 6) a2) fun M22 => bn (f_X2_bound M22 (nI 0) (nI 0) (nI 9)) fun M24 => bn (f_X2_bound M24 (nI 1) (nI 0) (nI 9)) fun M26 => bn (f_X2_bound M26 (nI 2) (nI 1) (nI 30)) fun M28 => bn (f_X2_bound M28 (nI 3) (nI 0) (nI 99)) fun M30 => gin (nI 0) 4 <| gin (nI 1) 4 <| gin (nI 2) 4 <| gin (nI 3) 4 <| bn (f_X6_addWearer M30 13 (gA M30 10 4 (ix (nI 0))) (gA M30 10 4 (ix (nI 1))) (gA M30 10 4 (ix (nI 2))) (gA M30 10 4 (ix (nI 3)))) fun M36 => some M36) else (bn (f_X2_bound M (nI 0) (nI 0) (nI 5)) fun M38 => bn (f_X2_bound M38 (nI 1) (nI 0) (nI 99)) fun M40 => gin (nI 1) 4 <| bn (f_X2_bound M40 (nI 2) (gA M40 10 4 (ix (nI 1))) (nI 99)) fun M43 => gin (nI 0) 4 <| if (gA M43 10 4 (ix (nI 0))) < (nI 0) then (some M43) else (gin (nI 0) 4 <| if (nI 6) ≤ (gA M43 10 4 (ix (nI 0))) then (some M43) else (gin (nI 0) 4 <| gin (nI 1) 4 <| gin (gA M43 10 4 (ix (nI 0))) 6 <| nm (sA M43 13 9 (ix (gA M43 10 4 (ix (nI 0)))) (gA M43 10 4 (ix (nI 1)))) fun M51 => gin (nI 0) 4 <| gin (nI 2) 4 <| gin (gA M51 10 4 (ix (nI 0))) 6 <| nm (sA M51 13 10 (ix (gA M51 10 4 (ix (nI 0)))) (gA M51 10 4 (ix (nI 2)))) fun M55 => gin (nI 0) 4 <| nm (sI M55 10 11 ((gI M55 10 11) ||| ((nI 1) <<< ((gA M55 10 4 (ix (nI 0))) &&& 31)))) fun M57 => some M57)))
set_option maxRecDepth 100000 in
set_option maxHeartbeats 4000000 in
theorem m_X2_lineOfTown {l : Launch} {D : va_G} {cy : Nat → ClassId} {ad : Nat → Nat → Nat} {ns : List (Nat × Nat)} {A : Nat → Prop} {M : Mem} (hN : NsC ns) {a1 : Int32} {a2 : Int32} {r : Mem} (hX : f_X2_lineOfTown M a1 a2 = some r) : Ct l yX2_lineOfTown cX2_lineOfTown 3 ((none : Option Jvm.ClassFile.FieldType)) rm_X2_lineOfTown D cy ad ns A [.ref (ad 10 0), .int a1, .int a2] M r none := by
  refine ct_of (lv := [(0, .ref (ad 10 0)), (1, .int a1), (2, .int a2)]) (by decide) (Nat.le_of_ble_eq_true rfl) rfl ?_
  intro p e s m args below meth c ls X hl hS
  obtain ⟨hx, hb, hml, hown, hts, hK, hr, hlk, hA, hG⟩ := id X
  obtain ⟨H, hH⟩ : ∃ z, z = s.heap := ⟨_, rfl⟩
  obtain ⟨locs, hlo⟩ : ∃ z : List Loc, z = [] := ⟨_, rfl⟩
  have hS : St D cy ad ns A M s.heap H locs := by rw [hH, hlo]; exact hS
  have hgoal : W p l e rm_X2_lineOfTown s m args below meth c H locs 0 0 (MQ below (QC D cy ad ns A r none) args s 0 0 A) (F0 m 0 ls []) := by
    unfold f_X2_lineOfTown at hX
    refine lv_iload_n hx hb dX2_lineOfTown_0 rfl (lv_at hl 1 rfl) ?_
    by_cases c1 : a1 = nI 0
    · have hX := if_t c1 hX
      refine r_tabIn c1 (off := 31) (tgt := 32) hx hb dX2_lineOfTown_1 (by decide) (by decide) (by decide) (by decide) ?_
      refine lv_aload_n hx hb dX2_lineOfTown_32 rfl (lv_at hl 0 rfl) ?_
      refine lv_iconst (v := nI 0) hx hb dX2_lineOfTown_33 (by decide) ?_
      refine lv_iconst (v := nI 1) hx hb dX2_lineOfTown_34 (by decide) ?_
      refine lv_bipush (v := nI 9) hx hb dX2_lineOfTown_35 (by decide) ?_
      obtain ⟨M3, h2, hX⟩ := bn_of hX
      refine r_callV0 (As := [.int (nI 0), .int (nI 1), .int (nI 9)]) (rest := []) X hS (m_X2_bound hN h2) mv_X2_bound rfl (o_of hN (o := 10) (c := 2) (by decide) rfl) t3_103 ⟨rfl, rfl, Nat.le_of_ble_eq_true rfl, Nat.le_of_ble_eq_true rfl⟩ rfl hl.1 rfl (Nat.le_of_ble_eq_true rfl) ⟨Nat.zero_le _, Nat.zero_le _⟩ dX2_lineOfTown_37 (fun H locs hS => ?_)
      refine lv_aload_n hx hb dX2_lineOfTown_40 rfl (lv_at hl 0 rfl) ?_
      refine fg_X2_28 X hS (o_of hN (o := 10) (c := 2) (by decide) rfl) dX2_lineOfTown_41 ?_
      refine lv_aload_n hx hb dX2_lineOfTown_44 rfl (lv_at hl 0 rfl) ?_
      refine fg_X2_39 X hS (o_of hN (o := 10) (c := 2) (by decide) rfl) dX2_lineOfTown_45 ?_
      refine lv_iconst (v := nI 0) hx hb dX2_lineOfTown_48 (by decide) ?_
      obtain ⟨g4, hX⟩ := gin_of hX
      refine r_iald (ci := 2) (o := 10) (k := 4) (n := 4) X hS (o_of hN (o := 10) (c := 2) (by decide) rfl) rfl rfl g4 dX2_lineOfTown_49 ?_
      refine fp_X2_199 X hS (o_of hN (o := 13) (c := 6) (by decide) rfl) dX2_lineOfTown_50 (fun H locs hS => ?_)
      obtain ⟨M5, eM5, hS, hX⟩ := nm_mem hS hX
      refine lv_goto (tgt := 310) hx hb dX2_lineOfTown_53 (by decide) ?_
      obtain rfl := some_of hX
      exact x_V X hS dX2_lineOfTown_310
    have hX := if_f c1 hX
    by_cases c6 : a1 = nI 1
    · have hX := if_t c6 hX
      refine r_tabIn c6 (off := 55) (tgt := 56) hx hb dX2_lineOfTown_1 (by decide) (by decide) (by decide) (by decide) ?_
      refine lv_aload_n hx hb dX2_lineOfTown_56 rfl (lv_at hl 0 rfl) ?_
      refine lv_iconst (v := nI 0) hx hb dX2_lineOfTown_57 (by decide) ?_
      refine lv_iconst (v := nI 1) hx hb dX2_lineOfTown_58 (by decide) ?_
      refine lv_bipush (v := nI 9) hx hb dX2_lineOfTown_59 (by decide) ?_
      obtain ⟨M8, h7, hX⟩ := bn_of hX
      refine r_callV0 (As := [.int (nI 0), .int (nI 1), .int (nI 9)]) (rest := []) X hS (m_X2_bound hN h7) mv_X2_bound rfl (o_of hN (o := 10) (c := 2) (by decide) rfl) t3_103 ⟨rfl, rfl, Nat.le_of_ble_eq_true rfl, Nat.le_of_ble_eq_true rfl⟩ rfl hl.1 rfl (Nat.le_of_ble_eq_true rfl) ⟨Nat.zero_le _, Nat.zero_le _⟩ dX2_lineOfTown_61 (fun H locs hS => ?_)
      refine lv_aload_n hx hb dX2_lineOfTown_64 rfl (lv_at hl 0 rfl) ?_
      refine fg_X2_28 X hS (o_of hN (o := 10) (c := 2) (by decide) rfl) dX2_lineOfTown_65 ?_
      refine lv_aload_n hx hb dX2_lineOfTown_68 rfl (lv_at hl 0 rfl) ?_
      refine fg_X2_39 X hS (o_of hN (o := 10) (c := 2) (by decide) rfl) dX2_lineOfTown_69 ?_
      refine lv_iconst (v := nI 0) hx hb dX2_lineOfTown_72 (by decide) ?_
      obtain ⟨g9, hX⟩ := gin_of hX
      refine r_iald (ci := 2) (o := 10) (k := 4) (n := 4) X hS (o_of hN (o := 10) (c := 2) (by decide) rfl) rfl rfl g9 dX2_lineOfTown_73 ?_
      refine fp_X2_201 X hS (o_of hN (o := 13) (c := 6) (by decide) rfl) dX2_lineOfTown_74 (fun H locs hS => ?_)
      obtain ⟨M10, eM10, hS, hX⟩ := nm_mem hS hX
      refine lv_goto (tgt := 310) hx hb dX2_lineOfTown_77 (by decide) ?_
      obtain rfl := some_of hX
      exact x_V X hS dX2_lineOfTown_310
    have hX := if_f c6 hX
    by_cases c11 : a1 = nI 2
    · have hX := if_t c11 hX
      refine r_tabIn c11 (off := 79) (tgt := 80) hx hb dX2_lineOfTown_1 (by decide) (by decide) (by decide) (by decide) ?_
      refine lv_aload_n hx hb dX2_lineOfTown_80 rfl (lv_at hl 0 rfl) ?_
      refine lv_iconst (v := nI 0) hx hb dX2_lineOfTown_81 (by decide) ?_
      refine lv_iconst (v := nI 0) hx hb dX2_lineOfTown_82 (by decide) ?_
      refine lv_bipush (v := nI 9) hx hb dX2_lineOfTown_83 (by decide) ?_
      obtain ⟨M13, h12, hX⟩ := bn_of hX
      refine r_callV0 (As := [.int (nI 0), .int (nI 0), .int (nI 9)]) (rest := []) X hS (m_X2_bound hN h12) mv_X2_bound rfl (o_of hN (o := 10) (c := 2) (by decide) rfl) t3_103 ⟨rfl, rfl, Nat.le_of_ble_eq_true rfl, Nat.le_of_ble_eq_true rfl⟩ rfl hl.1 rfl (Nat.le_of_ble_eq_true rfl) ⟨Nat.zero_le _, Nat.zero_le _⟩ dX2_lineOfTown_85 (fun H locs hS => ?_)
      refine lv_aload_n hx hb dX2_lineOfTown_88 rfl (lv_at hl 0 rfl) ?_
      refine lv_iconst (v := nI 1) hx hb dX2_lineOfTown_89 (by decide) ?_
      refine lv_iconst (v := nI 0) hx hb dX2_lineOfTown_90 (by decide) ?_
      refine lv_bipush (v := nI 9) hx hb dX2_lineOfTown_91 (by decide) ?_
      obtain ⟨M15, h14, hX⟩ := bn_of hX
      refine r_callV0 (As := [.int (nI 1), .int (nI 0), .int (nI 9)]) (rest := []) X hS (m_X2_bound hN h14) mv_X2_bound rfl (o_of hN (o := 10) (c := 2) (by decide) rfl) t3_103 ⟨rfl, rfl, Nat.le_of_ble_eq_true rfl, Nat.le_of_ble_eq_true rfl⟩ rfl hl.1 rfl (Nat.le_of_ble_eq_true rfl) ⟨Nat.zero_le _, Nat.zero_le _⟩ dX2_lineOfTown_93 (fun H locs hS => ?_)
      refine lv_aload_n hx hb dX2_lineOfTown_96 rfl (lv_at hl 0 rfl) ?_
      refine fg_X2_28 X hS (o_of hN (o := 10) (c := 2) (by decide) rfl) dX2_lineOfTown_97 ?_
      refine lv_aload_n hx hb dX2_lineOfTown_100 rfl (lv_at hl 0 rfl) ?_
      refine fg_X2_39 X hS (o_of hN (o := 10) (c := 2) (by decide) rfl) dX2_lineOfTown_101 ?_
      refine lv_iconst (v := nI 0) hx hb dX2_lineOfTown_104 (by decide) ?_
      obtain ⟨g16, hX⟩ := gin_of hX
      refine r_iald (ci := 2) (o := 10) (k := 4) (n := 4) X hS (o_of hN (o := 10) (c := 2) (by decide) rfl) rfl rfl g16 dX2_lineOfTown_105 ?_
      refine fp_X2_203 X hS (o_of hN (o := 13) (c := 6) (by decide) rfl) dX2_lineOfTown_106 (fun H locs hS => ?_)
      obtain ⟨M17, eM17, hS, hX⟩ := nm_mem hS hX
      refine lv_aload_n hx hb dX2_lineOfTown_109 rfl (lv_at hl 0 rfl) ?_
      refine fg_X2_28 X hS (o_of hN (o := 10) (c := 2) (by decide) rfl) dX2_lineOfTown_110 ?_
      refine lv_aload_n hx hb dX2_lineOfTown_113 rfl (lv_at hl 0 rfl) ?_
      refine fg_X2_39 X hS (o_of hN (o := 10) (c := 2) (by decide) rfl) dX2_lineOfTown_114 ?_
      refine lv_iconst (v := nI 1) hx hb dX2_lineOfTown_117 (by decide) ?_
      obtain ⟨g18, hX⟩ := gin_of hX
      refine r_iald (ci := 2) (o := 10) (k := 4) (n := 4) X hS (o_of hN (o := 10) (c := 2) (by decide) rfl) rfl rfl g18 dX2_lineOfTown_118 ?_
      refine fp_X2_206 X hS (o_of hN (o := 13) (c := 6) (by decide) rfl) dX2_lineOfTown_119 (fun H locs hS => ?_)
      obtain ⟨M19, eM19, hS, hX⟩ := nm_mem hS hX
      refine lv_goto (tgt := 310) hx hb dX2_lineOfTown_122 (by decide) ?_
      obtain rfl := some_of hX
      exact x_V X hS dX2_lineOfTown_310
    have hX := if_f c11 hX
    by_cases c20 : a1 = nI 3
    · have hX := if_t c20 hX
      refine r_tabIn c20 (off := 124) (tgt := 125) hx hb dX2_lineOfTown_1 (by decide) (by decide) (by decide) (by decide) ?_
      refine lv_aload_n hx hb dX2_lineOfTown_125 rfl (lv_at hl 0 rfl) ?_
      refine lv_aload_n hx hb dX2_lineOfTown_126 rfl (lv_at hl 0 rfl) ?_
      refine fg_X2_28 X hS (o_of hN (o := 10) (c := 2) (by decide) rfl) dX2_lineOfTown_127 ?_
      refine fg_X2_95 X hS (o_of hN (o := 13) (c := 6) (by decide) rfl) dX2_lineOfTown_130 ?_
      refine lv_bipush (v := nI 6) hx hb dX2_lineOfTown_133 (by decide) ?_
      refine lv_iload_n hx hb dX2_lineOfTown_135 rfl (lv_at hl 2 rfl) ?_
      obtain ⟨M22, h21, hX⟩ := bn_of hX
      refine r_callV0 (As := [.int (gI M 13 4), .int (nI 6), .int a2]) (rest := []) X hS (m_X2_leaveRoom hN h21) mv_X2_leaveRoom rfl (o_of hN (o := 10) (c := 2) (by decide) rfl) t3_95 ⟨rfl, rfl, Nat.le_of_ble_eq_true rfl, Nat.le_of_ble_eq_true rfl⟩ rfl hl.1 rfl (Nat.le_of_ble_eq_true rfl) ⟨Nat.zero_le _, Nat.zero_le _⟩ dX2_lineOfTown_136 (fun H locs hS => ?_)
      refine lv_aload_n hx hb dX2_lineOfTown_139 rfl (lv_at hl 0 rfl) ?_
      refine lv_iconst (v := nI 0) hx hb dX2_lineOfTown_140 (by decide) ?_
      refine lv_iconst (v := nI 0) hx hb dX2_lineOfTown_141 (by decide) ?_
      refine lv_bipush (v := nI 9) hx hb dX2_lineOfTown_142 (by decide) ?_
      obtain ⟨M24, h23, hX⟩ := bn_of hX
      refine r_callV0 (As := [.int (nI 0), .int (nI 0), .int (nI 9)]) (rest := []) X hS (m_X2_bound hN h23) mv_X2_bound rfl (o_of hN (o := 10) (c := 2) (by decide) rfl) t3_103 ⟨rfl, rfl, Nat.le_of_ble_eq_true rfl, Nat.le_of_ble_eq_true rfl⟩ rfl hl.1 rfl (Nat.le_of_ble_eq_true rfl) ⟨Nat.zero_le _, Nat.zero_le _⟩ dX2_lineOfTown_144 (fun H locs hS => ?_)
      refine lv_aload_n hx hb dX2_lineOfTown_147 rfl (lv_at hl 0 rfl) ?_
      refine lv_iconst (v := nI 1) hx hb dX2_lineOfTown_148 (by decide) ?_
      refine lv_iconst (v := nI 0) hx hb dX2_lineOfTown_149 (by decide) ?_
      refine lv_bipush (v := nI 9) hx hb dX2_lineOfTown_150 (by decide) ?_
      obtain ⟨M26, h25, hX⟩ := bn_of hX
      refine r_callV0 (As := [.int (nI 1), .int (nI 0), .int (nI 9)]) (rest := []) X hS (m_X2_bound hN h25) mv_X2_bound rfl (o_of hN (o := 10) (c := 2) (by decide) rfl) t3_103 ⟨rfl, rfl, Nat.le_of_ble_eq_true rfl, Nat.le_of_ble_eq_true rfl⟩ rfl hl.1 rfl (Nat.le_of_ble_eq_true rfl) ⟨Nat.zero_le _, Nat.zero_le _⟩ dX2_lineOfTown_152 (fun H locs hS => ?_)
      refine lv_aload_n hx hb dX2_lineOfTown_155 rfl (lv_at hl 0 rfl) ?_
      refine lv_iconst (v := nI 2) hx hb dX2_lineOfTown_156 (by decide) ?_
      refine lv_iconst (v := nI 1) hx hb dX2_lineOfTown_157 (by decide) ?_
      refine lv_bipush (v := nI 30) hx hb dX2_lineOfTown_158 (by decide) ?_
      obtain ⟨M28, h27, hX⟩ := bn_of hX
      refine r_callV0 (As := [.int (nI 2), .int (nI 1), .int (nI 30)]) (rest := []) X hS (m_X2_bound hN h27) mv_X2_bound rfl (o_of hN (o := 10) (c := 2) (by decide) rfl) t3_103 ⟨rfl, rfl, Nat.le_of_ble_eq_true rfl, Nat.le_of_ble_eq_true rfl⟩ rfl hl.1 rfl (Nat.le_of_ble_eq_true rfl) ⟨Nat.zero_le _, Nat.zero_le _⟩ dX2_lineOfTown_160 (fun H locs hS => ?_)
      refine lv_aload_n hx hb dX2_lineOfTown_163 rfl (lv_at hl 0 rfl) ?_
      refine lv_iconst (v := nI 3) hx hb dX2_lineOfTown_164 (by decide) ?_
      refine lv_iconst (v := nI 0) hx hb dX2_lineOfTown_165 (by decide) ?_
      refine lv_bipush (v := nI 99) hx hb dX2_lineOfTown_166 (by decide) ?_
      obtain ⟨M30, h29, hX⟩ := bn_of hX
      refine r_callV0 (As := [.int (nI 3), .int (nI 0), .int (nI 99)]) (rest := []) X hS (m_X2_bound hN h29) mv_X2_bound rfl (o_of hN (o := 10) (c := 2) (by decide) rfl) t3_103 ⟨rfl, rfl, Nat.le_of_ble_eq_true rfl, Nat.le_of_ble_eq_true rfl⟩ rfl hl.1 rfl (Nat.le_of_ble_eq_true rfl) ⟨Nat.zero_le _, Nat.zero_le _⟩ dX2_lineOfTown_168 (fun H locs hS => ?_)
      refine lv_aload_n hx hb dX2_lineOfTown_171 rfl (lv_at hl 0 rfl) ?_
      refine fg_X2_28 X hS (o_of hN (o := 10) (c := 2) (by decide) rfl) dX2_lineOfTown_172 ?_
      refine lv_aload_n hx hb dX2_lineOfTown_175 rfl (lv_at hl 0 rfl) ?_
      refine fg_X2_39 X hS (o_of hN (o := 10) (c := 2) (by decide) rfl) dX2_lineOfTown_176 ?_
      refine lv_iconst (v := nI 0) hx hb dX2_lineOfTown_179 (by decide) ?_
      obtain ⟨g31, hX⟩ := gin_of hX
      refine r_iald (ci := 2) (o := 10) (k := 4) (n := 4) X hS (o_of hN (o := 10) (c := 2) (by decide) rfl) rfl rfl g31 dX2_lineOfTown_180 ?_
      refine lv_aload_n hx hb dX2_lineOfTown_181 rfl (lv_at hl 0 rfl) ?_
      refine fg_X2_39 X hS (o_of hN (o := 10) (c := 2) (by decide) rfl) dX2_lineOfTown_182 ?_
      refine lv_iconst (v := nI 1) hx hb dX2_lineOfTown_185 (by decide) ?_
      obtain ⟨g32, hX⟩ := gin_of hX
      refine r_iald (ci := 2) (o := 10) (k := 4) (n := 4) X hS (o_of hN (o := 10) (c := 2) (by decide) rfl) rfl rfl g32 dX2_lineOfTown_186 ?_
      refine lv_aload_n hx hb dX2_lineOfTown_187 rfl (lv_at hl 0 rfl) ?_
      refine fg_X2_39 X hS (o_of hN (o := 10) (c := 2) (by decide) rfl) dX2_lineOfTown_188 ?_
      refine lv_iconst (v := nI 2) hx hb dX2_lineOfTown_191 (by decide) ?_
      obtain ⟨g33, hX⟩ := gin_of hX
      refine r_iald (ci := 2) (o := 10) (k := 4) (n := 4) X hS (o_of hN (o := 10) (c := 2) (by decide) rfl) rfl rfl g33 dX2_lineOfTown_192 ?_
      refine lv_aload_n hx hb dX2_lineOfTown_193 rfl (lv_at hl 0 rfl) ?_
      refine fg_X2_39 X hS (o_of hN (o := 10) (c := 2) (by decide) rfl) dX2_lineOfTown_194 ?_
      refine lv_iconst (v := nI 3) hx hb dX2_lineOfTown_197 (by decide) ?_
      obtain ⟨g34, hX⟩ := gin_of hX
      refine r_iald (ci := 2) (o := 10) (k := 4) (n := 4) X hS (o_of hN (o := 10) (c := 2) (by decide) rfl) rfl rfl g34 dX2_lineOfTown_198 ?_
      obtain ⟨M36, h35, hX⟩ := bn_of hX
      refine r_callV0 (As := [.int (gA M30 10 4 (ix (nI 0))), .int (gA M30 10 4 (ix (nI 1))), .int (gA M30 10 4 (ix (nI 2))), .int (gA M30 10 4 (ix (nI 3)))]) (rest := []) X hS (m_X6_addWearer hN (o_of hN (o := 13) (c := 6) (by decide) rfl) h35) mv_X6_addWearer rfl (o_of hN (o := 13) (c := 6) (by decide) rfl) t3_130 ⟨rfl, rfl, Nat.le_of_ble_eq_true rfl, Nat.le_of_ble_eq_true rfl⟩ rfl hl.1 rfl (Nat.le_of_ble_eq_true rfl) ⟨Nat.zero_le _, Nat.zero_le _⟩ dX2_lineOfTown_199 (fun H locs hS => ?_)
      refine lv_goto (tgt := 310) hx hb dX2_lineOfTown_202 (by decide) ?_
      obtain rfl := some_of hX
      exact x_V X hS dX2_lineOfTown_310
    have hX := if_f c20 hX
    have ic1 : ¬ a1.toInt = 0 := lv_neT c1 rfl
    have ic6 : ¬ a1.toInt = 1 := lv_neT c6 rfl
    have ic11 : ¬ a1.toInt = 2 := lv_neT c11 rfl
    have ic20 : ¬ a1.toInt = 3 := lv_neT c20 rfl
    refine lv_tableOut (tgt := 205) hx hb dX2_lineOfTown_1 (by omega) (by decide) ?_
    refine lv_aload_n hx hb dX2_lineOfTown_205 rfl (lv_at hl 0 rfl) ?_
    refine lv_iconst (v := nI 0) hx hb dX2_lineOfTown_206 (by decide) ?_
    refine lv_iconst (v := nI 0) hx hb dX2_lineOfTown_207 (by decide) ?_
    refine lv_iconst (v := nI 5) hx hb dX2_lineOfTown_208 (by decide) ?_
    obtain ⟨M38, h37, hX⟩ := bn_of hX
    refine r_callV0 (As := [.int (nI 0), .int (nI 0), .int (nI 5)]) (rest := []) X hS (m_X2_bound hN h37) mv_X2_bound rfl (o_of hN (o := 10) (c := 2) (by decide) rfl) t3_103 ⟨rfl, rfl, Nat.le_of_ble_eq_true rfl, Nat.le_of_ble_eq_true rfl⟩ rfl hl.1 rfl (Nat.le_of_ble_eq_true rfl) ⟨Nat.zero_le _, Nat.zero_le _⟩ dX2_lineOfTown_209 (fun H locs hS => ?_)
    refine lv_aload_n hx hb dX2_lineOfTown_212 rfl (lv_at hl 0 rfl) ?_
    refine lv_iconst (v := nI 1) hx hb dX2_lineOfTown_213 (by decide) ?_
    refine lv_iconst (v := nI 0) hx hb dX2_lineOfTown_214 (by decide) ?_
    refine lv_bipush (v := nI 99) hx hb dX2_lineOfTown_215 (by decide) ?_
    obtain ⟨M40, h39, hX⟩ := bn_of hX
    refine r_callV0 (As := [.int (nI 1), .int (nI 0), .int (nI 99)]) (rest := []) X hS (m_X2_bound hN h39) mv_X2_bound rfl (o_of hN (o := 10) (c := 2) (by decide) rfl) t3_103 ⟨rfl, rfl, Nat.le_of_ble_eq_true rfl, Nat.le_of_ble_eq_true rfl⟩ rfl hl.1 rfl (Nat.le_of_ble_eq_true rfl) ⟨Nat.zero_le _, Nat.zero_le _⟩ dX2_lineOfTown_217 (fun H locs hS => ?_)
    refine lv_aload_n hx hb dX2_lineOfTown_220 rfl (lv_at hl 0 rfl) ?_
    refine lv_iconst (v := nI 2) hx hb dX2_lineOfTown_221 (by decide) ?_
    refine lv_aload_n hx hb dX2_lineOfTown_222 rfl (lv_at hl 0 rfl) ?_
    refine fg_X2_39 X hS (o_of hN (o := 10) (c := 2) (by decide) rfl) dX2_lineOfTown_223 ?_
    refine lv_iconst (v := nI 1) hx hb dX2_lineOfTown_226 (by decide) ?_
    obtain ⟨g41, hX⟩ := gin_of hX
    refine r_iald (ci := 2) (o := 10) (k := 4) (n := 4) X hS (o_of hN (o := 10) (c := 2) (by decide) rfl) rfl rfl g41 dX2_lineOfTown_227 ?_
    refine lv_bipush (v := nI 99) hx hb dX2_lineOfTown_228 (by decide) ?_
    obtain ⟨M43, h42, hX⟩ := bn_of hX
    refine r_callV0 (As := [.int (nI 2), .int (gA M40 10 4 (ix (nI 1))), .int (nI 99)]) (rest := []) X hS (m_X2_bound hN h42) mv_X2_bound rfl (o_of hN (o := 10) (c := 2) (by decide) rfl) t3_103 ⟨rfl, rfl, Nat.le_of_ble_eq_true rfl, Nat.le_of_ble_eq_true rfl⟩ rfl hl.1 rfl (Nat.le_of_ble_eq_true rfl) ⟨Nat.zero_le _, Nat.zero_le _⟩ dX2_lineOfTown_230 (fun H locs hS => ?_)
    refine lv_aload_n hx hb dX2_lineOfTown_233 rfl (lv_at hl 0 rfl) ?_
    refine fg_X2_39 X hS (o_of hN (o := 10) (c := 2) (by decide) rfl) dX2_lineOfTown_234 ?_
    refine lv_iconst (v := nI 0) hx hb dX2_lineOfTown_237 (by decide) ?_
    obtain ⟨g44, hX⟩ := gin_of hX
    refine r_iald (ci := 2) (o := 10) (k := 4) (n := 4) X hS (o_of hN (o := 10) (c := 2) (by decide) rfl) rfl rfl g44 dX2_lineOfTown_238 ?_
    refine lv_if_lt (tgt := 310) hx hb dX2_lineOfTown_239 (by decide) (fun c45 => ?_) (fun c45 => ?_)
    · have hX := if_t c45 hX
      obtain rfl := some_of hX
      exact x_V X hS dX2_lineOfTown_310
    · have hX := if_f c45 hX
      refine lv_aload_n hx hb dX2_lineOfTown_242 rfl (lv_at hl 0 rfl) ?_
      refine fg_X2_39 X hS (o_of hN (o := 10) (c := 2) (by decide) rfl) dX2_lineOfTown_243 ?_
      refine lv_iconst (v := nI 0) hx hb dX2_lineOfTown_246 (by decide) ?_
      obtain ⟨g46, hX⟩ := gin_of hX
      refine r_iald (ci := 2) (o := 10) (k := 4) (n := 4) X hS (o_of hN (o := 10) (c := 2) (by decide) rfl) rfl rfl g46 dX2_lineOfTown_247 ?_
      refine lv_bipush (v := nI 6) hx hb dX2_lineOfTown_248 (by decide) ?_
      refine lv_icmp_ge (tgt := 310) hx hb dX2_lineOfTown_250 (by decide) (fun c47 => ?_) (fun c47 => ?_)
      · have hX := if_t c47 hX
        obtain rfl := some_of hX
        exact x_V X hS dX2_lineOfTown_310
      · have hX := if_f c47 hX
        refine lv_aload_n hx hb dX2_lineOfTown_253 rfl (lv_at hl 0 rfl) ?_
        refine fg_X2_28 X hS (o_of hN (o := 10) (c := 2) (by decide) rfl) dX2_lineOfTown_254 ?_
        refine fg_X2_213 X hS (o_of hN (o := 13) (c := 6) (by decide) rfl) dX2_lineOfTown_257 ?_
        refine lv_aload_n hx hb dX2_lineOfTown_260 rfl (lv_at hl 0 rfl) ?_
        refine fg_X2_39 X hS (o_of hN (o := 10) (c := 2) (by decide) rfl) dX2_lineOfTown_261 ?_
        refine lv_iconst (v := nI 0) hx hb dX2_lineOfTown_264 (by decide) ?_
        obtain ⟨g48, hX⟩ := gin_of hX
        refine r_iald (ci := 2) (o := 10) (k := 4) (n := 4) X hS (o_of hN (o := 10) (c := 2) (by decide) rfl) rfl rfl g48 dX2_lineOfTown_265 ?_
        refine lv_aload_n hx hb dX2_lineOfTown_266 rfl (lv_at hl 0 rfl) ?_
        refine fg_X2_39 X hS (o_of hN (o := 10) (c := 2) (by decide) rfl) dX2_lineOfTown_267 ?_
        refine lv_iconst (v := nI 1) hx hb dX2_lineOfTown_270 (by decide) ?_
        obtain ⟨g49, hX⟩ := gin_of hX
        refine r_iald (ci := 2) (o := 10) (k := 4) (n := 4) X hS (o_of hN (o := 10) (c := 2) (by decide) rfl) rfl rfl g49 dX2_lineOfTown_271 ?_
        obtain ⟨g50, hX⟩ := gin_of hX
        refine r_iast (ci := 6) (o := 13) (k := 9) (n := 6) X hS (o_of hN (o := 13) (c := 6) (by decide) rfl) rfl rfl g50 dX2_lineOfTown_272 (fun H locs hS => ?_)
        obtain ⟨M51, eM51, hS, hX⟩ := nm_mem hS hX
        refine lv_aload_n hx hb dX2_lineOfTown_273 rfl (lv_at hl 0 rfl) ?_
        refine fg_X2_28 X hS (o_of hN (o := 10) (c := 2) (by decide) rfl) dX2_lineOfTown_274 ?_
        refine fg_X2_216 X hS (o_of hN (o := 13) (c := 6) (by decide) rfl) dX2_lineOfTown_277 ?_
        refine lv_aload_n hx hb dX2_lineOfTown_280 rfl (lv_at hl 0 rfl) ?_
        refine fg_X2_39 X hS (o_of hN (o := 10) (c := 2) (by decide) rfl) dX2_lineOfTown_281 ?_
        refine lv_iconst (v := nI 0) hx hb dX2_lineOfTown_284 (by decide) ?_
        obtain ⟨g52, hX⟩ := gin_of hX
        refine r_iald (ci := 2) (o := 10) (k := 4) (n := 4) X hS (o_of hN (o := 10) (c := 2) (by decide) rfl) rfl rfl g52 dX2_lineOfTown_285 ?_
        refine lv_aload_n hx hb dX2_lineOfTown_286 rfl (lv_at hl 0 rfl) ?_
        refine fg_X2_39 X hS (o_of hN (o := 10) (c := 2) (by decide) rfl) dX2_lineOfTown_287 ?_
        refine lv_iconst (v := nI 2) hx hb dX2_lineOfTown_290 (by decide) ?_
        obtain ⟨g53, hX⟩ := gin_of hX
        refine r_iald (ci := 2) (o := 10) (k := 4) (n := 4) X hS (o_of hN (o := 10) (c := 2) (by decide) rfl) rfl rfl g53 dX2_lineOfTown_291 ?_
        obtain ⟨g54, hX⟩ := gin_of hX
        refine r_iast (ci := 6) (o := 13) (k := 10) (n := 6) X hS (o_of hN (o := 13) (c := 6) (by decide) rfl) rfl rfl g54 dX2_lineOfTown_292 (fun H locs hS => ?_)
        obtain ⟨M55, eM55, hS, hX⟩ := nm_mem hS hX
        refine lv_aload_n hx hb dX2_lineOfTown_293 rfl (lv_at hl 0 rfl) ?_
        refine lv_dup hx hb dX2_lineOfTown_294 rfl ?_
        refine fg_X2_63 X hS (o_of hN (o := 10) (c := 2) (by decide) rfl) dX2_lineOfTown_295 ?_
        refine lv_iconst (v := nI 1) hx hb dX2_lineOfTown_298 (by decide) ?_
        refine lv_aload_n hx hb dX2_lineOfTown_299 rfl (lv_at hl 0 rfl) ?_
        refine fg_X2_39 X hS (o_of hN (o := 10) (c := 2) (by decide) rfl) dX2_lineOfTown_300 ?_
        refine lv_iconst (v := nI 0) hx hb dX2_lineOfTown_303 (by decide) ?_
        obtain ⟨g56, hX⟩ := gin_of hX
        refine r_iald (ci := 2) (o := 10) (k := 4) (n := 4) X hS (o_of hN (o := 10) (c := 2) (by decide) rfl) rfl rfl g56 dX2_lineOfTown_304 ?_
        refine lv_ishl hx hb dX2_lineOfTown_305 ?_
        refine lv_ior hx hb dX2_lineOfTown_306 ?_
        refine fp_X2_63 X hS (o_of hN (o := 10) (c := 2) (by decide) rfl) dX2_lineOfTown_307 (fun H locs hS => ?_)
        obtain ⟨M57, eM57, hS, hX⟩ := nm_mem hS hX
        obtain rfl := some_of hX
        exact x_V X hS dX2_lineOfTown_310
  rw [hH, hlo] at hgoal
  exact hgoal
theorem mv_X2_lineOfTown : Mv yX2_lineOfTown RX2 cX2_lineOfTown 3 ((none : Option Jvm.ClassFile.FieldType)) 2 := ⟨t3_129, t3_127, t3_128, t1_7, ⟨by decide, by decide⟩, by decide +kernel⟩
/-! SewnYear$Reader.lineOfSight(II)V -/
def rm_X2_lineOfSight : Room := { frames := 3, cells := 0, slots := 0, locals := 65 }
def f_X2_lineOfSight_41 (a1 : Int32) (a2 : Int32) (M : Mem) : Option (Mem) :=
  gin (nI 0) 4 <| gin (nI 1) 4 <| bn (f_X4_addFact M 14 a1 (gA M 10 4 (ix (nI 0))) (gA M 10 4 (ix (nI 1)))) fun M4 => some M4
def f_X2_lineOfSight (M : Mem) (a1 : Int32) (a2 : Int32) : Option (Mem) :=
  bn (f_X2_leaveRoom M (gI M 14 0) (nI 10) a2) fun M6 => if a1 = (nI 0) then (bn (f_X2_boundCouple M6) fun M13 => f_X2_lineOfSight_41 a1 a2 M13) else (bn (f_X2_bound M6 (nI 0) (nI 0) (nI 8)) fun M9 => bn (f_X2_bound M9 (nI 1) (nI 0) (nI 8)) fun M11 => f_X2_lineOfSight_41 a1 a2 M11)
set_option maxRecDepth 100000 in
set_option maxHeartbeats 4000000 in
theorem n_X2_lineOfSight_41 {a1 : Int32} {a2 : Int32} (X : Cx p s m args meth c D cy ad A RX2 cX2_lineOfSight 3 ((none : Option Jvm.ClassFile.FieldType))) (hN : NsC ns) {M : Mem} {r : Mem} (hX : f_X2_lineOfSight_41 a1 a2 M = some r) : ∀ (ls : Array Slot) (H : Heap) (locs : List Loc), lv_has ls 3 [(0, .ref (ad 10 0)), (1, .int a1)] → St D cy ad ns A M s.heap H locs → W p l e rm_X2_lineOfSight s m args below meth c H locs 0 0 (MQ below (QC D cy ad ns A r none) args s 0 0 A) (F0 m 41 ls []) := by
  obtain ⟨hx, hb, hml, hown, hts, hK, hr, hlk, hA, hG⟩ := id X
  intro ls H locs hl hS
  unfold f_X2_lineOfSight_41 at hX
  refine lv_aload_n hx hb dX2_lineOfSight_41 rfl (lv_at hl 0 rfl) ?_
  refine fg_X2_35 X hS (o_of hN (o := 10) (c := 2) (by decide) rfl) dX2_lineOfSight_42 ?_
  refine lv_iload_n hx hb dX2_lineOfSight_45 rfl (lv_at hl 1 rfl) ?_
  refine lv_aload_n hx hb dX2_lineOfSight_46 rfl (lv_at hl 0 rfl) ?_
  refine fg_X2_39 X hS (o_of hN (o := 10) (c := 2) (by decide) rfl) dX2_lineOfSight_47 ?_
  refine lv_iconst (v := nI 0) hx hb dX2_lineOfSight_50 (by decide) ?_
  obtain ⟨g1, hX⟩ := gin_of hX
  refine r_iald (ci := 2) (o := 10) (k := 4) (n := 4) X hS (o_of hN (o := 10) (c := 2) (by decide) rfl) rfl rfl g1 dX2_lineOfSight_51 ?_
  refine lv_aload_n hx hb dX2_lineOfSight_52 rfl (lv_at hl 0 rfl) ?_
  refine fg_X2_39 X hS (o_of hN (o := 10) (c := 2) (by decide) rfl) dX2_lineOfSight_53 ?_
  refine lv_iconst (v := nI 1) hx hb dX2_lineOfSight_56 (by decide) ?_
  obtain ⟨g2, hX⟩ := gin_of hX
  refine r_iald (ci := 2) (o := 10) (k := 4) (n := 4) X hS (o_of hN (o := 10) (c := 2) (by decide) rfl) rfl rfl g2 dX2_lineOfSight_57 ?_
  obtain ⟨M4, h3, hX⟩ := bn_of hX
  refine r_callV0 (As := [.int a1, .int (gA M 10 4 (ix (nI 0))), .int (gA M 10 4 (ix (nI 1)))]) (rest := []) X hS (m_X4_addFact hN (o_of hN (o := 14) (c := 4) (by decide) rfl) h3) mv_X4_addFact rfl (o_of hN (o := 14) (c := 4) (by decide) rfl) t3_138 ⟨rfl, rfl, Nat.le_of_ble_eq_true rfl, Nat.le_of_ble_eq_true rfl⟩ rfl hl.1 rfl (Nat.le_of_ble_eq_true rfl) ⟨Nat.zero_le _, Nat.zero_le _⟩ dX2_lineOfSight_58 (fun H locs hS => ?_)
  obtain rfl := some_of hX
  exact x_V X hS dX2_lineOfSight_61
set_option maxRecDepth 100000 in
set_option maxHeartbeats 4000000 in
theorem m_X2_lineOfSight {l : Launch} {D : va_G} {cy : Nat → ClassId} {ad : Nat → Nat → Nat} {ns : List (Nat × Nat)} {A : Nat → Prop} {M : Mem} (hN : NsC ns) {a1 : Int32} {a2 : Int32} {r : Mem} (hX : f_X2_lineOfSight M a1 a2 = some r) : Ct l yX2_lineOfSight cX2_lineOfSight 3 ((none : Option Jvm.ClassFile.FieldType)) rm_X2_lineOfSight D cy ad ns A [.ref (ad 10 0), .int a1, .int a2] M r none := by
  refine ct_of (lv := [(0, .ref (ad 10 0)), (1, .int a1), (2, .int a2)]) (by decide) (Nat.le_of_ble_eq_true rfl) rfl ?_
  intro p e s m args below meth c ls X hl hS
  obtain ⟨hx, hb, hml, hown, hts, hK, hr, hlk, hA, hG⟩ := id X
  obtain ⟨H, hH⟩ : ∃ z, z = s.heap := ⟨_, rfl⟩
  obtain ⟨locs, hlo⟩ : ∃ z : List Loc, z = [] := ⟨_, rfl⟩
  have hS : St D cy ad ns A M s.heap H locs := by rw [hH, hlo]; exact hS
  have hgoal : W p l e rm_X2_lineOfSight s m args below meth c H locs 0 0 (MQ below (QC D cy ad ns A r none) args s 0 0 A) (F0 m 0 ls []) := by
    unfold f_X2_lineOfSight at hX
    refine lv_aload_n hx hb dX2_lineOfSight_0 rfl (lv_at hl 0 rfl) ?_
    refine lv_aload_n hx hb dX2_lineOfSight_1 rfl (lv_at hl 0 rfl) ?_
    refine fg_X2_35 X hS (o_of hN (o := 10) (c := 2) (by decide) rfl) dX2_lineOfSight_2 ?_
    refine fg_X2_79 X hS (o_of hN (o := 14) (c := 4) (by decide) rfl) dX2_lineOfSight_5 ?_
    refine lv_bipush (v := nI 10) hx hb dX2_lineOfSight_8 (by decide) ?_
    refine lv_iload_n hx hb dX2_lineOfSight_10 rfl (lv_at hl 2 rfl) ?_
    obtain ⟨M6, h5, hX⟩ := bn_of hX
    refine r_callV0 (As := [.int (gI M 14 0), .int (nI 10), .int a2]) (rest := []) X hS (m_X2_leaveRoom hN h5) mv_X2_leaveRoom rfl (o_of hN (o := 10) (c := 2) (by decide) rfl) t3_95 ⟨rfl, rfl, Nat.le_of_ble_eq_true rfl, Nat.le_of_ble_eq_true rfl⟩ rfl hl.1 rfl (Nat.le_of_ble_eq_true rfl) ⟨Nat.zero_le _, Nat.zero_le _⟩ dX2_lineOfSight_11 (fun H locs hS => ?_)
    refine lv_iload_n hx hb dX2_lineOfSight_14 rfl (lv_at hl 1 rfl) ?_
    refine lv_if_ne (tgt := 25) hx hb dX2_lineOfSight_15 (by decide) (fun c7 => ?_) (fun c7 => ?_)
    · have hX := if_f c7 hX
      refine lv_aload_n hx hb dX2_lineOfSight_25 rfl (lv_at hl 0 rfl) ?_
      refine lv_iconst (v := nI 0) hx hb dX2_lineOfSight_26 (by decide) ?_
      refine lv_iconst (v := nI 0) hx hb dX2_lineOfSight_27 (by decide) ?_
      refine lv_bipush (v := nI 8) hx hb dX2_lineOfSight_28 (by decide) ?_
      obtain ⟨M9, h8, hX⟩ := bn_of hX
      refine r_callV0 (As := [.int (nI 0), .int (nI 0), .int (nI 8)]) (rest := []) X hS (m_X2_bound hN h8) mv_X2_bound rfl (o_of hN (o := 10) (c := 2) (by decide) rfl) t3_103 ⟨rfl, rfl, Nat.le_of_ble_eq_true rfl, Nat.le_of_ble_eq_true rfl⟩ rfl hl.1 rfl (Nat.le_of_ble_eq_true rfl) ⟨Nat.zero_le _, Nat.zero_le _⟩ dX2_lineOfSight_30 (fun H locs hS => ?_)
      refine lv_aload_n hx hb dX2_lineOfSight_33 rfl (lv_at hl 0 rfl) ?_
      refine lv_iconst (v := nI 1) hx hb dX2_lineOfSight_34 (by decide) ?_
      refine lv_iconst (v := nI 0) hx hb dX2_lineOfSight_35 (by decide) ?_
      refine lv_bipush (v := nI 8) hx hb dX2_lineOfSight_36 (by decide) ?_
      obtain ⟨M11, h10, hX⟩ := bn_of hX
      refine r_callV0 (As := [.int (nI 1), .int (nI 0), .int (nI 8)]) (rest := []) X hS (m_X2_bound hN h10) mv_X2_bound rfl (o_of hN (o := 10) (c := 2) (by decide) rfl) t3_103 ⟨rfl, rfl, Nat.le_of_ble_eq_true rfl, Nat.le_of_ble_eq_true rfl⟩ rfl hl.1 rfl (Nat.le_of_ble_eq_true rfl) ⟨Nat.zero_le _, Nat.zero_le _⟩ dX2_lineOfSight_38 (fun H locs hS => ?_)
      exact n_X2_lineOfSight_41 X hN hX _ _ _ (lv_sub hl [0, 1] rfl) hS
    · have hX := if_t c7 hX
      refine lv_aload_n hx hb dX2_lineOfSight_18 rfl (lv_at hl 0 rfl) ?_
      obtain ⟨M13, h12, hX⟩ := bn_of hX
      refine r_callV0 (As := []) (rest := []) X hS (m_X2_boundCouple hN h12) mv_X2_boundCouple rfl (o_of hN (o := 10) (c := 2) (by decide) rfl) t3_111 ⟨rfl, rfl, Nat.le_of_ble_eq_true rfl, Nat.le_of_ble_eq_true rfl⟩ rfl hl.1 rfl (Nat.le_of_ble_eq_true rfl) ⟨Nat.zero_le _, Nat.zero_le _⟩ dX2_lineOfSight_19 (fun H locs hS => ?_)
      refine lv_goto (tgt := 41) hx hb dX2_lineOfSight_22 (by decide) ?_
      exact n_X2_lineOfSight_41 X hN hX _ _ _ (lv_sub hl [0, 1] rfl) hS
  rw [hH, hlo] at hgoal
  exact hgoal
theorem mv_X2_lineOfSight : Mv yX2_lineOfSight RX2 cX2_lineOfSight 3 ((none : Option Jvm.ClassFile.FieldType)) 2 := ⟨t3_137, t3_135, t3_136, t1_7, ⟨by decide, by decide⟩, by decide +kernel⟩
/-! SewnYear$Reader.line(I)V -/
def rm_X2_line : Room := { frames := 6, cells := 0, slots := 0, locals := 154 }
def f_X2_line_105 (a1 : Int32) (v_2 : Int32) (v_3 : Int32) (M : Mem) : Option (Mem) :=
  if (gI M 10 8) = (nI 3) then (bn (f_X2_step M) fun M3 => if a1 = nI 0 then (bn (f_X2_lineOfCoat M3 v_3 v_2) fun M6 => some M6) else if a1 = nI 1 then (bn (f_X2_lineOfLife M3 v_3 v_2) fun M9 => some M9) else if a1 = nI 2 then (bn (f_X2_lineOfTown M3 v_3 v_2) fun M12 => some M12) else (bn (f_X2_lineOfSight M3 v_3 v_2) fun M14 => some M14)) else (bn (f_X2_breakOff M) fun M16 => some M16)
def b_X2_line_47 (a1 : Int32) (v_2 : Int32) (v_3 : Int32) (v_4 : Int32) (rc : Int32 → Mem → Option (Mem)) (v_5 : Int32) (M : Mem) : Option (Mem) :=
  if v_4 ≤ v_5 then (f_X2_line_105 a1 v_2 v_3 M) else (if (nI 4) ≤ v_5 then (f_X2_line_105 a1 v_2 v_3 M) else (if (gI M 10 8) = (nI 2) then (bn (f_X2_numberOfToken M) fun r21 => gin v_5 4 <| nm (sA M 10 4 (ix v_5) r21) fun M23 => gin v_5 4 <| nm (sA M23 10 5 (ix v_5) (gI M23 10 9)) fun M25 => bn (f_X2_step M25) fun M27 => nm (v_5 + nI 1) fun v28 => rc v28 M27) else (bn (f_X2_breakOff M) fun M30 => some M30)))
def f_X2_line_47 (a1 : Int32) (v_2 : Int32) (v_3 : Int32) (v_4 : Int32) : Nat → (Int32 × Mem) → Option (Mem) := lp (fun rc q => b_X2_line_47 a1 v_2 v_3 v_4 (fun x0 x1 => rc (x0, x1)) q.1 q.2)
def f_X2_line_22 (a1 : Int32) (v_2 : Int32) (s_0 : Int32) (M : Mem) : Option (Mem) :=
  if s_0 = (-1) then (bn (f_X2_breakOff M) fun M37 => some M37) else (bn (f_X2_step M) fun M33 => bn (f_X2_numbersOf a1 s_0) fun r35 => f_X2_line_47 a1 v_2 s_0 r35 FU ((nI 0), M33))
def f_X2_line (M : Mem) (a1 : Int32) : Option (Mem) :=
  nm (gI M 10 9) fun v38 => if (gI M 10 8) = (nI 1) then (bn (f_X2_wordOf M a1) fun r41 => f_X2_line_22 a1 v38 r41 M) else (f_X2_line_22 a1 v38 (-1) M)
set_option maxRecDepth 100000 in
set_option maxHeartbeats 4000000 in
theorem n_X2_line_105 {a1 : Int32} (X : Cx p s m args meth c D cy ad A RX2 cX2_line 6 ((none : Option Jvm.ClassFile.FieldType))) (hN : NsC ns) {v_2 : Int32} {v_3 : Int32} {M : Mem} {r : Mem} (hX : f_X2_line_105 a1 v_2 v_3 M = some r) : ∀ (ls : Array Slot) (H : Heap) (locs : List Loc), lv_has ls 6 [(0, .ref (ad 10 0)), (1, .int a1), (2, .int v_2), (3, .int v_3)] → St D cy ad ns A M s.heap H locs → W p l e rm_X2_line s m args below meth c H locs 0 0 (MQ below (QC D cy ad ns A r none) args s 0 0 A) (F0 m 105 ls []) := by
  obtain ⟨hx, hb, hml, hown, hts, hK, hr, hlk, hA, hG⟩ := id X
  intro ls H locs hl hS
  unfold f_X2_line_105 at hX
  refine lv_aload_n hx hb dX2_line_105 rfl (lv_at hl 0 rfl) ?_
  refine fg_X2_85 X hS (o_of hN (o := 10) (c := 2) (by decide) rfl) dX2_line_106 ?_
  refine lv_iconst (v := nI 3) hx hb dX2_line_109 (by decide) ?_
  refine lv_icmp_eq (tgt := 118) hx hb dX2_line_110 (by decide) (fun c1 => ?_) (fun c1 => ?_)
  · have hX := if_t c1 hX
    refine lv_aload_n hx hb dX2_line_118 rfl (lv_at hl 0 rfl) ?_
    obtain ⟨M3, h2, hX⟩ := bn_of hX
    refine r_callV0 (As := []) (rest := []) X hS (m_X2_step hN h2) mv_X2_step rfl (o_of hN (o := 10) (c := 2) (by decide) rfl) t2_229 ⟨rfl, rfl, Nat.le_of_ble_eq_true rfl, Nat.le_of_ble_eq_true rfl⟩ rfl hl.1 rfl (Nat.le_of_ble_eq_true rfl) ⟨Nat.zero_le _, Nat.zero_le _⟩ dX2_line_119 (fun H locs hS => ?_)
    refine lv_iload_n hx hb dX2_line_122 rfl (lv_at hl 1 rfl) ?_
    by_cases c4 : a1 = nI 0
    · have hX := if_t c4 hX
      refine r_tabIn c4 (off := 25) (tgt := 148) hx hb dX2_line_123 (by decide) (by decide) (by decide) (by decide) ?_
      refine lv_aload_n hx hb dX2_line_148 rfl (lv_at hl 0 rfl) ?_
      refine lv_iload_n hx hb dX2_line_149 rfl (lv_at hl 3 rfl) ?_
      refine lv_iload_n hx hb dX2_line_150 rfl (lv_at hl 2 rfl) ?_
      obtain ⟨M6, h5, hX⟩ := bn_of hX
      refine r_callV0 (As := [.int v_3, .int v_2]) (rest := []) X hS (m_X2_lineOfCoat hN h5) mv_X2_lineOfCoat rfl (o_of hN (o := 10) (c := 2) (by decide) rfl) t3_91 ⟨rfl, rfl, Nat.le_of_ble_eq_true rfl, Nat.le_of_ble_eq_true rfl⟩ rfl hl.1 rfl (Nat.le_of_ble_eq_true rfl) ⟨Nat.zero_le _, Nat.zero_le _⟩ dX2_line_151 (fun H locs hS => ?_)
      refine lv_goto (tgt := 181) hx hb dX2_line_154 (by decide) ?_
      obtain rfl := some_of hX
      exact x_V X hS dX2_line_181
    have hX := if_f c4 hX
    by_cases c7 : a1 = nI 1
    · have hX := if_t c7 hX
      refine r_tabIn c7 (off := 34) (tgt := 157) hx hb dX2_line_123 (by decide) (by decide) (by decide) (by decide) ?_
      refine lv_aload_n hx hb dX2_line_157 rfl (lv_at hl 0 rfl) ?_
      refine lv_iload_n hx hb dX2_line_158 rfl (lv_at hl 3 rfl) ?_
      refine lv_iload_n hx hb dX2_line_159 rfl (lv_at hl 2 rfl) ?_
      obtain ⟨M9, h8, hX⟩ := bn_of hX
      refine r_callV0 (As := [.int v_3, .int v_2]) (rest := []) X hS (m_X2_lineOfLife hN h8) mv_X2_lineOfLife rfl (o_of hN (o := 10) (c := 2) (by decide) rfl) t3_118 ⟨rfl, rfl, Nat.le_of_ble_eq_true rfl, Nat.le_of_ble_eq_true rfl⟩ rfl hl.1 rfl (Nat.le_of_ble_eq_true rfl) ⟨Nat.zero_le _, Nat.zero_le _⟩ dX2_line_160 (fun H locs hS => ?_)
      refine lv_goto (tgt := 181) hx hb dX2_line_163 (by decide) ?_
      obtain rfl := some_of hX
      exact x_V X hS dX2_line_181
    have hX := if_f c7 hX
    by_cases c10 : a1 = nI 2
    · have hX := if_t c10 hX
      refine r_tabIn c10 (off := 43) (tgt := 166) hx hb dX2_line_123 (by decide) (by decide) (by decide) (by decide) ?_
      refine lv_aload_n hx hb dX2_line_166 rfl (lv_at hl 0 rfl) ?_
      refine lv_iload_n hx hb dX2_line_167 rfl (lv_at hl 3 rfl) ?_
      refine lv_iload_n hx hb dX2_line_168 rfl (lv_at hl 2 rfl) ?_
      obtain ⟨M12, h11, hX⟩ := bn_of hX
      refine r_callV0 (As := [.int v_3, .int v_2]) (rest := []) X hS (m_X2_lineOfTown hN h11) mv_X2_lineOfTown rfl (o_of hN (o := 10) (c := 2) (by decide) rfl) t3_126 ⟨rfl, rfl, Nat.le_of_ble_eq_true rfl, Nat.le_of_ble_eq_true rfl⟩ rfl hl.1 rfl (Nat.le_of_ble_eq_true rfl) ⟨Nat.zero_le _, Nat.zero_le _⟩ dX2_line_169 (fun H locs hS => ?_)
      refine lv_goto (tgt := 181) hx hb dX2_line_172 (by decide) ?_
      obtain rfl := some_of hX
      exact x_V X hS dX2_line_181
    have hX := if_f c10 hX
    have ic4 : ¬ a1.toInt = 0 := lv_neT c4 rfl
    have ic7 : ¬ a1.toInt = 1 := lv_neT c7 rfl
    have ic10 : ¬ a1.toInt = 2 := lv_neT c10 rfl
    refine lv_tableOut (tgt := 175) hx hb dX2_line_123 (by omega) (by decide) ?_
    refine lv_aload_n hx hb dX2_line_175 rfl (lv_at hl 0 rfl) ?_
    refine lv_iload_n hx hb dX2_line_176 rfl (lv_at hl 3 rfl) ?_
    refine lv_iload_n hx hb dX2_line_177 rfl (lv_at hl 2 rfl) ?_
    obtain ⟨M14, h13, hX⟩ := bn_of hX
    refine r_callV0 (As := [.int v_3, .int v_2]) (rest := []) X hS (m_X2_lineOfSight hN h13) mv_X2_lineOfSight rfl (o_of hN (o := 10) (c := 2) (by decide) rfl) t3_134 ⟨rfl, rfl, Nat.le_of_ble_eq_true rfl, Nat.le_of_ble_eq_true rfl⟩ rfl hl.1 rfl (Nat.le_of_ble_eq_true rfl) ⟨Nat.zero_le _, Nat.zero_le _⟩ dX2_line_178 (fun H locs hS => ?_)
    obtain rfl := some_of hX
    exact x_V X hS dX2_line_181
  · have hX := if_f c1 hX
    refine lv_aload_n hx hb dX2_line_113 rfl (lv_at hl 0 rfl) ?_
    obtain ⟨M16, h15, hX⟩ := bn_of hX
    refine r_callV0 (As := []) (rest := []) X hS (m_X2_breakOff hN h15) mv_X2_breakOff rfl (o_of hN (o := 10) (c := 2) (by decide) rfl) t3_80 ⟨rfl, rfl, Nat.le_of_ble_eq_true rfl, Nat.le_of_ble_eq_true rfl⟩ rfl hl.1 rfl (Nat.le_of_ble_eq_true rfl) ⟨Nat.zero_le _, Nat.zero_le _⟩ dX2_line_114 (fun H locs hS => ?_)
    obtain rfl := some_of hX
    exact x_V X hS dX2_line_117
set_option maxRecDepth 100000 in
set_option maxHeartbeats 4000000 in
theorem n_X2_line_47 {a1 : Int32} (X : Cx p s m args meth c D cy ad A RX2 cX2_line 6 ((none : Option Jvm.ClassFile.FieldType))) (hN : NsC ns) {v_2 : Int32} {v_3 : Int32} {v_4 : Int32} : ∀ (n : Nat) (v_5 : Int32) (M : Mem) (r : Mem), f_X2_line_47 a1 v_2 v_3 v_4 n (v_5, M) = some r → ∀ (ls : Array Slot) (H : Heap) (locs : List Loc), lv_has ls 6 [(0, .ref (ad 10 0)), (1, .int a1), (2, .int v_2), (3, .int v_3), (4, .int v_4), (5, .int v_5)] → St D cy ad ns A M s.heap H locs → W p l e rm_X2_line s m args below meth c H locs 0 0 (MQ below (QC D cy ad ns A r none) args s 0 0 A) (F0 m 47 ls []) := by
  obtain ⟨hx, hb, hml, hown, hts, hK, hr, hlk, hA, hG⟩ := id X
  intro n
  induction n with
  | zero => intro v_5 M r hX; cases (show (none : Option (Mem)) = some r from hX)
  | succ n ih =>
    intro v_5 M r hX ls H locs hl hS
    have hX : b_X2_line_47 a1 v_2 v_3 v_4 (fun x0 x1 => f_X2_line_47 a1 v_2 v_3 v_4 n (x0, x1)) v_5 M = some r := hX
    unfold b_X2_line_47 at hX
    refine lv_iload hx hb dX2_line_47 (lv_at hl 5 rfl) ?_
    refine lv_iload hx hb dX2_line_49 (lv_at hl 4 rfl) ?_
    refine lv_icmp_ge (tgt := 105) hx hb dX2_line_51 (by decide) (fun c17 => ?_) (fun c17 => ?_)
    · have hX := if_t c17 hX
      exact n_X2_line_105 X hN hX _ _ _ (lv_sub hl [0, 1, 2, 3] rfl) hS
    · have hX := if_f c17 hX
      refine lv_iload hx hb dX2_line_54 (lv_at hl 5 rfl) ?_
      refine lv_iconst (v := nI 4) hx hb dX2_line_56 (by decide) ?_
      refine lv_icmp_ge (tgt := 105) hx hb dX2_line_57 (by decide) (fun c18 => ?_) (fun c18 => ?_)
      · have hX := if_t c18 hX
        exact n_X2_line_105 X hN hX _ _ _ (lv_sub hl [0, 1, 2, 3] rfl) hS
      · have hX := if_f c18 hX
        refine lv_aload_n hx hb dX2_line_60 rfl (lv_at hl 0 rfl) ?_
        refine fg_X2_85 X hS (o_of hN (o := 10) (c := 2) (by decide) rfl) dX2_line_61 ?_
        refine lv_iconst (v := nI 2) hx hb dX2_line_64 (by decide) ?_
        refine lv_icmp_eq (tgt := 73) hx hb dX2_line_65 (by decide) (fun c19 => ?_) (fun c19 => ?_)
        · have hX := if_t c19 hX
          refine lv_aload_n hx hb dX2_line_73 rfl (lv_at hl 0 rfl) ?_
          refine fg_X2_39 X hS (o_of hN (o := 10) (c := 2) (by decide) rfl) dX2_line_74 ?_
          refine lv_iload hx hb dX2_line_77 (lv_at hl 5 rfl) ?_
          refine lv_aload_n hx hb dX2_line_79 rfl (lv_at hl 0 rfl) ?_
          obtain ⟨r21, h20, hX⟩ := bn_of hX
          refine r_callV1 (v := .int r21) (As := []) (rest := [.int v_5, .ref (ad 10 (4 + 1))]) X hS (m_X2_numberOfToken hN h20) mv_X2_numberOfToken rfl (o_of hN (o := 10) (c := 2) (by decide) rfl) t3_87 ⟨rfl, rfl, Nat.le_of_ble_eq_true rfl, Nat.le_of_ble_eq_true rfl⟩ rfl hl.1 rfl (Nat.le_of_ble_eq_true rfl) ⟨Nat.zero_le _, Nat.zero_le _⟩ dX2_line_80 (fun H locs hS => ?_)
          obtain ⟨g22, hX⟩ := gin_of hX
          refine r_iast (ci := 2) (o := 10) (k := 4) (n := 4) X hS (o_of hN (o := 10) (c := 2) (by decide) rfl) rfl rfl g22 dX2_line_83 (fun H locs hS => ?_)
          obtain ⟨M23, eM23, hS, hX⟩ := nm_mem hS hX
          refine lv_aload_n hx hb dX2_line_84 rfl (lv_at hl 0 rfl) ?_
          refine fg_X2_43 X hS (o_of hN (o := 10) (c := 2) (by decide) rfl) dX2_line_85 ?_
          refine lv_iload hx hb dX2_line_88 (lv_at hl 5 rfl) ?_
          refine lv_aload_n hx hb dX2_line_90 rfl (lv_at hl 0 rfl) ?_
          refine fg_X2_102 X hS (o_of hN (o := 10) (c := 2) (by decide) rfl) dX2_line_91 ?_
          obtain ⟨g24, hX⟩ := gin_of hX
          refine r_iast (ci := 2) (o := 10) (k := 5) (n := 4) X hS (o_of hN (o := 10) (c := 2) (by decide) rfl) rfl rfl g24 dX2_line_94 (fun H locs hS => ?_)
          obtain ⟨M25, eM25, hS, hX⟩ := nm_mem hS hX
          refine lv_aload_n hx hb dX2_line_95 rfl (lv_at hl 0 rfl) ?_
          obtain ⟨M27, h26, hX⟩ := bn_of hX
          refine r_callV0 (As := []) (rest := []) X hS (m_X2_step hN h26) mv_X2_step rfl (o_of hN (o := 10) (c := 2) (by decide) rfl) t2_229 ⟨rfl, rfl, Nat.le_of_ble_eq_true rfl, Nat.le_of_ble_eq_true rfl⟩ rfl hl.1 rfl (Nat.le_of_ble_eq_true rfl) ⟨Nat.zero_le _, Nat.zero_le _⟩ dX2_line_96 (fun H locs hS => ?_)
          obtain ⟨v28, ev28⟩ : ∃ y : Int32, y = (v_5 + nI 1) := ⟨_, rfl⟩
          have hX := nm_of ev28 hX
          refine lv_iinc (v := v28) (lv' := [(5, .int v28), (0, .ref (ad 10 0)), (1, .int a1), (2, .int v_2), (3, .int v_3), (4, .int v_4)]) hx hb dX2_line_99 hl (k := 5) rfl (by rw [ev28]; rfl) (by decide) rfl (fun ls hl => ?_)
          refine lv_goto (tgt := 47) hx hb dX2_line_102 (by decide) ?_
          exact ih _ _ _ hX _ _ _ (lv_sub hl [1, 2, 3, 4, 5, 0] rfl) hS
        · have hX := if_f c19 hX
          refine lv_aload_n hx hb dX2_line_68 rfl (lv_at hl 0 rfl) ?_
          obtain ⟨M30, h29, hX⟩ := bn_of hX
          refine r_callV0 (As := []) (rest := []) X hS (m_X2_breakOff hN h29) mv_X2_breakOff rfl (o_of hN (o := 10) (c := 2) (by decide) rfl) t3_80 ⟨rfl, rfl, Nat.le_of_ble_eq_true rfl, Nat.le_of_ble_eq_true rfl⟩ rfl hl.1 rfl (Nat.le_of_ble_eq_true rfl) ⟨Nat.zero_le _, Nat.zero_le _⟩ dX2_line_69 (fun H locs hS => ?_)
          obtain rfl := some_of hX
          exact x_V X hS dX2_line_72
set_option maxRecDepth 100000 in
set_option maxHeartbeats 4000000 in
theorem n_X2_line_22 {a1 : Int32} (X : Cx p s m args meth c D cy ad A RX2 cX2_line 6 ((none : Option Jvm.ClassFile.FieldType))) (hN : NsC ns) {v_2 : Int32} {s_0 : Int32} {M : Mem} {r : Mem} (hX : f_X2_line_22 a1 v_2 s_0 M = some r) : ∀ (ls : Array Slot) (H : Heap) (locs : List Loc), lv_has ls 6 [(0, .ref (ad 10 0)), (1, .int a1), (2, .int v_2)] → St D cy ad ns A M s.heap H locs → W p l e rm_X2_line s m args below meth c H locs 0 0 (MQ below (QC D cy ad ns A r none) args s 0 0 A) (F0 m 22 ls [.int s_0]) := by
  obtain ⟨hx, hb, hml, hown, hts, hK, hr, hlk, hA, hG⟩ := id X
  intro ls H locs hl hS
  unfold f_X2_line_22 at hX
  refine lv_istore_n (lv' := [(3, .int s_0), (0, .ref (ad 10 0)), (1, .int a1), (2, .int v_2)]) hx hb dX2_line_22 rfl hl (by decide) rfl (fun ls hl => ?_)
  refine lv_iload_n hx hb dX2_line_23 rfl (lv_at hl 0 rfl) ?_
  refine lv_iconst (v := (-1)) hx hb dX2_line_24 (by decide) ?_
  refine lv_icmp_ne (tgt := 33) hx hb dX2_line_25 (by decide) (fun c31 => ?_) (fun c31 => ?_)
  · have hX := if_f c31 hX
    refine lv_aload_n hx hb dX2_line_33 rfl (lv_at hl 1 rfl) ?_
    obtain ⟨M33, h32, hX⟩ := bn_of hX
    refine r_callV0 (As := []) (rest := []) X hS (m_X2_step hN h32) mv_X2_step rfl (o_of hN (o := 10) (c := 2) (by decide) rfl) t2_229 ⟨rfl, rfl, Nat.le_of_ble_eq_true rfl, Nat.le_of_ble_eq_true rfl⟩ rfl hl.1 rfl (Nat.le_of_ble_eq_true rfl) ⟨Nat.zero_le _, Nat.zero_le _⟩ dX2_line_34 (fun H locs hS => ?_)
    refine lv_iload_n hx hb dX2_line_37 rfl (lv_at hl 2 rfl) ?_
    refine lv_iload_n hx hb dX2_line_38 rfl (lv_at hl 0 rfl) ?_
    obtain ⟨r35, h34, hX⟩ := bn_of hX
    refine r_callS1 (v := .int r35) (As := [.int a1, .int s_0]) (rest := []) X hS (m_X2_numbersOf (M := M33) hN h34) ms_X2_numbersOf t3_84 ⟨rfl, rfl, Nat.le_of_ble_eq_true rfl, Nat.le_of_ble_eq_true rfl⟩ rfl hl.1 rfl (Nat.le_of_ble_eq_true rfl) ⟨Nat.zero_le _, Nat.zero_le _⟩ dX2_line_39 (fun H locs hS => ?_)
    refine lv_istore (lv' := [(4, .int r35), (3, .int s_0), (0, .ref (ad 10 0)), (1, .int a1), (2, .int v_2)]) hx hb dX2_line_42 hl (by decide) rfl (fun ls hl => ?_)
    refine lv_iconst (v := nI 0) hx hb dX2_line_44 (by decide) ?_
    refine lv_istore (lv' := [(5, .int (nI 0)), (4, .int r35), (3, .int s_0), (0, .ref (ad 10 0)), (1, .int a1), (2, .int v_2)]) hx hb dX2_line_45 hl (by decide) rfl (fun ls hl => ?_)
    exact n_X2_line_47 X hN _ _ _ _ hX _ _ _ (lv_sub hl [3, 4, 5, 2, 1, 0] rfl) hS
  · have hX := if_t c31 hX
    refine lv_aload_n hx hb dX2_line_28 rfl (lv_at hl 1 rfl) ?_
    obtain ⟨M37, h36, hX⟩ := bn_of hX
    refine r_callV0 (As := []) (rest := []) X hS (m_X2_breakOff hN h36) mv_X2_breakOff rfl (o_of hN (o := 10) (c := 2) (by decide) rfl) t3_80 ⟨rfl, rfl, Nat.le_of_ble_eq_true rfl, Nat.le_of_ble_eq_true rfl⟩ rfl hl.1 rfl (Nat.le_of_ble_eq_true rfl) ⟨Nat.zero_le _, Nat.zero_le _⟩ dX2_line_29 (fun H locs hS => ?_)
    obtain rfl := some_of hX
    exact x_V X hS dX2_line_32
set_option maxRecDepth 100000 in
set_option maxHeartbeats 4000000 in
theorem m_X2_line {l : Launch} {D : va_G} {cy : Nat → ClassId} {ad : Nat → Nat → Nat} {ns : List (Nat × Nat)} {A : Nat → Prop} {M : Mem} (hN : NsC ns) {a1 : Int32} {r : Mem} (hX : f_X2_line M a1 = some r) : Ct l yX2_line cX2_line 6 ((none : Option Jvm.ClassFile.FieldType)) rm_X2_line D cy ad ns A [.ref (ad 10 0), .int a1] M r none := by
  refine ct_of (lv := [(0, .ref (ad 10 0)), (1, .int a1)]) (by decide) (Nat.le_of_ble_eq_true rfl) rfl ?_
  intro p e s m args below meth c ls X hl hS
  obtain ⟨hx, hb, hml, hown, hts, hK, hr, hlk, hA, hG⟩ := id X
  obtain ⟨H, hH⟩ : ∃ z, z = s.heap := ⟨_, rfl⟩
  obtain ⟨locs, hlo⟩ : ∃ z : List Loc, z = [] := ⟨_, rfl⟩
  have hS : St D cy ad ns A M s.heap H locs := by rw [hH, hlo]; exact hS
  have hgoal : W p l e rm_X2_line s m args below meth c H locs 0 0 (MQ below (QC D cy ad ns A r none) args s 0 0 A) (F0 m 0 ls []) := by
    unfold f_X2_line at hX
    refine lv_aload_n hx hb dX2_line_0 rfl (lv_at hl 0 rfl) ?_
    refine fg_X2_102 X hS (o_of hN (o := 10) (c := 2) (by decide) rfl) dX2_line_1 ?_
    refine lv_topi (fun v38 ev38 => ?_)
    have hX := nm_of ev38 hX
    refine lv_istore_n (lv' := [(2, .int v38), (0, .ref (ad 10 0)), (1, .int a1)]) hx hb dX2_line_4 rfl hl (by decide) rfl (fun ls hl => ?_)
    refine lv_aload_n hx hb dX2_line_5 rfl (lv_at hl 1 rfl) ?_
    refine fg_X2_85 X hS (o_of hN (o := 10) (c := 2) (by decide) rfl) dX2_line_6 ?_
    refine lv_iconst (v := nI 1) hx hb dX2_line_9 (by decide) ?_
    refine lv_icmp_ne (tgt := 21) hx hb dX2_line_10 (by decide) (fun c39 => ?_) (fun c39 => ?_)
    · have hX := if_f c39 hX
      refine lv_iconst (v := (-1)) hx hb dX2_line_21 (by decide) ?_
      exact n_X2_line_22 X hN hX _ _ _ (lv_sub hl [1, 2, 0] rfl) hS
    · have hX := if_t c39 hX
      refine lv_aload_n hx hb dX2_line_13 rfl (lv_at hl 1 rfl) ?_
      refine lv_iload_n hx hb dX2_line_14 rfl (lv_at hl 2 rfl) ?_
      obtain ⟨r41, h40, hX⟩ := bn_of hX
      refine r_callV1 (v := .int r41) (As := [.int a1]) (rest := []) X hS (m_X2_wordOf hN h40) mv_X2_wordOf rfl (o_of hN (o := 10) (c := 2) (by decide) rfl) t3_6 ⟨rfl, rfl, Nat.le_of_ble_eq_true rfl, Nat.le_of_ble_eq_true rfl⟩ rfl hl.1 rfl (Nat.le_of_ble_eq_true rfl) ⟨Nat.zero_le _, Nat.zero_le _⟩ dX2_line_15 (fun H locs hS => ?_)
      refine lv_goto (tgt := 22) hx hb dX2_line_18 (by decide) ?_
      exact n_X2_line_22 X hN hX _ _ _ (lv_sub hl [1, 2, 0] rfl) hS
  rw [hH, hlo] at hgoal
  exact hgoal
theorem mv_X2_line : Mv yX2_line RX2 cX2_line 6 ((none : Option Jvm.ClassFile.FieldType)) 1 := ⟨t3_5, t3_3, t3_4, t1_7, ⟨by decide, by decide⟩, by decide +kernel⟩
/-! SewnYear$Reader.read(I[BI)V -/
def rm_X2_read : Room := { frames := 7, cells := 0, slots := 0, locals := 179 }
def f_X2_read_149 (a1 : Int32) (a2 : Nat) (a3 : Int32) (k_150 : Bool → Mem → Option (Mem)) (M : Mem) : Option (Mem) :=
  k_150 false M
def f_X2_read_125 (a1 : Int32) (a2 : Nat) (a3 : Int32) (k_145 : Mem → Option (Mem)) (k_150 : Bool → Mem → Option (Mem)) (M : Mem) : Option (Mem) :=
  if a1 = (nI 2) then (if ((gI M 10 11) >>> ((gI M 13 4) &&& 31)) = (nI 0) then (f_X2_read_149 a1 a2 a3 k_150 M) else (k_145 M)) else (f_X2_read_149 a1 a2 a3 k_150 M)
def f_X2_read_145 (a1 : Int32) (a2 : Nat) (a3 : Int32) (k_150 : Bool → Mem → Option (Mem)) (M : Mem) : Option (Mem) :=
  k_150 true M
def f_X2_read_150 (a1 : Int32) (a2 : Nat) (a3 : Int32) (s_0 : Bool) (M : Mem) : Option (Mem) :=
  if s_0 = true then (bn (f_X2_note M (nI 4) (gI M 10 7)) fun M5 => some M5) else (some M)
def f_X2_read_106 (a1 : Int32) (a2 : Nat) (a3 : Int32) (M : Mem) : Option (Mem) :=
  if a1 = (nI 0) then (if ((gI M 10 11) >>> ((gI M 11 0) &&& 31)) = (nI 0) then (f_X2_read_125 a1 a2 a3 (fun y => f_X2_read_145 a1 a2 a3 (fun x0 y => f_X2_read_150 a1 a2 a3 x0 y) y) (fun x0 y => f_X2_read_150 a1 a2 a3 x0 y) M) else (f_X2_read_145 a1 a2 a3 (fun x0 y => f_X2_read_150 a1 a2 a3 x0 y) M)) else (f_X2_read_125 a1 a2 a3 (fun y => f_X2_read_145 a1 a2 a3 (fun x0 y => f_X2_read_150 a1 a2 a3 x0 y) y) (fun x0 y => f_X2_read_150 a1 a2 a3 x0 y) M)
def b_X2_read_72 (a1 : Int32) (a2 : Nat) (a3 : Int32) (rc : Int32 → Mem → Option (Mem)) (v_4 : Int32) (M : Mem) : Option (Mem) :=
  if (nI 600) ≤ v_4 then (f_X2_read_106 a1 a2 a3 M) else (if (gI M 10 8) = (nI 0) then (f_X2_read_106 a1 a2 a3 M) else (if (gI M 10 12) = (nI 1) then (f_X2_read_106 a1 a2 a3 M) else (bn (f_X2_line M a1) fun M12 => nm (v_4 + nI 1) fun v13 => rc v13 M12)))
def f_X2_read_72 (a1 : Int32) (a2 : Nat) (a3 : Int32) : Nat → (Int32 × Mem) → Option (Mem) := lp (fun rc q => b_X2_read_72 a1 a2 a3 (fun x0 x1 => rc (x0, x1)) q.1 q.2)
def f_X2_read (M : Mem) (a1 : Int32) (a2 : Nat) (a3 : Int32) : Option (Mem) :=
  nm (sR M 10 6 a2) fun M14 => nm (mnI a3 (nI 600)) fun v15 => nm (sI M14 10 7 v15) fun M16 => nm (sI M16 10 10 (nI 0)) fun M17 => nm (sI M17 10 11 (nI 0)) fun M18 => nm (sI M18 10 12 (nI 0)) fun M19 => nm (sI M19 10 13 (-1)) fun M20 => bn (f_X0_clear M20 11) fun M22 => nm (sI M22 12 0 (nI 0)) fun M23 => bn (f_X6_clear M23 13) fun M25 => nm (sI M25 14 0 (nI 0)) fun M26 => bn (f_X2_step M26) fun M28 => f_X2_read_72 a1 a2 a3 FU ((nI 0), M28)
set_option maxRecDepth 100000 in
set_option maxHeartbeats 4000000 in
theorem n_X2_read_149 {a1 : Int32} {a2 : Nat} {a3 : Int32} (X : Cx p s m args meth c D cy ad A RX2 cX2_read 5 ((none : Option Jvm.ClassFile.FieldType))) (hN : NsC ns) (ha2 : Ob ns 5 a2) {k_150 : Bool → Mem → Option (Mem)} {M : Mem} {r : Mem} (hX : f_X2_read_149 a1 a2 a3 k_150 M = some r) : (∀ (s_0 : Bool) (M : Mem) (r : Mem), k_150 s_0 M = some r → ∀ (ls : Array Slot) (H : Heap) (locs : List Loc), lv_has ls 5 [(0, .ref (ad 10 0))] → St D cy ad ns A M s.heap H locs → W p l e rm_X2_read s m args below meth c H locs 0 0 (MQ below (QC D cy ad ns A r none) args s 0 0 A) (F0 m 150 ls [.int (b2i s_0)])) → ∀ (ls : Array Slot) (H : Heap) (locs : List Loc), lv_has ls 5 [(0, .ref (ad 10 0))] → St D cy ad ns A M s.heap H locs → W p l e rm_X2_read s m args below meth c H locs 0 0 (MQ below (QC D cy ad ns A r none) args s 0 0 A) (F0 m 149 ls []) := by
  obtain ⟨hx, hb, hml, hown, hts, hK, hr, hlk, hA, hG⟩ := id X
  intro hk_150 ls H locs hl hS
  unfold f_X2_read_149 at hX
  refine lv_iconst (v := nI 0) hx hb dX2_read_149 (by decide) ?_
  exact hk_150 _ _ _ hX _ _ _ (lv_sub hl [0] rfl) hS
set_option maxRecDepth 100000 in
set_option maxHeartbeats 4000000 in
theorem n_X2_read_125 {a1 : Int32} {a2 : Nat} {a3 : Int32} (X : Cx p s m args meth c D cy ad A RX2 cX2_read 5 ((none : Option Jvm.ClassFile.FieldType))) (hN : NsC ns) (ha2 : Ob ns 5 a2) {k_145 : Mem → Option (Mem)} {k_150 : Bool → Mem → Option (Mem)} {M : Mem} {r : Mem} (hX : f_X2_read_125 a1 a2 a3 k_145 k_150 M = some r) : (∀ (M : Mem) (r : Mem), k_145 M = some r → ∀ (ls : Array Slot) (H : Heap) (locs : List Loc), lv_has ls 5 [(0, .ref (ad 10 0))] → St D cy ad ns A M s.heap H locs → W p l e rm_X2_read s m args below meth c H locs 0 0 (MQ below (QC D cy ad ns A r none) args s 0 0 A) (F0 m 145 ls [])) → (∀ (s_0 : Bool) (M : Mem) (r : Mem), k_150 s_0 M = some r → ∀ (ls : Array Slot) (H : Heap) (locs : List Loc), lv_has ls 5 [(0, .ref (ad 10 0))] → St D cy ad ns A M s.heap H locs → W p l e rm_X2_read s m args below meth c H locs 0 0 (MQ below (QC D cy ad ns A r none) args s 0 0 A) (F0 m 150 ls [.int (b2i s_0)])) → ∀ (ls : Array Slot) (H : Heap) (locs : List Loc), lv_has ls 5 [(0, .ref (ad 10 0)), (1, .int a1)] → St D cy ad ns A M s.heap H locs → W p l e rm_X2_read s m args below meth c H locs 0 0 (MQ below (QC D cy ad ns A r none) args s 0 0 A) (F0 m 125 ls []) := by
  obtain ⟨hx, hb, hml, hown, hts, hK, hr, hlk, hA, hG⟩ := id X
  intro hk_145 hk_150 ls H locs hl hS
  unfold f_X2_read_125 at hX
  refine lv_iload_n hx hb dX2_read_125 rfl (lv_at hl 1 rfl) ?_
  refine lv_iconst (v := nI 2) hx hb dX2_read_126 (by decide) ?_
  refine lv_icmp_ne (tgt := 149) hx hb dX2_read_127 (by decide) (fun c1 => ?_) (fun c1 => ?_)
  · have hX := if_f c1 hX
    exact n_X2_read_149 X hN ha2 hX hk_150 _ _ _ (lv_sub hl [0] rfl) hS
  · have hX := if_t c1 hX
    refine lv_aload_n hx hb dX2_read_130 rfl (lv_at hl 0 rfl) ?_
    refine fg_X2_63 X hS (o_of hN (o := 10) (c := 2) (by decide) rfl) dX2_read_131 ?_
    refine lv_aload_n hx hb dX2_read_134 rfl (lv_at hl 0 rfl) ?_
    refine fg_X2_28 X hS (o_of hN (o := 10) (c := 2) (by decide) rfl) dX2_read_135 ?_
    refine fg_X2_95 X hS (o_of hN (o := 13) (c := 6) (by decide) rfl) dX2_read_138 ?_
    refine lv_ishr hx hb dX2_read_141 ?_
    refine lv_if_eq (tgt := 149) hx hb dX2_read_142 (by decide) (fun c2 => ?_) (fun c2 => ?_)
    · have hX := if_t c2 hX
      exact n_X2_read_149 X hN ha2 hX hk_150 _ _ _ (lv_sub hl [0] rfl) hS
    · have hX := if_f c2 hX
      exact hk_145 _ _ hX _ _ _ (lv_sub hl [0] rfl) hS
set_option maxRecDepth 100000 in
set_option maxHeartbeats 4000000 in
theorem n_X2_read_145 {a1 : Int32} {a2 : Nat} {a3 : Int32} (X : Cx p s m args meth c D cy ad A RX2 cX2_read 5 ((none : Option Jvm.ClassFile.FieldType))) (hN : NsC ns) (ha2 : Ob ns 5 a2) {k_150 : Bool → Mem → Option (Mem)} {M : Mem} {r : Mem} (hX : f_X2_read_145 a1 a2 a3 k_150 M = some r) : (∀ (s_0 : Bool) (M : Mem) (r : Mem), k_150 s_0 M = some r → ∀ (ls : Array Slot) (H : Heap) (locs : List Loc), lv_has ls 5 [(0, .ref (ad 10 0))] → St D cy ad ns A M s.heap H locs → W p l e rm_X2_read s m args below meth c H locs 0 0 (MQ below (QC D cy ad ns A r none) args s 0 0 A) (F0 m 150 ls [.int (b2i s_0)])) → ∀ (ls : Array Slot) (H : Heap) (locs : List Loc), lv_has ls 5 [(0, .ref (ad 10 0))] → St D cy ad ns A M s.heap H locs → W p l e rm_X2_read s m args below meth c H locs 0 0 (MQ below (QC D cy ad ns A r none) args s 0 0 A) (F0 m 145 ls []) := by
  obtain ⟨hx, hb, hml, hown, hts, hK, hr, hlk, hA, hG⟩ := id X
  intro hk_150 ls H locs hl hS
  unfold f_X2_read_145 at hX
  refine lv_iconst (v := nI 1) hx hb dX2_read_145 (by decide) ?_
  refine lv_goto (tgt := 150) hx hb dX2_read_146 (by decide) ?_
  exact hk_150 _ _ _ hX _ _ _ (lv_sub hl [0] rfl) hS
set_option maxRecDepth 100000 in
set_option maxHeartbeats 4000000 in
theorem n_X2_read_150 {a1 : Int32} {a2 : Nat} {a3 : Int32} (X : Cx p s m args meth c D cy ad A RX2 cX2_read 5 ((none : Option Jvm.ClassFile.FieldType))) (hN : NsC ns) (ha2 : Ob ns 5 a2) {s_0 : Bool} {M : Mem} {r : Mem} (hX : f_X2_read_150 a1 a2 a3 s_0 M = some r) : ∀ (ls : Array Slot) (H : Heap) (locs : List Loc), lv_has ls 5 [(0, .ref (ad 10 0))] → St D cy ad ns A M s.heap H locs → W p l e rm_X2_read s m args below meth c H locs 0 0 (MQ below (QC D cy ad ns A r none) args s 0 0 A) (F0 m 150 ls [.int (b2i s_0)]) := by
  obtain ⟨hx, hb, hml, hown, hts, hK, hr, hlk, hA, hG⟩ := id X
  intro ls H locs hl hS
  unfold f_X2_read_150 at hX
  refine lv_istore (lv' := [(4, .int (b2i s_0)), (0, .ref (ad 10 0))]) hx hb dX2_read_150 hl (by decide) rfl (fun ls hl => ?_)
  refine lv_iload hx hb dX2_read_152 (lv_at hl 0 rfl) ?_
  refine lv_if_eq (tgt := 166) hx hb dX2_read_154 (by decide) (fun c3 => ?_) (fun c3 => ?_)
  · have hX := if_bf c3 hX
    obtain rfl := some_of hX
    exact x_V X hS dX2_read_166
  · have hX := if_bt c3 hX
    refine lv_aload_n hx hb dX2_read_157 rfl (lv_at hl 1 rfl) ?_
    refine lv_iconst (v := nI 4) hx hb dX2_read_158 (by decide) ?_
    refine lv_aload_n hx hb dX2_read_159 rfl (lv_at hl 1 rfl) ?_
    refine fg_X2_56 X hS (o_of hN (o := 10) (c := 2) (by decide) rfl) dX2_read_160 ?_
    obtain ⟨M5, h4, hX⟩ := bn_of hX
    refine r_callV0 (As := [.int (nI 4), .int (gI M 10 7)]) (rest := []) X hS (m_X2_note hN h4) mv_X2_note rfl (o_of hN (o := 10) (c := 2) (by decide) rfl) t3_99 ⟨rfl, rfl, Nat.le_of_ble_eq_true rfl, Nat.le_of_ble_eq_true rfl⟩ rfl hl.1 rfl (Nat.le_of_ble_eq_true rfl) ⟨Nat.zero_le _, Nat.zero_le _⟩ dX2_read_163 (fun H locs hS => ?_)
    obtain rfl := some_of hX
    exact x_V X hS dX2_read_166
set_option maxRecDepth 100000 in
set_option maxHeartbeats 4000000 in
theorem n_X2_read_106 {a1 : Int32} {a2 : Nat} {a3 : Int32} (X : Cx p s m args meth c D cy ad A RX2 cX2_read 5 ((none : Option Jvm.ClassFile.FieldType))) (hN : NsC ns) (ha2 : Ob ns 5 a2) {M : Mem} {r : Mem} (hX : f_X2_read_106 a1 a2 a3 M = some r) : ∀ (ls : Array Slot) (H : Heap) (locs : List Loc), lv_has ls 5 [(0, .ref (ad 10 0)), (1, .int a1)] → St D cy ad ns A M s.heap H locs → W p l e rm_X2_read s m args below meth c H locs 0 0 (MQ below (QC D cy ad ns A r none) args s 0 0 A) (F0 m 106 ls []) := by
  obtain ⟨hx, hb, hml, hown, hts, hK, hr, hlk, hA, hG⟩ := id X
  intro ls H locs hl hS
  unfold f_X2_read_106 at hX
  refine lv_iload_n hx hb dX2_read_106 rfl (lv_at hl 1 rfl) ?_
  refine lv_if_ne (tgt := 125) hx hb dX2_read_107 (by decide) (fun c6 => ?_) (fun c6 => ?_)
  · have hX := if_f c6 hX
    exact n_X2_read_125 X hN ha2 hX (fun z0 r h ls H locs hl hS => n_X2_read_145 X hN ha2 h (fun z0 z1 r h ls H locs hl hS => n_X2_read_150 X hN ha2 h _ _ _ hl hS) _ _ _ hl hS) (fun z0 z1 r h ls H locs hl hS => n_X2_read_150 X hN ha2 h _ _ _ hl hS) _ _ _ (lv_sub hl [0, 1] rfl) hS
  · have hX := if_t c6 hX
    refine lv_aload_n hx hb dX2_read_110 rfl (lv_at hl 0 rfl) ?_
    refine fg_X2_63 X hS (o_of hN (o := 10) (c := 2) (by decide) rfl) dX2_read_111 ?_
    refine lv_aload_n hx hb dX2_read_114 rfl (lv_at hl 0 rfl) ?_
    refine fg_X2_12 X hS (o_of hN (o := 10) (c := 2) (by decide) rfl) dX2_read_115 ?_
    refine fg_X2_92 X hS (o_of hN (o := 11) (c := 0) (by decide) rfl) dX2_read_118 ?_
    refine lv_ishr hx hb dX2_read_121 ?_
    refine lv_if_ne (tgt := 145) hx hb dX2_read_122 (by decide) (fun c7 => ?_) (fun c7 => ?_)
    · have hX := if_f c7 hX
      exact n_X2_read_145 X hN ha2 hX (fun z0 z1 r h ls H locs hl hS => n_X2_read_150 X hN ha2 h _ _ _ hl hS) _ _ _ (lv_sub hl [0] rfl) hS
    · have hX := if_t c7 hX
      exact n_X2_read_125 X hN ha2 hX (fun z0 r h ls H locs hl hS => n_X2_read_145 X hN ha2 h (fun z0 z1 r h ls H locs hl hS => n_X2_read_150 X hN ha2 h _ _ _ hl hS) _ _ _ hl hS) (fun z0 z1 r h ls H locs hl hS => n_X2_read_150 X hN ha2 h _ _ _ hl hS) _ _ _ (lv_sub hl [0, 1] rfl) hS
set_option maxRecDepth 100000 in
set_option maxHeartbeats 4000000 in
theorem n_X2_read_72 {a1 : Int32} {a2 : Nat} {a3 : Int32} (X : Cx p s m args meth c D cy ad A RX2 cX2_read 5 ((none : Option Jvm.ClassFile.FieldType))) (hN : NsC ns) (ha2 : Ob ns 5 a2) : ∀ (n : Nat) (v_4 : Int32) (M : Mem) (r : Mem), f_X2_read_72 a1 a2 a3 n (v_4, M) = some r → ∀ (ls : Array Slot) (H : Heap) (locs : List Loc), lv_has ls 5 [(0, .ref (ad 10 0)), (1, .int a1), (4, .int v_4)] → St D cy ad ns A M s.heap H locs → W p l e rm_X2_read s m args below meth c H locs 0 0 (MQ below (QC D cy ad ns A r none) args s 0 0 A) (F0 m 72 ls []) := by
  obtain ⟨hx, hb, hml, hown, hts, hK, hr, hlk, hA, hG⟩ := id X
  intro n
  induction n with
  | zero => intro v_4 M r hX; cases (show (none : Option (Mem)) = some r from hX)
  | succ n ih =>
    intro v_4 M r hX ls H locs hl hS
    have hX : b_X2_read_72 a1 a2 a3 (fun x0 x1 => f_X2_read_72 a1 a2 a3 n (x0, x1)) v_4 M = some r := hX
    unfold b_X2_read_72 at hX
    refine lv_iload hx hb dX2_read_72 (lv_at hl 2 rfl) ?_
    refine lv_sipush (v := nI 600) hx hb dX2_read_74 (by decide) ?_
    refine lv_icmp_ge (tgt := 106) hx hb dX2_read_77 (by decide) (fun c8 => ?_) (fun c8 => ?_)
    · have hX := if_t c8 hX
      exact n_X2_read_106 X hN ha2 hX _ _ _ (lv_sub hl [0, 1] rfl) hS
    · have hX := if_f c8 hX
      refine lv_aload_n hx hb dX2_read_80 rfl (lv_at hl 0 rfl) ?_
      refine fg_X2_85 X hS (o_of hN (o := 10) (c := 2) (by decide) rfl) dX2_read_81 ?_
      refine lv_if_eq (tgt := 106) hx hb dX2_read_84 (by decide) (fun c9 => ?_) (fun c9 => ?_)
      · have hX := if_t c9 hX
        exact n_X2_read_106 X hN ha2 hX _ _ _ (lv_sub hl [0, 1] rfl) hS
      · have hX := if_f c9 hX
        refine lv_aload_n hx hb dX2_read_87 rfl (lv_at hl 0 rfl) ?_
        refine fg_X2_66 X hS (o_of hN (o := 10) (c := 2) (by decide) rfl) dX2_read_88 ?_
        refine lv_iconst (v := nI 1) hx hb dX2_read_91 (by decide) ?_
        refine lv_icmp_eq (tgt := 106) hx hb dX2_read_92 (by decide) (fun c10 => ?_) (fun c10 => ?_)
        · have hX := if_t c10 hX
          exact n_X2_read_106 X hN ha2 hX _ _ _ (lv_sub hl [0, 1] rfl) hS
        · have hX := if_f c10 hX
          refine lv_aload_n hx hb dX2_read_95 rfl (lv_at hl 0 rfl) ?_
          refine lv_iload_n hx hb dX2_read_96 rfl (lv_at hl 1 rfl) ?_
          obtain ⟨M12, h11, hX⟩ := bn_of hX
          refine r_callV0 (As := [.int a1]) (rest := []) X hS (m_X2_line hN h11) mv_X2_line rfl (o_of hN (o := 10) (c := 2) (by decide) rfl) t3_2 ⟨rfl, rfl, Nat.le_of_ble_eq_true rfl, Nat.le_of_ble_eq_true rfl⟩ rfl hl.1 rfl (Nat.le_of_ble_eq_true rfl) ⟨Nat.zero_le _, Nat.zero_le _⟩ dX2_read_97 (fun H locs hS => ?_)
          obtain ⟨v13, ev13⟩ : ∃ y : Int32, y = (v_4 + nI 1) := ⟨_, rfl⟩
          have hX := nm_of ev13 hX
          refine lv_iinc (v := v13) (lv' := [(4, .int v13), (0, .ref (ad 10 0)), (1, .int a1)]) hx hb dX2_read_100 hl (k := 2) rfl (by rw [ev13]; rfl) (by decide) rfl (fun ls hl => ?_)
          refine lv_goto (tgt := 72) hx hb dX2_read_103 (by decide) ?_
          exact ih _ _ _ hX _ _ _ (lv_sub hl [1, 2, 0] rfl) hS
set_option maxRecDepth 100000 in
set_option maxHeartbeats 4000000 in
theorem m_X2_read {l : Launch} {D : va_G} {cy : Nat → ClassId} {ad : Nat → Nat → Nat} {ns : List (Nat × Nat)} {A : Nat → Prop} {M : Mem} (hN : NsC ns) {a1 : Int32} {a2 : Nat} {a3 : Int32} (ha2 : Ob ns 5 a2) {r : Mem} (hX : f_X2_read M a1 a2 a3 = some r) : Ct l yX2_read cX2_read 5 ((none : Option Jvm.ClassFile.FieldType)) rm_X2_read D cy ad ns A [.ref (ad 10 0), .int a1, .ref (ad a2 (0 + 1)), .int a3] M r none := by
  refine ct_of (lv := [(0, .ref (ad 10 0)), (1, .int a1), (2, .ref (ad a2 (0 + 1))), (3, .int a3)]) (by decide) (Nat.le_of_ble_eq_true rfl) rfl ?_
  intro p e s m args below meth c ls X hl hS
  obtain ⟨hx, hb, hml, hown, hts, hK, hr, hlk, hA, hG⟩ := id X
  obtain ⟨H, hH⟩ : ∃ z, z = s.heap := ⟨_, rfl⟩
  obtain ⟨locs, hlo⟩ : ∃ z : List Loc, z = [] := ⟨_, rfl⟩
  have hS : St D cy ad ns A M s.heap H locs := by rw [hH, hlo]; exact hS
  have hgoal : W p l e rm_X2_read s m args below meth c H locs 0 0 (MQ below (QC D cy ad ns A r none) args s 0 0 A) (F0 m 0 ls []) := by
    unfold f_X2_read at hX
    refine lv_aload_n hx hb dX2_read_0 rfl (lv_at hl 0 rfl) ?_
    refine lv_aload_n hx hb dX2_read_1 rfl (lv_at hl 2 rfl) ?_
    refine fp_X2_46 X hS (o_of hN (o := 10) (c := 2) (by decide) rfl) hN ha2 dX2_read_2 (fun H locs hS => ?_)
    obtain ⟨M14, eM14, hS, hX⟩ := nm_mem hS hX
    refine lv_aload_n hx hb dX2_read_5 rfl (lv_at hl 0 rfl) ?_
    refine lv_iload_n hx hb dX2_read_6 rfl (lv_at hl 3 rfl) ?_
    refine lv_aload_n hx hb dX2_read_7 rfl (lv_at hl 2 rfl) ?_
    refine r_alen (ci := 5) (o := a2) (k := 0) (n := 600) (v := nI 600) X hS ha2 rfl rfl rfl dX2_read_8 ?_
    refine va_mmin hx hb (hml.trans hl.1.symm) (own := RX2) hown (hts _ t2_214) (hts _ jm_min.1) (hts _ jm_min.2.1) (hts _ jm_min.2.2) (Nat.le_of_ble_eq_true rfl) (Nat.le_of_ble_eq_true rfl) (Nat.zero_le _) (Nat.zero_le _) dX2_read_9 ?_
    refine lv_topi (fun v15 ev15 => ?_)
    have hX := nm_of ev15 hX
    refine fp_X2_56 X hS (o_of hN (o := 10) (c := 2) (by decide) rfl) dX2_read_12 (fun H locs hS => ?_)
    obtain ⟨M16, eM16, hS, hX⟩ := nm_mem hS hX
    refine lv_aload_n hx hb dX2_read_15 rfl (lv_at hl 0 rfl) ?_
    refine lv_iconst (v := nI 0) hx hb dX2_read_16 (by decide) ?_
    refine fp_X2_60 X hS (o_of hN (o := 10) (c := 2) (by decide) rfl) dX2_read_17 (fun H locs hS => ?_)
    obtain ⟨M17, eM17, hS, hX⟩ := nm_mem hS hX
    refine lv_aload_n hx hb dX2_read_20 rfl (lv_at hl 0 rfl) ?_
    refine lv_iconst (v := nI 0) hx hb dX2_read_21 (by decide) ?_
    refine fp_X2_63 X hS (o_of hN (o := 10) (c := 2) (by decide) rfl) dX2_read_22 (fun H locs hS => ?_)
    obtain ⟨M18, eM18, hS, hX⟩ := nm_mem hS hX
    refine lv_aload_n hx hb dX2_read_25 rfl (lv_at hl 0 rfl) ?_
    refine lv_iconst (v := nI 0) hx hb dX2_read_26 (by decide) ?_
    refine fp_X2_66 X hS (o_of hN (o := 10) (c := 2) (by decide) rfl) dX2_read_27 (fun H locs hS => ?_)
    obtain ⟨M19, eM19, hS, hX⟩ := nm_mem hS hX
    refine lv_aload_n hx hb dX2_read_30 rfl (lv_at hl 0 rfl) ?_
    refine lv_iconst (v := (-1)) hx hb dX2_read_31 (by decide) ?_
    refine fp_X2_69 X hS (o_of hN (o := 10) (c := 2) (by decide) rfl) dX2_read_32 (fun H locs hS => ?_)
    obtain ⟨M20, eM20, hS, hX⟩ := nm_mem hS hX
    refine lv_aload_n hx hb dX2_read_35 rfl (lv_at hl 0 rfl) ?_
    refine fg_X2_12 X hS (o_of hN (o := 10) (c := 2) (by decide) rfl) dX2_read_36 ?_
    obtain ⟨M22, h21, hX⟩ := bn_of hX
    refine r_callV0 (As := []) (rest := []) X hS (m_X0_clear hN (o_of hN (o := 11) (c := 0) (by decide) rfl) h21) mv_X0_clear rfl (o_of hN (o := 11) (c := 0) (by decide) rfl) t2_217 ⟨rfl, rfl, Nat.le_of_ble_eq_true rfl, Nat.le_of_ble_eq_true rfl⟩ rfl hl.1 rfl (Nat.le_of_ble_eq_true rfl) ⟨Nat.zero_le _, Nat.zero_le _⟩ dX2_read_39 (fun H locs hS => ?_)
    refine lv_aload_n hx hb dX2_read_42 rfl (lv_at hl 0 rfl) ?_
    refine fg_X2_21 X hS (o_of hN (o := 10) (c := 2) (by decide) rfl) dX2_read_43 ?_
    refine lv_iconst (v := nI 0) hx hb dX2_read_46 (by decide) ?_
    refine fp_X2_75 X hS (o_of hN (o := 12) (c := 1) (by decide) rfl) dX2_read_47 (fun H locs hS => ?_)
    obtain ⟨M23, eM23, hS, hX⟩ := nm_mem hS hX
    refine lv_aload_n hx hb dX2_read_50 rfl (lv_at hl 0 rfl) ?_
    refine fg_X2_28 X hS (o_of hN (o := 10) (c := 2) (by decide) rfl) dX2_read_51 ?_
    obtain ⟨M25, h24, hX⟩ := bn_of hX
    refine r_callV0 (As := []) (rest := []) X hS (m_X6_clear hN (o_of hN (o := 13) (c := 6) (by decide) rfl) h24) mv_X6_clear rfl (o_of hN (o := 13) (c := 6) (by decide) rfl) t2_224 ⟨rfl, rfl, Nat.le_of_ble_eq_true rfl, Nat.le_of_ble_eq_true rfl⟩ rfl hl.1 rfl (Nat.le_of_ble_eq_true rfl) ⟨Nat.zero_le _, Nat.zero_le _⟩ dX2_read_54 (fun H locs hS => ?_)
    refine lv_aload_n hx hb dX2_read_57 rfl (lv_at hl 0 rfl) ?_
    refine fg_X2_35 X hS (o_of hN (o := 10) (c := 2) (by decide) rfl) dX2_read_58 ?_
    refine lv_iconst (v := nI 0) hx hb dX2_read_61 (by decide) ?_
    refine fp_X2_79 X hS (o_of hN (o := 14) (c := 4) (by decide) rfl) dX2_read_62 (fun H locs hS => ?_)
    obtain ⟨M26, eM26, hS, hX⟩ := nm_mem hS hX
    refine lv_aload_n hx hb dX2_read_65 rfl (lv_at hl 0 rfl) ?_
    obtain ⟨M28, h27, hX⟩ := bn_of hX
    refine r_callV0 (As := []) (rest := []) X hS (m_X2_step hN h27) mv_X2_step rfl (o_of hN (o := 10) (c := 2) (by decide) rfl) t2_229 ⟨rfl, rfl, Nat.le_of_ble_eq_true rfl, Nat.le_of_ble_eq_true rfl⟩ rfl hl.1 rfl (Nat.le_of_ble_eq_true rfl) ⟨Nat.zero_le _, Nat.zero_le _⟩ dX2_read_66 (fun H locs hS => ?_)
    refine lv_iconst (v := nI 0) hx hb dX2_read_69 (by decide) ?_
    refine lv_istore (lv' := [(4, .int (nI 0)), (0, .ref (ad 10 0)), (1, .int a1), (2, .ref (ad a2 (0 + 1))), (3, .int a3)]) hx hb dX2_read_70 hl (by decide) rfl (fun ls hl => ?_)
    exact n_X2_read_72 X hN ha2 _ _ _ _ hX _ _ _ (lv_sub hl [1, 2, 0] rfl) hS
  rw [hH, hlo] at hgoal
  exact hgoal
theorem mv_X2_read : Mv yX2_read RX2 cX2_read 5 ((none : Option Jvm.ClassFile.FieldType)) 3 := ⟨t2_213, t2_211, t2_212, t1_7, ⟨by decide, by decide⟩, by decide +kernel⟩
end MT_17_X2
