section FR_25_X9d
variable {p : Program} {l : Launch} {e : Env} {R : Room} {s : State} {m : MethodId} {args : Array Value} {below : List Frame} {meth : Method} {c : Code} {H : Heap} {locs : List Loc} {cells slots : Nat} {Q : State → Prop} {D : va_G} {cy : Nat → ClassId} {ad : Nat → Nat → Nat} {ns : List (Nat × Nat)} {A : Nat → Prop} {M M' : Mem} {cc : ByteArray} {nL : Nat} {ret : Option FieldType} {pc : Nat} {ls : Array Slot} {rest : List Value}
theorem fg_X9_16 (X : Cx p s m args meth c D cy ad A RX9 cc nL ret) (hS : St D cy ad ns A M s.heap H locs) (ho : Ob ns 9 0) (hdg : decode cc pc = .ok (.getfield 16, 3)) (kk : W p l e R s m args below meth c H locs cells slots Q (F0 m (pc + 3) ls (.ref (ad 0 (1 + 1)) :: rest))) : W p l e R s m args below meth c H locs cells slots Q (F0 m pc ls (.ref (ad 0 0) :: rest)) := r_get X hS (C := RX9) (T := TX9) (N := 6) (k := 1) tf9 rfl rfl ho (by decide) t2_168 ⟨rfl, rfl, rfl⟩ rfl hdg kk
theorem fg_X9_23 (X : Cx p s m args meth c D cy ad A RX9 cc nL ret) (hS : St D cy ad ns A M s.heap H locs) (ho : Ob ns 9 0) (hdg : decode cc pc = .ok (.getfield 23, 3)) (kk : W p l e R s m args below meth c H locs cells slots Q (F0 m (pc + 3) ls (.ref (ad 10 0) :: rest))) : W p l e R s m args below meth c H locs cells slots Q (F0 m pc ls (.ref (ad 0 0) :: rest)) := r_get X hS (C := RX9) (T := TX9) (N := 6) (k := 2) tf9 rfl rfl ho (by decide) t2_169 ⟨rfl, rfl, rfl⟩ rfl hdg kk
theorem fg_X9_30 (X : Cx p s m args meth c D cy ad A RX9 cc nL ret) (hS : St D cy ad ns A M s.heap H locs) (ho : Ob ns 9 0) (hdg : decode cc pc = .ok (.getfield 30, 3)) (kk : W p l e R s m args below meth c H locs cells slots Q (F0 m (pc + 3) ls (.ref (ad 15 0) :: rest))) : W p l e R s m args below meth c H locs cells slots Q (F0 m pc ls (.ref (ad 0 0) :: rest)) := r_get X hS (C := RX9) (T := TX9) (N := 6) (k := 3) tf9 rfl rfl ho (by decide) t2_170 ⟨rfl, rfl, rfl⟩ rfl hdg kk
theorem fg_X9_44 (X : Cx p s m args meth c D cy ad A RX9 cc nL ret) (hS : St D cy ad ns A M s.heap H locs) (ho : Ob ns 9 0) (hdg : decode cc pc = .ok (.getfield 44, 3)) (kk : W p l e R s m args below meth c H locs cells slots Q (F0 m (pc + 3) ls (.ref (ad 19 0) :: rest))) : W p l e R s m args below meth c H locs cells slots Q (F0 m pc ls (.ref (ad 0 0) :: rest)) := r_get X hS (C := RX9) (T := TX9) (N := 6) (k := 5) tf9 rfl rfl ho (by decide) t2_172 ⟨rfl, rfl, rfl⟩ rfl hdg kk
theorem fg_X9_48 (X : Cx p s m args meth c D cy ad A RX9 cc nL ret) (hS : St D cy ad ns A M s.heap H locs) {o : Nat} (ho : Ob ns 5 o) (hdg : decode cc pc = .ok (.getfield 48, 3)) (kk : W p l e R s m args below meth c H locs cells slots Q (F0 m (pc + 3) ls (.int (gI M o 1) :: rest))) : W p l e R s m args below meth c H locs cells slots Q (F0 m pc ls (.ref (ad o 0) :: rest)) := r_get X hS (C := RX5) (T := TX5) (N := 9) (k := 1) tf5 rfl rfl ho (by decide) t1_191 ⟨rfl, rfl, rfl⟩ (by unfold fv; rw [ho.1]; rfl) hdg kk
theorem fp_X9_48 (X : Cx p s m args meth c D cy ad A RX9 cc nL ret) (hS : St D cy ad ns A M s.heap H locs) {o : Nat} (ho : Ob ns 5 o) {v : Int32} (hdg : decode cc pc = .ok (.putfield 48, 3)) (kk : ∀ (H1 : Heap) (locs1 : List Loc), St D cy ad ns A (sI M o 1 v) s.heap H1 locs1 → W p l e R s m args below meth c H1 locs1 cells slots Q (F0 m (pc + 3) ls rest)) : W p l e R s m args below meth c H locs cells slots Q (F0 m pc ls (.int v :: .ref (ad o 0) :: rest)) := r_put X hS (C := RX5) (T := TX5) (N := 9) (k := 1) tf5 rfl rfl tyX5 tyX5_ok nmX5 ho (by decide) t1_191 ⟨rfl, rfl, rfl⟩ rfl (ty := .int) (by decide +kernel) rfl rfl (wr_sI hS.1.2.2) (cel_sI (by rw [ho.1]; decide) (by rw [ho.1]; rfl)) (fun q hq => cel_sI' hq) hdg kk
theorem fg_X9_64 (X : Cx p s m args meth c D cy ad A RX9 cc nL ret) (hS : St D cy ad ns A M s.heap H locs) {o : Nat} (ho : Ob ns 5 o) (hdg : decode cc pc = .ok (.getfield 64, 3)) (kk : W p l e R s m args below meth c H locs cells slots Q (F0 m (pc + 3) ls (.ref (ad o (0 + 1)) :: rest))) : W p l e R s m args below meth c H locs cells slots Q (F0 m pc ls (.ref (ad o 0) :: rest)) := r_get X hS (C := RX5) (T := TX5) (N := 9) (k := 0) tf5 rfl rfl ho (by decide) t1_190 ⟨rfl, rfl, rfl⟩ (by unfold fv; rw [ho.1]; rfl) hdg kk
theorem fg_X9_72 (X : Cx p s m args meth c D cy ad A RX9 cc nL ret) (hS : St D cy ad ns A M s.heap H locs) (ho : Ob ns 2 10) (hdg : decode cc pc = .ok (.getfield 72, 3)) (kk : W p l e R s m args below meth c H locs cells slots Q (F0 m (pc + 3) ls (.int (gI M 10 12) :: rest))) : W p l e R s m args below meth c H locs cells slots Q (F0 m pc ls (.ref (ad 10 0) :: rest)) := r_get X hS (C := RX2) (T := TX2) (N := 14) (k := 12) tf2 rfl rfl ho (by decide) t2_18 ⟨rfl, rfl, rfl⟩ rfl hdg kk
theorem fg_X9_75 (X : Cx p s m args meth c D cy ad A RX9 cc nL ret) (hS : St D cy ad ns A M s.heap H locs) (ho : Ob ns 2 10) (hdg : decode cc pc = .ok (.getfield 75, 3)) (kk : W p l e R s m args below meth c H locs cells slots Q (F0 m (pc + 3) ls (.int (gI M 10 13) :: rest))) : W p l e R s m args below meth c H locs cells slots Q (F0 m pc ls (.ref (ad 10 0) :: rest)) := r_get X hS (C := RX2) (T := TX2) (N := 14) (k := 13) tf2 rfl rfl ho (by decide) t2_20 ⟨rfl, rfl, rfl⟩ rfl hdg kk
theorem fg_X9_82 (X : Cx p s m args meth c D cy ad A RX9 cc nL ret) (hS : St D cy ad ns A M s.heap H locs) {o : Nat} (ho : Ob ns 5 o) (hdg : decode cc pc = .ok (.getfield 82, 3)) (kk : W p l e R s m args below meth c H locs cells slots Q (F0 m (pc + 3) ls (.int (gI M o 2) :: rest))) : W p l e R s m args below meth c H locs cells slots Q (F0 m pc ls (.ref (ad o 0) :: rest)) := r_get X hS (C := RX5) (T := TX5) (N := 9) (k := 2) tf5 rfl rfl ho (by decide) t1_194 ⟨rfl, rfl, rfl⟩ (by unfold fv; rw [ho.1]; rfl) hdg kk
theorem fg_X9_83 (X : Cx p s m args meth c D cy ad A RX9 cc nL ret) (hS : St D cy ad ns A M s.heap H locs) {o : Nat} (ho : Ob ns 5 o) (hdg : decode cc pc = .ok (.getfield 83, 3)) (kk : W p l e R s m args below meth c H locs cells slots Q (F0 m (pc + 3) ls (.int (gI M o 3) :: rest))) : W p l e R s m args below meth c H locs cells slots Q (F0 m pc ls (.ref (ad o 0) :: rest)) := r_get X hS (C := RX5) (T := TX5) (N := 9) (k := 3) tf5 rfl rfl ho (by decide) t1_196 ⟨rfl, rfl, rfl⟩ (by unfold fv; rw [ho.1]; rfl) hdg kk
theorem fg_X9_102 (X : Cx p s m args meth c D cy ad A RX9 cc nL ret) (hS : St D cy ad ns A M s.heap H locs) {o : Nat} (ho : Ob ns 1 o) (hdg : decode cc pc = .ok (.getfield 102, 3)) (kk : W p l e R s m args below meth c H locs cells slots Q (F0 m (pc + 3) ls (.int (gI M o 0) :: rest))) : W p l e R s m args below meth c H locs cells slots Q (F0 m pc ls (.ref (ad o 0) :: rest)) := r_get X hS (C := RX1) (T := TX1) (N := 3) (k := 0) tf1 rfl rfl ho (by decide) t1_95 ⟨rfl, rfl, rfl⟩ (by unfold fv; rw [ho.1]; rfl) hdg kk
theorem fg_X9_126 (X : Cx p s m args meth c D cy ad A RX9 cc nL ret) (hS : St D cy ad ns A M s.heap H locs) (ho : Ob ns 3 17) (hdg : decode cc pc = .ok (.getfield 126, 3)) (kk : W p l e R s m args below meth c H locs cells slots Q (F0 m (pc + 3) ls (.ref (ad 17 (4 + 1)) :: rest))) : W p l e R s m args below meth c H locs cells slots Q (F0 m pc ls (.ref (ad 17 0) :: rest)) := r_get X hS (C := RX3) (T := TX3) (N := 10) (k := 4) tf3 rfl rfl ho (by decide) t2_99 ⟨rfl, rfl, rfl⟩ rfl hdg kk
theorem fg_X9_150 (X : Cx p s m args meth c D cy ad A RX9 cc nL ret) (hS : St D cy ad ns A M s.heap H locs) {o : Nat} (ho : Ob ns 0 o) (hdg : decode cc pc = .ok (.getfield 150, 3)) (kk : W p l e R s m args below meth c H locs cells slots Q (F0 m (pc + 3) ls (.int (gI M o 1) :: rest))) : W p l e R s m args below meth c H locs cells slots Q (F0 m pc ls (.ref (ad o 0) :: rest)) := r_get X hS (C := RX0) (T := TX0) (N := 7) (k := 1) tf0 rfl rfl ho (by decide) t1_50 ⟨rfl, rfl, rfl⟩ (by unfold fv; rw [ho.1]; rfl) hdg kk
theorem fg_X9_168 (X : Cx p s m args meth c D cy ad A RX9 cc nL ret) (hS : St D cy ad ns A M s.heap H locs) {o : Nat} (ho : Ob ns 6 o) (hdg : decode cc pc = .ok (.getfield 168, 3)) (kk : W p l e R s m args below meth c H locs cells slots Q (F0 m (pc + 3) ls (.int (gI M o 0) :: rest))) : W p l e R s m args below meth c H locs cells slots Q (F0 m pc ls (.ref (ad o 0) :: rest)) := r_get X hS (C := RX6) (T := TX6) (N := 11) (k := 0) tf6 rfl rfl ho (by decide) t1_116 ⟨rfl, rfl, rfl⟩ (by unfold fv; rw [ho.1]; rfl) hdg kk
theorem fg_X9_171 (X : Cx p s m args meth c D cy ad A RX9 cc nL ret) (hS : St D cy ad ns A M s.heap H locs) {o : Nat} (ho : Ob ns 6 o) (hdg : decode cc pc = .ok (.getfield 171, 3)) (kk : W p l e R s m args below meth c H locs cells slots Q (F0 m (pc + 3) ls (.int (gI M o 1) :: rest))) : W p l e R s m args below meth c H locs cells slots Q (F0 m pc ls (.ref (ad o 0) :: rest)) := r_get X hS (C := RX6) (T := TX6) (N := 11) (k := 1) tf6 rfl rfl ho (by decide) t1_119 ⟨rfl, rfl, rfl⟩ (by unfold fv; rw [ho.1]; rfl) hdg kk
theorem fg_X9_181 (X : Cx p s m args meth c D cy ad A RX9 cc nL ret) (hS : St D cy ad ns A M s.heap H locs) (ho : Ob ns 7 19) (hdg : decode cc pc = .ok (.getfield 181, 3)) (kk : W p l e R s m args below meth c H locs cells slots Q (F0 m (pc + 3) ls (.ref (ad 19 (7 + 1)) :: rest))) : W p l e R s m args below meth c H locs cells slots Q (F0 m pc ls (.ref (ad 19 0) :: rest)) := r_get X hS (C := RX7) (T := TX7) (N := 10) (k := 7) tf7 rfl rfl ho (by decide) t2_142 ⟨rfl, rfl, rfl⟩ rfl hdg kk
theorem fg_X9_187 (X : Cx p s m args meth c D cy ad A RX9 cc nL ret) (hS : St D cy ad ns A M s.heap H locs) (ho : Ob ns 7 19) (hdg : decode cc pc = .ok (.getfield 187, 3)) (kk : W p l e R s m args below meth c H locs cells slots Q (F0 m (pc + 3) ls (.ref (ad 19 (9 + 1)) :: rest))) : W p l e R s m args below meth c H locs cells slots Q (F0 m pc ls (.ref (ad 19 0) :: rest)) := r_get X hS (C := RX7) (T := TX7) (N := 10) (k := 9) tf7 rfl rfl ho (by decide) t2_145 ⟨rfl, rfl, rfl⟩ rfl hdg kk
theorem fg_X9_190 (X : Cx p s m args meth c D cy ad A RX9 cc nL ret) (hS : St D cy ad ns A M s.heap H locs) {o : Nat} (ho : Ob ns 6 o) (hdg : decode cc pc = .ok (.getfield 190, 3)) (kk : W p l e R s m args below meth c H locs cells slots Q (F0 m (pc + 3) ls (.int (gI M o 4) :: rest))) : W p l e R s m args below meth c H locs cells slots Q (F0 m pc ls (.ref (ad o 0) :: rest)) := r_get X hS (C := RX6) (T := TX6) (N := 11) (k := 4) tf6 rfl rfl ho (by decide) t1_127 ⟨rfl, rfl, rfl⟩ (by unfold fv; rw [ho.1]; rfl) hdg kk
theorem fg_X9_265 (X : Cx p s m args meth c D cy ad A RX9 cc nL ret) (hS : St D cy ad ns A M s.heap H locs) {o : Nat} (ho : Ob ns 0 o) (hdg : decode cc pc = .ok (.getfield 265, 3)) (kk : W p l e R s m args below meth c H locs cells slots Q (F0 m (pc + 3) ls (.ref (ad o (6 + 1)) :: rest))) : W p l e R s m args below meth c H locs cells slots Q (F0 m pc ls (.ref (ad o 0) :: rest)) := r_get X hS (C := RX0) (T := TX0) (N := 7) (k := 6) tf0 rfl rfl ho (by decide) t1_67 ⟨rfl, rfl, rfl⟩ (by unfold fv; rw [ho.1]; rfl) hdg kk
theorem fg_X9_271 (X : Cx p s m args meth c D cy ad A RX9 cc nL ret) (hS : St D cy ad ns A M s.heap H locs) {o : Nat} (ho : Ob ns 6 o) (hdg : decode cc pc = .ok (.getfield 271, 3)) (kk : W p l e R s m args below meth c H locs cells slots Q (F0 m (pc + 3) ls (.ref (ad o (5 + 1)) :: rest))) : W p l e R s m args below meth c H locs cells slots Q (F0 m pc ls (.ref (ad o 0) :: rest)) := r_get X hS (C := RX6) (T := TX6) (N := 11) (k := 5) tf6 rfl rfl ho (by decide) t1_130 ⟨rfl, rfl, rfl⟩ (by unfold fv; rw [ho.1]; rfl) hdg kk
theorem fg_X9_274 (X : Cx p s m args meth c D cy ad A RX9 cc nL ret) (hS : St D cy ad ns A M s.heap H locs) {o : Nat} (ho : Ob ns 6 o) (hdg : decode cc pc = .ok (.getfield 274, 3)) (kk : W p l e R s m args below meth c H locs cells slots Q (F0 m (pc + 3) ls (.ref (ad o (6 + 1)) :: rest))) : W p l e R s m args below meth c H locs cells slots Q (F0 m pc ls (.ref (ad o 0) :: rest)) := r_get X hS (C := RX6) (T := TX6) (N := 11) (k := 6) tf6 rfl rfl ho (by decide) t1_133 ⟨rfl, rfl, rfl⟩ (by unfold fv; rw [ho.1]; rfl) hdg kk
theorem fg_X9_281 (X : Cx p s m args meth c D cy ad A RX9 cc nL ret) (hS : St D cy ad ns A M s.heap H locs) {o : Nat} (ho : Ob ns 5 o) (hdg : decode cc pc = .ok (.getfield 281, 3)) (kk : W p l e R s m args below meth c H locs cells slots Q (F0 m (pc + 3) ls (.ref (ad o (4 + 1)) :: rest))) : W p l e R s m args below meth c H locs cells slots Q (F0 m pc ls (.ref (ad o 0) :: rest)) := r_get X hS (C := RX5) (T := TX5) (N := 9) (k := 4) tf5 rfl rfl ho (by decide) t1_198 ⟨rfl, rfl, rfl⟩ (by unfold fv; rw [ho.1]; rfl) hdg kk
end FR_25_X9d
section MT_25_X9d
variable {p : Program} {l : Launch} {e : Env} {s : State} {m : MethodId} {args : Array Value} {below : List Frame} {meth : Method} {c : Code} {D : va_G} {cy : Nat → ClassId} {ad : Nat → Nat → Nat} {ns : List (Nat × Nat)} {A : Nat → Prop}
/-! SewnYear.feed(IIIII)I -/
def rm_X9_feed : Room := { frames := 1, cells := 0, slots := 0, locals := 22 }
def f_X9_feed (M : Mem) (a1 : Int32) (a2 : Int32) (a3 : Int32) (a4 : Int32) (a5 : Int32) : Option (Int32 × Mem) :=
  if ((gI M 1 1) + (nI 20)) ≤ (nI 600) then (bn (f_X5_put M 1 a1) fun M3 => bn (f_X5_put M3 1 a2) fun M5 => bn (f_X5_put M5 1 a3) fun M7 => bn (f_X5_put M7 1 a4) fun M9 => bn (f_X5_put M9 1 a5) fun M11 => some ((gI M11 1 1), M11)) else (some ((-1), M))
set_option maxRecDepth 100000 in
set_option maxHeartbeats 4000000 in
theorem m_X9_feed {l : Launch} {D : va_G} {cy : Nat → ClassId} {ad : Nat → Nat → Nat} {ns : List (Nat × Nat)} {A : Nat → Prop} {M : Mem} (hN : NsC ns) {a1 : Int32} {a2 : Int32} {a3 : Int32} {a4 : Int32} {a5 : Int32} {r : Int32 × Mem} (hX : f_X9_feed M a1 a2 a3 a4 a5 = some r) : Ct l yX9_feed cX9_feed 6 ((some .int)) rm_X9_feed D cy ad ns A [.ref (ad 0 0), .int a1, .int a2, .int a3, .int a4, .int a5] M r.2 (some (.int r.1)) := by
  refine ct_of (lv := [(0, .ref (ad 0 0)), (1, .int a1), (2, .int a2), (3, .int a3), (4, .int a4), (5, .int a5)]) (by decide) (Nat.le_of_ble_eq_true rfl) rfl ?_
  intro p e s m args below meth c ls X hl hS
  obtain ⟨hx, hb, hml, hown, hts, hK, hr, hlk, hA, hG⟩ := id X
  obtain ⟨H, hH⟩ : ∃ z, z = s.heap := ⟨_, rfl⟩
  obtain ⟨locs, hlo⟩ : ∃ z : List Loc, z = [] := ⟨_, rfl⟩
  have hS : St D cy ad ns A M s.heap H locs := by rw [hH, hlo]; exact hS
  have hgoal : W p l e rm_X9_feed s m args below meth c H locs 0 0 (MQ below (QC D cy ad ns A r.2 (some (.int r.1))) args s 0 0 A) (F0 m 0 ls []) := by
    unfold f_X9_feed at hX
    refine lv_aload_n hx hb dX9_feed_0 rfl (lv_at hl 0 rfl) ?_
    refine fg_X9_12 X hS (o_of hN (o := 0) (c := 9) (by decide) rfl) dX9_feed_1 ?_
    refine fg_X9_48 X hS (o_of hN (o := 1) (c := 5) (by decide) rfl) dX9_feed_4 ?_
    refine lv_bipush (v := nI 20) hx hb dX9_feed_7 (by decide) ?_
    refine lv_iadd hx hb dX9_feed_9 ?_
    refine lv_sipush (v := nI 600) hx hb dX9_feed_10 (by decide) ?_
    refine lv_icmp_le (tgt := 18) hx hb dX9_feed_13 (by decide) (fun c1 => ?_) (fun c1 => ?_)
    · have hX := if_t c1 hX
      refine lv_aload_n hx hb dX9_feed_18 rfl (lv_at hl 0 rfl) ?_
      refine fg_X9_12 X hS (o_of hN (o := 0) (c := 9) (by decide) rfl) dX9_feed_19 ?_
      refine lv_iload_n hx hb dX9_feed_22 rfl (lv_at hl 1 rfl) ?_
      obtain ⟨M3, h2, hX⟩ := bn_of hX
      refine r_callV0 (As := [.int a1]) (rest := []) X hS (m_X5_put hN (o_of hN (o := 1) (c := 5) (by decide) rfl) h2) mv_X5_put rfl (o_of hN (o := 1) (c := 5) (by decide) rfl) t2_190 ⟨rfl, rfl, Nat.le_of_ble_eq_true rfl, Nat.le_of_ble_eq_true rfl⟩ rfl hl.1 rfl (Nat.le_of_ble_eq_true rfl) ⟨Nat.zero_le _, Nat.zero_le _⟩ dX9_feed_23 (fun H locs hS => ?_)
      refine lv_aload_n hx hb dX9_feed_26 rfl (lv_at hl 0 rfl) ?_
      refine fg_X9_12 X hS (o_of hN (o := 0) (c := 9) (by decide) rfl) dX9_feed_27 ?_
      refine lv_iload_n hx hb dX9_feed_30 rfl (lv_at hl 2 rfl) ?_
      obtain ⟨M5, h4, hX⟩ := bn_of hX
      refine r_callV0 (As := [.int a2]) (rest := []) X hS (m_X5_put hN (o_of hN (o := 1) (c := 5) (by decide) rfl) h4) mv_X5_put rfl (o_of hN (o := 1) (c := 5) (by decide) rfl) t2_190 ⟨rfl, rfl, Nat.le_of_ble_eq_true rfl, Nat.le_of_ble_eq_true rfl⟩ rfl hl.1 rfl (Nat.le_of_ble_eq_true rfl) ⟨Nat.zero_le _, Nat.zero_le _⟩ dX9_feed_31 (fun H locs hS => ?_)
      refine lv_aload_n hx hb dX9_feed_34 rfl (lv_at hl 0 rfl) ?_
      refine fg_X9_12 X hS (o_of hN (o := 0) (c := 9) (by decide) rfl) dX9_feed_35 ?_
      refine lv_iload_n hx hb dX9_feed_38 rfl (lv_at hl 3 rfl) ?_
      obtain ⟨M7, h6, hX⟩ := bn_of hX
      refine r_callV0 (As := [.int a3]) (rest := []) X hS (m_X5_put hN (o_of hN (o := 1) (c := 5) (by decide) rfl) h6) mv_X5_put rfl (o_of hN (o := 1) (c := 5) (by decide) rfl) t2_190 ⟨rfl, rfl, Nat.le_of_ble_eq_true rfl, Nat.le_of_ble_eq_true rfl⟩ rfl hl.1 rfl (Nat.le_of_ble_eq_true rfl) ⟨Nat.zero_le _, Nat.zero_le _⟩ dX9_feed_39 (fun H locs hS => ?_)
      refine lv_aload_n hx hb dX9_feed_42 rfl (lv_at hl 0 rfl) ?_
      refine fg_X9_12 X hS (o_of hN (o := 0) (c := 9) (by decide) rfl) dX9_feed_43 ?_
      refine lv_iload hx hb dX9_feed_46 (lv_at hl 4 rfl) ?_
      obtain ⟨M9, h8, hX⟩ := bn_of hX
      refine r_callV0 (As := [.int a4]) (rest := []) X hS (m_X5_put hN (o_of hN (o := 1) (c := 5) (by decide) rfl) h8) mv_X5_put rfl (o_of hN (o := 1) (c := 5) (by decide) rfl) t2_190 ⟨rfl, rfl, Nat.le_of_ble_eq_true rfl, Nat.le_of_ble_eq_true rfl⟩ rfl hl.1 rfl (Nat.le_of_ble_eq_true rfl) ⟨Nat.zero_le _, Nat.zero_le _⟩ dX9_feed_48 (fun H locs hS => ?_)
      refine lv_aload_n hx hb dX9_feed_51 rfl (lv_at hl 0 rfl) ?_
      refine fg_X9_12 X hS (o_of hN (o := 0) (c := 9) (by decide) rfl) dX9_feed_52 ?_
      refine lv_iload hx hb dX9_feed_55 (lv_at hl 5 rfl) ?_
      obtain ⟨M11, h10, hX⟩ := bn_of hX
      refine r_callV0 (As := [.int a5]) (rest := []) X hS (m_X5_put hN (o_of hN (o := 1) (c := 5) (by decide) rfl) h10) mv_X5_put rfl (o_of hN (o := 1) (c := 5) (by decide) rfl) t2_190 ⟨rfl, rfl, Nat.le_of_ble_eq_true rfl, Nat.le_of_ble_eq_true rfl⟩ rfl hl.1 rfl (Nat.le_of_ble_eq_true rfl) ⟨Nat.zero_le _, Nat.zero_le _⟩ dX9_feed_57 (fun H locs hS => ?_)
      refine lv_aload_n hx hb dX9_feed_60 rfl (lv_at hl 0 rfl) ?_
      refine fg_X9_12 X hS (o_of hN (o := 0) (c := 9) (by decide) rfl) dX9_feed_61 ?_
      refine fg_X9_48 X hS (o_of hN (o := 1) (c := 5) (by decide) rfl) dX9_feed_64 ?_
      obtain rfl := some_of hX
      exact x_I (v := (gI M11 1 1)) X hS dX9_feed_67
    · have hX := if_f c1 hX
      refine lv_iconst (v := (-1)) hx hb dX9_feed_16 (by decide) ?_
      obtain rfl := some_of hX
      exact x_I (v := (-1)) X hS dX9_feed_17
  rw [hH, hlo] at hgoal
  exact hgoal
theorem mv_X9_feed : Mv yX9_feed RX9 cX9_feed 6 ((some .int)) 5 := ⟨t2_189, t2_187, t2_188, t1_1, ⟨by decide, by decide⟩, by decide +kernel⟩
/-! SewnYear.end(I)I -/
def rm_X9_end : Room := { frames := 0, cells := 0, slots := 0, locals := 0 }
def f_X9_end (M : Mem) (a1 : Int32) : Option (Int32 × Mem) :=
  if a1 < (nI 0) then (some ((-1), M)) else (if a1 ≤ (gI M 1 1) then (nm (sI M 1 1 a1) fun M3 => some (a1, M3)) else (some ((-1), M)))
set_option maxRecDepth 100000 in
set_option maxHeartbeats 4000000 in
theorem m_X9_end {l : Launch} {D : va_G} {cy : Nat → ClassId} {ad : Nat → Nat → Nat} {ns : List (Nat × Nat)} {A : Nat → Prop} {M : Mem} (hN : NsC ns) {a1 : Int32} {r : Int32 × Mem} (hX : f_X9_end M a1 = some r) : Ct l yX9_end cX9_end 2 ((some .int)) rm_X9_end D cy ad ns A [.ref (ad 0 0), .int a1] M r.2 (some (.int r.1)) := by
  refine ct_of (lv := [(0, .ref (ad 0 0)), (1, .int a1)]) (by decide) (Nat.le_of_ble_eq_true rfl) rfl ?_
  intro p e s m args below meth c ls X hl hS
  obtain ⟨hx, hb, hml, hown, hts, hK, hr, hlk, hA, hG⟩ := id X
  obtain ⟨H, hH⟩ : ∃ z, z = s.heap := ⟨_, rfl⟩
  obtain ⟨locs, hlo⟩ : ∃ z : List Loc, z = [] := ⟨_, rfl⟩
  have hS : St D cy ad ns A M s.heap H locs := by rw [hH, hlo]; exact hS
  have hgoal : W p l e rm_X9_end s m args below meth c H locs 0 0 (MQ below (QC D cy ad ns A r.2 (some (.int r.1))) args s 0 0 A) (F0 m 0 ls []) := by
    unfold f_X9_end at hX
    refine lv_iload_n hx hb dX9_end_0 rfl (lv_at hl 1 rfl) ?_
    refine lv_if_lt (tgt := 15) hx hb dX9_end_1 (by decide) (fun c1 => ?_) (fun c1 => ?_)
    · have hX := if_t c1 hX
      refine lv_iconst (v := (-1)) hx hb dX9_end_15 (by decide) ?_
      obtain rfl := some_of hX
      exact x_I (v := (-1)) X hS dX9_end_16
    · have hX := if_f c1 hX
      refine lv_iload_n hx hb dX9_end_4 rfl (lv_at hl 1 rfl) ?_
      refine lv_aload_n hx hb dX9_end_5 rfl (lv_at hl 0 rfl) ?_
      refine fg_X9_12 X hS (o_of hN (o := 0) (c := 9) (by decide) rfl) dX9_end_6 ?_
      refine fg_X9_48 X hS (o_of hN (o := 1) (c := 5) (by decide) rfl) dX9_end_9 ?_
      refine lv_icmp_le (tgt := 17) hx hb dX9_end_12 (by decide) (fun c2 => ?_) (fun c2 => ?_)
      · have hX := if_t c2 hX
        refine lv_aload_n hx hb dX9_end_17 rfl (lv_at hl 0 rfl) ?_
        refine fg_X9_12 X hS (o_of hN (o := 0) (c := 9) (by decide) rfl) dX9_end_18 ?_
        refine lv_iload_n hx hb dX9_end_21 rfl (lv_at hl 1 rfl) ?_
        refine fp_X9_48 X hS (o_of hN (o := 1) (c := 5) (by decide) rfl) dX9_end_22 (fun H locs hS => ?_)
        obtain ⟨M3, eM3, hS, hX⟩ := nm_mem hS hX
        refine lv_iload_n hx hb dX9_end_25 rfl (lv_at hl 1 rfl) ?_
        obtain rfl := some_of hX
        exact x_I (v := a1) X hS dX9_end_26
      · have hX := if_f c2 hX
        refine lv_iconst (v := (-1)) hx hb dX9_end_15 (by decide) ?_
        obtain rfl := some_of hX
        exact x_I (v := (-1)) X hS dX9_end_16
  rw [hH, hlo] at hgoal
  exact hgoal
theorem mv_X9_end : Mv yX9_end RX9 cX9_end 2 ((some .int)) 1 := ⟨t2_197, t2_195, t2_196, t1_1, ⟨by decide, by decide⟩, by decide +kernel⟩
/-! SewnYear.count(I)I -/
def rm_X9_count : Room := { frames := 0, cells := 0, slots := 0, locals := 0 }
def f_X9_count (M : Mem) (a1 : Int32) : Option (Int32) :=
  if a1 < (nI 0) then (some (-2)) else (if a1 < (nI 4) then (gin a1 4 <| some (gA M 1 4 (ix a1))) else (some (-2)))
set_option maxRecDepth 100000 in
set_option maxHeartbeats 4000000 in
theorem m_X9_count {l : Launch} {D : va_G} {cy : Nat → ClassId} {ad : Nat → Nat → Nat} {ns : List (Nat × Nat)} {A : Nat → Prop} {M : Mem} (hN : NsC ns) {a1 : Int32} {r : Int32} (hX : f_X9_count M a1 = some r) : Ct l yX9_count cX9_count 2 ((some .int)) rm_X9_count D cy ad ns A [.ref (ad 0 0), .int a1] M M (some (.int r)) := by
  refine ct_of (lv := [(0, .ref (ad 0 0)), (1, .int a1)]) (by decide) (Nat.le_of_ble_eq_true rfl) rfl ?_
  intro p e s m args below meth c ls X hl hS
  obtain ⟨hx, hb, hml, hown, hts, hK, hr, hlk, hA, hG⟩ := id X
  obtain ⟨H, hH⟩ : ∃ z, z = s.heap := ⟨_, rfl⟩
  obtain ⟨locs, hlo⟩ : ∃ z : List Loc, z = [] := ⟨_, rfl⟩
  have hS : St D cy ad ns A M s.heap H locs := by rw [hH, hlo]; exact hS
  have hgoal : W p l e rm_X9_count s m args below meth c H locs 0 0 (MQ below (QC D cy ad ns A M (some (.int r))) args s 0 0 A) (F0 m 0 ls []) := by
    unfold f_X9_count at hX
    refine lv_iload_n hx hb dX9_count_0 rfl (lv_at hl 1 rfl) ?_
    refine lv_if_lt (tgt := 9) hx hb dX9_count_1 (by decide) (fun c1 => ?_) (fun c1 => ?_)
    · have hX := if_t c1 hX
      refine lv_bipush (v := (-2)) hx hb dX9_count_9 (by decide) ?_
      refine lv_goto (tgt := 23) hx hb dX9_count_11 (by decide) ?_
      obtain rfl := some_of hX
      exact x_I (v := (-2)) X hS dX9_count_23
    · have hX := if_f c1 hX
      refine lv_iload_n hx hb dX9_count_4 rfl (lv_at hl 1 rfl) ?_
      refine lv_iconst (v := nI 4) hx hb dX9_count_5 (by decide) ?_
      refine lv_icmp_lt (tgt := 14) hx hb dX9_count_6 (by decide) (fun c2 => ?_) (fun c2 => ?_)
      · have hX := if_t c2 hX
        refine lv_aload_n hx hb dX9_count_14 rfl (lv_at hl 0 rfl) ?_
        refine fg_X9_12 X hS (o_of hN (o := 0) (c := 9) (by decide) rfl) dX9_count_15 ?_
        refine fg_X9_281 X hS (o_of hN (o := 1) (c := 5) (by decide) rfl) dX9_count_18 ?_
        refine lv_iload_n hx hb dX9_count_21 rfl (lv_at hl 1 rfl) ?_
        obtain ⟨g3, hX⟩ := gin_of hX
        refine r_iald (ci := 5) (o := 1) (k := 4) (n := 4) X hS (o_of hN (o := 1) (c := 5) (by decide) rfl) rfl rfl g3 dX9_count_22 ?_
        obtain rfl := some_of hX
        exact x_I (v := (gA M 1 4 (ix a1))) X hS dX9_count_23
      · have hX := if_f c2 hX
        refine lv_bipush (v := (-2)) hx hb dX9_count_9 (by decide) ?_
        refine lv_goto (tgt := 23) hx hb dX9_count_11 (by decide) ?_
        obtain rfl := some_of hX
        exact x_I (v := (-2)) X hS dX9_count_23
  rw [hH, hlo] at hgoal
  exact hgoal
theorem mv_X9_count : Mv yX9_count RX9 cX9_count 2 ((some .int)) 1 := ⟨t2_205, t2_203, t2_204, t1_1, ⟨by decide, by decide⟩, by decide +kernel⟩
/-! SewnYear.text(II)I -/
def rm_X9_text : Room := { frames := 8, cells := 0, slots := 0, locals := 203 }
def f_X9_text_138 (a1 : Int32) (a2 : Int32) (s_0 : Int32) (M : Mem) : Option (Int32 × Mem) :=
  bn (f_X5_keep M 1 a1 s_0) fun M2 => some (s_0, M2)
def f_X9_text_36 (a1 : Int32) (a2 : Int32) (k_54 : Int32 → Bool → Bool → Mem → Option (Int32 × Mem)) (v_3 : Int32) (v_4 : Bool) (M : Mem) : Option (Int32 × Mem) :=
  k_54 v_3 v_4 false M
def f_X9_text_53 (a1 : Int32) (a2 : Int32) (k_54 : Int32 → Bool → Bool → Mem → Option (Int32 × Mem)) (v_3 : Int32) (v_4 : Bool) (M : Mem) : Option (Int32 × Mem) :=
  k_54 v_3 v_4 false M
def f_X9_text_54 (a1 : Int32) (a2 : Int32) (v_3 : Int32) (v_4 : Bool) (s_0 : Bool) (M : Mem) : Option (Int32 × Mem) :=
  if s_0 = true then (bn (f_X2_read M a1 1 (gI M 1 1)) fun M5 => bn (f_X5_close M5 1 (gI M5 10 12) (gI M5 10 13)) fun M7 => if (gI M7 10 12) = (nI 0) then (if v_4 = true then (f_X9_text_138 a1 a2 v_3 M7) else (f_X9_text_138 a1 a2 a2 M7)) else (some ((-1), M7))) else (bn (f_X5_close M 1 (nI 0) (-1)) fun M11 => some ((-2), M11))
def f_X9_text_16 (a1 : Int32) (a2 : Int32) (v_3 : Int32) (s_0 : Bool) (M : Mem) : Option (Int32 × Mem) :=
  if s_0 = true then (if v_3 < (nI 0) then (f_X9_text_36 a1 a2 (fun x0 x1 x2 y => f_X9_text_54 a1 a2 x0 x1 x2 y) v_3 s_0 M) else (if (nI 2) ≤ v_3 then (f_X9_text_36 a1 a2 (fun x0 x1 x2 y => f_X9_text_54 a1 a2 x0 x1 x2 y) v_3 s_0 M) else (f_X9_text_54 a1 a2 v_3 s_0 true M))) else (if a2 < (nI 0) then (f_X9_text_53 a1 a2 (fun x0 x1 x2 y => f_X9_text_54 a1 a2 x0 x1 x2 y) v_3 s_0 M) else (if v_3 ≤ a2 then (f_X9_text_53 a1 a2 (fun x0 x1 x2 y => f_X9_text_54 a1 a2 x0 x1 x2 y) v_3 s_0 M) else (f_X9_text_54 a1 a2 v_3 s_0 true M)))
def f_X9_text (M : Mem) (a1 : Int32) (a2 : Int32) : Option (Int32 × Mem) :=
  bn (f_X9_count M a1) fun r18 => if a2 = (-1) then (f_X9_text_16 a1 a2 r18 true M) else (f_X9_text_16 a1 a2 r18 false M)
set_option maxRecDepth 100000 in
set_option maxHeartbeats 4000000 in
theorem n_X9_text_138 {a1 : Int32} {a2 : Int32} (X : Cx p s m args meth c D cy ad A RX9 cX9_text 7 ((some .int))) (hN : NsC ns) {s_0 : Int32} {M : Mem} {r : Int32 × Mem} (hX : f_X9_text_138 a1 a2 s_0 M = some r) : ∀ (ls : Array Slot) (H : Heap) (locs : List Loc), lv_has ls 7 [(0, .ref (ad 0 0)), (1, .int a1)] → St D cy ad ns A M s.heap H locs → W p l e rm_X9_text s m args below meth c H locs 0 0 (MQ below (QC D cy ad ns A r.2 (some (.int r.1))) args s 0 0 A) (F0 m 138 ls [.int s_0]) := by
  obtain ⟨hx, hb, hml, hown, hts, hK, hr, hlk, hA, hG⟩ := id X
  intro ls H locs hl hS
  unfold f_X9_text_138 at hX
  refine lv_istore (lv' := [(6, .int s_0), (0, .ref (ad 0 0)), (1, .int a1)]) hx hb dX9_text_138 hl (by decide) rfl (fun ls hl => ?_)
  refine lv_aload_n hx hb dX9_text_140 rfl (lv_at hl 1 rfl) ?_
  refine fg_X9_12 X hS (o_of hN (o := 0) (c := 9) (by decide) rfl) dX9_text_141 ?_
  refine lv_iload_n hx hb dX9_text_144 rfl (lv_at hl 2 rfl) ?_
  refine lv_iload hx hb dX9_text_145 (lv_at hl 0 rfl) ?_
  refine lv_aload_n hx hb dX9_text_147 rfl (lv_at hl 1 rfl) ?_
  refine fg_X9_23 X hS (o_of hN (o := 0) (c := 9) (by decide) rfl) dX9_text_148 ?_
  obtain ⟨M2, h1, hX⟩ := bn_of hX
  refine r_callV0 (As := [.int a1, .int s_0, .ref (ad 10 0)]) (rest := []) X hS (m_X5_keep hN (o_of hN (o := 1) (c := 5) (by decide) rfl) h1) mv_X5_keep rfl (o_of hN (o := 1) (c := 5) (by decide) rfl) t3_142 ⟨rfl, rfl, Nat.le_of_ble_eq_true rfl, Nat.le_of_ble_eq_true rfl⟩ rfl hl.1 rfl (Nat.le_of_ble_eq_true rfl) ⟨Nat.zero_le _, Nat.zero_le _⟩ dX9_text_151 (fun H locs hS => ?_)
  refine lv_iload hx hb dX9_text_154 (lv_at hl 0 rfl) ?_
  obtain rfl := some_of hX
  exact x_I (v := s_0) X hS dX9_text_156
set_option maxRecDepth 100000 in
set_option maxHeartbeats 4000000 in
theorem n_X9_text_36 {a1 : Int32} {a2 : Int32} (X : Cx p s m args meth c D cy ad A RX9 cX9_text 7 ((some .int))) (hN : NsC ns) {k_54 : Int32 → Bool → Bool → Mem → Option (Int32 × Mem)} {v_3 : Int32} {v_4 : Bool} {M : Mem} {r : Int32 × Mem} (hX : f_X9_text_36 a1 a2 k_54 v_3 v_4 M = some r) : (∀ (v_3 : Int32) (v_4 : Bool) (s_0 : Bool) (M : Mem) (r : Int32 × Mem), k_54 v_3 v_4 s_0 M = some r → ∀ (ls : Array Slot) (H : Heap) (locs : List Loc), lv_has ls 7 [(0, .ref (ad 0 0)), (1, .int a1), (2, .int a2), (3, .int v_3), (4, .int (b2i v_4))] → St D cy ad ns A M s.heap H locs → W p l e rm_X9_text s m args below meth c H locs 0 0 (MQ below (QC D cy ad ns A r.2 (some (.int r.1))) args s 0 0 A) (F0 m 54 ls [.int (b2i s_0)])) → ∀ (ls : Array Slot) (H : Heap) (locs : List Loc), lv_has ls 7 [(0, .ref (ad 0 0)), (1, .int a1), (2, .int a2), (3, .int v_3), (4, .int (b2i v_4))] → St D cy ad ns A M s.heap H locs → W p l e rm_X9_text s m args below meth c H locs 0 0 (MQ below (QC D cy ad ns A r.2 (some (.int r.1))) args s 0 0 A) (F0 m 36 ls []) := by
  obtain ⟨hx, hb, hml, hown, hts, hK, hr, hlk, hA, hG⟩ := id X
  intro hk_54 ls H locs hl hS
  unfold f_X9_text_36 at hX
  refine lv_iconst (v := nI 0) hx hb dX9_text_36 (by decide) ?_
  refine lv_goto (tgt := 54) hx hb dX9_text_37 (by decide) ?_
  exact hk_54 _ _ _ _ _ hX _ _ _ (lv_sub hl [0, 1, 2, 3, 4] rfl) hS
set_option maxRecDepth 100000 in
set_option maxHeartbeats 4000000 in
theorem n_X9_text_53 {a1 : Int32} {a2 : Int32} (X : Cx p s m args meth c D cy ad A RX9 cX9_text 7 ((some .int))) (hN : NsC ns) {k_54 : Int32 → Bool → Bool → Mem → Option (Int32 × Mem)} {v_3 : Int32} {v_4 : Bool} {M : Mem} {r : Int32 × Mem} (hX : f_X9_text_53 a1 a2 k_54 v_3 v_4 M = some r) : (∀ (v_3 : Int32) (v_4 : Bool) (s_0 : Bool) (M : Mem) (r : Int32 × Mem), k_54 v_3 v_4 s_0 M = some r → ∀ (ls : Array Slot) (H : Heap) (locs : List Loc), lv_has ls 7 [(0, .ref (ad 0 0)), (1, .int a1), (2, .int a2), (3, .int v_3), (4, .int (b2i v_4))] → St D cy ad ns A M s.heap H locs → W p l e rm_X9_text s m args below meth c H locs 0 0 (MQ below (QC D cy ad ns A r.2 (some (.int r.1))) args s 0 0 A) (F0 m 54 ls [.int (b2i s_0)])) → ∀ (ls : Array Slot) (H : Heap) (locs : List Loc), lv_has ls 7 [(0, .ref (ad 0 0)), (1, .int a1), (2, .int a2), (3, .int v_3), (4, .int (b2i v_4))] → St D cy ad ns A M s.heap H locs → W p l e rm_X9_text s m args below meth c H locs 0 0 (MQ below (QC D cy ad ns A r.2 (some (.int r.1))) args s 0 0 A) (F0 m 53 ls []) := by
  obtain ⟨hx, hb, hml, hown, hts, hK, hr, hlk, hA, hG⟩ := id X
  intro hk_54 ls H locs hl hS
  unfold f_X9_text_53 at hX
  refine lv_iconst (v := nI 0) hx hb dX9_text_53 (by decide) ?_
  exact hk_54 _ _ _ _ _ hX _ _ _ (lv_sub hl [0, 1, 2, 3, 4] rfl) hS
set_option maxRecDepth 100000 in
set_option maxHeartbeats 4000000 in
theorem n_X9_text_54 {a1 : Int32} {a2 : Int32} (X : Cx p s m args meth c D cy ad A RX9 cX9_text 7 ((some .int))) (hN : NsC ns) {v_3 : Int32} {v_4 : Bool} {s_0 : Bool} {M : Mem} {r : Int32 × Mem} (hX : f_X9_text_54 a1 a2 v_3 v_4 s_0 M = some r) : ∀ (ls : Array Slot) (H : Heap) (locs : List Loc), lv_has ls 7 [(0, .ref (ad 0 0)), (1, .int a1), (2, .int a2), (3, .int v_3), (4, .int (b2i v_4))] → St D cy ad ns A M s.heap H locs → W p l e rm_X9_text s m args below meth c H locs 0 0 (MQ below (QC D cy ad ns A r.2 (some (.int r.1))) args s 0 0 A) (F0 m 54 ls [.int (b2i s_0)]) := by
  obtain ⟨hx, hb, hml, hown, hts, hK, hr, hlk, hA, hG⟩ := id X
  intro ls H locs hl hS
  unfold f_X9_text_54 at hX
  refine lv_istore (lv' := [(5, .int (b2i s_0)), (0, .ref (ad 0 0)), (1, .int a1), (2, .int a2), (3, .int v_3), (4, .int (b2i v_4))]) hx hb dX9_text_54 hl (by decide) rfl (fun ls hl => ?_)
  refine lv_iload hx hb dX9_text_56 (lv_at hl 0 rfl) ?_
  refine lv_if_ne (tgt := 73) hx hb dX9_text_58 (by decide) (fun c3 => ?_) (fun c3 => ?_)
  · have hX := if_bt c3 hX
    refine lv_aload_n hx hb dX9_text_73 rfl (lv_at hl 1 rfl) ?_
    refine fg_X9_23 X hS (o_of hN (o := 0) (c := 9) (by decide) rfl) dX9_text_74 ?_
    refine lv_iload_n hx hb dX9_text_77 rfl (lv_at hl 2 rfl) ?_
    refine lv_aload_n hx hb dX9_text_78 rfl (lv_at hl 1 rfl) ?_
    refine fg_X9_12 X hS (o_of hN (o := 0) (c := 9) (by decide) rfl) dX9_text_79 ?_
    refine fg_X9_64 X hS (o_of hN (o := 1) (c := 5) (by decide) rfl) dX9_text_82 ?_
    refine lv_aload_n hx hb dX9_text_85 rfl (lv_at hl 1 rfl) ?_
    refine fg_X9_12 X hS (o_of hN (o := 0) (c := 9) (by decide) rfl) dX9_text_86 ?_
    refine fg_X9_48 X hS (o_of hN (o := 1) (c := 5) (by decide) rfl) dX9_text_89 ?_
    obtain ⟨M5, h4, hX⟩ := bn_of hX
    refine r_callV0 (As := [.int a1, .ref (ad 1 (0 + 1)), .int (gI M 1 1)]) (rest := []) X hS (m_X2_read hN (o_of hN (o := 1) (c := 5) (by decide) rfl) h4) mv_X2_read rfl (o_of hN (o := 10) (c := 2) (by decide) rfl) t2_210 ⟨rfl, rfl, Nat.le_of_ble_eq_true rfl, Nat.le_of_ble_eq_true rfl⟩ rfl hl.1 rfl (Nat.le_of_ble_eq_true rfl) ⟨Nat.zero_le _, Nat.zero_le _⟩ dX9_text_92 (fun H locs hS => ?_)
    refine lv_aload_n hx hb dX9_text_95 rfl (lv_at hl 1 rfl) ?_
    refine fg_X9_12 X hS (o_of hN (o := 0) (c := 9) (by decide) rfl) dX9_text_96 ?_
    refine lv_aload_n hx hb dX9_text_99 rfl (lv_at hl 1 rfl) ?_
    refine fg_X9_23 X hS (o_of hN (o := 0) (c := 9) (by decide) rfl) dX9_text_100 ?_
    refine fg_X9_72 X hS (o_of hN (o := 10) (c := 2) (by decide) rfl) dX9_text_103 ?_
    refine lv_aload_n hx hb dX9_text_106 rfl (lv_at hl 1 rfl) ?_
    refine fg_X9_23 X hS (o_of hN (o := 0) (c := 9) (by decide) rfl) dX9_text_107 ?_
    refine fg_X9_75 X hS (o_of hN (o := 10) (c := 2) (by decide) rfl) dX9_text_110 ?_
    obtain ⟨M7, h6, hX⟩ := bn_of hX
    refine r_callV0 (As := [.int (gI M5 10 12), .int (gI M5 10 13)]) (rest := []) X hS (m_X5_close hN (o_of hN (o := 1) (c := 5) (by decide) rfl) h6) mv_X5_close rfl (o_of hN (o := 1) (c := 5) (by decide) rfl) t2_206 ⟨rfl, rfl, Nat.le_of_ble_eq_true rfl, Nat.le_of_ble_eq_true rfl⟩ rfl hl.1 rfl (Nat.le_of_ble_eq_true rfl) ⟨Nat.zero_le _, Nat.zero_le _⟩ dX9_text_113 (fun H locs hS => ?_)
    refine lv_aload_n hx hb dX9_text_116 rfl (lv_at hl 1 rfl) ?_
    refine fg_X9_23 X hS (o_of hN (o := 0) (c := 9) (by decide) rfl) dX9_text_117 ?_
    refine fg_X9_72 X hS (o_of hN (o := 10) (c := 2) (by decide) rfl) dX9_text_120 ?_
    refine lv_if_eq (tgt := 128) hx hb dX9_text_123 (by decide) (fun c8 => ?_) (fun c8 => ?_)
    · have hX := if_t c8 hX
      refine lv_iload hx hb dX9_text_128 (lv_at hl 5 rfl) ?_
      refine lv_if_eq (tgt := 137) hx hb dX9_text_130 (by decide) (fun c9 => ?_) (fun c9 => ?_)
      · have hX := if_bf c9 hX
        refine lv_iload_n hx hb dX9_text_137 rfl (lv_at hl 3 rfl) ?_
        exact n_X9_text_138 X hN hX _ _ _ (lv_sub hl [1, 2] rfl) hS
      · have hX := if_bt c9 hX
        refine lv_iload_n hx hb dX9_text_133 rfl (lv_at hl 4 rfl) ?_
        refine lv_goto (tgt := 138) hx hb dX9_text_134 (by decide) ?_
        exact n_X9_text_138 X hN hX _ _ _ (lv_sub hl [1, 2] rfl) hS
    · have hX := if_f c8 hX
      refine lv_iconst (v := (-1)) hx hb dX9_text_126 (by decide) ?_
      obtain rfl := some_of hX
      exact x_I (v := (-1)) X hS dX9_text_127
  · have hX := if_bf c3 hX
    refine lv_aload_n hx hb dX9_text_61 rfl (lv_at hl 1 rfl) ?_
    refine fg_X9_12 X hS (o_of hN (o := 0) (c := 9) (by decide) rfl) dX9_text_62 ?_
    refine lv_iconst (v := nI 0) hx hb dX9_text_65 (by decide) ?_
    refine lv_iconst (v := (-1)) hx hb dX9_text_66 (by decide) ?_
    obtain ⟨M11, h10, hX⟩ := bn_of hX
    refine r_callV0 (As := [.int (nI 0), .int (-1)]) (rest := []) X hS (m_X5_close hN (o_of hN (o := 1) (c := 5) (by decide) rfl) h10) mv_X5_close rfl (o_of hN (o := 1) (c := 5) (by decide) rfl) t2_206 ⟨rfl, rfl, Nat.le_of_ble_eq_true rfl, Nat.le_of_ble_eq_true rfl⟩ rfl hl.1 rfl (Nat.le_of_ble_eq_true rfl) ⟨Nat.zero_le _, Nat.zero_le _⟩ dX9_text_67 (fun H locs hS => ?_)
    refine lv_bipush (v := (-2)) hx hb dX9_text_70 (by decide) ?_
    obtain rfl := some_of hX
    exact x_I (v := (-2)) X hS dX9_text_72
set_option maxRecDepth 100000 in
set_option maxHeartbeats 4000000 in
theorem n_X9_text_16 {a1 : Int32} {a2 : Int32} (X : Cx p s m args meth c D cy ad A RX9 cX9_text 7 ((some .int))) (hN : NsC ns) {v_3 : Int32} {s_0 : Bool} {M : Mem} {r : Int32 × Mem} (hX : f_X9_text_16 a1 a2 v_3 s_0 M = some r) : ∀ (ls : Array Slot) (H : Heap) (locs : List Loc), lv_has ls 7 [(0, .ref (ad 0 0)), (1, .int a1), (2, .int a2), (3, .int v_3)] → St D cy ad ns A M s.heap H locs → W p l e rm_X9_text s m args below meth c H locs 0 0 (MQ below (QC D cy ad ns A r.2 (some (.int r.1))) args s 0 0 A) (F0 m 16 ls [.int (b2i s_0)]) := by
  obtain ⟨hx, hb, hml, hown, hts, hK, hr, hlk, hA, hG⟩ := id X
  intro ls H locs hl hS
  unfold f_X9_text_16 at hX
  refine lv_istore (lv' := [(4, .int (b2i s_0)), (0, .ref (ad 0 0)), (1, .int a1), (2, .int a2), (3, .int v_3)]) hx hb dX9_text_16 hl (by decide) rfl (fun ls hl => ?_)
  refine lv_iload hx hb dX9_text_18 (lv_at hl 0 rfl) ?_
  refine lv_if_eq (tgt := 40) hx hb dX9_text_20 (by decide) (fun c12 => ?_) (fun c12 => ?_)
  · have hX := if_bf c12 hX
    refine lv_iload_n hx hb dX9_text_40 rfl (lv_at hl 3 rfl) ?_
    refine lv_if_lt (tgt := 53) hx hb dX9_text_41 (by decide) (fun c13 => ?_) (fun c13 => ?_)
    · have hX := if_t c13 hX
      exact n_X9_text_53 X hN hX (fun z0 z1 z2 z3 r h ls H locs hl hS => n_X9_text_54 X hN h _ _ _ hl hS) _ _ _ (lv_sub hl [1, 2, 3, 4, 0] rfl) hS
    · have hX := if_f c13 hX
      refine lv_iload_n hx hb dX9_text_44 rfl (lv_at hl 3 rfl) ?_
      refine lv_iload_n hx hb dX9_text_45 rfl (lv_at hl 4 rfl) ?_
      refine lv_icmp_ge (tgt := 53) hx hb dX9_text_46 (by decide) (fun c14 => ?_) (fun c14 => ?_)
      · have hX := if_t c14 hX
        exact n_X9_text_53 X hN hX (fun z0 z1 z2 z3 r h ls H locs hl hS => n_X9_text_54 X hN h _ _ _ hl hS) _ _ _ (lv_sub hl [1, 2, 3, 4, 0] rfl) hS
      · have hX := if_f c14 hX
        refine lv_iconst (v := nI 1) hx hb dX9_text_49 (by decide) ?_
        refine lv_goto (tgt := 54) hx hb dX9_text_50 (by decide) ?_
        exact n_X9_text_54 X hN hX _ _ _ (lv_sub hl [1, 2, 3, 4, 0] rfl) hS
  · have hX := if_bt c12 hX
    refine lv_iload_n hx hb dX9_text_23 rfl (lv_at hl 4 rfl) ?_
    refine lv_if_lt (tgt := 36) hx hb dX9_text_24 (by decide) (fun c15 => ?_) (fun c15 => ?_)
    · have hX := if_t c15 hX
      exact n_X9_text_36 X hN hX (fun z0 z1 z2 z3 r h ls H locs hl hS => n_X9_text_54 X hN h _ _ _ hl hS) _ _ _ (lv_sub hl [1, 2, 3, 4, 0] rfl) hS
    · have hX := if_f c15 hX
      refine lv_iload_n hx hb dX9_text_27 rfl (lv_at hl 4 rfl) ?_
      refine lv_iconst (v := nI 2) hx hb dX9_text_28 (by decide) ?_
      refine lv_icmp_ge (tgt := 36) hx hb dX9_text_29 (by decide) (fun c16 => ?_) (fun c16 => ?_)
      · have hX := if_t c16 hX
        exact n_X9_text_36 X hN hX (fun z0 z1 z2 z3 r h ls H locs hl hS => n_X9_text_54 X hN h _ _ _ hl hS) _ _ _ (lv_sub hl [1, 2, 3, 4, 0] rfl) hS
      · have hX := if_f c16 hX
        refine lv_iconst (v := nI 1) hx hb dX9_text_32 (by decide) ?_
        refine lv_goto (tgt := 54) hx hb dX9_text_33 (by decide) ?_
        exact n_X9_text_54 X hN hX _ _ _ (lv_sub hl [1, 2, 3, 4, 0] rfl) hS
set_option maxRecDepth 100000 in
set_option maxHeartbeats 4000000 in
theorem m_X9_text {l : Launch} {D : va_G} {cy : Nat → ClassId} {ad : Nat → Nat → Nat} {ns : List (Nat × Nat)} {A : Nat → Prop} {M : Mem} (hN : NsC ns) {a1 : Int32} {a2 : Int32} {r : Int32 × Mem} (hX : f_X9_text M a1 a2 = some r) : Ct l yX9_text cX9_text 7 ((some .int)) rm_X9_text D cy ad ns A [.ref (ad 0 0), .int a1, .int a2] M r.2 (some (.int r.1)) := by
  refine ct_of (lv := [(0, .ref (ad 0 0)), (1, .int a1), (2, .int a2)]) (by decide) (Nat.le_of_ble_eq_true rfl) rfl ?_
  intro p e s m args below meth c ls X hl hS
  obtain ⟨hx, hb, hml, hown, hts, hK, hr, hlk, hA, hG⟩ := id X
  obtain ⟨H, hH⟩ : ∃ z, z = s.heap := ⟨_, rfl⟩
  obtain ⟨locs, hlo⟩ : ∃ z : List Loc, z = [] := ⟨_, rfl⟩
  have hS : St D cy ad ns A M s.heap H locs := by rw [hH, hlo]; exact hS
  have hgoal : W p l e rm_X9_text s m args below meth c H locs 0 0 (MQ below (QC D cy ad ns A r.2 (some (.int r.1))) args s 0 0 A) (F0 m 0 ls []) := by
    unfold f_X9_text at hX
    refine lv_aload_n hx hb dX9_text_0 rfl (lv_at hl 0 rfl) ?_
    refine lv_iload_n hx hb dX9_text_1 rfl (lv_at hl 1 rfl) ?_
    obtain ⟨r18, h17, hX⟩ := bn_of hX
    refine r_callV1 (v := .int r18) (As := [.int a1]) (rest := []) X hS (m_X9_count hN h17) mv_X9_count rfl (o_of hN (o := 0) (c := 9) (by decide) rfl) t2_202 ⟨rfl, rfl, Nat.le_of_ble_eq_true rfl, Nat.le_of_ble_eq_true rfl⟩ rfl hl.1 rfl (Nat.le_of_ble_eq_true rfl) ⟨Nat.zero_le _, Nat.zero_le _⟩ dX9_text_2 (fun H locs hS => ?_)
    refine lv_istore_n (lv' := [(3, .int r18), (0, .ref (ad 0 0)), (1, .int a1), (2, .int a2)]) hx hb dX9_text_5 rfl hl (by decide) rfl (fun ls hl => ?_)
    refine lv_iload_n hx hb dX9_text_6 rfl (lv_at hl 3 rfl) ?_
    refine lv_iconst (v := (-1)) hx hb dX9_text_7 (by decide) ?_
    refine lv_icmp_ne (tgt := 15) hx hb dX9_text_8 (by decide) (fun c19 => ?_) (fun c19 => ?_)
    · have hX := if_f c19 hX
      refine lv_iconst (v := nI 0) hx hb dX9_text_15 (by decide) ?_
      exact n_X9_text_16 X hN hX _ _ _ (lv_sub hl [1, 2, 3, 0] rfl) hS
    · have hX := if_t c19 hX
      refine lv_iconst (v := nI 1) hx hb dX9_text_11 (by decide) ?_
      refine lv_goto (tgt := 16) hx hb dX9_text_12 (by decide) ?_
      exact n_X9_text_16 X hN hX _ _ _ (lv_sub hl [1, 2, 3, 0] rfl) hS
  rw [hH, hlo] at hgoal
  exact hgoal
theorem mv_X9_text : Mv yX9_text RX9 cX9_text 7 ((some .int)) 2 := ⟨t2_201, t2_199, t2_200, t1_1, ⟨by decide, by decide⟩, by decide +kernel⟩
/-! SewnYear.fault(I)I -/
def rm_X9_fault : Room := { frames := 0, cells := 0, slots := 0, locals := 0 }
def f_X9_fault (M : Mem) (a1 : Int32) : Option (Int32) :=
  if a1 = nI 0 then (some (gI M 1 2)) else if a1 = nI 1 then (some (gI M 1 3)) else (some (-1))
set_option maxRecDepth 100000 in
set_option maxHeartbeats 4000000 in
theorem m_X9_fault {l : Launch} {D : va_G} {cy : Nat → ClassId} {ad : Nat → Nat → Nat} {ns : List (Nat × Nat)} {A : Nat → Prop} {M : Mem} (hN : NsC ns) {a1 : Int32} {r : Int32} (hX : f_X9_fault M a1 = some r) : Ct l yX9_fault cX9_fault 2 ((some .int)) rm_X9_fault D cy ad ns A [.ref (ad 0 0), .int a1] M M (some (.int r)) := by
  refine ct_of (lv := [(0, .ref (ad 0 0)), (1, .int a1)]) (by decide) (Nat.le_of_ble_eq_true rfl) rfl ?_
  intro p e s m args below meth c ls X hl hS
  obtain ⟨hx, hb, hml, hown, hts, hK, hr, hlk, hA, hG⟩ := id X
  obtain ⟨H, hH⟩ : ∃ z, z = s.heap := ⟨_, rfl⟩
  obtain ⟨locs, hlo⟩ : ∃ z : List Loc, z = [] := ⟨_, rfl⟩
  have hS : St D cy ad ns A M s.heap H locs := by rw [hH, hlo]; exact hS
  have hgoal : W p l e rm_X9_fault s m args below meth c H locs 0 0 (MQ below (QC D cy ad ns A M (some (.int r))) args s 0 0 A) (F0 m 0 ls []) := by
    unfold f_X9_fault at hX
    refine lv_iload_n hx hb dX9_fault_0 rfl (lv_at hl 1 rfl) ?_
    by_cases c1 : a1 = nI 0
    · have hX := if_t c1 hX
      refine lv_lookup (off := 27) (tgt := 28) hx hb dX9_fault_1 (by decide) (by rw [c1]; rfl) (by decide) ?_
      refine lv_aload_n hx hb dX9_fault_28 rfl (lv_at hl 0 rfl) ?_
      refine fg_X9_12 X hS (o_of hN (o := 0) (c := 9) (by decide) rfl) dX9_fault_29 ?_
      refine fg_X9_82 X hS (o_of hN (o := 1) (c := 5) (by decide) rfl) dX9_fault_32 ?_
      obtain rfl := some_of hX
      exact x_I (v := (gI M 1 2)) X hS dX9_fault_35
    have hX := if_f c1 hX
    by_cases c2 : a1 = nI 1
    · have hX := if_t c2 hX
      refine lv_lookup (off := 35) (tgt := 36) hx hb dX9_fault_1 (by decide) (by rw [c2]; rfl) (by decide) ?_
      refine lv_aload_n hx hb dX9_fault_36 rfl (lv_at hl 0 rfl) ?_
      refine fg_X9_12 X hS (o_of hN (o := 0) (c := 9) (by decide) rfl) dX9_fault_37 ?_
      refine fg_X9_83 X hS (o_of hN (o := 1) (c := 5) (by decide) rfl) dX9_fault_40 ?_
      obtain rfl := some_of hX
      exact x_I (v := (gI M 1 3)) X hS dX9_fault_43
    have hX := if_f c2 hX
    refine lv_lookup (off := 43) (tgt := 44) hx hb dX9_fault_1 (by decide) (by show Op.lookupswitch.offset (_ :: _) _ _ = _; rw [lv_osw (a := 0) c1 (by decide), lv_osw (a := 1) c2 (by decide)]; rfl) (by decide) ?_
    refine lv_iconst (v := (-1)) hx hb dX9_fault_44 (by decide) ?_
    obtain rfl := some_of hX
    exact x_I (v := (-1)) X hS dX9_fault_45
  rw [hH, hlo] at hgoal
  exact hgoal
theorem mv_X9_fault : Mv yX9_fault RX9 cX9_fault 2 ((some .int)) 1 := ⟨t3_174, t3_172, t3_173, t1_1, ⟨by decide, by decide⟩, by decide +kernel⟩
/-! SewnYear.coat(II)I -/
def rm_X9_coat : Room := { frames := 2, cells := 0, slots := 0, locals := 43 }
def f_X9_coat (M : Mem) (a1 : Int32) (a2 : Int32) : Option (Int32) :=
  bn (f_X9_coatAt M a1) fun r2 => opt r2 (some (-1)) fun o3 => (bn (f_X0_tell M o3 a2) fun r5 => some r5)
set_option maxRecDepth 100000 in
set_option maxHeartbeats 4000000 in
theorem m_X9_coat {l : Launch} {D : va_G} {cy : Nat → ClassId} {ad : Nat → Nat → Nat} {ns : List (Nat × Nat)} {A : Nat → Prop} {M : Mem} (hN : NsC ns) {a1 : Int32} {a2 : Int32} {r : Int32} (hX : f_X9_coat M a1 a2 = some r) : Ct l yX9_coat cX9_coat 4 ((some .int)) rm_X9_coat D cy ad ns A [.ref (ad 0 0), .int a1, .int a2] M M (some (.int r)) := by
  refine ct_of (lv := [(0, .ref (ad 0 0)), (1, .int a1), (2, .int a2)]) (by decide) (Nat.le_of_ble_eq_true rfl) rfl ?_
  intro p e s m args below meth c ls X hl hS
  obtain ⟨hx, hb, hml, hown, hts, hK, hr, hlk, hA, hG⟩ := id X
  obtain ⟨H, hH⟩ : ∃ z, z = s.heap := ⟨_, rfl⟩
  obtain ⟨locs, hlo⟩ : ∃ z : List Loc, z = [] := ⟨_, rfl⟩
  have hS : St D cy ad ns A M s.heap H locs := by rw [hH, hlo]; exact hS
  have hgoal : W p l e rm_X9_coat s m args below meth c H locs 0 0 (MQ below (QC D cy ad ns A M (some (.int r))) args s 0 0 A) (F0 m 0 ls []) := by
    unfold f_X9_coat at hX
    refine lv_aload_n hx hb dX9_coat_0 rfl (lv_at hl 0 rfl) ?_
    refine lv_iload_n hx hb dX9_coat_1 rfl (lv_at hl 1 rfl) ?_
    obtain ⟨r2, h1, hX⟩ := bn_of hX
    refine r_callV1 (v := rv ad r2) (As := [.int a1]) (rest := []) X hS (m_X9_coatAt hN h1) mv_X9_coatAt rfl (o_of hN (o := 0) (c := 9) (by decide) rfl) t3_179 ⟨rfl, rfl, Nat.le_of_ble_eq_true rfl, Nat.le_of_ble_eq_true rfl⟩ rfl hl.1 rfl (Nat.le_of_ble_eq_true rfl) ⟨Nat.zero_le _, Nat.zero_le _⟩ dX9_coat_2 (fun H locs hS => ?_)
    have qr2 : ∀ o, r2 = some o → Ob ns 0 o := fun o e => ob_X9_coatAt hN (by rw [← e]; exact h1)
    refine lv_astore_nR (lv' := [(3, rv ad r2), (0, .ref (ad 0 0)), (1, .int a1), (2, .int a2)]) hx hb dX9_coat_5 rfl hl (by decide) rfl (fun ls hl => ?_)
    rcases r2 with _ | o3
    · have hX := opt_n hX
      have hl : lv_has ls 4 [(3, .null), (0, .ref (ad 0 0)), (1, .int a1), (2, .int a2)] := hl
      refine lv_aload_nN hx hb dX9_coat_6 rfl (lv_at hl 0 rfl) ?_
      refine lv_ifnonnullN hx hb dX9_coat_7 ?_
      refine lv_iconst (v := (-1)) hx hb dX9_coat_10 (by decide) ?_
      refine lv_goto (tgt := 19) hx hb dX9_coat_11 (by decide) ?_
      obtain rfl := some_of hX
      exact x_I (v := (-1)) X hS dX9_coat_19
    · have hX := opt_s hX
      have hl : lv_has ls 4 [(3, .ref (ad o3 0)), (0, .ref (ad 0 0)), (1, .int a1), (2, .int a2)] := hl
      refine lv_aload_n hx hb dX9_coat_6 rfl (lv_at hl 0 rfl) ?_
      refine lv_ifnonnull (tgt := 14) hx hb dX9_coat_7 (by decide) ?_
      refine lv_aload_n hx hb dX9_coat_14 rfl (lv_at hl 0 rfl) ?_
      refine lv_iload_n hx hb dX9_coat_15 rfl (lv_at hl 3 rfl) ?_
      obtain ⟨r5, h4, hX⟩ := bn_of hX
      refine r_callV1 (v := .int r5) (As := [.int a2]) (rest := []) X hS (m_X0_tell hN (qr2 o3 rfl) h4) mv_X0_tell rfl (qr2 o3 rfl) t3_187 ⟨rfl, rfl, Nat.le_of_ble_eq_true rfl, Nat.le_of_ble_eq_true rfl⟩ rfl hl.1 rfl (Nat.le_of_ble_eq_true rfl) ⟨Nat.zero_le _, Nat.zero_le _⟩ dX9_coat_16 (fun H locs hS => ?_)
      obtain rfl := some_of hX
      exact x_I (v := r5) X hS dX9_coat_19
  rw [hH, hlo] at hgoal
  exact hgoal
theorem mv_X9_coat : Mv yX9_coat RX9 cX9_coat 4 ((some .int)) 2 := ⟨t3_178, t3_176, t3_177, t1_1, ⟨by decide, by decide⟩, by decide +kernel⟩
/-! SewnYear.deed(III)I -/
def rm_X9_deed : Room := { frames := 2, cells := 0, slots := 0, locals := 43 }
def f_X9_deed (M : Mem) (a1 : Int32) (a2 : Int32) (a3 : Int32) : Option (Int32) :=
  bn (f_X9_lifeAt M a1) fun r2 => opt r2 (some (-2)) fun o3 => (bn (f_X1_tell M o3 a2 a3) fun r5 => some r5)
set_option maxRecDepth 100000 in
set_option maxHeartbeats 4000000 in
theorem m_X9_deed {l : Launch} {D : va_G} {cy : Nat → ClassId} {ad : Nat → Nat → Nat} {ns : List (Nat × Nat)} {A : Nat → Prop} {M : Mem} (hN : NsC ns) {a1 : Int32} {a2 : Int32} {a3 : Int32} {r : Int32} (hX : f_X9_deed M a1 a2 a3 = some r) : Ct l yX9_deed cX9_deed 5 ((some .int)) rm_X9_deed D cy ad ns A [.ref (ad 0 0), .int a1, .int a2, .int a3] M M (some (.int r)) := by
  refine ct_of (lv := [(0, .ref (ad 0 0)), (1, .int a1), (2, .int a2), (3, .int a3)]) (by decide) (Nat.le_of_ble_eq_true rfl) rfl ?_
  intro p e s m args below meth c ls X hl hS
  obtain ⟨hx, hb, hml, hown, hts, hK, hr, hlk, hA, hG⟩ := id X
  obtain ⟨H, hH⟩ : ∃ z, z = s.heap := ⟨_, rfl⟩
  obtain ⟨locs, hlo⟩ : ∃ z : List Loc, z = [] := ⟨_, rfl⟩
  have hS : St D cy ad ns A M s.heap H locs := by rw [hH, hlo]; exact hS
  have hgoal : W p l e rm_X9_deed s m args below meth c H locs 0 0 (MQ below (QC D cy ad ns A M (some (.int r))) args s 0 0 A) (F0 m 0 ls []) := by
    unfold f_X9_deed at hX
    refine lv_aload_n hx hb dX9_deed_0 rfl (lv_at hl 0 rfl) ?_
    refine lv_iload_n hx hb dX9_deed_1 rfl (lv_at hl 1 rfl) ?_
    obtain ⟨r2, h1, hX⟩ := bn_of hX
    refine r_callV1 (v := rv ad r2) (As := [.int a1]) (rest := []) X hS (m_X9_lifeAt hN h1) mv_X9_lifeAt rfl (o_of hN (o := 0) (c := 9) (by decide) rfl) t3_199 ⟨rfl, rfl, Nat.le_of_ble_eq_true rfl, Nat.le_of_ble_eq_true rfl⟩ rfl hl.1 rfl (Nat.le_of_ble_eq_true rfl) ⟨Nat.zero_le _, Nat.zero_le _⟩ dX9_deed_2 (fun H locs hS => ?_)
    have qr2 : ∀ o, r2 = some o → Ob ns 1 o := fun o e => ob_X9_lifeAt hN (by rw [← e]; exact h1)
    refine lv_astoreR (lv' := [(4, rv ad r2), (0, .ref (ad 0 0)), (1, .int a1), (2, .int a2), (3, .int a3)]) hx hb dX9_deed_5 hl (by decide) rfl (fun ls hl => ?_)
    rcases r2 with _ | o3
    · have hX := opt_n hX
      have hl : lv_has ls 5 [(4, .null), (0, .ref (ad 0 0)), (1, .int a1), (2, .int a2), (3, .int a3)] := hl
      refine lv_aloadN hx hb dX9_deed_7 (lv_at hl 0 rfl) ?_
      refine lv_ifnonnullN hx hb dX9_deed_9 ?_
      refine lv_bipush (v := (-2)) hx hb dX9_deed_12 (by decide) ?_
      refine lv_goto (tgt := 24) hx hb dX9_deed_14 (by decide) ?_
      obtain rfl := some_of hX
      exact x_I (v := (-2)) X hS dX9_deed_24
    · have hX := opt_s hX
      have hl : lv_has ls 5 [(4, .ref (ad o3 0)), (0, .ref (ad 0 0)), (1, .int a1), (2, .int a2), (3, .int a3)] := hl
      refine lv_aload hx hb dX9_deed_7 (lv_at hl 0 rfl) ?_
      refine lv_ifnonnull (tgt := 17) hx hb dX9_deed_9 (by decide) ?_
      refine lv_aload hx hb dX9_deed_17 (lv_at hl 0 rfl) ?_
      refine lv_iload_n hx hb dX9_deed_19 rfl (lv_at hl 3 rfl) ?_
      refine lv_iload_n hx hb dX9_deed_20 rfl (lv_at hl 4 rfl) ?_
      obtain ⟨r5, h4, hX⟩ := bn_of hX
      refine r_callV1 (v := .int r5) (As := [.int a2, .int a3]) (rest := []) X hS (m_X1_tell hN (qr2 o3 rfl) h4) mv_X1_tell rfl (qr2 o3 rfl) t3_203 ⟨rfl, rfl, Nat.le_of_ble_eq_true rfl, Nat.le_of_ble_eq_true rfl⟩ rfl hl.1 rfl (Nat.le_of_ble_eq_true rfl) ⟨Nat.zero_le _, Nat.zero_le _⟩ dX9_deed_21 (fun H locs hS => ?_)
      obtain rfl := some_of hX
      exact x_I (v := r5) X hS dX9_deed_24
  rw [hH, hlo] at hgoal
  exact hgoal
theorem mv_X9_deed : Mv yX9_deed RX9 cX9_deed 5 ((some .int)) 3 := ⟨t3_198, t3_196, t3_197, t1_1, ⟨by decide, by decide⟩, by decide +kernel⟩
/-! SewnYear.stop(II)I -/
def rm_X9_stop : Room := { frames := 6, cells := 0, slots := 0, locals := 131 }
def f_X9_stop (M : Mem) (a1 : Int32) (a2 : Int32) : Option (Int32 × Mem) :=
  bn (f_X9_coatAt M a1) fun r2 => bn (f_X9_lifeAt M a2) fun r4 => opt r2 (some ((-1), M)) fun o5 => (opt r4 (some ((-1), M)) fun o6 => (bp (f_X8_lead M o5 o6 (gI M o6 0)) fun r9 M8 => some (r9, M8)))
set_option maxRecDepth 100000 in
set_option maxHeartbeats 4000000 in
theorem m_X9_stop {l : Launch} {D : va_G} {cy : Nat → ClassId} {ad : Nat → Nat → Nat} {ns : List (Nat × Nat)} {A : Nat → Prop} {M : Mem} (hN : NsC ns) {a1 : Int32} {a2 : Int32} {r : Int32 × Mem} (hX : f_X9_stop M a1 a2 = some r) : Ct l yX9_stop cX9_stop 5 ((some .int)) rm_X9_stop D cy ad ns A [.ref (ad 0 0), .int a1, .int a2] M r.2 (some (.int r.1)) := by
  refine ct_of (lv := [(0, .ref (ad 0 0)), (1, .int a1), (2, .int a2)]) (by decide) (Nat.le_of_ble_eq_true rfl) rfl ?_
  intro p e s m args below meth c ls X hl hS
  obtain ⟨hx, hb, hml, hown, hts, hK, hr, hlk, hA, hG⟩ := id X
  obtain ⟨H, hH⟩ : ∃ z, z = s.heap := ⟨_, rfl⟩
  obtain ⟨locs, hlo⟩ : ∃ z : List Loc, z = [] := ⟨_, rfl⟩
  have hS : St D cy ad ns A M s.heap H locs := by rw [hH, hlo]; exact hS
  have hgoal : W p l e rm_X9_stop s m args below meth c H locs 0 0 (MQ below (QC D cy ad ns A r.2 (some (.int r.1))) args s 0 0 A) (F0 m 0 ls []) := by
    unfold f_X9_stop at hX
    refine lv_aload_n hx hb dX9_stop_0 rfl (lv_at hl 0 rfl) ?_
    refine lv_iload_n hx hb dX9_stop_1 rfl (lv_at hl 1 rfl) ?_
    obtain ⟨r2, h1, hX⟩ := bn_of hX
    refine r_callV1 (v := rv ad r2) (As := [.int a1]) (rest := []) X hS (m_X9_coatAt hN h1) mv_X9_coatAt rfl (o_of hN (o := 0) (c := 9) (by decide) rfl) t3_179 ⟨rfl, rfl, Nat.le_of_ble_eq_true rfl, Nat.le_of_ble_eq_true rfl⟩ rfl hl.1 rfl (Nat.le_of_ble_eq_true rfl) ⟨Nat.zero_le _, Nat.zero_le _⟩ dX9_stop_2 (fun H locs hS => ?_)
    have qr2 : ∀ o, r2 = some o → Ob ns 0 o := fun o e => ob_X9_coatAt hN (by rw [← e]; exact h1)
    refine lv_astore_nR (lv' := [(3, rv ad r2), (0, .ref (ad 0 0)), (1, .int a1), (2, .int a2)]) hx hb dX9_stop_5 rfl hl (by decide) rfl (fun ls hl => ?_)
    refine lv_aload_n hx hb dX9_stop_6 rfl (lv_at hl 1 rfl) ?_
    refine lv_iload_n hx hb dX9_stop_7 rfl (lv_at hl 3 rfl) ?_
    obtain ⟨r4, h3, hX⟩ := bn_of hX
    refine r_callV1 (v := rv ad r4) (As := [.int a2]) (rest := []) X hS (m_X9_lifeAt hN h3) mv_X9_lifeAt rfl (o_of hN (o := 0) (c := 9) (by decide) rfl) t3_199 ⟨rfl, rfl, Nat.le_of_ble_eq_true rfl, Nat.le_of_ble_eq_true rfl⟩ rfl hl.1 rfl (Nat.le_of_ble_eq_true rfl) ⟨Nat.zero_le _, Nat.zero_le _⟩ dX9_stop_8 (fun H locs hS => ?_)
    have qr4 : ∀ o, r4 = some o → Ob ns 1 o := fun o e => ob_X9_lifeAt hN (by rw [← e]; exact h3)
    refine lv_astoreR (lv' := [(4, rv ad r4), (3, rv ad r2), (0, .ref (ad 0 0)), (1, .int a1), (2, .int a2)]) hx hb dX9_stop_11 hl (by decide) (by cases r2 <;> rfl) (fun ls hl => ?_)
    rcases r2 with _ | o5
    · have hX := opt_n hX
      have hl : lv_has ls 5 [(4, rv ad r4), (3, .null), (0, .ref (ad 0 0)), (1, .int a1), (2, .int a2)] := hl
      refine lv_aload_nN hx hb dX9_stop_13 rfl (lv_at hl 1 rfl) ?_
      refine lv_ifnullN (tgt := 22) hx hb dX9_stop_14 (by decide) ?_
      refine lv_iconst (v := (-1)) hx hb dX9_stop_22 (by decide) ?_
      refine lv_goto (tgt := 41) hx hb dX9_stop_23 (by decide) ?_
      obtain rfl := some_of hX
      exact x_I (v := (-1)) X hS dX9_stop_41
    · have hX := opt_s hX
      have hl : lv_has ls 5 [(4, rv ad r4), (3, .ref (ad o5 0)), (0, .ref (ad 0 0)), (1, .int a1), (2, .int a2)] := hl
      refine lv_aload_n hx hb dX9_stop_13 rfl (lv_at hl 1 rfl) ?_
      refine lv_ifnull hx hb dX9_stop_14 ?_
      rcases r4 with _ | o6
      · have hX := opt_n hX
        have hl : lv_has ls 5 [(4, .null), (3, .ref (ad o5 0)), (0, .ref (ad 0 0)), (1, .int a1), (2, .int a2)] := hl
        refine lv_aloadN hx hb dX9_stop_17 (lv_at hl 0 rfl) ?_
        refine lv_ifnonnullN hx hb dX9_stop_19 ?_
        refine lv_iconst (v := (-1)) hx hb dX9_stop_22 (by decide) ?_
        refine lv_goto (tgt := 41) hx hb dX9_stop_23 (by decide) ?_
        obtain rfl := some_of hX
        exact x_I (v := (-1)) X hS dX9_stop_41
      · have hX := opt_s hX
        have hl : lv_has ls 5 [(4, .ref (ad o6 0)), (3, .ref (ad o5 0)), (0, .ref (ad 0 0)), (1, .int a1), (2, .int a2)] := hl
        refine lv_aload hx hb dX9_stop_17 (lv_at hl 0 rfl) ?_
        refine lv_ifnonnull (tgt := 26) hx hb dX9_stop_19 (by decide) ?_
        refine lv_aload_n hx hb dX9_stop_26 rfl (lv_at hl 2 rfl) ?_
        refine fg_X9_30 X hS (o_of hN (o := 0) (c := 9) (by decide) rfl) dX9_stop_27 ?_
        refine lv_aload_n hx hb dX9_stop_30 rfl (lv_at hl 1 rfl) ?_
        refine lv_aload hx hb dX9_stop_31 (lv_at hl 0 rfl) ?_
        refine lv_aload hx hb dX9_stop_33 (lv_at hl 0 rfl) ?_
        refine fg_X9_102 X hS (qr4 o6 rfl) dX9_stop_35 ?_
        obtain ⟨r9, M8, h7, hX⟩ := bp_of hX
        refine r_callV1 (v := .int r9) (As := [.ref (ad o5 0), .ref (ad o6 0), .int (gI M o6 0)]) (rest := []) X hS (m_X8_lead hN (qr2 o5 rfl) (qr4 o6 rfl) h7) mv_X8_lead rfl (o_of hN (o := 15) (c := 8) (by decide) rfl) t3_211 ⟨rfl, rfl, Nat.le_of_ble_eq_true rfl, Nat.le_of_ble_eq_true rfl⟩ rfl hl.1 rfl (Nat.le_of_ble_eq_true rfl) ⟨Nat.zero_le _, Nat.zero_le _⟩ dX9_stop_38 (fun H locs hS => ?_)
        obtain rfl := some_of hX
        exact x_I (v := r9) X hS dX9_stop_41
  rw [hH, hlo] at hgoal
  exact hgoal
theorem mv_X9_stop : Mv yX9_stop RX9 cX9_stop 5 ((some .int)) 2 := ⟨t3_210, t3_208, t3_209, t1_1, ⟨by decide, by decide⟩, by decide +kernel⟩
/-! SewnYear.state(IIII)I -/
def rm_X9_state : Room := { frames := 6, cells := 0, slots := 0, locals := 131 }
def f_X9_state (M : Mem) (a1 : Int32) (a2 : Int32) (a3 : Int32) (a4 : Int32) : Option (Int32 × Mem) :=
  bn (f_X9_coatAt M a1) fun r2 => bn (f_X9_lifeAt M a2) fun r4 => opt r2 (some ((-1000), M)) fun o5 => (opt r4 (some ((-1000), M)) fun o6 => (if a3 < (nI 0) then (some ((-1000), M)) else (if (gI M o6 0) < a3 then (some ((-1000), M)) else (bp (f_X8_lead M o5 o6 a3) fun r11 M10 => if a3 ≤ r11 then (bn (f_X8_tell M10 a4) fun r14 => some (r14, M10)) else (some ((-1000), M10))))))
set_option maxRecDepth 100000 in
set_option maxHeartbeats 4000000 in
theorem m_X9_state {l : Launch} {D : va_G} {cy : Nat → ClassId} {ad : Nat → Nat → Nat} {ns : List (Nat × Nat)} {A : Nat → Prop} {M : Mem} (hN : NsC ns) {a1 : Int32} {a2 : Int32} {a3 : Int32} {a4 : Int32} {r : Int32 × Mem} (hX : f_X9_state M a1 a2 a3 a4 = some r) : Ct l yX9_state cX9_state 7 ((some .int)) rm_X9_state D cy ad ns A [.ref (ad 0 0), .int a1, .int a2, .int a3, .int a4] M r.2 (some (.int r.1)) := by
  refine ct_of (lv := [(0, .ref (ad 0 0)), (1, .int a1), (2, .int a2), (3, .int a3), (4, .int a4)]) (by decide) (Nat.le_of_ble_eq_true rfl) rfl ?_
  intro p e s m args below meth c ls X hl hS
  obtain ⟨hx, hb, hml, hown, hts, hK, hr, hlk, hA, hG⟩ := id X
  obtain ⟨H, hH⟩ : ∃ z, z = s.heap := ⟨_, rfl⟩
  obtain ⟨locs, hlo⟩ : ∃ z : List Loc, z = [] := ⟨_, rfl⟩
  have hS : St D cy ad ns A M s.heap H locs := by rw [hH, hlo]; exact hS
  have hgoal : W p l e rm_X9_state s m args below meth c H locs 0 0 (MQ below (QC D cy ad ns A r.2 (some (.int r.1))) args s 0 0 A) (F0 m 0 ls []) := by
    unfold f_X9_state at hX
    refine lv_aload_n hx hb dX9_state_0 rfl (lv_at hl 0 rfl) ?_
    refine lv_iload_n hx hb dX9_state_1 rfl (lv_at hl 1 rfl) ?_
    obtain ⟨r2, h1, hX⟩ := bn_of hX
    refine r_callV1 (v := rv ad r2) (As := [.int a1]) (rest := []) X hS (m_X9_coatAt hN h1) mv_X9_coatAt rfl (o_of hN (o := 0) (c := 9) (by decide) rfl) t3_179 ⟨rfl, rfl, Nat.le_of_ble_eq_true rfl, Nat.le_of_ble_eq_true rfl⟩ rfl hl.1 rfl (Nat.le_of_ble_eq_true rfl) ⟨Nat.zero_le _, Nat.zero_le _⟩ dX9_state_2 (fun H locs hS => ?_)
    have qr2 : ∀ o, r2 = some o → Ob ns 0 o := fun o e => ob_X9_coatAt hN (by rw [← e]; exact h1)
    refine lv_astoreR (lv' := [(5, rv ad r2), (0, .ref (ad 0 0)), (1, .int a1), (2, .int a2), (3, .int a3), (4, .int a4)]) hx hb dX9_state_5 hl (by decide) rfl (fun ls hl => ?_)
    refine lv_aload_n hx hb dX9_state_7 rfl (lv_at hl 1 rfl) ?_
    refine lv_iload_n hx hb dX9_state_8 rfl (lv_at hl 3 rfl) ?_
    obtain ⟨r4, h3, hX⟩ := bn_of hX
    refine r_callV1 (v := rv ad r4) (As := [.int a2]) (rest := []) X hS (m_X9_lifeAt hN h3) mv_X9_lifeAt rfl (o_of hN (o := 0) (c := 9) (by decide) rfl) t3_199 ⟨rfl, rfl, Nat.le_of_ble_eq_true rfl, Nat.le_of_ble_eq_true rfl⟩ rfl hl.1 rfl (Nat.le_of_ble_eq_true rfl) ⟨Nat.zero_le _, Nat.zero_le _⟩ dX9_state_9 (fun H locs hS => ?_)
    have qr4 : ∀ o, r4 = some o → Ob ns 1 o := fun o e => ob_X9_lifeAt hN (by rw [← e]; exact h3)
    refine lv_astoreR (lv' := [(6, rv ad r4), (5, rv ad r2), (0, .ref (ad 0 0)), (1, .int a1), (2, .int a2), (3, .int a3), (4, .int a4)]) hx hb dX9_state_12 hl (by decide) (by cases r2 <;> rfl) (fun ls hl => ?_)
    rcases r2 with _ | o5
    · have hX := opt_n hX
      have hl : lv_has ls 7 [(6, rv ad r4), (5, .null), (0, .ref (ad 0 0)), (1, .int a1), (2, .int a2), (3, .int a3), (4, .int a4)] := hl
      refine lv_aloadN hx hb dX9_state_14 (lv_at hl 1 rfl) ?_
      refine lv_ifnullN (tgt := 53) hx hb dX9_state_16 (by decide) ?_
      refine lv_sipush (v := (-1000)) hx hb dX9_state_53 (by decide) ?_
      obtain rfl := some_of hX
      exact x_I (v := (-1000)) X hS dX9_state_56
    · have hX := opt_s hX
      have hl : lv_has ls 7 [(6, rv ad r4), (5, .ref (ad o5 0)), (0, .ref (ad 0 0)), (1, .int a1), (2, .int a2), (3, .int a3), (4, .int a4)] := hl
      refine lv_aload hx hb dX9_state_14 (lv_at hl 1 rfl) ?_
      refine lv_ifnull hx hb dX9_state_16 ?_
      rcases r4 with _ | o6
      · have hX := opt_n hX
        have hl : lv_has ls 7 [(6, .null), (5, .ref (ad o5 0)), (0, .ref (ad 0 0)), (1, .int a1), (2, .int a2), (3, .int a3), (4, .int a4)] := hl
        refine lv_aloadN hx hb dX9_state_19 (lv_at hl 0 rfl) ?_
        refine lv_ifnullN (tgt := 53) hx hb dX9_state_21 (by decide) ?_
        refine lv_sipush (v := (-1000)) hx hb dX9_state_53 (by decide) ?_
        obtain rfl := some_of hX
        exact x_I (v := (-1000)) X hS dX9_state_56
      · have hX := opt_s hX
        have hl : lv_has ls 7 [(6, .ref (ad o6 0)), (5, .ref (ad o5 0)), (0, .ref (ad 0 0)), (1, .int a1), (2, .int a2), (3, .int a3), (4, .int a4)] := hl
        refine lv_aload hx hb dX9_state_19 (lv_at hl 0 rfl) ?_
        refine lv_ifnull hx hb dX9_state_21 ?_
        refine lv_iload_n hx hb dX9_state_24 rfl (lv_at hl 5 rfl) ?_
        refine lv_if_lt (tgt := 53) hx hb dX9_state_25 (by decide) (fun c7 => ?_) (fun c7 => ?_)
        · have hX := if_t c7 hX
          refine lv_sipush (v := (-1000)) hx hb dX9_state_53 (by decide) ?_
          obtain rfl := some_of hX
          exact x_I (v := (-1000)) X hS dX9_state_56
        · have hX := if_f c7 hX
          refine lv_iload_n hx hb dX9_state_28 rfl (lv_at hl 5 rfl) ?_
          refine lv_aload hx hb dX9_state_29 (lv_at hl 0 rfl) ?_
          refine fg_X9_102 X hS (qr4 o6 rfl) dX9_state_31 ?_
          refine lv_icmp_gt (tgt := 53) hx hb dX9_state_34 (by decide) (fun c8 => ?_) (fun c8 => ?_)
          · have hX := if_t c8 hX
            refine lv_sipush (v := (-1000)) hx hb dX9_state_53 (by decide) ?_
            obtain rfl := some_of hX
            exact x_I (v := (-1000)) X hS dX9_state_56
          · have hX := if_f c8 hX
            refine lv_aload_n hx hb dX9_state_37 rfl (lv_at hl 2 rfl) ?_
            refine fg_X9_30 X hS (o_of hN (o := 0) (c := 9) (by decide) rfl) dX9_state_38 ?_
            refine lv_aload hx hb dX9_state_41 (lv_at hl 1 rfl) ?_
            refine lv_aload hx hb dX9_state_43 (lv_at hl 0 rfl) ?_
            refine lv_iload_n hx hb dX9_state_45 rfl (lv_at hl 5 rfl) ?_
            obtain ⟨r11, M10, h9, hX⟩ := bp_of hX
            refine r_callV1 (v := .int r11) (As := [.ref (ad o5 0), .ref (ad o6 0), .int a3]) (rest := []) X hS (m_X8_lead hN (qr2 o5 rfl) (qr4 o6 rfl) h9) mv_X8_lead rfl (o_of hN (o := 15) (c := 8) (by decide) rfl) t3_211 ⟨rfl, rfl, Nat.le_of_ble_eq_true rfl, Nat.le_of_ble_eq_true rfl⟩ rfl hl.1 rfl (Nat.le_of_ble_eq_true rfl) ⟨Nat.zero_le _, Nat.zero_le _⟩ dX9_state_46 (fun H locs hS => ?_)
            refine lv_iload_n hx hb dX9_state_49 rfl (lv_at hl 5 rfl) ?_
            refine lv_icmp_ge (tgt := 57) hx hb dX9_state_50 (by decide) (fun c12 => ?_) (fun c12 => ?_)
            · have hX := if_t c12 hX
              refine lv_aload_n hx hb dX9_state_57 rfl (lv_at hl 2 rfl) ?_
              refine fg_X9_30 X hS (o_of hN (o := 0) (c := 9) (by decide) rfl) dX9_state_58 ?_
              refine lv_iload hx hb dX9_state_61 (lv_at hl 6 rfl) ?_
              obtain ⟨r14, h13, hX⟩ := bn_of hX
              refine r_callV1 (v := .int r14) (As := [.int a4]) (rest := []) X hS (m_X8_tell hN h13) mv_X8_tell rfl (o_of hN (o := 15) (c := 8) (by decide) rfl) t4_22 ⟨rfl, rfl, Nat.le_of_ble_eq_true rfl, Nat.le_of_ble_eq_true rfl⟩ rfl hl.1 rfl (Nat.le_of_ble_eq_true rfl) ⟨Nat.zero_le _, Nat.zero_le _⟩ dX9_state_63 (fun H locs hS => ?_)
              obtain rfl := some_of hX
              exact x_I (v := r14) X hS dX9_state_66
            · have hX := if_f c12 hX
              refine lv_sipush (v := (-1000)) hx hb dX9_state_53 (by decide) ?_
              obtain rfl := some_of hX
              exact x_I (v := (-1000)) X hS dX9_state_56
  rw [hH, hlo] at hgoal
  exact hgoal
theorem mv_X9_state : Mv yX9_state RX9 cX9_state 7 ((some .int)) 4 := ⟨t4_21, t4_19, t4_20, t1_1, ⟨by decide, by decide⟩, by decide +kernel⟩
/-! SewnYear.orders(I)J -/
def rm_X9_orders : Room := { frames := 3, cells := 0, slots := 0, locals := 81 }
def f_X9_orders (M : Mem) (a1 : Int32) : Option (Int64 × Mem) :=
  bn (f_X9_coatAt M a1) fun r2 => opt r2 (some ((-1 : Int64), M)) fun o3 => (bn (f_X3_take M o3) fun M5 => bp (f_X3_ways M5) fun r8 M7 => some ((Int32.toInt64 r8), M7))
set_option maxRecDepth 100000 in
set_option maxHeartbeats 4000000 in
theorem m_X9_orders {l : Launch} {D : va_G} {cy : Nat → ClassId} {ad : Nat → Nat → Nat} {ns : List (Nat × Nat)} {A : Nat → Prop} {M : Mem} (hN : NsC ns) {a1 : Int32} {r : Int64 × Mem} (hX : f_X9_orders M a1 = some r) : Ct l yX9_orders cX9_orders 3 ((some .long)) rm_X9_orders D cy ad ns A [.ref (ad 0 0), .int a1] M r.2 (some (.long r.1)) := by
  refine ct_of (lv := [(0, .ref (ad 0 0)), (1, .int a1)]) (by decide) (Nat.le_of_ble_eq_true rfl) rfl ?_
  intro p e s m args below meth c ls X hl hS
  obtain ⟨hx, hb, hml, hown, hts, hK, hr, hlk, hA, hG⟩ := id X
  obtain ⟨H, hH⟩ : ∃ z, z = s.heap := ⟨_, rfl⟩
  obtain ⟨locs, hlo⟩ : ∃ z : List Loc, z = [] := ⟨_, rfl⟩
  have hS : St D cy ad ns A M s.heap H locs := by rw [hH, hlo]; exact hS
  have hgoal : W p l e rm_X9_orders s m args below meth c H locs 0 0 (MQ below (QC D cy ad ns A r.2 (some (.long r.1))) args s 0 0 A) (F0 m 0 ls []) := by
    unfold f_X9_orders at hX
    refine lv_aload_n hx hb dX9_orders_0 rfl (lv_at hl 0 rfl) ?_
    refine lv_iload_n hx hb dX9_orders_1 rfl (lv_at hl 1 rfl) ?_
    obtain ⟨r2, h1, hX⟩ := bn_of hX
    refine r_callV1 (v := rv ad r2) (As := [.int a1]) (rest := []) X hS (m_X9_coatAt hN h1) mv_X9_coatAt rfl (o_of hN (o := 0) (c := 9) (by decide) rfl) t3_179 ⟨rfl, rfl, Nat.le_of_ble_eq_true rfl, Nat.le_of_ble_eq_true rfl⟩ rfl hl.1 rfl (Nat.le_of_ble_eq_true rfl) ⟨Nat.zero_le _, Nat.zero_le _⟩ dX9_orders_2 (fun H locs hS => ?_)
    have qr2 : ∀ o, r2 = some o → Ob ns 0 o := fun o e => ob_X9_coatAt hN (by rw [← e]; exact h1)
    refine lv_astore_nR (lv' := [(2, rv ad r2), (0, .ref (ad 0 0)), (1, .int a1)]) hx hb dX9_orders_5 rfl hl (by decide) rfl (fun ls hl => ?_)
    rcases r2 with _ | o3
    · have hX := opt_n hX
      have hl : lv_has ls 3 [(2, .null), (0, .ref (ad 0 0)), (1, .int a1)] := hl
      refine lv_aload_nN hx hb dX9_orders_6 rfl (lv_at hl 0 rfl) ?_
      refine lv_ifnonnullN hx hb dX9_orders_7 ?_
      refine lv_ldc2 hx hb (own := RX9) hown (hts _ t4_30) dX9_orders_10 ?_
      obtain rfl := some_of hX
      exact x_L (v := (-1 : Int64)) X hS dX9_orders_13
    · have hX := opt_s hX
      have hl : lv_has ls 3 [(2, .ref (ad o3 0)), (0, .ref (ad 0 0)), (1, .int a1)] := hl
      refine lv_aload_n hx hb dX9_orders_6 rfl (lv_at hl 0 rfl) ?_
      refine lv_ifnonnull (tgt := 14) hx hb dX9_orders_7 (by decide) ?_
      refine lv_aload_n hx hb dX9_orders_14 rfl (lv_at hl 1 rfl) ?_
      refine fg_X9_37 X hS (o_of hN (o := 0) (c := 9) (by decide) rfl) dX9_orders_15 ?_
      refine lv_aload_n hx hb dX9_orders_18 rfl (lv_at hl 0 rfl) ?_
      obtain ⟨M5, h4, hX⟩ := bn_of hX
      refine r_callV0 (As := [.ref (ad o3 0)]) (rest := []) X hS (m_X3_take hN (qr2 o3 rfl) h4) mv_X3_take rfl (o_of hN (o := 17) (c := 3) (by decide) rfl) t4_31 ⟨rfl, rfl, Nat.le_of_ble_eq_true rfl, Nat.le_of_ble_eq_true rfl⟩ rfl hl.1 rfl (Nat.le_of_ble_eq_true rfl) ⟨Nat.zero_le _, Nat.zero_le _⟩ dX9_orders_19 (fun H locs hS => ?_)
      refine lv_aload_n hx hb dX9_orders_22 rfl (lv_at hl 1 rfl) ?_
      refine fg_X9_37 X hS (o_of hN (o := 0) (c := 9) (by decide) rfl) dX9_orders_23 ?_
      obtain ⟨r8, M7, h6, hX⟩ := bp_of hX
      refine r_callV1 (v := .int r8) (As := []) (rest := []) X hS (m_X3_ways hN h6) mv_X3_ways rfl (o_of hN (o := 17) (c := 3) (by decide) rfl) t4_37 ⟨rfl, rfl, Nat.le_of_ble_eq_true rfl, Nat.le_of_ble_eq_true rfl⟩ rfl hl.1 rfl (Nat.le_of_ble_eq_true rfl) ⟨Nat.zero_le _, Nat.zero_le _⟩ dX9_orders_26 (fun H locs hS => ?_)
      refine lv_i2l (v := (Int32.toInt64 r8)) hx hb dX9_orders_29 rfl ?_
      obtain rfl := some_of hX
      exact x_L (v := (Int32.toInt64 r8)) X hS dX9_orders_30
  rw [hH, hlo] at hgoal
  exact hgoal
theorem mv_X9_orders : Mv yX9_orders RX9 cX9_orders 3 ((some .long)) 1 := ⟨t4_29, t4_27, t4_28, t1_1, ⟨by decide, by decide⟩, by decide +kernel⟩
/-! SewnYear.order(III)I -/
def rm_X9_order : Room := { frames := 4, cells := 0, slots := 0, locals := 103 }
def f_X9_order (M : Mem) (a1 : Int32) (a2 : Int32) (a3 : Int32) : Option (Int32 × Mem) :=
  bp (f_X9_orderedAt M a1) fun r3 M2 => opt r3 (some ((-1), M2)) fun o4 => (if a2 < (nI 0) then (some ((-1), M2)) else (if a2 < (gI M2 o4 0) then (if a3 = nI 0 then (gin a2 9 <| some ((gA M2 17 4 (ix a2)), M2)) else if a3 = nI 1 then (bn (f_X0_needs M2 o4 a2) fun r11 => some ((bcI r11), M2)) else if a3 = nI 2 then (bn (f_X0_leans M2 o4 a2) fun r14 => some ((((gI M2 o4 0) - (nI 1)) - (bcI r14)), M2)) else if a3 = nI 3 then (bp (f_X3_fewestBursts M2) fun r18 M17 => gin a2 9 <| some ((gA M17 17 4 (ix a2)), M17)) else if a3 = nI 4 then (bp (f_X3_fewestChanges M2) fun r23 M22 => gin a2 9 <| some ((gA M22 17 4 (ix a2)), M22)) else (some ((-1), M2))) else (some ((-1), M2))))
set_option maxRecDepth 100000 in
set_option maxHeartbeats 4000000 in
theorem m_X9_order {l : Launch} {D : va_G} {cy : Nat → ClassId} {ad : Nat → Nat → Nat} {ns : List (Nat × Nat)} {A : Nat → Prop} {M : Mem} (hN : NsC ns) {a1 : Int32} {a2 : Int32} {a3 : Int32} {r : Int32 × Mem} (hX : f_X9_order M a1 a2 a3 = some r) : Ct l yX9_order cX9_order 5 ((some .int)) rm_X9_order D cy ad ns A [.ref (ad 0 0), .int a1, .int a2, .int a3] M r.2 (some (.int r.1)) := by
  refine ct_of (lv := [(0, .ref (ad 0 0)), (1, .int a1), (2, .int a2), (3, .int a3)]) (by decide) (Nat.le_of_ble_eq_true rfl) rfl ?_
  intro p e s m args below meth c ls X hl hS
  obtain ⟨hx, hb, hml, hown, hts, hK, hr, hlk, hA, hG⟩ := id X
  obtain ⟨H, hH⟩ : ∃ z, z = s.heap := ⟨_, rfl⟩
  obtain ⟨locs, hlo⟩ : ∃ z : List Loc, z = [] := ⟨_, rfl⟩
  have hS : St D cy ad ns A M s.heap H locs := by rw [hH, hlo]; exact hS
  have hgoal : W p l e rm_X9_order s m args below meth c H locs 0 0 (MQ below (QC D cy ad ns A r.2 (some (.int r.1))) args s 0 0 A) (F0 m 0 ls []) := by
    unfold f_X9_order at hX
    refine lv_aload_n hx hb dX9_order_0 rfl (lv_at hl 0 rfl) ?_
    refine lv_iload_n hx hb dX9_order_1 rfl (lv_at hl 1 rfl) ?_
    obtain ⟨r3, M2, h1, hX⟩ := bp_of hX
    refine r_callV1 (v := rv ad r3) (As := [.int a1]) (rest := []) X hS (m_X9_orderedAt hN h1) mv_X9_orderedAt rfl (o_of hN (o := 0) (c := 9) (by decide) rfl) t4_55 ⟨rfl, rfl, Nat.le_of_ble_eq_true rfl, Nat.le_of_ble_eq_true rfl⟩ rfl hl.1 rfl (Nat.le_of_ble_eq_true rfl) ⟨Nat.zero_le _, Nat.zero_le _⟩ dX9_order_2 (fun H locs hS => ?_)
    have qr3 : ∀ o, r3 = some o → Ob ns 0 o := fun o e => ob_X9_orderedAt hN (by rw [← e]; exact h1)
    refine lv_astoreR (lv' := [(4, rv ad r3), (0, .ref (ad 0 0)), (1, .int a1), (2, .int a2), (3, .int a3)]) hx hb dX9_order_5 hl (by decide) rfl (fun ls hl => ?_)
    rcases r3 with _ | o4
    · have hX := opt_n hX
      have hl : lv_has ls 5 [(4, .null), (0, .ref (ad 0 0)), (1, .int a1), (2, .int a2), (3, .int a3)] := hl
      refine lv_aloadN hx hb dX9_order_7 (lv_at hl 0 rfl) ?_
      refine lv_ifnullN (tgt := 25) hx hb dX9_order_9 (by decide) ?_
      refine lv_iconst (v := (-1)) hx hb dX9_order_25 (by decide) ?_
      obtain rfl := some_of hX
      exact x_I (v := (-1)) X hS dX9_order_26
    · have hX := opt_s hX
      have hl : lv_has ls 5 [(4, .ref (ad o4 0)), (0, .ref (ad 0 0)), (1, .int a1), (2, .int a2), (3, .int a3)] := hl
      refine lv_aload hx hb dX9_order_7 (lv_at hl 0 rfl) ?_
      refine lv_ifnull hx hb dX9_order_9 ?_
      refine lv_iload_n hx hb dX9_order_12 rfl (lv_at hl 3 rfl) ?_
      refine lv_if_lt (tgt := 25) hx hb dX9_order_13 (by decide) (fun c5 => ?_) (fun c5 => ?_)
      · have hX := if_t c5 hX
        refine lv_iconst (v := (-1)) hx hb dX9_order_25 (by decide) ?_
        obtain rfl := some_of hX
        exact x_I (v := (-1)) X hS dX9_order_26
      · have hX := if_f c5 hX
        refine lv_iload_n hx hb dX9_order_16 rfl (lv_at hl 3 rfl) ?_
        refine lv_aload hx hb dX9_order_17 (lv_at hl 0 rfl) ?_
        refine fg_X9_123 X hS (qr3 o4 rfl) dX9_order_19 ?_
        refine lv_icmp_lt (tgt := 27) hx hb dX9_order_22 (by decide) (fun c6 => ?_) (fun c6 => ?_)
        · have hX := if_t c6 hX
          refine lv_iload_n hx hb dX9_order_27 rfl (lv_at hl 4 rfl) ?_
          by_cases c7 : a3 = nI 0
          · have hX := if_t c7 hX
            refine r_tabIn c7 (off := 36) (tgt := 64) hx hb dX9_order_28 (by decide) (by decide) (by decide) (by decide) ?_
            refine lv_aload_n hx hb dX9_order_64 rfl (lv_at hl 1 rfl) ?_
            refine fg_X9_37 X hS (o_of hN (o := 0) (c := 9) (by decide) rfl) dX9_order_65 ?_
            refine fg_X9_126 X hS (o_of hN (o := 17) (c := 3) (by decide) rfl) dX9_order_68 ?_
            refine lv_iload_n hx hb dX9_order_71 rfl (lv_at hl 3 rfl) ?_
            obtain ⟨g8, hX⟩ := gin_of hX
            refine r_iald (ci := 3) (o := 17) (k := 4) (n := 9) X hS (o_of hN (o := 17) (c := 3) (by decide) rfl) rfl rfl g8 dX9_order_72 ?_
            obtain rfl := some_of hX
            exact x_I (v := (gA M2 17 4 (ix a2))) X hS dX9_order_73
          have hX := if_f c7 hX
          by_cases c9 : a3 = nI 1
          · have hX := if_t c9 hX
            refine r_tabIn c9 (off := 46) (tgt := 74) hx hb dX9_order_28 (by decide) (by decide) (by decide) (by decide) ?_
            refine lv_aload hx hb dX9_order_74 (lv_at hl 0 rfl) ?_
            refine lv_iload_n hx hb dX9_order_76 rfl (lv_at hl 3 rfl) ?_
            obtain ⟨r11, h10, hX⟩ := bn_of hX
            refine r_callV1 (v := .int r11) (As := [.int a2]) (rest := []) X hS (m_X0_needs hN (qr3 o4 rfl) h10) mv_X0_needs rfl (qr3 o4 rfl) t4_63 ⟨rfl, rfl, Nat.le_of_ble_eq_true rfl, Nat.le_of_ble_eq_true rfl⟩ rfl hl.1 rfl (Nat.le_of_ble_eq_true rfl) ⟨Nat.zero_le _, Nat.zero_le _⟩ dX9_order_77 (fun H locs hS => ?_)
            refine r_callS1 (v := .int (bcI r11)) (As := [.int r11]) (rest := []) X hS (m_bitCount (x := r11)) ms_bitCount t4_67 ⟨rfl, rfl, Nat.le_of_ble_eq_true rfl, Nat.le_of_ble_eq_true rfl⟩ rfl hl.1 rfl (Nat.le_of_ble_eq_true rfl) ⟨Nat.zero_le _, Nat.zero_le _⟩ dX9_order_80 (fun H locs hS => ?_)
            obtain rfl := some_of hX
            exact x_I (v := (bcI r11)) X hS dX9_order_83
          have hX := if_f c9 hX
          by_cases c12 : a3 = nI 2
          · have hX := if_t c12 hX
            refine r_tabIn c12 (off := 56) (tgt := 84) hx hb dX9_order_28 (by decide) (by decide) (by decide) (by decide) ?_
            refine lv_aload hx hb dX9_order_84 (lv_at hl 0 rfl) ?_
            refine fg_X9_123 X hS (qr3 o4 rfl) dX9_order_86 ?_
            refine lv_iconst (v := nI 1) hx hb dX9_order_89 (by decide) ?_
            refine lv_isub hx hb dX9_order_90 ?_
            refine lv_aload hx hb dX9_order_91 (lv_at hl 0 rfl) ?_
            refine lv_iload_n hx hb dX9_order_93 rfl (lv_at hl 3 rfl) ?_
            obtain ⟨r14, h13, hX⟩ := bn_of hX
            refine r_callV1 (v := .int r14) (As := [.int a2]) (rest := [.int ((gI M2 o4 0) - (nI 1))]) X hS (m_X0_leans hN (qr3 o4 rfl) h13) mv_X0_leans rfl (qr3 o4 rfl) t4_68 ⟨rfl, rfl, Nat.le_of_ble_eq_true rfl, Nat.le_of_ble_eq_true rfl⟩ rfl hl.1 rfl (Nat.le_of_ble_eq_true rfl) ⟨Nat.zero_le _, Nat.zero_le _⟩ dX9_order_94 (fun H locs hS => ?_)
            refine r_callS1 (v := .int (bcI r14)) (As := [.int r14]) (rest := [.int ((gI M2 o4 0) - (nI 1))]) X hS (m_bitCount (x := r14)) ms_bitCount t4_67 ⟨rfl, rfl, Nat.le_of_ble_eq_true rfl, Nat.le_of_ble_eq_true rfl⟩ rfl hl.1 rfl (Nat.le_of_ble_eq_true rfl) ⟨Nat.zero_le _, Nat.zero_le _⟩ dX9_order_97 (fun H locs hS => ?_)
            refine lv_isub hx hb dX9_order_100 ?_
            obtain rfl := some_of hX
            exact x_I (v := (((gI M2 o4 0) - (nI 1)) - (bcI r14))) X hS dX9_order_101
          have hX := if_f c12 hX
          by_cases c15 : a3 = nI 3
          · have hX := if_t c15 hX
            refine r_tabIn c15 (off := 74) (tgt := 102) hx hb dX9_order_28 (by decide) (by decide) (by decide) (by decide) ?_
            refine lv_aload_n hx hb dX9_order_102 rfl (lv_at hl 1 rfl) ?_
            refine fg_X9_37 X hS (o_of hN (o := 0) (c := 9) (by decide) rfl) dX9_order_103 ?_
            obtain ⟨r18, M17, h16, hX⟩ := bp_of hX
            refine r_callV1 (v := .int r18) (As := []) (rest := []) X hS (m_X3_fewestBursts hN h16) mv_X3_fewestBursts rfl (o_of hN (o := 17) (c := 3) (by decide) rfl) t4_73 ⟨rfl, rfl, Nat.le_of_ble_eq_true rfl, Nat.le_of_ble_eq_true rfl⟩ rfl hl.1 rfl (Nat.le_of_ble_eq_true rfl) ⟨Nat.zero_le _, Nat.zero_le _⟩ dX9_order_106 (fun H locs hS => ?_)
            refine lv_pop hx hb dX9_order_109 rfl ?_
            refine lv_aload_n hx hb dX9_order_110 rfl (lv_at hl 1 rfl) ?_
            refine fg_X9_37 X hS (o_of hN (o := 0) (c := 9) (by decide) rfl) dX9_order_111 ?_
            refine fg_X9_126 X hS (o_of hN (o := 17) (c := 3) (by decide) rfl) dX9_order_114 ?_
            refine lv_iload_n hx hb dX9_order_117 rfl (lv_at hl 3 rfl) ?_
            obtain ⟨g19, hX⟩ := gin_of hX
            refine r_iald (ci := 3) (o := 17) (k := 4) (n := 9) X hS (o_of hN (o := 17) (c := 3) (by decide) rfl) rfl rfl g19 dX9_order_118 ?_
            obtain rfl := some_of hX
            exact x_I (v := (gA M17 17 4 (ix a2))) X hS dX9_order_119
          have hX := if_f c15 hX
          by_cases c20 : a3 = nI 4
          · have hX := if_t c20 hX
            refine r_tabIn c20 (off := 92) (tgt := 120) hx hb dX9_order_28 (by decide) (by decide) (by decide) (by decide) ?_
            refine lv_aload_n hx hb dX9_order_120 rfl (lv_at hl 1 rfl) ?_
            refine fg_X9_37 X hS (o_of hN (o := 0) (c := 9) (by decide) rfl) dX9_order_121 ?_
            obtain ⟨r23, M22, h21, hX⟩ := bp_of hX
            refine r_callV1 (v := .int r23) (As := []) (rest := []) X hS (m_X3_fewestChanges hN h21) mv_X3_fewestChanges rfl (o_of hN (o := 17) (c := 3) (by decide) rfl) t4_94 ⟨rfl, rfl, Nat.le_of_ble_eq_true rfl, Nat.le_of_ble_eq_true rfl⟩ rfl hl.1 rfl (Nat.le_of_ble_eq_true rfl) ⟨Nat.zero_le _, Nat.zero_le _⟩ dX9_order_124 (fun H locs hS => ?_)
            refine lv_pop hx hb dX9_order_127 rfl ?_
            refine lv_aload_n hx hb dX9_order_128 rfl (lv_at hl 1 rfl) ?_
            refine fg_X9_37 X hS (o_of hN (o := 0) (c := 9) (by decide) rfl) dX9_order_129 ?_
            refine fg_X9_126 X hS (o_of hN (o := 17) (c := 3) (by decide) rfl) dX9_order_132 ?_
            refine lv_iload_n hx hb dX9_order_135 rfl (lv_at hl 3 rfl) ?_
            obtain ⟨g24, hX⟩ := gin_of hX
            refine r_iald (ci := 3) (o := 17) (k := 4) (n := 9) X hS (o_of hN (o := 17) (c := 3) (by decide) rfl) rfl rfl g24 dX9_order_136 ?_
            obtain rfl := some_of hX
            exact x_I (v := (gA M22 17 4 (ix a2))) X hS dX9_order_137
          have hX := if_f c20 hX
          have ic7 : ¬ a3.toInt = 0 := lv_neT c7 rfl
          have ic9 : ¬ a3.toInt = 1 := lv_neT c9 rfl
          have ic12 : ¬ a3.toInt = 2 := lv_neT c12 rfl
          have ic15 : ¬ a3.toInt = 3 := lv_neT c15 rfl
          have ic20 : ¬ a3.toInt = 4 := lv_neT c20 rfl
          refine lv_tableOut (tgt := 138) hx hb dX9_order_28 (by omega) (by decide) ?_
          refine lv_iconst (v := (-1)) hx hb dX9_order_138 (by decide) ?_
          obtain rfl := some_of hX
          exact x_I (v := (-1)) X hS dX9_order_139
        · have hX := if_f c6 hX
          refine lv_iconst (v := (-1)) hx hb dX9_order_25 (by decide) ?_
          obtain rfl := some_of hX
          exact x_I (v := (-1)) X hS dX9_order_26
  rw [hH, hlo] at hgoal
  exact hgoal
theorem mv_X9_order : Mv yX9_order RX9 cX9_order 5 ((some .int)) 3 := ⟨t4_54, t4_52, t4_53, t1_1, ⟨by decide, by decide⟩, by decide +kernel⟩
/-! SewnYear.sewn(II)I -/
def rm_X9_sewn : Room := { frames := 4, cells := 0, slots := 0, locals := 103 }
def f_X9_sewn (M : Mem) (a1 : Int32) (a2 : Int32) : Option (Int32 × Mem) :=
  bp (f_X9_orderedAt M a1) fun r3 M2 => opt r3 (some ((-1), M2)) fun o4 => (if a2 = nI 0 then (bp (f_X3_fewestBursts M2) fun r8 M7 => some (r8, M7)) else if a2 = nI 1 then (bp (f_X3_fewestChanges M2) fun r12 M11 => some (r12, M11)) else if a2 = nI 2 then (bp (f_X3_longest M2 (nI 1)) fun r16 M15 => some (r16, M15)) else if a2 = nI 3 then (bp (f_X3_longest M2 (gI M2 o4 1)) fun r20 M19 => some (r20, M19)) else (some ((-1), M2)))
set_option maxRecDepth 100000 in
set_option maxHeartbeats 4000000 in
theorem m_X9_sewn {l : Launch} {D : va_G} {cy : Nat → ClassId} {ad : Nat → Nat → Nat} {ns : List (Nat × Nat)} {A : Nat → Prop} {M : Mem} (hN : NsC ns) {a1 : Int32} {a2 : Int32} {r : Int32 × Mem} (hX : f_X9_sewn M a1 a2 = some r) : Ct l yX9_sewn cX9_sewn 4 ((some .int)) rm_X9_sewn D cy ad ns A [.ref (ad 0 0), .int a1, .int a2] M r.2 (some (.int r.1)) := by
  refine ct_of (lv := [(0, .ref (ad 0 0)), (1, .int a1), (2, .int a2)]) (by decide) (Nat.le_of_ble_eq_true rfl) rfl ?_
  intro p e s m args below meth c ls X hl hS
  obtain ⟨hx, hb, hml, hown, hts, hK, hr, hlk, hA, hG⟩ := id X
  obtain ⟨H, hH⟩ : ∃ z, z = s.heap := ⟨_, rfl⟩
  obtain ⟨locs, hlo⟩ : ∃ z : List Loc, z = [] := ⟨_, rfl⟩
  have hS : St D cy ad ns A M s.heap H locs := by rw [hH, hlo]; exact hS
  have hgoal : W p l e rm_X9_sewn s m args below meth c H locs 0 0 (MQ below (QC D cy ad ns A r.2 (some (.int r.1))) args s 0 0 A) (F0 m 0 ls []) := by
    unfold f_X9_sewn at hX
    refine lv_aload_n hx hb dX9_sewn_0 rfl (lv_at hl 0 rfl) ?_
    refine lv_iload_n hx hb dX9_sewn_1 rfl (lv_at hl 1 rfl) ?_
    obtain ⟨r3, M2, h1, hX⟩ := bp_of hX
    refine r_callV1 (v := rv ad r3) (As := [.int a1]) (rest := []) X hS (m_X9_orderedAt hN h1) mv_X9_orderedAt rfl (o_of hN (o := 0) (c := 9) (by decide) rfl) t4_55 ⟨rfl, rfl, Nat.le_of_ble_eq_true rfl, Nat.le_of_ble_eq_true rfl⟩ rfl hl.1 rfl (Nat.le_of_ble_eq_true rfl) ⟨Nat.zero_le _, Nat.zero_le _⟩ dX9_sewn_2 (fun H locs hS => ?_)
    have qr3 : ∀ o, r3 = some o → Ob ns 0 o := fun o e => ob_X9_orderedAt hN (by rw [← e]; exact h1)
    refine lv_astore_nR (lv' := [(3, rv ad r3), (0, .ref (ad 0 0)), (1, .int a1), (2, .int a2)]) hx hb dX9_sewn_5 rfl hl (by decide) rfl (fun ls hl => ?_)
    rcases r3 with _ | o4
    · have hX := opt_n hX
      have hl : lv_has ls 4 [(3, .null), (0, .ref (ad 0 0)), (1, .int a1), (2, .int a2)] := hl
      refine lv_aload_nN hx hb dX9_sewn_6 rfl (lv_at hl 0 rfl) ?_
      refine lv_ifnonnullN hx hb dX9_sewn_7 ?_
      refine lv_iconst (v := (-1)) hx hb dX9_sewn_10 (by decide) ?_
      obtain rfl := some_of hX
      exact x_I (v := (-1)) X hS dX9_sewn_11
    · have hX := opt_s hX
      have hl : lv_has ls 4 [(3, .ref (ad o4 0)), (0, .ref (ad 0 0)), (1, .int a1), (2, .int a2)] := hl
      refine lv_aload_n hx hb dX9_sewn_6 rfl (lv_at hl 0 rfl) ?_
      refine lv_ifnonnull (tgt := 12) hx hb dX9_sewn_7 (by decide) ?_
      refine lv_iload_n hx hb dX9_sewn_12 rfl (lv_at hl 3 rfl) ?_
      by_cases c5 : a2 = nI 0
      · have hX := if_t c5 hX
        refine r_tabIn c5 (off := 31) (tgt := 44) hx hb dX9_sewn_13 (by decide) (by decide) (by decide) (by decide) ?_
        refine lv_aload_n hx hb dX9_sewn_44 rfl (lv_at hl 1 rfl) ?_
        refine fg_X9_37 X hS (o_of hN (o := 0) (c := 9) (by decide) rfl) dX9_sewn_45 ?_
        obtain ⟨r8, M7, h6, hX⟩ := bp_of hX
        refine r_callV1 (v := .int r8) (As := []) (rest := []) X hS (m_X3_fewestBursts hN h6) mv_X3_fewestBursts rfl (o_of hN (o := 17) (c := 3) (by decide) rfl) t4_73 ⟨rfl, rfl, Nat.le_of_ble_eq_true rfl, Nat.le_of_ble_eq_true rfl⟩ rfl hl.1 rfl (Nat.le_of_ble_eq_true rfl) ⟨Nat.zero_le _, Nat.zero_le _⟩ dX9_sewn_48 (fun H locs hS => ?_)
        obtain rfl := some_of hX
        exact x_I (v := r8) X hS dX9_sewn_51
      have hX := if_f c5 hX
      by_cases c9 : a2 = nI 1
      · have hX := if_t c9 hX
        refine r_tabIn c9 (off := 39) (tgt := 52) hx hb dX9_sewn_13 (by decide) (by decide) (by decide) (by decide) ?_
        refine lv_aload_n hx hb dX9_sewn_52 rfl (lv_at hl 1 rfl) ?_
        refine fg_X9_37 X hS (o_of hN (o := 0) (c := 9) (by decide) rfl) dX9_sewn_53 ?_
        obtain ⟨r12, M11, h10, hX⟩ := bp_of hX
        refine r_callV1 (v := .int r12) (As := []) (rest := []) X hS (m_X3_fewestChanges hN h10) mv_X3_fewestChanges rfl (o_of hN (o := 17) (c := 3) (by decide) rfl) t4_94 ⟨rfl, rfl, Nat.le_of_ble_eq_true rfl, Nat.le_of_ble_eq_true rfl⟩ rfl hl.1 rfl (Nat.le_of_ble_eq_true rfl) ⟨Nat.zero_le _, Nat.zero_le _⟩ dX9_sewn_56 (fun H locs hS => ?_)
        obtain rfl := some_of hX
        exact x_I (v := r12) X hS dX9_sewn_59
      have hX := if_f c9 hX
      by_cases c13 : a2 = nI 2
      · have hX := if_t c13 hX
        refine r_tabIn c13 (off := 47) (tgt := 60) hx hb dX9_sewn_13 (by decide) (by decide) (by decide) (by decide) ?_
        refine lv_aload_n hx hb dX9_sewn_60 rfl (lv_at hl 1 rfl) ?_
        refine fg_X9_37 X hS (o_of hN (o := 0) (c := 9) (by decide) rfl) dX9_sewn_61 ?_
        refine lv_iconst (v := nI 1) hx hb dX9_sewn_64 (by decide) ?_
        obtain ⟨r16, M15, h14, hX⟩ := bp_of hX
        refine r_callV1 (v := .int r16) (As := [.int (nI 1)]) (rest := []) X hS (m_X3_longest hN h14) mv_X3_longest rfl (o_of hN (o := 17) (c := 3) (by decide) rfl) t4_110 ⟨rfl, rfl, Nat.le_of_ble_eq_true rfl, Nat.le_of_ble_eq_true rfl⟩ rfl hl.1 rfl (Nat.le_of_ble_eq_true rfl) ⟨Nat.zero_le _, Nat.zero_le _⟩ dX9_sewn_65 (fun H locs hS => ?_)
        obtain rfl := some_of hX
        exact x_I (v := r16) X hS dX9_sewn_68
      have hX := if_f c13 hX
      by_cases c17 : a2 = nI 3
      · have hX := if_t c17 hX
        refine r_tabIn c17 (off := 56) (tgt := 69) hx hb dX9_sewn_13 (by decide) (by decide) (by decide) (by decide) ?_
        refine lv_aload_n hx hb dX9_sewn_69 rfl (lv_at hl 1 rfl) ?_
        refine fg_X9_37 X hS (o_of hN (o := 0) (c := 9) (by decide) rfl) dX9_sewn_70 ?_
        refine lv_aload_n hx hb dX9_sewn_73 rfl (lv_at hl 0 rfl) ?_
        refine fg_X9_150 X hS (qr3 o4 rfl) dX9_sewn_74 ?_
        obtain ⟨r20, M19, h18, hX⟩ := bp_of hX
        refine r_callV1 (v := .int r20) (As := [.int (gI M2 o4 1)]) (rest := []) X hS (m_X3_longest hN h18) mv_X3_longest rfl (o_of hN (o := 17) (c := 3) (by decide) rfl) t4_110 ⟨rfl, rfl, Nat.le_of_ble_eq_true rfl, Nat.le_of_ble_eq_true rfl⟩ rfl hl.1 rfl (Nat.le_of_ble_eq_true rfl) ⟨Nat.zero_le _, Nat.zero_le _⟩ dX9_sewn_77 (fun H locs hS => ?_)
        obtain rfl := some_of hX
        exact x_I (v := r20) X hS dX9_sewn_80
      have hX := if_f c17 hX
      have ic5 : ¬ a2.toInt = 0 := lv_neT c5 rfl
      have ic9 : ¬ a2.toInt = 1 := lv_neT c9 rfl
      have ic13 : ¬ a2.toInt = 2 := lv_neT c13 rfl
      have ic17 : ¬ a2.toInt = 3 := lv_neT c17 rfl
      refine lv_tableOut (tgt := 81) hx hb dX9_sewn_13 (by omega) (by decide) ?_
      refine lv_iconst (v := (-1)) hx hb dX9_sewn_81 (by decide) ?_
      obtain rfl := some_of hX
      exact x_I (v := (-1)) X hS dX9_sewn_82
  rw [hH, hlo] at hgoal
  exact hgoal
theorem mv_X9_sewn : Mv yX9_sewn RX9 cX9_sewn 4 ((some .int)) 2 := ⟨t4_109, t4_107, t4_108, t1_1, ⟨by decide, by decide⟩, by decide +kernel⟩
/-! SewnYear.parted(IIIZ)I -/
def rm_X9_parted : Room := { frames := 2, cells := 0, slots := 0, locals := 43 }
def f_X9_parted_102 (M : Mem) (a1 : Int32) (a2 : Int32) (a3 : Int32) (a4 : Bool) (v_5 : Nat) (k_47 : Int32 → Int32 → Int32 → Option (Int32)) (v_6 : Int32) (v_7 : Int32) (v_8 : Int32) : Option (Int32) :=
  nm (v_8 + nI 1) fun v1 => k_47 v_6 v_7 v1
def b_X9_parted_47 (M : Mem) (a1 : Int32) (a2 : Int32) (a3 : Int32) (a4 : Bool) (v_5 : Nat) (rc : Int32 → Int32 → Int32 → Option (Int32)) (v_6 : Int32) (v_7 : Int32) (v_8 : Int32) : Option (Int32) :=
  if ((nI 1) <<< ((gI M v_5 0) &&& 31)) ≤ v_8 then (if a4 = true then (some v_7) else (some v_6)) else (if ((v_8 >>> (a2 &&& 31)) &&& (nI 1)) = (nI 1) then (if ((v_8 >>> (a3 &&& 31)) &&& (nI 1)) = (nI 0) then (bn (f_X0_cut M v_5 v_8) fun r7 => if v_6 ≤ r7 then (f_X9_parted_102 M a1 a2 a3 a4 v_5 rc v_6 v_7 v_8) else (f_X9_parted_102 M a1 a2 a3 a4 v_5 rc r7 v_8 v_8)) else (f_X9_parted_102 M a1 a2 a3 a4 v_5 rc v_6 v_7 v_8)) else (f_X9_parted_102 M a1 a2 a3 a4 v_5 rc v_6 v_7 v_8))
def f_X9_parted_47 (M : Mem) (a1 : Int32) (a2 : Int32) (a3 : Int32) (a4 : Bool) (v_5 : Nat) : Nat → (Int32 × Int32 × Int32) → Option (Int32) := lp (fun rc q => b_X9_parted_47 M a1 a2 a3 a4 v_5 (fun x0 x1 x2 => rc (x0, x1, x2)) q.1 q.2.1 q.2.2)
def f_X9_parted (M : Mem) (a1 : Int32) (a2 : Int32) (a3 : Int32) (a4 : Bool) : Option (Int32) :=
  bn (f_X9_coatAt M a1) fun r10 => opt r10 (some (-1)) fun o11 => (if a2 = a3 then (some (-1)) else (bn (f_X0_hasSeam M o11 a2) fun r14 => if r14 = true then (bn (f_X0_hasSeam M o11 a3) fun r17 => if r17 = true then (f_X9_parted_47 M a1 a2 a3 a4 o11 FU ((nI 1000000), (nI 0), (nI 0))) else (some (-1))) else (some (-1))))
set_option maxRecDepth 100000 in
set_option maxHeartbeats 4000000 in
theorem n_X9_parted_102 {a1 : Int32} {a2 : Int32} {a3 : Int32} {a4 : Bool} {v_5 : Nat} (X : Cx p s m args meth c D cy ad A RX9 cX9_parted 10 ((some .int))) (hN : NsC ns) {M : Mem} {k_47 : Int32 → Int32 → Int32 → Option (Int32)} {v_6 : Int32} {v_7 : Int32} {v_8 : Int32} {r : Int32} (hX : f_X9_parted_102 M a1 a2 a3 a4 v_5 k_47 v_6 v_7 v_8 = some r) : Ob ns 0 v_5 → (∀ (v_6 : Int32) (v_7 : Int32) (v_8 : Int32) (r : Int32), k_47 v_6 v_7 v_8 = some r → ∀ (ls : Array Slot) (H : Heap) (locs : List Loc), lv_has ls 10 [(2, .int a2), (3, .int a3), (4, .int (b2i a4)), (5, .ref (ad v_5 0)), (6, .int v_6), (7, .int v_7), (8, .int v_8)] → St D cy ad ns A M s.heap H locs → W p l e rm_X9_parted s m args below meth c H locs 0 0 (MQ below (QC D cy ad ns A M (some (.int r))) args s 0 0 A) (F0 m 47 ls [])) → ∀ (ls : Array Slot) (H : Heap) (locs : List Loc), lv_has ls 10 [(2, .int a2), (3, .int a3), (4, .int (b2i a4)), (5, .ref (ad v_5 0)), (6, .int v_6), (7, .int v_7), (8, .int v_8)] → St D cy ad ns A M s.heap H locs → W p l e rm_X9_parted s m args below meth c H locs 0 0 (MQ below (QC D cy ad ns A M (some (.int r))) args s 0 0 A) (F0 m 102 ls []) := by
  obtain ⟨hx, hb, hml, hown, hts, hK, hr, hlk, hA, hG⟩ := id X
  intro hv_5 hk_47 ls H locs hl hS
  unfold f_X9_parted_102 at hX
  obtain ⟨v1, ev1⟩ : ∃ y : Int32, y = (v_8 + nI 1) := ⟨_, rfl⟩
  have hX := nm_of ev1 hX
  refine lv_iinc (v := v1) (lv' := [(8, .int v1), (2, .int a2), (3, .int a3), (4, .int (b2i a4)), (5, .ref (ad v_5 0)), (6, .int v_6), (7, .int v_7)]) hx hb dX9_parted_102 hl (k := 6) rfl (by rw [ev1]; rfl) (by decide) rfl (fun ls hl => ?_)
  refine lv_goto (tgt := 47) hx hb dX9_parted_105 (by decide) ?_
  exact hk_47 _ _ _ _ hX _ _ _ (lv_sub hl [1, 2, 3, 4, 5, 6, 0] rfl) hS
set_option maxRecDepth 100000 in
set_option maxHeartbeats 4000000 in
theorem n_X9_parted_47 {a1 : Int32} {a2 : Int32} {a3 : Int32} {a4 : Bool} (X : Cx p s m args meth c D cy ad A RX9 cX9_parted 10 ((some .int))) (hN : NsC ns) {M : Mem} {v_5 : Nat} : ∀ (n : Nat) (v_6 : Int32) (v_7 : Int32) (v_8 : Int32) (r : Int32), f_X9_parted_47 M a1 a2 a3 a4 v_5 n (v_6, v_7, v_8) = some r → Ob ns 0 v_5 → ∀ (ls : Array Slot) (H : Heap) (locs : List Loc), lv_has ls 10 [(2, .int a2), (3, .int a3), (4, .int (b2i a4)), (5, .ref (ad v_5 0)), (6, .int v_6), (7, .int v_7), (8, .int v_8)] → St D cy ad ns A M s.heap H locs → W p l e rm_X9_parted s m args below meth c H locs 0 0 (MQ below (QC D cy ad ns A M (some (.int r))) args s 0 0 A) (F0 m 47 ls []) := by
  obtain ⟨hx, hb, hml, hown, hts, hK, hr, hlk, hA, hG⟩ := id X
  intro n
  induction n with
  | zero => intro v_6 v_7 v_8 r hX; cases (show (none : Option (Int32)) = some r from hX)
  | succ n ih =>
    intro v_6 v_7 v_8 r hX hv_5 ls H locs hl hS
    have hX : b_X9_parted_47 M a1 a2 a3 a4 v_5 (fun x0 x1 x2 => f_X9_parted_47 M a1 a2 a3 a4 v_5 n (x0, x1, x2)) v_6 v_7 v_8 = some r := hX
    unfold b_X9_parted_47 at hX
    refine lv_iload hx hb dX9_parted_47 (lv_at hl 6 rfl) ?_
    refine lv_iconst (v := nI 1) hx hb dX9_parted_49 (by decide) ?_
    refine lv_aload hx hb dX9_parted_50 (lv_at hl 3 rfl) ?_
    refine fg_X9_123 X hS hv_5 dX9_parted_52 ?_
    refine lv_ishl hx hb dX9_parted_55 ?_
    refine lv_icmp_ge (tgt := 108) hx hb dX9_parted_56 (by decide) (fun c2 => ?_) (fun c2 => ?_)
    · have hX := if_t c2 hX
      refine lv_iload hx hb dX9_parted_108 (lv_at hl 2 rfl) ?_
      refine lv_if_eq (tgt := 118) hx hb dX9_parted_110 (by decide) (fun c3 => ?_) (fun c3 => ?_)
      · have hX := if_bf c3 hX
        refine lv_iload hx hb dX9_parted_118 (lv_at hl 4 rfl) ?_
        obtain rfl := some_of hX
        exact x_I (v := v_6) X hS dX9_parted_120
      · have hX := if_bt c3 hX
        refine lv_iload hx hb dX9_parted_113 (lv_at hl 5 rfl) ?_
        refine lv_goto (tgt := 120) hx hb dX9_parted_115 (by decide) ?_
        obtain rfl := some_of hX
        exact x_I (v := v_7) X hS dX9_parted_120
    · have hX := if_f c2 hX
      refine lv_iload hx hb dX9_parted_59 (lv_at hl 6 rfl) ?_
      refine lv_iload_n hx hb dX9_parted_61 rfl (lv_at hl 0 rfl) ?_
      refine lv_ishr hx hb dX9_parted_62 ?_
      refine lv_iconst (v := nI 1) hx hb dX9_parted_63 (by decide) ?_
      refine lv_iand hx hb dX9_parted_64 ?_
      refine lv_iconst (v := nI 1) hx hb dX9_parted_65 (by decide) ?_
      refine lv_icmp_ne (tgt := 102) hx hb dX9_parted_66 (by decide) (fun c4 => ?_) (fun c4 => ?_)
      · have hX := if_f c4 hX
        exact n_X9_parted_102 X hN hX hv_5 (fun z0 z1 z2 r h ls H locs hl hS => ih z0 z1 z2 r h hv_5 ls H locs hl hS) _ _ _ (lv_sub hl [0, 1, 2, 3, 4, 5, 6] rfl) hS
      · have hX := if_t c4 hX
        refine lv_iload hx hb dX9_parted_69 (lv_at hl 6 rfl) ?_
        refine lv_iload_n hx hb dX9_parted_71 rfl (lv_at hl 1 rfl) ?_
        refine lv_ishr hx hb dX9_parted_72 ?_
        refine lv_iconst (v := nI 1) hx hb dX9_parted_73 (by decide) ?_
        refine lv_iand hx hb dX9_parted_74 ?_
        refine lv_if_ne (tgt := 102) hx hb dX9_parted_75 (by decide) (fun c5 => ?_) (fun c5 => ?_)
        · have hX := if_f c5 hX
          exact n_X9_parted_102 X hN hX hv_5 (fun z0 z1 z2 r h ls H locs hl hS => ih z0 z1 z2 r h hv_5 ls H locs hl hS) _ _ _ (lv_sub hl [0, 1, 2, 3, 4, 5, 6] rfl) hS
        · have hX := if_t c5 hX
          refine lv_aload hx hb dX9_parted_78 (lv_at hl 3 rfl) ?_
          refine lv_iload hx hb dX9_parted_80 (lv_at hl 6 rfl) ?_
          obtain ⟨r7, h6, hX⟩ := bn_of hX
          refine r_callV1 (v := .int r7) (As := [.int v_8]) (rest := []) X hS (m_X0_cut hN hv_5 h6) mv_X0_cut rfl hv_5 t4_121 ⟨rfl, rfl, Nat.le_of_ble_eq_true rfl, Nat.le_of_ble_eq_true rfl⟩ rfl hl.1 rfl (Nat.le_of_ble_eq_true rfl) ⟨Nat.zero_le _, Nat.zero_le _⟩ dX9_parted_82 (fun H locs hS => ?_)
          refine lv_istore (lv' := [(9, .int r7), (2, .int a2), (3, .int a3), (4, .int (b2i a4)), (5, .ref (ad v_5 0)), (6, .int v_6), (7, .int v_7), (8, .int v_8)]) hx hb dX9_parted_85 hl (by decide) rfl (fun ls hl => ?_)
          refine lv_iload hx hb dX9_parted_87 (lv_at hl 0 rfl) ?_
          refine lv_iload hx hb dX9_parted_89 (lv_at hl 5 rfl) ?_
          refine lv_icmp_ge (tgt := 102) hx hb dX9_parted_91 (by decide) (fun c8 => ?_) (fun c8 => ?_)
          · have hX := if_t c8 hX
            exact n_X9_parted_102 X hN hX hv_5 (fun z0 z1 z2 r h ls H locs hl hS => ih z0 z1 z2 r h hv_5 ls H locs hl hS) _ _ _ (lv_sub hl [1, 2, 3, 4, 5, 6, 7] rfl) hS
          · have hX := if_f c8 hX
            refine lv_iload hx hb dX9_parted_94 (lv_at hl 0 rfl) ?_
            refine lv_istore (lv' := [(6, .int r7), (9, .int r7), (2, .int a2), (3, .int a3), (4, .int (b2i a4)), (5, .ref (ad v_5 0)), (7, .int v_7), (8, .int v_8)]) hx hb dX9_parted_96 hl (by decide) rfl (fun ls hl => ?_)
            refine lv_iload hx hb dX9_parted_98 (lv_at hl 7 rfl) ?_
            refine lv_istore (lv' := [(7, .int v_8), (6, .int r7), (9, .int r7), (2, .int a2), (3, .int a3), (4, .int (b2i a4)), (5, .ref (ad v_5 0)), (8, .int v_8)]) hx hb dX9_parted_100 hl (by decide) rfl (fun ls hl => ?_)
            exact n_X9_parted_102 X hN hX hv_5 (fun z0 z1 z2 r h ls H locs hl hS => ih z0 z1 z2 r h hv_5 ls H locs hl hS) _ _ _ (lv_sub hl [3, 4, 5, 6, 1, 0, 7] rfl) hS
set_option maxRecDepth 100000 in
set_option maxHeartbeats 4000000 in
theorem m_X9_parted {l : Launch} {D : va_G} {cy : Nat → ClassId} {ad : Nat → Nat → Nat} {ns : List (Nat × Nat)} {A : Nat → Prop} {M : Mem} (hN : NsC ns) {a1 : Int32} {a2 : Int32} {a3 : Int32} {a4 : Bool} {r : Int32} (hX : f_X9_parted M a1 a2 a3 a4 = some r) : Ct l yX9_parted cX9_parted 10 ((some .int)) rm_X9_parted D cy ad ns A [.ref (ad 0 0), .int a1, .int a2, .int a3, .int (b2i a4)] M M (some (.int r)) := by
  refine ct_of (lv := [(0, .ref (ad 0 0)), (1, .int a1), (2, .int a2), (3, .int a3), (4, .int (b2i a4))]) (by decide) (Nat.le_of_ble_eq_true rfl) rfl ?_
  intro p e s m args below meth c ls X hl hS
  obtain ⟨hx, hb, hml, hown, hts, hK, hr, hlk, hA, hG⟩ := id X
  obtain ⟨H, hH⟩ : ∃ z, z = s.heap := ⟨_, rfl⟩
  obtain ⟨locs, hlo⟩ : ∃ z : List Loc, z = [] := ⟨_, rfl⟩
  have hS : St D cy ad ns A M s.heap H locs := by rw [hH, hlo]; exact hS
  have hgoal : W p l e rm_X9_parted s m args below meth c H locs 0 0 (MQ below (QC D cy ad ns A M (some (.int r))) args s 0 0 A) (F0 m 0 ls []) := by
    unfold f_X9_parted at hX
    refine lv_aload_n hx hb dX9_parted_0 rfl (lv_at hl 0 rfl) ?_
    refine lv_iload_n hx hb dX9_parted_1 rfl (lv_at hl 1 rfl) ?_
    obtain ⟨r10, h9, hX⟩ := bn_of hX
    refine r_callV1 (v := rv ad r10) (As := [.int a1]) (rest := []) X hS (m_X9_coatAt hN h9) mv_X9_coatAt rfl (o_of hN (o := 0) (c := 9) (by decide) rfl) t3_179 ⟨rfl, rfl, Nat.le_of_ble_eq_true rfl, Nat.le_of_ble_eq_true rfl⟩ rfl hl.1 rfl (Nat.le_of_ble_eq_true rfl) ⟨Nat.zero_le _, Nat.zero_le _⟩ dX9_parted_2 (fun H locs hS => ?_)
    have qr10 : ∀ o, r10 = some o → Ob ns 0 o := fun o e => ob_X9_coatAt hN (by rw [← e]; exact h9)
    refine lv_astoreR (lv' := [(5, rv ad r10), (0, .ref (ad 0 0)), (1, .int a1), (2, .int a2), (3, .int a3), (4, .int (b2i a4))]) hx hb dX9_parted_5 hl (by decide) rfl (fun ls hl => ?_)
    rcases r10 with _ | o11
    · have hX := opt_n hX
      have hl : lv_has ls 10 [(5, .null), (0, .ref (ad 0 0)), (1, .int a1), (2, .int a2), (3, .int a3), (4, .int (b2i a4))] := hl
      refine lv_aloadN hx hb dX9_parted_7 (lv_at hl 0 rfl) ?_
      refine lv_ifnullN (tgt := 35) hx hb dX9_parted_9 (by decide) ?_
      refine lv_iconst (v := (-1)) hx hb dX9_parted_35 (by decide) ?_
      obtain rfl := some_of hX
      exact x_I (v := (-1)) X hS dX9_parted_36
    · have hX := opt_s hX
      have hl : lv_has ls 10 [(5, .ref (ad o11 0)), (0, .ref (ad 0 0)), (1, .int a1), (2, .int a2), (3, .int a3), (4, .int (b2i a4))] := hl
      refine lv_aload hx hb dX9_parted_7 (lv_at hl 0 rfl) ?_
      refine lv_ifnull hx hb dX9_parted_9 ?_
      refine lv_iload_n hx hb dX9_parted_12 rfl (lv_at hl 3 rfl) ?_
      refine lv_iload_n hx hb dX9_parted_13 rfl (lv_at hl 4 rfl) ?_
      refine lv_icmp_eq (tgt := 35) hx hb dX9_parted_14 (by decide) (fun c12 => ?_) (fun c12 => ?_)
      · have hX := if_t c12 hX
        refine lv_iconst (v := (-1)) hx hb dX9_parted_35 (by decide) ?_
        obtain rfl := some_of hX
        exact x_I (v := (-1)) X hS dX9_parted_36
      · have hX := if_f c12 hX
        refine lv_aload hx hb dX9_parted_17 (lv_at hl 0 rfl) ?_
        refine lv_iload_n hx hb dX9_parted_19 rfl (lv_at hl 3 rfl) ?_
        obtain ⟨r14, h13, hX⟩ := bn_of hX
        refine r_callV1 (v := .int (b2i r14)) (As := [.int a2]) (rest := []) X hS (m_X0_hasSeam hN (qr10 o11 rfl) h13) mv_X0_hasSeam rfl (qr10 o11 rfl) t4_119 ⟨rfl, rfl, Nat.le_of_ble_eq_true rfl, Nat.le_of_ble_eq_true rfl⟩ rfl hl.1 rfl (Nat.le_of_ble_eq_true rfl) ⟨Nat.zero_le _, Nat.zero_le _⟩ dX9_parted_20 (fun H locs hS => ?_)
        refine lv_if_eq (tgt := 35) hx hb dX9_parted_23 (by decide) (fun c15 => ?_) (fun c15 => ?_)
        · have hX := if_bf c15 hX
          refine lv_iconst (v := (-1)) hx hb dX9_parted_35 (by decide) ?_
          obtain rfl := some_of hX
          exact x_I (v := (-1)) X hS dX9_parted_36
        · have hX := if_bt c15 hX
          refine lv_aload hx hb dX9_parted_26 (lv_at hl 0 rfl) ?_
          refine lv_iload_n hx hb dX9_parted_28 rfl (lv_at hl 4 rfl) ?_
          obtain ⟨r17, h16, hX⟩ := bn_of hX
          refine r_callV1 (v := .int (b2i r17)) (As := [.int a3]) (rest := []) X hS (m_X0_hasSeam hN (qr10 o11 rfl) h16) mv_X0_hasSeam rfl (qr10 o11 rfl) t4_119 ⟨rfl, rfl, Nat.le_of_ble_eq_true rfl, Nat.le_of_ble_eq_true rfl⟩ rfl hl.1 rfl (Nat.le_of_ble_eq_true rfl) ⟨Nat.zero_le _, Nat.zero_le _⟩ dX9_parted_29 (fun H locs hS => ?_)
          refine lv_if_ne (tgt := 37) hx hb dX9_parted_32 (by decide) (fun c18 => ?_) (fun c18 => ?_)
          · have hX := if_bt c18 hX
            refine lv_ldc hx hb (own := RX9) hown (hts _ t4_120) dX9_parted_37 ?_
            refine lv_istore (lv' := [(6, .int (nI 1000000)), (5, .ref (ad o11 0)), (0, .ref (ad 0 0)), (1, .int a1), (2, .int a2), (3, .int a3), (4, .int (b2i a4))]) hx hb dX9_parted_39 hl (by decide) rfl (fun ls hl => ?_)
            refine lv_iconst (v := nI 0) hx hb dX9_parted_41 (by decide) ?_
            refine lv_istore (lv' := [(7, .int (nI 0)), (6, .int (nI 1000000)), (5, .ref (ad o11 0)), (0, .ref (ad 0 0)), (1, .int a1), (2, .int a2), (3, .int a3), (4, .int (b2i a4))]) hx hb dX9_parted_42 hl (by decide) rfl (fun ls hl => ?_)
            refine lv_iconst (v := nI 0) hx hb dX9_parted_44 (by decide) ?_
            refine lv_istore (lv' := [(8, .int (nI 0)), (7, .int (nI 0)), (6, .int (nI 1000000)), (5, .ref (ad o11 0)), (0, .ref (ad 0 0)), (1, .int a1), (2, .int a2), (3, .int a3), (4, .int (b2i a4))]) hx hb dX9_parted_45 hl (by decide) rfl (fun ls hl => ?_)
            exact n_X9_parted_47 X hN _ _ _ _ _ hX (qr10 o11 rfl) _ _ _ (lv_sub hl [6, 7, 8, 3, 2, 1, 0] rfl) hS
          · have hX := if_bf c18 hX
            refine lv_iconst (v := (-1)) hx hb dX9_parted_35 (by decide) ?_
            obtain rfl := some_of hX
            exact x_I (v := (-1)) X hS dX9_parted_36
  rw [hH, hlo] at hgoal
  exact hgoal
theorem mv_X9_parted : Mv yX9_parted RX9 cX9_parted 10 ((some .int)) 4 := ⟨t4_118, t4_116, t4_117, t1_1, ⟨by decide, by decide⟩, by decide +kernel⟩
/-! SewnYear.town(II)I -/
def rm_X9_town : Room := { frames := 2, cells := 0, slots := 0, locals := 43 }
def f_X9_town (M : Mem) (a1 : Int32) (a2 : Int32) : Option (Int32) :=
  bn (f_X9_townAt M a1) fun r2 => opt r2 (some (-2)) fun o3 => (bn (f_X6_tell M o3 a2) fun r5 => some r5)
set_option maxRecDepth 100000 in
set_option maxHeartbeats 4000000 in
theorem m_X9_town {l : Launch} {D : va_G} {cy : Nat → ClassId} {ad : Nat → Nat → Nat} {ns : List (Nat × Nat)} {A : Nat → Prop} {M : Mem} (hN : NsC ns) {a1 : Int32} {a2 : Int32} {r : Int32} (hX : f_X9_town M a1 a2 = some r) : Ct l yX9_town cX9_town 4 ((some .int)) rm_X9_town D cy ad ns A [.ref (ad 0 0), .int a1, .int a2] M M (some (.int r)) := by
  refine ct_of (lv := [(0, .ref (ad 0 0)), (1, .int a1), (2, .int a2)]) (by decide) (Nat.le_of_ble_eq_true rfl) rfl ?_
  intro p e s m args below meth c ls X hl hS
  obtain ⟨hx, hb, hml, hown, hts, hK, hr, hlk, hA, hG⟩ := id X
  obtain ⟨H, hH⟩ : ∃ z, z = s.heap := ⟨_, rfl⟩
  obtain ⟨locs, hlo⟩ : ∃ z : List Loc, z = [] := ⟨_, rfl⟩
  have hS : St D cy ad ns A M s.heap H locs := by rw [hH, hlo]; exact hS
  have hgoal : W p l e rm_X9_town s m args below meth c H locs 0 0 (MQ below (QC D cy ad ns A M (some (.int r))) args s 0 0 A) (F0 m 0 ls []) := by
    unfold f_X9_town at hX
    refine lv_aload_n hx hb dX9_town_0 rfl (lv_at hl 0 rfl) ?_
    refine lv_iload_n hx hb dX9_town_1 rfl (lv_at hl 1 rfl) ?_
    obtain ⟨r2, h1, hX⟩ := bn_of hX
    refine r_callV1 (v := rv ad r2) (As := [.int a1]) (rest := []) X hS (m_X9_townAt hN h1) mv_X9_townAt rfl (o_of hN (o := 0) (c := 9) (by decide) rfl) t4_129 ⟨rfl, rfl, Nat.le_of_ble_eq_true rfl, Nat.le_of_ble_eq_true rfl⟩ rfl hl.1 rfl (Nat.le_of_ble_eq_true rfl) ⟨Nat.zero_le _, Nat.zero_le _⟩ dX9_town_2 (fun H locs hS => ?_)
    have qr2 : ∀ o, r2 = some o → Ob ns 6 o := fun o e => ob_X9_townAt hN (by rw [← e]; exact h1)
    refine lv_astore_nR (lv' := [(3, rv ad r2), (0, .ref (ad 0 0)), (1, .int a1), (2, .int a2)]) hx hb dX9_town_5 rfl hl (by decide) rfl (fun ls hl => ?_)
    rcases r2 with _ | o3
    · have hX := opt_n hX
      have hl : lv_has ls 4 [(3, .null), (0, .ref (ad 0 0)), (1, .int a1), (2, .int a2)] := hl
      refine lv_aload_nN hx hb dX9_town_6 rfl (lv_at hl 0 rfl) ?_
      refine lv_ifnonnullN hx hb dX9_town_7 ?_
      refine lv_bipush (v := (-2)) hx hb dX9_town_10 (by decide) ?_
      refine lv_goto (tgt := 20) hx hb dX9_town_12 (by decide) ?_
      obtain rfl := some_of hX
      exact x_I (v := (-2)) X hS dX9_town_20
    · have hX := opt_s hX
      have hl : lv_has ls 4 [(3, .ref (ad o3 0)), (0, .ref (ad 0 0)), (1, .int a1), (2, .int a2)] := hl
      refine lv_aload_n hx hb dX9_town_6 rfl (lv_at hl 0 rfl) ?_
      refine lv_ifnonnull (tgt := 15) hx hb dX9_town_7 (by decide) ?_
      refine lv_aload_n hx hb dX9_town_15 rfl (lv_at hl 0 rfl) ?_
      refine lv_iload_n hx hb dX9_town_16 rfl (lv_at hl 3 rfl) ?_
      obtain ⟨r5, h4, hX⟩ := bn_of hX
      refine r_callV1 (v := .int r5) (As := [.int a2]) (rest := []) X hS (m_X6_tell hN (qr2 o3 rfl) h4) mv_X6_tell rfl (qr2 o3 rfl) t4_133 ⟨rfl, rfl, Nat.le_of_ble_eq_true rfl, Nat.le_of_ble_eq_true rfl⟩ rfl hl.1 rfl (Nat.le_of_ble_eq_true rfl) ⟨Nat.zero_le _, Nat.zero_le _⟩ dX9_town_17 (fun H locs hS => ?_)
      obtain rfl := some_of hX
      exact x_I (v := r5) X hS dX9_town_20
  rw [hH, hlo] at hgoal
  exact hgoal
theorem mv_X9_town : Mv yX9_town RX9 cX9_town 4 ((some .int)) 2 := ⟨t4_128, t4_126, t4_127, t1_1, ⟨by decide, by decide⟩, by decide +kernel⟩
/-! SewnYear.done(IIII)I -/
def rm_X9_done : Room := { frames := 4, cells := 0, slots := 0, locals := 90 }
def b_X9_done_98 (a1 : Int32) (a2 : Int32) (a3 : Int32) (a4 : Int32) (rc : Int32 → Int32 → Mem → Option (Int32 × Mem)) (v_6 : Int32) (v_7 : Int32) (M : Mem) : Option (Int32 × Mem) :=
  if a3 ≤ v_7 then (gin a4 6 <| some ((gA M 19 7 (ix a4)), M)) else (if v_6 ≤ (nI 0) then (gin a4 6 <| some ((gA M 19 7 (ix a4)), M)) else (gnz v_6 <| gnz (nI 6) <| bp (f_X7_go M ((a2 / v_6) - (a2 / v_6) / (nI 6) * (nI 6))) fun r9 M8 => if r9 = true then (gnz (nI 6) <| nm (v_6 / (nI 6)) fun v12 => nm (v_7 + nI 1) fun v13 => rc v12 v13 M8) else (some ((-1), M8))))
def f_X9_done_98 (a1 : Int32) (a2 : Int32) (a3 : Int32) (a4 : Int32) : Nat → (Int32 × Int32 × Mem) → Option (Int32 × Mem) := lp (fun rc q => b_X9_done_98 a1 a2 a3 a4 (fun x0 x1 x2 => rc (x0, x1, x2)) q.1 q.2.1 q.2.2)
def b_X9_done_46 (a1 : Int32) (a2 : Int32) (a3 : Int32) (a4 : Int32) (v_5 : Nat) (rc : Int32 → Int32 → Mem → Option (Int32 × Mem)) (v_6 : Int32) (v_7 : Int32) (M : Mem) : Option (Int32 × Mem) :=
  if a3 ≤ v_7 then (gnz v_6 <| if (a2 / v_6) < (nI 6) then (bn (f_X7_begin M v_5 (gI M v_5 0) (gI M v_5 1)) fun M18 => f_X9_done_98 a1 a2 a3 a4 FU (v_6, (nI 0), M18)) else (some ((-1), M))) else (nm (v_6 * (nI 6)) fun v19 => nm (v_7 + nI 1) fun v20 => rc v19 v20 M)
def f_X9_done_46 (a1 : Int32) (a2 : Int32) (a3 : Int32) (a4 : Int32) (v_5 : Nat) : Nat → (Int32 × Int32 × Mem) → Option (Int32 × Mem) := lp (fun rc q => b_X9_done_46 a1 a2 a3 a4 v_5 (fun x0 x1 x2 => rc (x0, x1, x2)) q.1 q.2.1 q.2.2)
def f_X9_done (M : Mem) (a1 : Int32) (a2 : Int32) (a3 : Int32) (a4 : Int32) : Option (Int32 × Mem) :=
  bn (f_X9_townAt M a1) fun r22 => opt r22 (some ((-1), M)) fun o23 => (if a3 < (nI 1) then (some ((-1), M)) else (if (nI 6) < a3 then (some ((-1), M)) else (if a4 < (nI 0) then (some ((-1), M)) else (if a3 ≤ a4 then (some ((-1), M)) else (if (nI 0) ≤ a2 then (f_X9_done_46 a1 a2 a3 a4 o23 FU ((nI 1), (nI 1), M)) else (some ((-1), M)))))))
set_option maxRecDepth 100000 in
set_option maxHeartbeats 4000000 in
theorem n_X9_done_98 {a1 : Int32} {a2 : Int32} {a3 : Int32} {a4 : Int32} (X : Cx p s m args meth c D cy ad A RX9 cX9_done 8 ((some .int))) (hN : NsC ns) : ∀ (n : Nat) (v_6 : Int32) (v_7 : Int32) (M : Mem) (r : Int32 × Mem), f_X9_done_98 a1 a2 a3 a4 n (v_6, v_7, M) = some r → ∀ (ls : Array Slot) (H : Heap) (locs : List Loc), lv_has ls 8 [(0, .ref (ad 0 0)), (2, .int a2), (3, .int a3), (4, .int a4), (6, .int v_6), (7, .int v_7)] → St D cy ad ns A M s.heap H locs → W p l e rm_X9_done s m args below meth c H locs 0 0 (MQ below (QC D cy ad ns A r.2 (some (.int r.1))) args s 0 0 A) (F0 m 98 ls []) := by
  obtain ⟨hx, hb, hml, hown, hts, hK, hr, hlk, hA, hG⟩ := id X
  intro n
  induction n with
  | zero => intro v_6 v_7 M r hX; cases (show (none : Option (Int32 × Mem)) = some r from hX)
  | succ n ih =>
    intro v_6 v_7 M r hX ls H locs hl hS
    have hX : b_X9_done_98 a1 a2 a3 a4 (fun x0 x1 x2 => f_X9_done_98 a1 a2 a3 a4 n (x0, x1, x2)) v_6 v_7 M = some r := hX
    unfold b_X9_done_98 at hX
    refine lv_iload hx hb dX9_done_98 (lv_at hl 5 rfl) ?_
    refine lv_iload_n hx hb dX9_done_100 rfl (lv_at hl 2 rfl) ?_
    refine lv_icmp_ge (tgt := 141) hx hb dX9_done_101 (by decide) (fun c1 => ?_) (fun c1 => ?_)
    · have hX := if_t c1 hX
      refine lv_aload_n hx hb dX9_done_141 rfl (lv_at hl 0 rfl) ?_
      refine fg_X9_44 X hS (o_of hN (o := 0) (c := 9) (by decide) rfl) dX9_done_142 ?_
      refine fg_X9_181 X hS (o_of hN (o := 19) (c := 7) (by decide) rfl) dX9_done_145 ?_
      refine lv_iload hx hb dX9_done_148 (lv_at hl 3 rfl) ?_
      obtain ⟨g2, hX⟩ := gin_of hX
      refine r_iald (ci := 7) (o := 19) (k := 7) (n := 6) X hS (o_of hN (o := 19) (c := 7) (by decide) rfl) rfl rfl g2 dX9_done_150 ?_
      obtain rfl := some_of hX
      exact x_I (v := (gA M 19 7 (ix a4))) X hS dX9_done_151
    · have hX := if_f c1 hX
      refine lv_iload hx hb dX9_done_104 (lv_at hl 4 rfl) ?_
      refine lv_if_le (tgt := 141) hx hb dX9_done_106 (by decide) (fun c3 => ?_) (fun c3 => ?_)
      · have hX := if_t c3 hX
        refine lv_aload_n hx hb dX9_done_141 rfl (lv_at hl 0 rfl) ?_
        refine fg_X9_44 X hS (o_of hN (o := 0) (c := 9) (by decide) rfl) dX9_done_142 ?_
        refine fg_X9_181 X hS (o_of hN (o := 19) (c := 7) (by decide) rfl) dX9_done_145 ?_
        refine lv_iload hx hb dX9_done_148 (lv_at hl 3 rfl) ?_
        obtain ⟨g4, hX⟩ := gin_of hX
        refine r_iald (ci := 7) (o := 19) (k := 7) (n := 6) X hS (o_of hN (o := 19) (c := 7) (by decide) rfl) rfl rfl g4 dX9_done_150 ?_
        obtain rfl := some_of hX
        exact x_I (v := (gA M 19 7 (ix a4))) X hS dX9_done_151
      · have hX := if_f c3 hX
        refine lv_aload_n hx hb dX9_done_109 rfl (lv_at hl 0 rfl) ?_
        refine fg_X9_44 X hS (o_of hN (o := 0) (c := 9) (by decide) rfl) dX9_done_110 ?_
        refine lv_iload_n hx hb dX9_done_113 rfl (lv_at hl 1 rfl) ?_
        refine lv_iload hx hb dX9_done_114 (lv_at hl 4 rfl) ?_
        obtain ⟨g5, hX⟩ := gnz_of hX
        refine lv_idiv hx hb dX9_done_116 g5 ?_
        refine lv_bipush (v := nI 6) hx hb dX9_done_117 (by decide) ?_
        obtain ⟨g6, hX⟩ := gnz_of hX
        refine lv_irem hx hb dX9_done_119 g6 ?_
        obtain ⟨r9, M8, h7, hX⟩ := bp_of hX
        refine r_callV1 (v := .int (b2i r9)) (As := [.int ((a2 / v_6) - (a2 / v_6) / (nI 6) * (nI 6))]) (rest := []) X hS (m_X7_go hN h7) mv_X7_go rfl (o_of hN (o := 19) (c := 7) (by decide) rfl) t4_154 ⟨rfl, rfl, Nat.le_of_ble_eq_true rfl, Nat.le_of_ble_eq_true rfl⟩ rfl hl.1 rfl (Nat.le_of_ble_eq_true rfl) ⟨Nat.zero_le _, Nat.zero_le _⟩ dX9_done_120 (fun H locs hS => ?_)
        refine lv_if_ne (tgt := 128) hx hb dX9_done_123 (by decide) (fun c10 => ?_) (fun c10 => ?_)
        · have hX := if_bt c10 hX
          refine lv_iload hx hb dX9_done_128 (lv_at hl 4 rfl) ?_
          refine lv_bipush (v := nI 6) hx hb dX9_done_130 (by decide) ?_
          obtain ⟨g11, hX⟩ := gnz_of hX
          refine lv_idiv hx hb dX9_done_132 g11 ?_
          refine lv_topi (fun v12 ev12 => ?_)
          have hX := nm_of ev12 hX
          refine lv_istore (lv' := [(6, .int v12), (0, .ref (ad 0 0)), (2, .int a2), (3, .int a3), (4, .int a4), (7, .int v_7)]) hx hb dX9_done_133 hl (by decide) rfl (fun ls hl => ?_)
          obtain ⟨v13, ev13⟩ : ∃ y : Int32, y = (v_7 + nI 1) := ⟨_, rfl⟩
          have hX := nm_of ev13 hX
          refine lv_iinc (v := v13) (lv' := [(7, .int v13), (6, .int v12), (0, .ref (ad 0 0)), (2, .int a2), (3, .int a3), (4, .int a4)]) hx hb dX9_done_135 hl (k := 5) rfl (by rw [ev13]; rfl) (by decide) rfl (fun ls hl => ?_)
          refine lv_goto (tgt := 98) hx hb dX9_done_138 (by decide) ?_
          exact ih _ _ _ _ hX _ _ _ (lv_sub hl [2, 3, 4, 5, 1, 0] rfl) hS
        · have hX := if_bf c10 hX
          refine lv_iconst (v := (-1)) hx hb dX9_done_126 (by decide) ?_
          obtain rfl := some_of hX
          exact x_I (v := (-1)) X hS dX9_done_127
set_option maxRecDepth 100000 in
set_option maxHeartbeats 4000000 in
theorem n_X9_done_46 {a1 : Int32} {a2 : Int32} {a3 : Int32} {a4 : Int32} (X : Cx p s m args meth c D cy ad A RX9 cX9_done 8 ((some .int))) (hN : NsC ns) {v_5 : Nat} : ∀ (n : Nat) (v_6 : Int32) (v_7 : Int32) (M : Mem) (r : Int32 × Mem), f_X9_done_46 a1 a2 a3 a4 v_5 n (v_6, v_7, M) = some r → Ob ns 6 v_5 → ∀ (ls : Array Slot) (H : Heap) (locs : List Loc), lv_has ls 8 [(0, .ref (ad 0 0)), (2, .int a2), (3, .int a3), (4, .int a4), (5, .ref (ad v_5 0)), (6, .int v_6), (7, .int v_7)] → St D cy ad ns A M s.heap H locs → W p l e rm_X9_done s m args below meth c H locs 0 0 (MQ below (QC D cy ad ns A r.2 (some (.int r.1))) args s 0 0 A) (F0 m 46 ls []) := by
  obtain ⟨hx, hb, hml, hown, hts, hK, hr, hlk, hA, hG⟩ := id X
  intro n
  induction n with
  | zero => intro v_6 v_7 M r hX; cases (show (none : Option (Int32 × Mem)) = some r from hX)
  | succ n ih =>
    intro v_6 v_7 M r hX hv_5 ls H locs hl hS
    have hX : b_X9_done_46 a1 a2 a3 a4 v_5 (fun x0 x1 x2 => f_X9_done_46 a1 a2 a3 a4 v_5 n (x0, x1, x2)) v_6 v_7 M = some r := hX
    unfold b_X9_done_46 at hX
    refine lv_iload hx hb dX9_done_46 (lv_at hl 6 rfl) ?_
    refine lv_iload_n hx hb dX9_done_48 rfl (lv_at hl 2 rfl) ?_
    refine lv_icmp_ge (tgt := 65) hx hb dX9_done_49 (by decide) (fun c14 => ?_) (fun c14 => ?_)
    · have hX := if_t c14 hX
      refine lv_iload_n hx hb dX9_done_65 rfl (lv_at hl 1 rfl) ?_
      refine lv_iload hx hb dX9_done_66 (lv_at hl 5 rfl) ?_
      obtain ⟨g15, hX⟩ := gnz_of hX
      refine lv_idiv hx hb dX9_done_68 g15 ?_
      refine lv_bipush (v := nI 6) hx hb dX9_done_69 (by decide) ?_
      refine lv_icmp_lt (tgt := 76) hx hb dX9_done_71 (by decide) (fun c16 => ?_) (fun c16 => ?_)
      · have hX := if_t c16 hX
        refine lv_aload_n hx hb dX9_done_76 rfl (lv_at hl 0 rfl) ?_
        refine fg_X9_44 X hS (o_of hN (o := 0) (c := 9) (by decide) rfl) dX9_done_77 ?_
        refine lv_aload hx hb dX9_done_80 (lv_at hl 4 rfl) ?_
        refine lv_aload hx hb dX9_done_82 (lv_at hl 4 rfl) ?_
        refine fg_X9_168 X hS hv_5 dX9_done_84 ?_
        refine lv_aload hx hb dX9_done_87 (lv_at hl 4 rfl) ?_
        refine fg_X9_171 X hS hv_5 dX9_done_89 ?_
        obtain ⟨M18, h17, hX⟩ := bn_of hX
        refine r_callV0 (As := [.ref (ad v_5 0), .int (gI M v_5 0), .int (gI M v_5 1)]) (rest := []) X hS (m_X7_begin hN hv_5 h17) mv_X7_begin rfl (o_of hN (o := 19) (c := 7) (by decide) rfl) t4_145 ⟨rfl, rfl, Nat.le_of_ble_eq_true rfl, Nat.le_of_ble_eq_true rfl⟩ rfl hl.1 rfl (Nat.le_of_ble_eq_true rfl) ⟨Nat.zero_le _, Nat.zero_le _⟩ dX9_done_92 (fun H locs hS => ?_)
        refine lv_iconst (v := nI 0) hx hb dX9_done_95 (by decide) ?_
        refine lv_istore (lv' := [(7, .int (nI 0)), (0, .ref (ad 0 0)), (2, .int a2), (3, .int a3), (4, .int a4), (5, .ref (ad v_5 0)), (6, .int v_6)]) hx hb dX9_done_96 hl (by decide) rfl (fun ls hl => ?_)
        exact n_X9_done_98 X hN _ _ _ _ _ hX _ _ _ (lv_sub hl [1, 2, 3, 4, 6, 0] rfl) hS
      · have hX := if_f c16 hX
        refine lv_iconst (v := (-1)) hx hb dX9_done_74 (by decide) ?_
        obtain rfl := some_of hX
        exact x_I (v := (-1)) X hS dX9_done_75
    · have hX := if_f c14 hX
      refine lv_iload hx hb dX9_done_52 (lv_at hl 5 rfl) ?_
      refine lv_bipush (v := nI 6) hx hb dX9_done_54 (by decide) ?_
      refine lv_imul hx hb dX9_done_56 ?_
      refine lv_topi (fun v19 ev19 => ?_)
      have hX := nm_of ev19 hX
      refine lv_istore (lv' := [(6, .int v19), (0, .ref (ad 0 0)), (2, .int a2), (3, .int a3), (4, .int a4), (5, .ref (ad v_5 0)), (7, .int v_7)]) hx hb dX9_done_57 hl (by decide) rfl (fun ls hl => ?_)
      obtain ⟨v20, ev20⟩ : ∃ y : Int32, y = (v_7 + nI 1) := ⟨_, rfl⟩
      have hX := nm_of ev20 hX
      refine lv_iinc (v := v20) (lv' := [(7, .int v20), (6, .int v19), (0, .ref (ad 0 0)), (2, .int a2), (3, .int a3), (4, .int a4), (5, .ref (ad v_5 0))]) hx hb dX9_done_59 hl (k := 6) rfl (by rw [ev20]; rfl) (by decide) rfl (fun ls hl => ?_)
      refine lv_goto (tgt := 46) hx hb dX9_done_62 (by decide) ?_
      exact ih _ _ _ _ hX hv_5 _ _ _ (lv_sub hl [2, 3, 4, 5, 6, 1, 0] rfl) hS
set_option maxRecDepth 100000 in
set_option maxHeartbeats 4000000 in
theorem m_X9_done {l : Launch} {D : va_G} {cy : Nat → ClassId} {ad : Nat → Nat → Nat} {ns : List (Nat × Nat)} {A : Nat → Prop} {M : Mem} (hN : NsC ns) {a1 : Int32} {a2 : Int32} {a3 : Int32} {a4 : Int32} {r : Int32 × Mem} (hX : f_X9_done M a1 a2 a3 a4 = some r) : Ct l yX9_done cX9_done 8 ((some .int)) rm_X9_done D cy ad ns A [.ref (ad 0 0), .int a1, .int a2, .int a3, .int a4] M r.2 (some (.int r.1)) := by
  refine ct_of (lv := [(0, .ref (ad 0 0)), (1, .int a1), (2, .int a2), (3, .int a3), (4, .int a4)]) (by decide) (Nat.le_of_ble_eq_true rfl) rfl ?_
  intro p e s m args below meth c ls X hl hS
  obtain ⟨hx, hb, hml, hown, hts, hK, hr, hlk, hA, hG⟩ := id X
  obtain ⟨H, hH⟩ : ∃ z, z = s.heap := ⟨_, rfl⟩
  obtain ⟨locs, hlo⟩ : ∃ z : List Loc, z = [] := ⟨_, rfl⟩
  have hS : St D cy ad ns A M s.heap H locs := by rw [hH, hlo]; exact hS
  have hgoal : W p l e rm_X9_done s m args below meth c H locs 0 0 (MQ below (QC D cy ad ns A r.2 (some (.int r.1))) args s 0 0 A) (F0 m 0 ls []) := by
    unfold f_X9_done at hX
    refine lv_aload_n hx hb dX9_done_0 rfl (lv_at hl 0 rfl) ?_
    refine lv_iload_n hx hb dX9_done_1 rfl (lv_at hl 1 rfl) ?_
    obtain ⟨r22, h21, hX⟩ := bn_of hX
    refine r_callV1 (v := rv ad r22) (As := [.int a1]) (rest := []) X hS (m_X9_townAt hN h21) mv_X9_townAt rfl (o_of hN (o := 0) (c := 9) (by decide) rfl) t4_129 ⟨rfl, rfl, Nat.le_of_ble_eq_true rfl, Nat.le_of_ble_eq_true rfl⟩ rfl hl.1 rfl (Nat.le_of_ble_eq_true rfl) ⟨Nat.zero_le _, Nat.zero_le _⟩ dX9_done_2 (fun H locs hS => ?_)
    have qr22 : ∀ o, r22 = some o → Ob ns 6 o := fun o e => ob_X9_townAt hN (by rw [← e]; exact h21)
    refine lv_astoreR (lv' := [(5, rv ad r22), (0, .ref (ad 0 0)), (1, .int a1), (2, .int a2), (3, .int a3), (4, .int a4)]) hx hb dX9_done_5 hl (by decide) rfl (fun ls hl => ?_)
    rcases r22 with _ | o23
    · have hX := opt_n hX
      have hl : lv_has ls 8 [(5, .null), (0, .ref (ad 0 0)), (1, .int a1), (2, .int a2), (3, .int a3), (4, .int a4)] := hl
      refine lv_aloadN hx hb dX9_done_7 (lv_at hl 0 rfl) ?_
      refine lv_ifnullN (tgt := 38) hx hb dX9_done_9 (by decide) ?_
      refine lv_iconst (v := (-1)) hx hb dX9_done_38 (by decide) ?_
      obtain rfl := some_of hX
      exact x_I (v := (-1)) X hS dX9_done_39
    · have hX := opt_s hX
      have hl : lv_has ls 8 [(5, .ref (ad o23 0)), (0, .ref (ad 0 0)), (1, .int a1), (2, .int a2), (3, .int a3), (4, .int a4)] := hl
      refine lv_aload hx hb dX9_done_7 (lv_at hl 0 rfl) ?_
      refine lv_ifnull hx hb dX9_done_9 ?_
      refine lv_iload_n hx hb dX9_done_12 rfl (lv_at hl 4 rfl) ?_
      refine lv_iconst (v := nI 1) hx hb dX9_done_13 (by decide) ?_
      refine lv_icmp_lt (tgt := 38) hx hb dX9_done_14 (by decide) (fun c24 => ?_) (fun c24 => ?_)
      · have hX := if_t c24 hX
        refine lv_iconst (v := (-1)) hx hb dX9_done_38 (by decide) ?_
        obtain rfl := some_of hX
        exact x_I (v := (-1)) X hS dX9_done_39
      · have hX := if_f c24 hX
        refine lv_iload_n hx hb dX9_done_17 rfl (lv_at hl 4 rfl) ?_
        refine lv_bipush (v := nI 6) hx hb dX9_done_18 (by decide) ?_
        refine lv_icmp_gt (tgt := 38) hx hb dX9_done_20 (by decide) (fun c25 => ?_) (fun c25 => ?_)
        · have hX := if_t c25 hX
          refine lv_iconst (v := (-1)) hx hb dX9_done_38 (by decide) ?_
          obtain rfl := some_of hX
          exact x_I (v := (-1)) X hS dX9_done_39
        · have hX := if_f c25 hX
          refine lv_iload hx hb dX9_done_23 (lv_at hl 5 rfl) ?_
          refine lv_if_lt (tgt := 38) hx hb dX9_done_25 (by decide) (fun c26 => ?_) (fun c26 => ?_)
          · have hX := if_t c26 hX
            refine lv_iconst (v := (-1)) hx hb dX9_done_38 (by decide) ?_
            obtain rfl := some_of hX
            exact x_I (v := (-1)) X hS dX9_done_39
          · have hX := if_f c26 hX
            refine lv_iload hx hb dX9_done_28 (lv_at hl 5 rfl) ?_
            refine lv_iload_n hx hb dX9_done_30 rfl (lv_at hl 4 rfl) ?_
            refine lv_icmp_ge (tgt := 38) hx hb dX9_done_31 (by decide) (fun c27 => ?_) (fun c27 => ?_)
            · have hX := if_t c27 hX
              refine lv_iconst (v := (-1)) hx hb dX9_done_38 (by decide) ?_
              obtain rfl := some_of hX
              exact x_I (v := (-1)) X hS dX9_done_39
            · have hX := if_f c27 hX
              refine lv_iload_n hx hb dX9_done_34 rfl (lv_at hl 3 rfl) ?_
              refine lv_if_ge (tgt := 40) hx hb dX9_done_35 (by decide) (fun c28 => ?_) (fun c28 => ?_)
              · have hX := if_t c28 hX
                refine lv_iconst (v := nI 1) hx hb dX9_done_40 (by decide) ?_
                refine lv_istore (lv' := [(6, .int (nI 1)), (5, .ref (ad o23 0)), (0, .ref (ad 0 0)), (1, .int a1), (2, .int a2), (3, .int a3), (4, .int a4)]) hx hb dX9_done_41 hl (by decide) rfl (fun ls hl => ?_)
                refine lv_iconst (v := nI 1) hx hb dX9_done_43 (by decide) ?_
                refine lv_istore (lv' := [(7, .int (nI 1)), (6, .int (nI 1)), (5, .ref (ad o23 0)), (0, .ref (ad 0 0)), (1, .int a1), (2, .int a2), (3, .int a3), (4, .int a4)]) hx hb dX9_done_44 hl (by decide) rfl (fun ls hl => ?_)
                exact n_X9_done_46 X hN _ _ _ _ _ hX (qr22 o23 rfl) _ _ _ (lv_sub hl [3, 5, 6, 7, 2, 1, 0] rfl) hS
              · have hX := if_f c28 hX
                refine lv_iconst (v := (-1)) hx hb dX9_done_38 (by decide) ?_
                obtain rfl := some_of hX
                exact x_I (v := (-1)) X hS dX9_done_39
  rw [hH, hlo] at hgoal
  exact hgoal
theorem mv_X9_done : Mv yX9_done RX9 cX9_done 8 ((some .int)) 4 := ⟨t4_144, t4_142, t4_143, t1_1, ⟨by decide, by decide⟩, by decide +kernel⟩
/-! SewnYear.rounds(II)I -/
def rm_X9_rounds : Room := { frames := 6, cells := 0, slots := 0, locals := 139 }
def f_X9_rounds_92 (a1 : Int32) (a2 : Int32) (v_3 : Nat) (v_4 : Int32) (M : Mem) : Option (Int32 × Mem) :=
  if (gI M v_3 4) = (nI 0) then (some ((-1), M)) else (if a2 = nI 1 then (bp (f_X7_soonest M (nI 1000000)) fun r5 M4 => some (r5, M4)) else if a2 = nI 2 then (bp (f_X7_leastLate M) fun r9 M8 => some (r9, M8)) else if a2 = nI 3 then (bp (f_X7_lateByDue M) fun r13 M12 => some (r13, M12)) else (if a2 < (nI 20) then (some ((-1), M)) else (if (nI 30) ≤ a2 then (some ((-1), M)) else (if v_4 < (gI M v_3 4) then (bp (f_X7_soonest M (nI 1000000)) fun r19 M18 => gin v_4 6 <| some ((gA M18 19 9 (ix v_4)), M18)) else (some ((-1), M))))))
def f_X9_rounds (M : Mem) (a1 : Int32) (a2 : Int32) : Option (Int32 × Mem) :=
  bn (f_X9_townAt M a1) fun r22 => opt r22 (some ((-1), M)) fun o23 => (bn (f_X7_begin M o23 (gI M o23 0) (gI M o23 1)) fun M25 => if a2 = (nI 0) then (bp (f_X7_most M25) fun r39 M38 => some (r39, M38)) else (gnz (nI 10) <| nm (a2 - a2 / (nI 10) * (nI 10)) fun v28 => if a2 < (nI 10) then (f_X9_rounds_92 a1 a2 o23 v28 M25) else (if (nI 20) ≤ a2 then (f_X9_rounds_92 a1 a2 o23 v28 M25) else (bp (f_X7_most M25) fun r33 M32 => if r33 ≤ v28 then (some ((-1), M32)) else (if (nI 6) ≤ v28 then (some ((-1), M32)) else (gin v28 6 <| some ((gA M32 19 9 (ix v28)), M32)))))))
set_option maxRecDepth 100000 in
set_option maxHeartbeats 4000000 in
theorem n_X9_rounds_92 {a1 : Int32} {a2 : Int32} (X : Cx p s m args meth c D cy ad A RX9 cX9_rounds 5 ((some .int))) (hN : NsC ns) {v_3 : Nat} {v_4 : Int32} {M : Mem} {r : Int32 × Mem} (hX : f_X9_rounds_92 a1 a2 v_3 v_4 M = some r) : Ob ns 6 v_3 → ∀ (ls : Array Slot) (H : Heap) (locs : List Loc), lv_has ls 5 [(0, .ref (ad 0 0)), (2, .int a2), (3, .ref (ad v_3 0)), (4, .int v_4)] → St D cy ad ns A M s.heap H locs → W p l e rm_X9_rounds s m args below meth c H locs 0 0 (MQ below (QC D cy ad ns A r.2 (some (.int r.1))) args s 0 0 A) (F0 m 92 ls []) := by
  obtain ⟨hx, hb, hml, hown, hts, hK, hr, hlk, hA, hG⟩ := id X
  intro hv_3 ls H locs hl hS
  unfold f_X9_rounds_92 at hX
  refine lv_aload_n hx hb dX9_rounds_92 rfl (lv_at hl 2 rfl) ?_
  refine fg_X9_190 X hS hv_3 dX9_rounds_93 ?_
  refine lv_if_ne (tgt := 101) hx hb dX9_rounds_96 (by decide) (fun c1 => ?_) (fun c1 => ?_)
  · have hX := if_f c1 hX
    refine lv_iload_n hx hb dX9_rounds_101 rfl (lv_at hl 1 rfl) ?_
    by_cases c2 : a2 = nI 1
    · have hX := if_t c2 hX
      refine r_tabIn c2 (off := 26) (tgt := 128) hx hb dX9_rounds_102 (by decide) (by decide) (by decide) (by decide) ?_
      refine lv_aload_n hx hb dX9_rounds_128 rfl (lv_at hl 0 rfl) ?_
      refine fg_X9_44 X hS (o_of hN (o := 0) (c := 9) (by decide) rfl) dX9_rounds_129 ?_
      refine lv_ldc hx hb (own := RX9) hown (hts _ t4_120) dX9_rounds_132 ?_
      obtain ⟨r5, M4, h3, hX⟩ := bp_of hX
      refine r_callV1 (v := .int r5) (As := [.int (nI 1000000)]) (rest := []) X hS (m_X7_soonest hN h3) mv_X7_soonest rfl (o_of hN (o := 19) (c := 7) (by decide) rfl) t4_202 ⟨rfl, rfl, Nat.le_of_ble_eq_true rfl, Nat.le_of_ble_eq_true rfl⟩ rfl hl.1 rfl (Nat.le_of_ble_eq_true rfl) ⟨Nat.zero_le _, Nat.zero_le _⟩ dX9_rounds_134 (fun H locs hS => ?_)
      obtain rfl := some_of hX
      exact x_I (v := r5) X hS dX9_rounds_137
    have hX := if_f c2 hX
    by_cases c6 : a2 = nI 2
    · have hX := if_t c6 hX
      refine r_tabIn c6 (off := 36) (tgt := 138) hx hb dX9_rounds_102 (by decide) (by decide) (by decide) (by decide) ?_
      refine lv_aload_n hx hb dX9_rounds_138 rfl (lv_at hl 0 rfl) ?_
      refine fg_X9_44 X hS (o_of hN (o := 0) (c := 9) (by decide) rfl) dX9_rounds_139 ?_
      obtain ⟨r9, M8, h7, hX⟩ := bp_of hX
      refine r_callV1 (v := .int r9) (As := []) (rest := []) X hS (m_X7_leastLate hN h7) mv_X7_leastLate rfl (o_of hN (o := 19) (c := 7) (by decide) rfl) t4_206 ⟨rfl, rfl, Nat.le_of_ble_eq_true rfl, Nat.le_of_ble_eq_true rfl⟩ rfl hl.1 rfl (Nat.le_of_ble_eq_true rfl) ⟨Nat.zero_le _, Nat.zero_le _⟩ dX9_rounds_142 (fun H locs hS => ?_)
      obtain rfl := some_of hX
      exact x_I (v := r9) X hS dX9_rounds_145
    have hX := if_f c6 hX
    by_cases c10 : a2 = nI 3
    · have hX := if_t c10 hX
      refine r_tabIn c10 (off := 44) (tgt := 146) hx hb dX9_rounds_102 (by decide) (by decide) (by decide) (by decide) ?_
      refine lv_aload_n hx hb dX9_rounds_146 rfl (lv_at hl 0 rfl) ?_
      refine fg_X9_44 X hS (o_of hN (o := 0) (c := 9) (by decide) rfl) dX9_rounds_147 ?_
      obtain ⟨r13, M12, h11, hX⟩ := bp_of hX
      refine r_callV1 (v := .int r13) (As := []) (rest := []) X hS (m_X7_lateByDue hN h11) mv_X7_lateByDue rfl (o_of hN (o := 19) (c := 7) (by decide) rfl) t4_211 ⟨rfl, rfl, Nat.le_of_ble_eq_true rfl, Nat.le_of_ble_eq_true rfl⟩ rfl hl.1 rfl (Nat.le_of_ble_eq_true rfl) ⟨Nat.zero_le _, Nat.zero_le _⟩ dX9_rounds_150 (fun H locs hS => ?_)
      obtain rfl := some_of hX
      exact x_I (v := r13) X hS dX9_rounds_153
    have hX := if_f c10 hX
    have ic2 : ¬ a2.toInt = 1 := lv_neT c2 rfl
    have ic6 : ¬ a2.toInt = 2 := lv_neT c6 rfl
    have ic10 : ¬ a2.toInt = 3 := lv_neT c10 rfl
    refine lv_tableOut (tgt := 154) hx hb dX9_rounds_102 (by omega) (by decide) ?_
    refine lv_iload_n hx hb dX9_rounds_154 rfl (lv_at hl 1 rfl) ?_
    refine lv_bipush (v := nI 20) hx hb dX9_rounds_155 (by decide) ?_
    refine lv_icmp_lt (tgt := 175) hx hb dX9_rounds_157 (by decide) (fun c14 => ?_) (fun c14 => ?_)
    · have hX := if_t c14 hX
      refine lv_iconst (v := (-1)) hx hb dX9_rounds_175 (by decide) ?_
      obtain rfl := some_of hX
      exact x_I (v := (-1)) X hS dX9_rounds_176
    · have hX := if_f c14 hX
      refine lv_iload_n hx hb dX9_rounds_160 rfl (lv_at hl 1 rfl) ?_
      refine lv_bipush (v := nI 30) hx hb dX9_rounds_161 (by decide) ?_
      refine lv_icmp_ge (tgt := 175) hx hb dX9_rounds_163 (by decide) (fun c15 => ?_) (fun c15 => ?_)
      · have hX := if_t c15 hX
        refine lv_iconst (v := (-1)) hx hb dX9_rounds_175 (by decide) ?_
        obtain rfl := some_of hX
        exact x_I (v := (-1)) X hS dX9_rounds_176
      · have hX := if_f c15 hX
        refine lv_iload hx hb dX9_rounds_166 (lv_at hl 3 rfl) ?_
        refine lv_aload_n hx hb dX9_rounds_168 rfl (lv_at hl 2 rfl) ?_
        refine fg_X9_190 X hS hv_3 dX9_rounds_169 ?_
        refine lv_icmp_lt (tgt := 177) hx hb dX9_rounds_172 (by decide) (fun c16 => ?_) (fun c16 => ?_)
        · have hX := if_t c16 hX
          refine lv_aload_n hx hb dX9_rounds_177 rfl (lv_at hl 0 rfl) ?_
          refine fg_X9_44 X hS (o_of hN (o := 0) (c := 9) (by decide) rfl) dX9_rounds_178 ?_
          refine lv_ldc hx hb (own := RX9) hown (hts _ t4_120) dX9_rounds_181 ?_
          obtain ⟨r19, M18, h17, hX⟩ := bp_of hX
          refine r_callV1 (v := .int r19) (As := [.int (nI 1000000)]) (rest := []) X hS (m_X7_soonest hN h17) mv_X7_soonest rfl (o_of hN (o := 19) (c := 7) (by decide) rfl) t4_202 ⟨rfl, rfl, Nat.le_of_ble_eq_true rfl, Nat.le_of_ble_eq_true rfl⟩ rfl hl.1 rfl (Nat.le_of_ble_eq_true rfl) ⟨Nat.zero_le _, Nat.zero_le _⟩ dX9_rounds_183 (fun H locs hS => ?_)
          refine lv_pop hx hb dX9_rounds_186 rfl ?_
          refine lv_aload_n hx hb dX9_rounds_187 rfl (lv_at hl 0 rfl) ?_
          refine fg_X9_44 X hS (o_of hN (o := 0) (c := 9) (by decide) rfl) dX9_rounds_188 ?_
          refine fg_X9_187 X hS (o_of hN (o := 19) (c := 7) (by decide) rfl) dX9_rounds_191 ?_
          refine lv_iload hx hb dX9_rounds_194 (lv_at hl 3 rfl) ?_
          obtain ⟨g20, hX⟩ := gin_of hX
          refine r_iald (ci := 7) (o := 19) (k := 9) (n := 6) X hS (o_of hN (o := 19) (c := 7) (by decide) rfl) rfl rfl g20 dX9_rounds_196 ?_
          obtain rfl := some_of hX
          exact x_I (v := (gA M18 19 9 (ix v_4))) X hS dX9_rounds_197
        · have hX := if_f c16 hX
          refine lv_iconst (v := (-1)) hx hb dX9_rounds_175 (by decide) ?_
          obtain rfl := some_of hX
          exact x_I (v := (-1)) X hS dX9_rounds_176
  · have hX := if_t c1 hX
    refine lv_iconst (v := (-1)) hx hb dX9_rounds_99 (by decide) ?_
    obtain rfl := some_of hX
    exact x_I (v := (-1)) X hS dX9_rounds_100
set_option maxRecDepth 100000 in
set_option maxHeartbeats 4000000 in
theorem m_X9_rounds {l : Launch} {D : va_G} {cy : Nat → ClassId} {ad : Nat → Nat → Nat} {ns : List (Nat × Nat)} {A : Nat → Prop} {M : Mem} (hN : NsC ns) {a1 : Int32} {a2 : Int32} {r : Int32 × Mem} (hX : f_X9_rounds M a1 a2 = some r) : Ct l yX9_rounds cX9_rounds 5 ((some .int)) rm_X9_rounds D cy ad ns A [.ref (ad 0 0), .int a1, .int a2] M r.2 (some (.int r.1)) := by
  refine ct_of (lv := [(0, .ref (ad 0 0)), (1, .int a1), (2, .int a2)]) (by decide) (Nat.le_of_ble_eq_true rfl) rfl ?_
  intro p e s m args below meth c ls X hl hS
  obtain ⟨hx, hb, hml, hown, hts, hK, hr, hlk, hA, hG⟩ := id X
  obtain ⟨H, hH⟩ : ∃ z, z = s.heap := ⟨_, rfl⟩
  obtain ⟨locs, hlo⟩ : ∃ z : List Loc, z = [] := ⟨_, rfl⟩
  have hS : St D cy ad ns A M s.heap H locs := by rw [hH, hlo]; exact hS
  have hgoal : W p l e rm_X9_rounds s m args below meth c H locs 0 0 (MQ below (QC D cy ad ns A r.2 (some (.int r.1))) args s 0 0 A) (F0 m 0 ls []) := by
    unfold f_X9_rounds at hX
    refine lv_aload_n hx hb dX9_rounds_0 rfl (lv_at hl 0 rfl) ?_
    refine lv_iload_n hx hb dX9_rounds_1 rfl (lv_at hl 1 rfl) ?_
    obtain ⟨r22, h21, hX⟩ := bn_of hX
    refine r_callV1 (v := rv ad r22) (As := [.int a1]) (rest := []) X hS (m_X9_townAt hN h21) mv_X9_townAt rfl (o_of hN (o := 0) (c := 9) (by decide) rfl) t4_129 ⟨rfl, rfl, Nat.le_of_ble_eq_true rfl, Nat.le_of_ble_eq_true rfl⟩ rfl hl.1 rfl (Nat.le_of_ble_eq_true rfl) ⟨Nat.zero_le _, Nat.zero_le _⟩ dX9_rounds_2 (fun H locs hS => ?_)
    have qr22 : ∀ o, r22 = some o → Ob ns 6 o := fun o e => ob_X9_townAt hN (by rw [← e]; exact h21)
    refine lv_astore_nR (lv' := [(3, rv ad r22), (0, .ref (ad 0 0)), (1, .int a1), (2, .int a2)]) hx hb dX9_rounds_5 rfl hl (by decide) rfl (fun ls hl => ?_)
    rcases r22 with _ | o23
    · have hX := opt_n hX
      have hl : lv_has ls 5 [(3, .null), (0, .ref (ad 0 0)), (1, .int a1), (2, .int a2)] := hl
      refine lv_aload_nN hx hb dX9_rounds_6 rfl (lv_at hl 0 rfl) ?_
      refine lv_ifnonnullN hx hb dX9_rounds_7 ?_
      refine lv_iconst (v := (-1)) hx hb dX9_rounds_10 (by decide) ?_
      obtain rfl := some_of hX
      exact x_I (v := (-1)) X hS dX9_rounds_11
    · have hX := opt_s hX
      have hl : lv_has ls 5 [(3, .ref (ad o23 0)), (0, .ref (ad 0 0)), (1, .int a1), (2, .int a2)] := hl
      refine lv_aload_n hx hb dX9_rounds_6 rfl (lv_at hl 0 rfl) ?_
      refine lv_ifnonnull (tgt := 12) hx hb dX9_rounds_7 (by decide) ?_
      refine lv_aload_n hx hb dX9_rounds_12 rfl (lv_at hl 1 rfl) ?_
      refine fg_X9_44 X hS (o_of hN (o := 0) (c := 9) (by decide) rfl) dX9_rounds_13 ?_
      refine lv_aload_n hx hb dX9_rounds_16 rfl (lv_at hl 0 rfl) ?_
      refine lv_aload_n hx hb dX9_rounds_17 rfl (lv_at hl 0 rfl) ?_
      refine fg_X9_168 X hS (qr22 o23 rfl) dX9_rounds_18 ?_
      refine lv_aload_n hx hb dX9_rounds_21 rfl (lv_at hl 0 rfl) ?_
      refine fg_X9_171 X hS (qr22 o23 rfl) dX9_rounds_22 ?_
      obtain ⟨M25, h24, hX⟩ := bn_of hX
      refine r_callV0 (As := [.ref (ad o23 0), .int (gI M o23 0), .int (gI M o23 1)]) (rest := []) X hS (m_X7_begin hN (qr22 o23 rfl) h24) mv_X7_begin rfl (o_of hN (o := 19) (c := 7) (by decide) rfl) t4_145 ⟨rfl, rfl, Nat.le_of_ble_eq_true rfl, Nat.le_of_ble_eq_true rfl⟩ rfl hl.1 rfl (Nat.le_of_ble_eq_true rfl) ⟨Nat.zero_le _, Nat.zero_le _⟩ dX9_rounds_25 (fun H locs hS => ?_)
      refine lv_iload_n hx hb dX9_rounds_28 rfl (lv_at hl 3 rfl) ?_
      refine lv_if_ne (tgt := 40) hx hb dX9_rounds_29 (by decide) (fun c26 => ?_) (fun c26 => ?_)
      · have hX := if_f c26 hX
        refine lv_iload_n hx hb dX9_rounds_40 rfl (lv_at hl 3 rfl) ?_
        refine lv_bipush (v := nI 10) hx hb dX9_rounds_41 (by decide) ?_
        obtain ⟨g27, hX⟩ := gnz_of hX
        refine lv_irem hx hb dX9_rounds_43 g27 ?_
        refine lv_topi (fun v28 ev28 => ?_)
        have hX := nm_of ev28 hX
        refine lv_istore (lv' := [(4, .int v28), (3, .ref (ad o23 0)), (0, .ref (ad 0 0)), (1, .int a1), (2, .int a2)]) hx hb dX9_rounds_44 hl (by decide) rfl (fun ls hl => ?_)
        refine lv_iload_n hx hb dX9_rounds_46 rfl (lv_at hl 4 rfl) ?_
        refine lv_bipush (v := nI 10) hx hb dX9_rounds_47 (by decide) ?_
        refine lv_icmp_lt (tgt := 92) hx hb dX9_rounds_49 (by decide) (fun c29 => ?_) (fun c29 => ?_)
        · have hX := if_t c29 hX
          exact n_X9_rounds_92 X hN hX (qr22 o23 rfl) _ _ _ (lv_sub hl [2, 4, 1, 0] rfl) hS
        · have hX := if_f c29 hX
          refine lv_iload_n hx hb dX9_rounds_52 rfl (lv_at hl 4 rfl) ?_
          refine lv_bipush (v := nI 20) hx hb dX9_rounds_53 (by decide) ?_
          refine lv_icmp_ge (tgt := 92) hx hb dX9_rounds_55 (by decide) (fun c30 => ?_) (fun c30 => ?_)
          · have hX := if_t c30 hX
            exact n_X9_rounds_92 X hN hX (qr22 o23 rfl) _ _ _ (lv_sub hl [2, 4, 1, 0] rfl) hS
          · have hX := if_f c30 hX
            refine lv_iload hx hb dX9_rounds_58 (lv_at hl 0 rfl) ?_
            refine lv_aload_n hx hb dX9_rounds_60 rfl (lv_at hl 2 rfl) ?_
            refine fg_X9_44 X hS (o_of hN (o := 0) (c := 9) (by decide) rfl) dX9_rounds_61 ?_
            obtain ⟨r33, M32, h31, hX⟩ := bp_of hX
            refine r_callV1 (v := .int r33) (As := []) (rest := [.int v28]) X hS (m_X7_most hN h31) mv_X7_most rfl (o_of hN (o := 19) (c := 7) (by decide) rfl) t4_184 ⟨rfl, rfl, Nat.le_of_ble_eq_true rfl, Nat.le_of_ble_eq_true rfl⟩ rfl hl.1 rfl (Nat.le_of_ble_eq_true rfl) ⟨Nat.zero_le _, Nat.zero_le _⟩ dX9_rounds_64 (fun H locs hS => ?_)
            refine lv_icmp_ge (tgt := 90) hx hb dX9_rounds_67 (by decide) (fun c34 => ?_) (fun c34 => ?_)
            · have hX := if_t c34 hX
              refine lv_iconst (v := (-1)) hx hb dX9_rounds_90 (by decide) ?_
              obtain rfl := some_of hX
              exact x_I (v := (-1)) X hS dX9_rounds_91
            · have hX := if_f c34 hX
              refine lv_iload hx hb dX9_rounds_70 (lv_at hl 0 rfl) ?_
              refine lv_bipush (v := nI 6) hx hb dX9_rounds_72 (by decide) ?_
              refine lv_icmp_ge (tgt := 90) hx hb dX9_rounds_74 (by decide) (fun c35 => ?_) (fun c35 => ?_)
              · have hX := if_t c35 hX
                refine lv_iconst (v := (-1)) hx hb dX9_rounds_90 (by decide) ?_
                obtain rfl := some_of hX
                exact x_I (v := (-1)) X hS dX9_rounds_91
              · have hX := if_f c35 hX
                refine lv_aload_n hx hb dX9_rounds_77 rfl (lv_at hl 2 rfl) ?_
                refine fg_X9_44 X hS (o_of hN (o := 0) (c := 9) (by decide) rfl) dX9_rounds_78 ?_
                refine fg_X9_187 X hS (o_of hN (o := 19) (c := 7) (by decide) rfl) dX9_rounds_81 ?_
                refine lv_iload hx hb dX9_rounds_84 (lv_at hl 0 rfl) ?_
                obtain ⟨g36, hX⟩ := gin_of hX
                refine r_iald (ci := 7) (o := 19) (k := 9) (n := 6) X hS (o_of hN (o := 19) (c := 7) (by decide) rfl) rfl rfl g36 dX9_rounds_86 ?_
                refine lv_goto (tgt := 91) hx hb dX9_rounds_87 (by decide) ?_
                obtain rfl := some_of hX
                exact x_I (v := (gA M32 19 9 (ix v28))) X hS dX9_rounds_91
      · have hX := if_t c26 hX
        refine lv_aload_n hx hb dX9_rounds_32 rfl (lv_at hl 1 rfl) ?_
        refine fg_X9_44 X hS (o_of hN (o := 0) (c := 9) (by decide) rfl) dX9_rounds_33 ?_
        obtain ⟨r39, M38, h37, hX⟩ := bp_of hX
        refine r_callV1 (v := .int r39) (As := []) (rest := []) X hS (m_X7_most hN h37) mv_X7_most rfl (o_of hN (o := 19) (c := 7) (by decide) rfl) t4_184 ⟨rfl, rfl, Nat.le_of_ble_eq_true rfl, Nat.le_of_ble_eq_true rfl⟩ rfl hl.1 rfl (Nat.le_of_ble_eq_true rfl) ⟨Nat.zero_le _, Nat.zero_le _⟩ dX9_rounds_36 (fun H locs hS => ?_)
        obtain rfl := some_of hX
        exact x_I (v := r39) X hS dX9_rounds_39
  rw [hH, hlo] at hgoal
  exact hgoal
theorem mv_X9_rounds : Mv yX9_rounds RX9 cX9_rounds 5 ((some .int)) 2 := ⟨t4_183, t4_181, t4_182, t1_1, ⟨by decide, by decide⟩, by decide +kernel⟩
/-! SewnYear.cloth(IIIII)J -/
def rm_X9_cloth : Room := { frames := 2, cells := 0, slots := 0, locals := 49 }
def f_X9_cloth_132 (a1 : Int32) (a2 : Int32) (a3 : Int32) (a4 : Int32) (a5 : Int32) (k_56 : Int64 → Int32 → Int32 → Option (Int64)) (v_6 : Int64) (v_8 : Int32) (v_9 : Int32) : Option (Int64) :=
  nm (v_9 + nI 1) fun v1 => k_56 v_6 v_8 v1
def b_X9_cloth_82 (a1 : Int32) (a2 : Int32) (a3 : Int32) (a4 : Int32) (a5 : Int32) (k_56 : Int64 → Int32 → Int32 → Option (Int64)) (v_6 : Int64) (v_8 : Int32) (v_9 : Int32) (rc : Int64 → Int32 → Option (Int64)) (v_10 : Int64) (v_12 : Int32) : Option (Int64) :=
  if a1 < v_12 then (if (nI 0) ≤ (lg_cmp v_10 v_6) then (f_X9_cloth_132 a1 a2 a3 a4 a5 k_56 v_6 v_8 v_9) else (f_X9_cloth_132 a1 a2 a3 a4 a5 k_56 v_10 v_9 v_9)) else (bn (f_X9_weight a1 a2 v_12) fun r5 => nm (v_10 + ((Int32.toInt64 (a4 * (v_12 - v_9))) * r5)) fun v6 => nm (v_12 + nI 1) fun v7 => rc v6 v7)
def f_X9_cloth_82 (a1 : Int32) (a2 : Int32) (a3 : Int32) (a4 : Int32) (a5 : Int32) (k_56 : Int64 → Int32 → Int32 → Option (Int64)) (v_6 : Int64) (v_8 : Int32) (v_9 : Int32) : Nat → (Int64 × Int32) → Option (Int64) := lp (fun rc q => b_X9_cloth_82 a1 a2 a3 a4 a5 k_56 v_6 v_8 v_9 (fun x0 x1 => rc (x0, x1)) q.1 q.2)
def f_X9_cloth_168 (a1 : Int32) (a2 : Int32) (a3 : Int32) (a4 : Int32) (a5 : Int32) (s_0 : Int64) (s_1 : Int64) (s_2 : Bool) : Option (Int64) :=
  bn (f_X9_inLeastTerms s_0 s_1 s_2) fun r9 => some r9
def b_X9_cloth_56 (a1 : Int32) (a2 : Int32) (a3 : Int32) (a4 : Int32) (a5 : Int32) (rc : Int64 → Int32 → Int32 → Option (Int64)) (v_6 : Int64) (v_8 : Int32) (v_9 : Int32) : Option (Int64) :=
  if a1 < v_9 then (if a5 = (nI 0) then (some (Int32.toInt64 v_8)) else (bn (f_X9_power (nI 10) a1) fun r13 => if a5 = (nI 2) then (f_X9_cloth_168 a1 a2 a3 a4 a5 v_6 r13 true) else (f_X9_cloth_168 a1 a2 a3 a4 a5 v_6 r13 false))) else (bn (f_X9_power (nI 10) a1) fun r16 => nm ((Int32.toInt64 (a3 * v_9)) * r16) fun v17 => nm (v_9 + (nI 1)) fun v18 => f_X9_cloth_82 a1 a2 a3 a4 a5 rc v_6 v_8 v_9 FU (v17, v18))
def f_X9_cloth_56 (a1 : Int32) (a2 : Int32) (a3 : Int32) (a4 : Int32) (a5 : Int32) : Nat → (Int64 × Int32 × Int32) → Option (Int64) := lp (fun rc q => b_X9_cloth_56 a1 a2 a3 a4 a5 (fun x0 x1 x2 => rc (x0, x1, x2)) q.1 q.2.1 q.2.2)
def f_X9_cloth (a1 : Int32) (a2 : Int32) (a3 : Int32) (a4 : Int32) (a5 : Int32) : Option (Int64) :=
  bn (f_X9_areMonths a1 a2) fun r20 => if r20 = true then (bn (f_X9_isCost a3) fun r23 => if r23 = true then (bn (f_X9_isCost a4) fun r26 => if r26 = true then (if a5 < (nI 0) then (some (-1 : Int64)) else (if a5 ≤ (nI 2) then (bn (f_X9_power (nI 10) a1) fun r31 => nm ((lN 1000000) * r31) fun v32 => f_X9_cloth_56 a1 a2 a3 a4 a5 FU (v32, (nI 0), (nI 0))) else (some (-1 : Int64)))) else (some (-1 : Int64))) else (some (-1 : Int64))) else (some (-1 : Int64))
set_option maxRecDepth 100000 in
set_option maxHeartbeats 4000000 in
theorem n_X9_cloth_132 {a1 : Int32} {a2 : Int32} {a3 : Int32} {a4 : Int32} {a5 : Int32} (X : Cx p s m args meth c D cy ad A RX9 cX9_cloth 13 ((some .long))) (hN : NsC ns) {M : Mem} {k_56 : Int64 → Int32 → Int32 → Option (Int64)} {v_6 : Int64} {v_8 : Int32} {v_9 : Int32} {r : Int64} (hX : f_X9_cloth_132 a1 a2 a3 a4 a5 k_56 v_6 v_8 v_9 = some r) : (∀ (v_6 : Int64) (v_8 : Int32) (v_9 : Int32) (r : Int64), k_56 v_6 v_8 v_9 = some r → ∀ (ls : Array Slot) (H : Heap) (locs : List Loc), lv_has ls 13 [(1, .int a1), (2, .int a2), (3, .int a3), (4, .int a4), (5, .int a5), (6, .long v_6), (8, .int v_8), (9, .int v_9)] → St D cy ad ns A M s.heap H locs → W p l e rm_X9_cloth s m args below meth c H locs 0 0 (MQ below (QC D cy ad ns A M (some (.long r))) args s 0 0 A) (F0 m 56 ls [])) → ∀ (ls : Array Slot) (H : Heap) (locs : List Loc), lv_has ls 13 [(1, .int a1), (2, .int a2), (3, .int a3), (4, .int a4), (5, .int a5), (6, .long v_6), (8, .int v_8), (9, .int v_9)] → St D cy ad ns A M s.heap H locs → W p l e rm_X9_cloth s m args below meth c H locs 0 0 (MQ below (QC D cy ad ns A M (some (.long r))) args s 0 0 A) (F0 m 132 ls []) := by
  obtain ⟨hx, hb, hml, hown, hts, hK, hr, hlk, hA, hG⟩ := id X
  intro hk_56 ls H locs hl hS
  unfold f_X9_cloth_132 at hX
  obtain ⟨v1, ev1⟩ : ∃ y : Int32, y = (v_9 + nI 1) := ⟨_, rfl⟩
  have hX := nm_of ev1 hX
  refine lv_iinc (v := v1) (lv' := [(9, .int v1), (1, .int a1), (2, .int a2), (3, .int a3), (4, .int a4), (5, .int a5), (6, .long v_6), (8, .int v_8)]) hx hb dX9_cloth_132 hl (k := 7) rfl (by rw [ev1]; rfl) (by decide) rfl (fun ls hl => ?_)
  refine lv_goto (tgt := 56) hx hb dX9_cloth_135 (by decide) ?_
  exact hk_56 _ _ _ _ hX _ _ _ (lv_sub hl [1, 2, 3, 4, 5, 6, 7, 0] rfl) hS
set_option maxRecDepth 100000 in
set_option maxHeartbeats 4000000 in
theorem n_X9_cloth_82 {a1 : Int32} {a2 : Int32} {a3 : Int32} {a4 : Int32} {a5 : Int32} (X : Cx p s m args meth c D cy ad A RX9 cX9_cloth 13 ((some .long))) (hN : NsC ns) {M : Mem} {k_56 : Int64 → Int32 → Int32 → Option (Int64)} {v_6 : Int64} {v_8 : Int32} {v_9 : Int32} : ∀ (n : Nat) (v_10 : Int64) (v_12 : Int32) (r : Int64), f_X9_cloth_82 a1 a2 a3 a4 a5 k_56 v_6 v_8 v_9 n (v_10, v_12) = some r → (∀ (v_6 : Int64) (v_8 : Int32) (v_9 : Int32) (r : Int64), k_56 v_6 v_8 v_9 = some r → ∀ (ls : Array Slot) (H : Heap) (locs : List Loc), lv_has ls 13 [(1, .int a1), (2, .int a2), (3, .int a3), (4, .int a4), (5, .int a5), (6, .long v_6), (8, .int v_8), (9, .int v_9)] → St D cy ad ns A M s.heap H locs → W p l e rm_X9_cloth s m args below meth c H locs 0 0 (MQ below (QC D cy ad ns A M (some (.long r))) args s 0 0 A) (F0 m 56 ls [])) → ∀ (ls : Array Slot) (H : Heap) (locs : List Loc), lv_has ls 13 [(1, .int a1), (2, .int a2), (3, .int a3), (4, .int a4), (5, .int a5), (6, .long v_6), (8, .int v_8), (9, .int v_9), (10, .long v_10), (12, .int v_12)] → St D cy ad ns A M s.heap H locs → W p l e rm_X9_cloth s m args below meth c H locs 0 0 (MQ below (QC D cy ad ns A M (some (.long r))) args s 0 0 A) (F0 m 82 ls []) := by
  obtain ⟨hx, hb, hml, hown, hts, hK, hr, hlk, hA, hG⟩ := id X
  intro n
  induction n with
  | zero => intro v_10 v_12 r hX; cases (show (none : Option (Int64)) = some r from hX)
  | succ n ih =>
    intro v_10 v_12 r hX hk_56 ls H locs hl hS
    have hX : b_X9_cloth_82 a1 a2 a3 a4 a5 k_56 v_6 v_8 v_9 (fun x0 x1 => f_X9_cloth_82 a1 a2 a3 a4 a5 k_56 v_6 v_8 v_9 n (x0, x1)) v_10 v_12 = some r := hX
    unfold b_X9_cloth_82 at hX
    refine lv_iload hx hb dX9_cloth_82 (lv_at hl 9 rfl) ?_
    refine lv_iload_n hx hb dX9_cloth_84 rfl (lv_at hl 0 rfl) ?_
    refine lv_icmp_gt (tgt := 116) hx hb dX9_cloth_85 (by decide) (fun c2 => ?_) (fun c2 => ?_)
    · have hX := if_t c2 hX
      refine lv_lload hx hb dX9_cloth_116 (lv_at hl 8 rfl) ?_
      refine lv_lload hx hb dX9_cloth_118 (lv_at hl 5 rfl) ?_
      refine W.lcmp hx hb dX9_cloth_120 ?_
      refine lv_if_ge (tgt := 132) hx hb dX9_cloth_121 (by decide) (fun c3 => ?_) (fun c3 => ?_)
      · have hX := if_t c3 hX
        exact n_X9_cloth_132 X hN hX hk_56 _ _ _ (lv_sub hl [0, 1, 2, 3, 4, 5, 6, 7] rfl) hS
      · have hX := if_f c3 hX
        refine lv_lload hx hb dX9_cloth_124 (lv_at hl 8 rfl) ?_
        refine lv_lstore (lv' := [(6, .long v_10), (1, .int a1), (2, .int a2), (3, .int a3), (4, .int a4), (5, .int a5), (8, .int v_8), (9, .int v_9), (10, .long v_10), (12, .int v_12)]) hx hb dX9_cloth_126 hl (by decide) rfl (fun ls hl => ?_)
        refine lv_iload hx hb dX9_cloth_128 (lv_at hl 7 rfl) ?_
        refine lv_istore (lv' := [(8, .int v_9), (6, .long v_10), (1, .int a1), (2, .int a2), (3, .int a3), (4, .int a4), (5, .int a5), (9, .int v_9), (10, .long v_10), (12, .int v_12)]) hx hb dX9_cloth_130 hl (by decide) rfl (fun ls hl => ?_)
        exact n_X9_cloth_132 X hN hX hk_56 _ _ _ (lv_sub hl [2, 3, 4, 5, 6, 1, 0, 7] rfl) hS
    · have hX := if_f c2 hX
      refine lv_lload hx hb dX9_cloth_88 (lv_at hl 8 rfl) ?_
      refine lv_iload hx hb dX9_cloth_90 (lv_at hl 3 rfl) ?_
      refine lv_iload hx hb dX9_cloth_92 (lv_at hl 9 rfl) ?_
      refine lv_iload hx hb dX9_cloth_94 (lv_at hl 7 rfl) ?_
      refine lv_isub hx hb dX9_cloth_96 ?_
      refine lv_imul hx hb dX9_cloth_97 ?_
      refine lv_i2l (v := (Int32.toInt64 (a4 * (v_12 - v_9)))) hx hb dX9_cloth_98 rfl ?_
      refine lv_iload_n hx hb dX9_cloth_99 rfl (lv_at hl 0 rfl) ?_
      refine lv_iload_n hx hb dX9_cloth_100 rfl (lv_at hl 1 rfl) ?_
      refine lv_iload hx hb dX9_cloth_101 (lv_at hl 9 rfl) ?_
      obtain ⟨r5, h4, hX⟩ := bn_of hX
      refine r_callS1 (v := .long r5) (As := [.int a1, .int a2, .int v_12]) (rest := [.long (Int32.toInt64 (a4 * (v_12 - v_9))), .long v_10]) X hS (m_X9_weight (M := M) hN h4) ms_X9_weight t4_229 ⟨rfl, rfl, Nat.le_of_ble_eq_true rfl, Nat.le_of_ble_eq_true rfl⟩ rfl hl.1 rfl (Nat.le_of_ble_eq_true rfl) ⟨Nat.zero_le _, Nat.zero_le _⟩ dX9_cloth_103 (fun H locs hS => ?_)
      refine lv_lmul hx hb dX9_cloth_106 ?_
      refine lv_ladd hx hb dX9_cloth_107 ?_
      refine lv_topl (fun v6 ev6 => ?_)
      have hX := nm_of ev6 hX
      refine lv_lstore (lv' := [(10, .long v6), (1, .int a1), (2, .int a2), (3, .int a3), (4, .int a4), (5, .int a5), (6, .long v_6), (8, .int v_8), (9, .int v_9), (12, .int v_12)]) hx hb dX9_cloth_108 hl (by decide) rfl (fun ls hl => ?_)
      obtain ⟨v7, ev7⟩ : ∃ y : Int32, y = (v_12 + nI 1) := ⟨_, rfl⟩
      have hX := nm_of ev7 hX
      refine lv_iinc (v := v7) (lv' := [(12, .int v7), (10, .long v6), (1, .int a1), (2, .int a2), (3, .int a3), (4, .int a4), (5, .int a5), (6, .long v_6), (8, .int v_8), (9, .int v_9)]) hx hb dX9_cloth_110 hl (k := 9) rfl (by rw [ev7]; rfl) (by decide) rfl (fun ls hl => ?_)
      refine lv_goto (tgt := 82) hx hb dX9_cloth_113 (by decide) ?_
      exact ih _ _ _ hX hk_56 _ _ _ (lv_sub hl [2, 3, 4, 5, 6, 7, 8, 9, 1, 0] rfl) hS
set_option maxRecDepth 100000 in
set_option maxHeartbeats 4000000 in
theorem n_X9_cloth_168 {a1 : Int32} {a2 : Int32} {a3 : Int32} {a4 : Int32} {a5 : Int32} (X : Cx p s m args meth c D cy ad A RX9 cX9_cloth 13 ((some .long))) (hN : NsC ns) {M : Mem} {s_0 : Int64} {s_1 : Int64} {s_2 : Bool} {r : Int64} (hX : f_X9_cloth_168 a1 a2 a3 a4 a5 s_0 s_1 s_2 = some r) : ∀ (ls : Array Slot) (H : Heap) (locs : List Loc), lv_has ls 13 [] → St D cy ad ns A M s.heap H locs → W p l e rm_X9_cloth s m args below meth c H locs 0 0 (MQ below (QC D cy ad ns A M (some (.long r))) args s 0 0 A) (F0 m 168 ls [.int (b2i s_2), .long s_1, .long s_0]) := by
  obtain ⟨hx, hb, hml, hown, hts, hK, hr, hlk, hA, hG⟩ := id X
  intro ls H locs hl hS
  unfold f_X9_cloth_168 at hX
  obtain ⟨r9, h8, hX⟩ := bn_of hX
  refine r_callS1 (v := .long r9) (As := [.long s_0, .long s_1, .int (b2i s_2)]) (rest := []) X hS (m_X9_inLeastTerms (M := M) hN h8) ms_X9_inLeastTerms t4_232 ⟨rfl, rfl, Nat.le_of_ble_eq_true rfl, Nat.le_of_ble_eq_true rfl⟩ rfl hl.1 rfl (Nat.le_of_ble_eq_true rfl) ⟨Nat.zero_le _, Nat.zero_le _⟩ dX9_cloth_168 (fun H locs hS => ?_)
  obtain rfl := some_of hX
  exact x_L (v := r9) X hS dX9_cloth_171
set_option maxRecDepth 100000 in
set_option maxHeartbeats 4000000 in
theorem n_X9_cloth_56 {a1 : Int32} {a2 : Int32} {a3 : Int32} {a4 : Int32} {a5 : Int32} (X : Cx p s m args meth c D cy ad A RX9 cX9_cloth 13 ((some .long))) (hN : NsC ns) {M : Mem} : ∀ (n : Nat) (v_6 : Int64) (v_8 : Int32) (v_9 : Int32) (r : Int64), f_X9_cloth_56 a1 a2 a3 a4 a5 n (v_6, v_8, v_9) = some r → ∀ (ls : Array Slot) (H : Heap) (locs : List Loc), lv_has ls 13 [(1, .int a1), (2, .int a2), (3, .int a3), (4, .int a4), (5, .int a5), (6, .long v_6), (8, .int v_8), (9, .int v_9)] → St D cy ad ns A M s.heap H locs → W p l e rm_X9_cloth s m args below meth c H locs 0 0 (MQ below (QC D cy ad ns A M (some (.long r))) args s 0 0 A) (F0 m 56 ls []) := by
  obtain ⟨hx, hb, hml, hown, hts, hK, hr, hlk, hA, hG⟩ := id X
  intro n
  induction n with
  | zero => intro v_6 v_8 v_9 r hX; cases (show (none : Option (Int64)) = some r from hX)
  | succ n ih =>
    intro v_6 v_8 v_9 r hX ls H locs hl hS
    have hX : b_X9_cloth_56 a1 a2 a3 a4 a5 (fun x0 x1 x2 => f_X9_cloth_56 a1 a2 a3 a4 a5 n (x0, x1, x2)) v_6 v_8 v_9 = some r := hX
    unfold b_X9_cloth_56 at hX
    refine lv_iload hx hb dX9_cloth_56 (lv_at hl 7 rfl) ?_
    refine lv_iload_n hx hb dX9_cloth_58 rfl (lv_at hl 0 rfl) ?_
    refine lv_icmp_gt (tgt := 138) hx hb dX9_cloth_59 (by decide) (fun c10 => ?_) (fun c10 => ?_)
    · have hX := if_t c10 hX
      refine lv_iload hx hb dX9_cloth_138 (lv_at hl 4 rfl) ?_
      refine lv_if_ne (tgt := 149) hx hb dX9_cloth_140 (by decide) (fun c11 => ?_) (fun c11 => ?_)
      · have hX := if_f c11 hX
        refine lv_lload hx hb dX9_cloth_149 (lv_at hl 5 rfl) ?_
        refine lv_bipush (v := nI 10) hx hb dX9_cloth_151 (by decide) ?_
        refine lv_iload_n hx hb dX9_cloth_153 rfl (lv_at hl 0 rfl) ?_
        obtain ⟨r13, h12, hX⟩ := bn_of hX
        refine r_callS1 (v := .long r13) (As := [.int (nI 10), .int a1]) (rest := [.long v_6]) X hS (m_X9_power (M := M) hN h12) ms_X9_power t4_226 ⟨rfl, rfl, Nat.le_of_ble_eq_true rfl, Nat.le_of_ble_eq_true rfl⟩ rfl hl.1 rfl (Nat.le_of_ble_eq_true rfl) ⟨Nat.zero_le _, Nat.zero_le _⟩ dX9_cloth_154 (fun H locs hS => ?_)
        refine lv_iload hx hb dX9_cloth_157 (lv_at hl 4 rfl) ?_
        refine lv_iconst (v := nI 2) hx hb dX9_cloth_159 (by decide) ?_
        refine lv_icmp_ne (tgt := 167) hx hb dX9_cloth_160 (by decide) (fun c14 => ?_) (fun c14 => ?_)
        · have hX := if_f c14 hX
          refine lv_iconst (v := nI 0) hx hb dX9_cloth_167 (by decide) ?_
          exact n_X9_cloth_168 X hN hX _ _ _ (lv_sub hl [] rfl) hS
        · have hX := if_t c14 hX
          refine lv_iconst (v := nI 1) hx hb dX9_cloth_163 (by decide) ?_
          refine lv_goto (tgt := 168) hx hb dX9_cloth_164 (by decide) ?_
          exact n_X9_cloth_168 X hN hX _ _ _ (lv_sub hl [] rfl) hS
      · have hX := if_t c11 hX
        refine lv_iload hx hb dX9_cloth_143 (lv_at hl 6 rfl) ?_
        refine lv_i2l (v := (Int32.toInt64 v_8)) hx hb dX9_cloth_145 rfl ?_
        refine lv_goto (tgt := 171) hx hb dX9_cloth_146 (by decide) ?_
        obtain rfl := some_of hX
        exact x_L (v := (Int32.toInt64 v_8)) X hS dX9_cloth_171
    · have hX := if_f c10 hX
      refine lv_iload_n hx hb dX9_cloth_62 rfl (lv_at hl 2 rfl) ?_
      refine lv_iload hx hb dX9_cloth_63 (lv_at hl 7 rfl) ?_
      refine lv_imul hx hb dX9_cloth_65 ?_
      refine lv_i2l (v := (Int32.toInt64 (a3 * v_9))) hx hb dX9_cloth_66 rfl ?_
      refine lv_bipush (v := nI 10) hx hb dX9_cloth_67 (by decide) ?_
      refine lv_iload_n hx hb dX9_cloth_69 rfl (lv_at hl 0 rfl) ?_
      obtain ⟨r16, h15, hX⟩ := bn_of hX
      refine r_callS1 (v := .long r16) (As := [.int (nI 10), .int a1]) (rest := [.long (Int32.toInt64 (a3 * v_9))]) X hS (m_X9_power (M := M) hN h15) ms_X9_power t4_226 ⟨rfl, rfl, Nat.le_of_ble_eq_true rfl, Nat.le_of_ble_eq_true rfl⟩ rfl hl.1 rfl (Nat.le_of_ble_eq_true rfl) ⟨Nat.zero_le _, Nat.zero_le _⟩ dX9_cloth_70 (fun H locs hS => ?_)
      refine lv_lmul hx hb dX9_cloth_73 ?_
      refine lv_topl (fun v17 ev17 => ?_)
      have hX := nm_of ev17 hX
      refine lv_lstore (lv' := [(10, .long v17), (1, .int a1), (2, .int a2), (3, .int a3), (4, .int a4), (5, .int a5), (6, .long v_6), (8, .int v_8), (9, .int v_9)]) hx hb dX9_cloth_74 hl (by decide) rfl (fun ls hl => ?_)
      refine lv_iload hx hb dX9_cloth_76 (lv_at hl 8 rfl) ?_
      refine lv_iconst (v := nI 1) hx hb dX9_cloth_78 (by decide) ?_
      refine lv_iadd hx hb dX9_cloth_79 ?_
      refine lv_topi (fun v18 ev18 => ?_)
      have hX := nm_of ev18 hX
      refine lv_istore (lv' := [(12, .int v18), (10, .long v17), (1, .int a1), (2, .int a2), (3, .int a3), (4, .int a4), (5, .int a5), (6, .long v_6), (8, .int v_8), (9, .int v_9)]) hx hb dX9_cloth_80 hl (by decide) rfl (fun ls hl => ?_)
      exact n_X9_cloth_82 X hN _ _ _ _ hX (fun z0 z1 z2 r h ls H locs hl hS => ih z0 z1 z2 r h ls H locs hl hS) _ _ _ (lv_sub hl [2, 3, 4, 5, 6, 7, 8, 9, 1, 0] rfl) hS
set_option maxRecDepth 100000 in
set_option maxHeartbeats 4000000 in
theorem m_X9_cloth {l : Launch} {D : va_G} {cy : Nat → ClassId} {ad : Nat → Nat → Nat} {ns : List (Nat × Nat)} {A : Nat → Prop} {M : Mem} (hN : NsC ns) {a1 : Int32} {a2 : Int32} {a3 : Int32} {a4 : Int32} {a5 : Int32} {r : Int64} (hX : f_X9_cloth a1 a2 a3 a4 a5 = some r) : Ct l yX9_cloth cX9_cloth 13 ((some .long)) rm_X9_cloth D cy ad ns A [.ref (ad 0 0), .int a1, .int a2, .int a3, .int a4, .int a5] M M (some (.long r)) := by
  refine ct_of (lv := [(0, .ref (ad 0 0)), (1, .int a1), (2, .int a2), (3, .int a3), (4, .int a4), (5, .int a5)]) (by decide) (Nat.le_of_ble_eq_true rfl) rfl ?_
  intro p e s m args below meth c ls X hl hS
  obtain ⟨hx, hb, hml, hown, hts, hK, hr, hlk, hA, hG⟩ := id X
  obtain ⟨H, hH⟩ : ∃ z, z = s.heap := ⟨_, rfl⟩
  obtain ⟨locs, hlo⟩ : ∃ z : List Loc, z = [] := ⟨_, rfl⟩
  have hS : St D cy ad ns A M s.heap H locs := by rw [hH, hlo]; exact hS
  have hgoal : W p l e rm_X9_cloth s m args below meth c H locs 0 0 (MQ below (QC D cy ad ns A M (some (.long r))) args s 0 0 A) (F0 m 0 ls []) := by
    unfold f_X9_cloth at hX
    refine lv_iload_n hx hb dX9_cloth_0 rfl (lv_at hl 1 rfl) ?_
    refine lv_iload_n hx hb dX9_cloth_1 rfl (lv_at hl 2 rfl) ?_
    obtain ⟨r20, h19, hX⟩ := bn_of hX
    refine r_callS1 (v := .int (b2i r20)) (As := [.int a1, .int a2]) (rest := []) X hS (m_X9_areMonths (M := M) hN h19) ms_X9_areMonths t4_219 ⟨rfl, rfl, Nat.le_of_ble_eq_true rfl, Nat.le_of_ble_eq_true rfl⟩ rfl hl.1 rfl (Nat.le_of_ble_eq_true rfl) ⟨Nat.zero_le _, Nat.zero_le _⟩ dX9_cloth_2 (fun H locs hS => ?_)
    refine lv_if_eq (tgt := 34) hx hb dX9_cloth_5 (by decide) (fun c21 => ?_) (fun c21 => ?_)
    · have hX := if_bf c21 hX
      refine lv_ldc2 hx hb (own := RX9) hown (hts _ t4_30) dX9_cloth_34 ?_
      obtain rfl := some_of hX
      exact x_L (v := (-1 : Int64)) X hS dX9_cloth_37
    · have hX := if_bt c21 hX
      refine lv_iload_n hx hb dX9_cloth_8 rfl (lv_at hl 3 rfl) ?_
      obtain ⟨r23, h22, hX⟩ := bn_of hX
      refine r_callS1 (v := .int (b2i r23)) (As := [.int a3]) (rest := []) X hS (m_X9_isCost (M := M) hN h22) ms_X9_isCost t4_222 ⟨rfl, rfl, Nat.le_of_ble_eq_true rfl, Nat.le_of_ble_eq_true rfl⟩ rfl hl.1 rfl (Nat.le_of_ble_eq_true rfl) ⟨Nat.zero_le _, Nat.zero_le _⟩ dX9_cloth_9 (fun H locs hS => ?_)
      refine lv_if_eq (tgt := 34) hx hb dX9_cloth_12 (by decide) (fun c24 => ?_) (fun c24 => ?_)
      · have hX := if_bf c24 hX
        refine lv_ldc2 hx hb (own := RX9) hown (hts _ t4_30) dX9_cloth_34 ?_
        obtain rfl := some_of hX
        exact x_L (v := (-1 : Int64)) X hS dX9_cloth_37
      · have hX := if_bt c24 hX
        refine lv_iload hx hb dX9_cloth_15 (lv_at hl 4 rfl) ?_
        obtain ⟨r26, h25, hX⟩ := bn_of hX
        refine r_callS1 (v := .int (b2i r26)) (As := [.int a4]) (rest := []) X hS (m_X9_isCost (M := M) hN h25) ms_X9_isCost t4_222 ⟨rfl, rfl, Nat.le_of_ble_eq_true rfl, Nat.le_of_ble_eq_true rfl⟩ rfl hl.1 rfl (Nat.le_of_ble_eq_true rfl) ⟨Nat.zero_le _, Nat.zero_le _⟩ dX9_cloth_17 (fun H locs hS => ?_)
        refine lv_if_eq (tgt := 34) hx hb dX9_cloth_20 (by decide) (fun c27 => ?_) (fun c27 => ?_)
        · have hX := if_bf c27 hX
          refine lv_ldc2 hx hb (own := RX9) hown (hts _ t4_30) dX9_cloth_34 ?_
          obtain rfl := some_of hX
          exact x_L (v := (-1 : Int64)) X hS dX9_cloth_37
        · have hX := if_bt c27 hX
          refine lv_iload hx hb dX9_cloth_23 (lv_at hl 5 rfl) ?_
          refine lv_if_lt (tgt := 34) hx hb dX9_cloth_25 (by decide) (fun c28 => ?_) (fun c28 => ?_)
          · have hX := if_t c28 hX
            refine lv_ldc2 hx hb (own := RX9) hown (hts _ t4_30) dX9_cloth_34 ?_
            obtain rfl := some_of hX
            exact x_L (v := (-1 : Int64)) X hS dX9_cloth_37
          · have hX := if_f c28 hX
            refine lv_iload hx hb dX9_cloth_28 (lv_at hl 5 rfl) ?_
            refine lv_iconst (v := nI 2) hx hb dX9_cloth_30 (by decide) ?_
            refine lv_icmp_le (tgt := 38) hx hb dX9_cloth_31 (by decide) (fun c29 => ?_) (fun c29 => ?_)
            · have hX := if_t c29 hX
              refine lv_ldc2 hx hb (own := RX9) hown (hts _ t4_225) dX9_cloth_38 ?_
              refine lv_bipush (v := nI 10) hx hb dX9_cloth_41 (by decide) ?_
              refine lv_iload_n hx hb dX9_cloth_43 rfl (lv_at hl 1 rfl) ?_
              obtain ⟨r31, h30, hX⟩ := bn_of hX
              refine r_callS1 (v := .long r31) (As := [.int (nI 10), .int a1]) (rest := [.long (lN 1000000)]) X hS (m_X9_power (M := M) hN h30) ms_X9_power t4_226 ⟨rfl, rfl, Nat.le_of_ble_eq_true rfl, Nat.le_of_ble_eq_true rfl⟩ rfl hl.1 rfl (Nat.le_of_ble_eq_true rfl) ⟨Nat.zero_le _, Nat.zero_le _⟩ dX9_cloth_44 (fun H locs hS => ?_)
              refine lv_lmul hx hb dX9_cloth_47 ?_
              refine lv_topl (fun v32 ev32 => ?_)
              have hX := nm_of ev32 hX
              refine lv_lstore (lv' := [(6, .long v32), (0, .ref (ad 0 0)), (1, .int a1), (2, .int a2), (3, .int a3), (4, .int a4), (5, .int a5)]) hx hb dX9_cloth_48 hl (by decide) rfl (fun ls hl => ?_)
              refine lv_iconst (v := nI 0) hx hb dX9_cloth_50 (by decide) ?_
              refine lv_istore (lv' := [(8, .int (nI 0)), (6, .long v32), (0, .ref (ad 0 0)), (1, .int a1), (2, .int a2), (3, .int a3), (4, .int a4), (5, .int a5)]) hx hb dX9_cloth_51 hl (by decide) rfl (fun ls hl => ?_)
              refine lv_iconst (v := nI 0) hx hb dX9_cloth_53 (by decide) ?_
              refine lv_istore (lv' := [(9, .int (nI 0)), (8, .int (nI 0)), (6, .long v32), (0, .ref (ad 0 0)), (1, .int a1), (2, .int a2), (3, .int a3), (4, .int a4), (5, .int a5)]) hx hb dX9_cloth_54 hl (by decide) rfl (fun ls hl => ?_)
              exact n_X9_cloth_56 X hN _ _ _ _ _ hX _ _ _ (lv_sub hl [4, 5, 6, 7, 8, 2, 1, 0] rfl) hS
            · have hX := if_f c29 hX
              refine lv_ldc2 hx hb (own := RX9) hown (hts _ t4_30) dX9_cloth_34 ?_
              obtain rfl := some_of hX
              exact x_L (v := (-1 : Int64)) X hS dX9_cloth_37
  rw [hH, hlo] at hgoal
  exact hgoal
theorem mv_X9_cloth : Mv yX9_cloth RX9 cX9_cloth 13 ((some .long)) 5 := ⟨t4_218, t4_216, t4_217, t1_1, ⟨by decide, by decide⟩, by decide +kernel⟩
/-! SewnYear.fact(III)I -/
def rm_X9_fact : Room := { frames := 2, cells := 0, slots := 0, locals := 43 }
def f_X9_fact (M : Mem) (a1 : Int32) (a2 : Int32) (a3 : Int32) : Option (Int32) :=
  bn (f_X9_sightAt M a1) fun r2 => opt r2 (some (-2)) fun o3 => (bn (f_X4_tell M o3 a2 a3) fun r5 => some r5)
set_option maxRecDepth 100000 in
set_option maxHeartbeats 4000000 in
theorem m_X9_fact {l : Launch} {D : va_G} {cy : Nat → ClassId} {ad : Nat → Nat → Nat} {ns : List (Nat × Nat)} {A : Nat → Prop} {M : Mem} (hN : NsC ns) {a1 : Int32} {a2 : Int32} {a3 : Int32} {r : Int32} (hX : f_X9_fact M a1 a2 a3 = some r) : Ct l yX9_fact cX9_fact 5 ((some .int)) rm_X9_fact D cy ad ns A [.ref (ad 0 0), .int a1, .int a2, .int a3] M M (some (.int r)) := by
  refine ct_of (lv := [(0, .ref (ad 0 0)), (1, .int a1), (2, .int a2), (3, .int a3)]) (by decide) (Nat.le_of_ble_eq_true rfl) rfl ?_
  intro p e s m args below meth c ls X hl hS
  obtain ⟨hx, hb, hml, hown, hts, hK, hr, hlk, hA, hG⟩ := id X
  obtain ⟨H, hH⟩ : ∃ z, z = s.heap := ⟨_, rfl⟩
  obtain ⟨locs, hlo⟩ : ∃ z : List Loc, z = [] := ⟨_, rfl⟩
  have hS : St D cy ad ns A M s.heap H locs := by rw [hH, hlo]; exact hS
  have hgoal : W p l e rm_X9_fact s m args below meth c H locs 0 0 (MQ below (QC D cy ad ns A M (some (.int r))) args s 0 0 A) (F0 m 0 ls []) := by
    unfold f_X9_fact at hX
    refine lv_aload_n hx hb dX9_fact_0 rfl (lv_at hl 0 rfl) ?_
    refine lv_iload_n hx hb dX9_fact_1 rfl (lv_at hl 1 rfl) ?_
    obtain ⟨r2, h1, hX⟩ := bn_of hX
    refine r_callV1 (v := rv ad r2) (As := [.int a1]) (rest := []) X hS (m_X9_sightAt hN h1) mv_X9_sightAt rfl (o_of hN (o := 0) (c := 9) (by decide) rfl) t4_239 ⟨rfl, rfl, Nat.le_of_ble_eq_true rfl, Nat.le_of_ble_eq_true rfl⟩ rfl hl.1 rfl (Nat.le_of_ble_eq_true rfl) ⟨Nat.zero_le _, Nat.zero_le _⟩ dX9_fact_2 (fun H locs hS => ?_)
    have qr2 : ∀ o, r2 = some o → Ob ns 4 o := fun o e => ob_X9_sightAt hN (by rw [← e]; exact h1)
    refine lv_astoreR (lv' := [(4, rv ad r2), (0, .ref (ad 0 0)), (1, .int a1), (2, .int a2), (3, .int a3)]) hx hb dX9_fact_5 hl (by decide) rfl (fun ls hl => ?_)
    rcases r2 with _ | o3
    · have hX := opt_n hX
      have hl : lv_has ls 5 [(4, .null), (0, .ref (ad 0 0)), (1, .int a1), (2, .int a2), (3, .int a3)] := hl
      refine lv_aloadN hx hb dX9_fact_7 (lv_at hl 0 rfl) ?_
      refine lv_ifnonnullN hx hb dX9_fact_9 ?_
      refine lv_bipush (v := (-2)) hx hb dX9_fact_12 (by decide) ?_
      refine lv_goto (tgt := 24) hx hb dX9_fact_14 (by decide) ?_
      obtain rfl := some_of hX
      exact x_I (v := (-2)) X hS dX9_fact_24
    · have hX := opt_s hX
      have hl : lv_has ls 5 [(4, .ref (ad o3 0)), (0, .ref (ad 0 0)), (1, .int a1), (2, .int a2), (3, .int a3)] := hl
      refine lv_aload hx hb dX9_fact_7 (lv_at hl 0 rfl) ?_
      refine lv_ifnonnull (tgt := 17) hx hb dX9_fact_9 (by decide) ?_
      refine lv_aload hx hb dX9_fact_17 (lv_at hl 0 rfl) ?_
      refine lv_iload_n hx hb dX9_fact_19 rfl (lv_at hl 3 rfl) ?_
      refine lv_iload_n hx hb dX9_fact_20 rfl (lv_at hl 4 rfl) ?_
      obtain ⟨r5, h4, hX⟩ := bn_of hX
      refine r_callV1 (v := .int r5) (As := [.int a2, .int a3]) (rest := []) X hS (m_X4_tell hN (qr2 o3 rfl) h4) mv_X4_tell rfl (qr2 o3 rfl) t5_3 ⟨rfl, rfl, Nat.le_of_ble_eq_true rfl, Nat.le_of_ble_eq_true rfl⟩ rfl hl.1 rfl (Nat.le_of_ble_eq_true rfl) ⟨Nat.zero_le _, Nat.zero_le _⟩ dX9_fact_21 (fun H locs hS => ?_)
      obtain rfl := some_of hX
      exact x_I (v := r5) X hS dX9_fact_24
  rw [hH, hlo] at hgoal
  exact hgoal
theorem mv_X9_fact : Mv yX9_fact RX9 cX9_fact 5 ((some .int)) 3 := ⟨t4_238, t4_236, t4_237, t1_1, ⟨by decide, by decide⟩, by decide +kernel⟩
/-! SewnYear.fits(IIII)J -/
def rm_X9_fits : Room := { frames := 4, cells := 0, slots := 0, locals := 105 }
def f_X9_fits (M : Mem) (a1 : Int32) (a2 : Int32) (a3 : Int32) (a4 : Int32) : Option (Int64 × Mem) :=
  bp (f_X9_seenAt M a1 a2) fun r3 M2 => opt r3 (some ((-1 : Int64), M2)) fun o4 => (if a3 = (-1) then (bp (f_X3_ways M2) fun r17 M16 => some ((Int32.toInt64 r17), M16)) else (bn (f_X0_hasSeam M2 o4 a3) fun r7 => if r7 = true then (bn (f_X0_hasSeam M2 o4 a4) fun r10 => if r10 = true then (bp (f_X3_holds M2 a3 a4) fun r14 M13 => some ((Int32.toInt64 r14), M13)) else (some ((-1 : Int64), M2))) else (some ((-1 : Int64), M2))))
set_option maxRecDepth 100000 in
set_option maxHeartbeats 4000000 in
theorem m_X9_fits {l : Launch} {D : va_G} {cy : Nat → ClassId} {ad : Nat → Nat → Nat} {ns : List (Nat × Nat)} {A : Nat → Prop} {M : Mem} (hN : NsC ns) {a1 : Int32} {a2 : Int32} {a3 : Int32} {a4 : Int32} {r : Int64 × Mem} (hX : f_X9_fits M a1 a2 a3 a4 = some r) : Ct l yX9_fits cX9_fits 6 ((some .long)) rm_X9_fits D cy ad ns A [.ref (ad 0 0), .int a1, .int a2, .int a3, .int a4] M r.2 (some (.long r.1)) := by
  refine ct_of (lv := [(0, .ref (ad 0 0)), (1, .int a1), (2, .int a2), (3, .int a3), (4, .int a4)]) (by decide) (Nat.le_of_ble_eq_true rfl) rfl ?_
  intro p e s m args below meth c ls X hl hS
  obtain ⟨hx, hb, hml, hown, hts, hK, hr, hlk, hA, hG⟩ := id X
  obtain ⟨H, hH⟩ : ∃ z, z = s.heap := ⟨_, rfl⟩
  obtain ⟨locs, hlo⟩ : ∃ z : List Loc, z = [] := ⟨_, rfl⟩
  have hS : St D cy ad ns A M s.heap H locs := by rw [hH, hlo]; exact hS
  have hgoal : W p l e rm_X9_fits s m args below meth c H locs 0 0 (MQ below (QC D cy ad ns A r.2 (some (.long r.1))) args s 0 0 A) (F0 m 0 ls []) := by
    unfold f_X9_fits at hX
    refine lv_aload_n hx hb dX9_fits_0 rfl (lv_at hl 0 rfl) ?_
    refine lv_iload_n hx hb dX9_fits_1 rfl (lv_at hl 1 rfl) ?_
    refine lv_iload_n hx hb dX9_fits_2 rfl (lv_at hl 2 rfl) ?_
    obtain ⟨r3, M2, h1, hX⟩ := bp_of hX
    refine r_callV1 (v := rv ad r3) (As := [.int a1, .int a2]) (rest := []) X hS (m_X9_seenAt hN h1) mv_X9_seenAt rfl (o_of hN (o := 0) (c := 9) (by decide) rfl) t5_11 ⟨rfl, rfl, Nat.le_of_ble_eq_true rfl, Nat.le_of_ble_eq_true rfl⟩ rfl hl.1 rfl (Nat.le_of_ble_eq_true rfl) ⟨Nat.zero_le _, Nat.zero_le _⟩ dX9_fits_3 (fun H locs hS => ?_)
    have qr3 : ∀ o, r3 = some o → Ob ns 0 o := fun o e => ob_X9_seenAt hN (by rw [← e]; exact h1)
    refine lv_astoreR (lv' := [(5, rv ad r3), (0, .ref (ad 0 0)), (1, .int a1), (2, .int a2), (3, .int a3), (4, .int a4)]) hx hb dX9_fits_6 hl (by decide) rfl (fun ls hl => ?_)
    rcases r3 with _ | o4
    · have hX := opt_n hX
      have hl : lv_has ls 6 [(5, .null), (0, .ref (ad 0 0)), (1, .int a1), (2, .int a2), (3, .int a3), (4, .int a4)] := hl
      refine lv_aloadN hx hb dX9_fits_8 (lv_at hl 0 rfl) ?_
      refine lv_ifnonnullN hx hb dX9_fits_10 ?_
      refine lv_ldc2 hx hb (own := RX9) hown (hts _ t4_30) dX9_fits_13 ?_
      obtain rfl := some_of hX
      exact x_L (v := (-1 : Int64)) X hS dX9_fits_16
    · have hX := opt_s hX
      have hl : lv_has ls 6 [(5, .ref (ad o4 0)), (0, .ref (ad 0 0)), (1, .int a1), (2, .int a2), (3, .int a3), (4, .int a4)] := hl
      refine lv_aload hx hb dX9_fits_8 (lv_at hl 0 rfl) ?_
      refine lv_ifnonnull (tgt := 17) hx hb dX9_fits_10 (by decide) ?_
      refine lv_iload_n hx hb dX9_fits_17 rfl (lv_at hl 4 rfl) ?_
      refine lv_iconst (v := (-1)) hx hb dX9_fits_18 (by decide) ?_
      refine lv_icmp_ne (tgt := 31) hx hb dX9_fits_19 (by decide) (fun c5 => ?_) (fun c5 => ?_)
      · have hX := if_f c5 hX
        refine lv_aload hx hb dX9_fits_31 (lv_at hl 0 rfl) ?_
        refine lv_iload_n hx hb dX9_fits_33 rfl (lv_at hl 4 rfl) ?_
        obtain ⟨r7, h6, hX⟩ := bn_of hX
        refine r_callV1 (v := .int (b2i r7)) (As := [.int a3]) (rest := []) X hS (m_X0_hasSeam hN (qr3 o4 rfl) h6) mv_X0_hasSeam rfl (qr3 o4 rfl) t4_119 ⟨rfl, rfl, Nat.le_of_ble_eq_true rfl, Nat.le_of_ble_eq_true rfl⟩ rfl hl.1 rfl (Nat.le_of_ble_eq_true rfl) ⟨Nat.zero_le _, Nat.zero_le _⟩ dX9_fits_34 (fun H locs hS => ?_)
        refine lv_if_eq (tgt := 64) hx hb dX9_fits_37 (by decide) (fun c8 => ?_) (fun c8 => ?_)
        · have hX := if_bf c8 hX
          refine lv_ldc2 hx hb (own := RX9) hown (hts _ t4_30) dX9_fits_64 ?_
          obtain rfl := some_of hX
          exact x_L (v := (-1 : Int64)) X hS dX9_fits_67
        · have hX := if_bt c8 hX
          refine lv_aload hx hb dX9_fits_40 (lv_at hl 0 rfl) ?_
          refine lv_iload hx hb dX9_fits_42 (lv_at hl 5 rfl) ?_
          obtain ⟨r10, h9, hX⟩ := bn_of hX
          refine r_callV1 (v := .int (b2i r10)) (As := [.int a4]) (rest := []) X hS (m_X0_hasSeam hN (qr3 o4 rfl) h9) mv_X0_hasSeam rfl (qr3 o4 rfl) t4_119 ⟨rfl, rfl, Nat.le_of_ble_eq_true rfl, Nat.le_of_ble_eq_true rfl⟩ rfl hl.1 rfl (Nat.le_of_ble_eq_true rfl) ⟨Nat.zero_le _, Nat.zero_le _⟩ dX9_fits_44 (fun H locs hS => ?_)
          refine lv_if_eq (tgt := 64) hx hb dX9_fits_47 (by decide) (fun c11 => ?_) (fun c11 => ?_)
          · have hX := if_bf c11 hX
            refine lv_ldc2 hx hb (own := RX9) hown (hts _ t4_30) dX9_fits_64 ?_
            obtain rfl := some_of hX
            exact x_L (v := (-1 : Int64)) X hS dX9_fits_67
          · have hX := if_bt c11 hX
            refine lv_aload_n hx hb dX9_fits_50 rfl (lv_at hl 1 rfl) ?_
            refine fg_X9_37 X hS (o_of hN (o := 0) (c := 9) (by decide) rfl) dX9_fits_51 ?_
            refine lv_iload_n hx hb dX9_fits_54 rfl (lv_at hl 4 rfl) ?_
            refine lv_iload hx hb dX9_fits_55 (lv_at hl 5 rfl) ?_
            obtain ⟨r14, M13, h12, hX⟩ := bp_of hX
            refine r_callV1 (v := .int r14) (As := [.int a3, .int a4]) (rest := []) X hS (m_X3_holds hN h12) mv_X3_holds rfl (o_of hN (o := 17) (c := 3) (by decide) rfl) t5_24 ⟨rfl, rfl, Nat.le_of_ble_eq_true rfl, Nat.le_of_ble_eq_true rfl⟩ rfl hl.1 rfl (Nat.le_of_ble_eq_true rfl) ⟨Nat.zero_le _, Nat.zero_le _⟩ dX9_fits_57 (fun H locs hS => ?_)
            refine lv_i2l (v := (Int32.toInt64 r14)) hx hb dX9_fits_60 rfl ?_
            refine lv_goto (tgt := 67) hx hb dX9_fits_61 (by decide) ?_
            obtain rfl := some_of hX
            exact x_L (v := (Int32.toInt64 r14)) X hS dX9_fits_67
      · have hX := if_t c5 hX
        refine lv_aload_n hx hb dX9_fits_22 rfl (lv_at hl 1 rfl) ?_
        refine fg_X9_37 X hS (o_of hN (o := 0) (c := 9) (by decide) rfl) dX9_fits_23 ?_
        obtain ⟨r17, M16, h15, hX⟩ := bp_of hX
        refine r_callV1 (v := .int r17) (As := []) (rest := []) X hS (m_X3_ways hN h15) mv_X3_ways rfl (o_of hN (o := 17) (c := 3) (by decide) rfl) t4_37 ⟨rfl, rfl, Nat.le_of_ble_eq_true rfl, Nat.le_of_ble_eq_true rfl⟩ rfl hl.1 rfl (Nat.le_of_ble_eq_true rfl) ⟨Nat.zero_le _, Nat.zero_le _⟩ dX9_fits_26 (fun H locs hS => ?_)
        refine lv_i2l (v := (Int32.toInt64 r17)) hx hb dX9_fits_29 rfl ?_
        obtain rfl := some_of hX
        exact x_L (v := (Int32.toInt64 r17)) X hS dX9_fits_30
  rw [hH, hlo] at hgoal
  exact hgoal
theorem mv_X9_fits : Mv yX9_fits RX9 cX9_fits 6 ((some .long)) 4 := ⟨t5_10, t5_8, t5_9, t1_1, ⟨by decide, by decide⟩, by decide +kernel⟩
/-! SewnYear.sure(III)I -/
def rm_X9_sure : Room := { frames := 5, cells := 0, slots := 0, locals := 112 }
def f_X9_sure (M : Mem) (a1 : Int32) (a2 : Int32) (a3 : Int32) : Option (Int32 × Mem) :=
  bp (f_X9_seenAt M a1 a2) fun r3 M2 => opt r3 (some ((-1), M2)) fun o4 => (bp (f_X3_ways M2) fun r7 M6 => if r7 = (nI 0) then (some ((-1), M6)) else (if a3 = (-1) then (bp (f_X3_bestAsked M6 r7) fun r18 M17 => some (r18, M17)) else (bn (f_X0_hasSeam M6 o4 a3) fun r11 => if r11 = true then (bp (f_X3_surelyAt M6 a3 r7) fun r15 M14 => some (r15, M14)) else (some ((-1), M6)))))
set_option maxRecDepth 100000 in
set_option maxHeartbeats 4000000 in
theorem m_X9_sure {l : Launch} {D : va_G} {cy : Nat → ClassId} {ad : Nat → Nat → Nat} {ns : List (Nat × Nat)} {A : Nat → Prop} {M : Mem} (hN : NsC ns) {a1 : Int32} {a2 : Int32} {a3 : Int32} {r : Int32 × Mem} (hX : f_X9_sure M a1 a2 a3 = some r) : Ct l yX9_sure cX9_sure 6 ((some .int)) rm_X9_sure D cy ad ns A [.ref (ad 0 0), .int a1, .int a2, .int a3] M r.2 (some (.int r.1)) := by
  refine ct_of (lv := [(0, .ref (ad 0 0)), (1, .int a1), (2, .int a2), (3, .int a3)]) (by decide) (Nat.le_of_ble_eq_true rfl) rfl ?_
  intro p e s m args below meth c ls X hl hS
  obtain ⟨hx, hb, hml, hown, hts, hK, hr, hlk, hA, hG⟩ := id X
  obtain ⟨H, hH⟩ : ∃ z, z = s.heap := ⟨_, rfl⟩
  obtain ⟨locs, hlo⟩ : ∃ z : List Loc, z = [] := ⟨_, rfl⟩
  have hS : St D cy ad ns A M s.heap H locs := by rw [hH, hlo]; exact hS
  have hgoal : W p l e rm_X9_sure s m args below meth c H locs 0 0 (MQ below (QC D cy ad ns A r.2 (some (.int r.1))) args s 0 0 A) (F0 m 0 ls []) := by
    unfold f_X9_sure at hX
    refine lv_aload_n hx hb dX9_sure_0 rfl (lv_at hl 0 rfl) ?_
    refine lv_iload_n hx hb dX9_sure_1 rfl (lv_at hl 1 rfl) ?_
    refine lv_iload_n hx hb dX9_sure_2 rfl (lv_at hl 2 rfl) ?_
    obtain ⟨r3, M2, h1, hX⟩ := bp_of hX
    refine r_callV1 (v := rv ad r3) (As := [.int a1, .int a2]) (rest := []) X hS (m_X9_seenAt hN h1) mv_X9_seenAt rfl (o_of hN (o := 0) (c := 9) (by decide) rfl) t5_11 ⟨rfl, rfl, Nat.le_of_ble_eq_true rfl, Nat.le_of_ble_eq_true rfl⟩ rfl hl.1 rfl (Nat.le_of_ble_eq_true rfl) ⟨Nat.zero_le _, Nat.zero_le _⟩ dX9_sure_3 (fun H locs hS => ?_)
    have qr3 : ∀ o, r3 = some o → Ob ns 0 o := fun o e => ob_X9_seenAt hN (by rw [← e]; exact h1)
    refine lv_astoreR (lv' := [(4, rv ad r3), (0, .ref (ad 0 0)), (1, .int a1), (2, .int a2), (3, .int a3)]) hx hb dX9_sure_6 hl (by decide) rfl (fun ls hl => ?_)
    rcases r3 with _ | o4
    · have hX := opt_n hX
      have hl : lv_has ls 6 [(4, .null), (0, .ref (ad 0 0)), (1, .int a1), (2, .int a2), (3, .int a3)] := hl
      refine lv_aloadN hx hb dX9_sure_8 (lv_at hl 0 rfl) ?_
      refine lv_ifnonnullN hx hb dX9_sure_10 ?_
      refine lv_iconst (v := (-1)) hx hb dX9_sure_13 (by decide) ?_
      obtain rfl := some_of hX
      exact x_I (v := (-1)) X hS dX9_sure_14
    · have hX := opt_s hX
      have hl : lv_has ls 6 [(4, .ref (ad o4 0)), (0, .ref (ad 0 0)), (1, .int a1), (2, .int a2), (3, .int a3)] := hl
      refine lv_aload hx hb dX9_sure_8 (lv_at hl 0 rfl) ?_
      refine lv_ifnonnull (tgt := 15) hx hb dX9_sure_10 (by decide) ?_
      refine lv_aload_n hx hb dX9_sure_15 rfl (lv_at hl 1 rfl) ?_
      refine fg_X9_37 X hS (o_of hN (o := 0) (c := 9) (by decide) rfl) dX9_sure_16 ?_
      obtain ⟨r7, M6, h5, hX⟩ := bp_of hX
      refine r_callV1 (v := .int r7) (As := []) (rest := []) X hS (m_X3_ways hN h5) mv_X3_ways rfl (o_of hN (o := 17) (c := 3) (by decide) rfl) t4_37 ⟨rfl, rfl, Nat.le_of_ble_eq_true rfl, Nat.le_of_ble_eq_true rfl⟩ rfl hl.1 rfl (Nat.le_of_ble_eq_true rfl) ⟨Nat.zero_le _, Nat.zero_le _⟩ dX9_sure_19 (fun H locs hS => ?_)
      refine lv_istore (lv' := [(5, .int r7), (4, .ref (ad o4 0)), (0, .ref (ad 0 0)), (1, .int a1), (2, .int a2), (3, .int a3)]) hx hb dX9_sure_22 hl (by decide) rfl (fun ls hl => ?_)
      refine lv_iload hx hb dX9_sure_24 (lv_at hl 0 rfl) ?_
      refine lv_if_ne (tgt := 31) hx hb dX9_sure_26 (by decide) (fun c8 => ?_) (fun c8 => ?_)
      · have hX := if_f c8 hX
        refine lv_iload_n hx hb dX9_sure_31 rfl (lv_at hl 5 rfl) ?_
        refine lv_iconst (v := (-1)) hx hb dX9_sure_32 (by decide) ?_
        refine lv_icmp_ne (tgt := 46) hx hb dX9_sure_33 (by decide) (fun c9 => ?_) (fun c9 => ?_)
        · have hX := if_f c9 hX
          refine lv_aload hx hb dX9_sure_46 (lv_at hl 1 rfl) ?_
          refine lv_iload_n hx hb dX9_sure_48 rfl (lv_at hl 5 rfl) ?_
          obtain ⟨r11, h10, hX⟩ := bn_of hX
          refine r_callV1 (v := .int (b2i r11)) (As := [.int a3]) (rest := []) X hS (m_X0_hasSeam hN (qr3 o4 rfl) h10) mv_X0_hasSeam rfl (qr3 o4 rfl) t4_119 ⟨rfl, rfl, Nat.le_of_ble_eq_true rfl, Nat.le_of_ble_eq_true rfl⟩ rfl hl.1 rfl (Nat.le_of_ble_eq_true rfl) ⟨Nat.zero_le _, Nat.zero_le _⟩ dX9_sure_49 (fun H locs hS => ?_)
          refine lv_if_eq (tgt := 68) hx hb dX9_sure_52 (by decide) (fun c12 => ?_) (fun c12 => ?_)
          · have hX := if_bf c12 hX
            refine lv_iconst (v := (-1)) hx hb dX9_sure_68 (by decide) ?_
            obtain rfl := some_of hX
            exact x_I (v := (-1)) X hS dX9_sure_69
          · have hX := if_bt c12 hX
            refine lv_aload_n hx hb dX9_sure_55 rfl (lv_at hl 2 rfl) ?_
            refine fg_X9_37 X hS (o_of hN (o := 0) (c := 9) (by decide) rfl) dX9_sure_56 ?_
            refine lv_iload_n hx hb dX9_sure_59 rfl (lv_at hl 5 rfl) ?_
            refine lv_iload hx hb dX9_sure_60 (lv_at hl 0 rfl) ?_
            obtain ⟨r15, M14, h13, hX⟩ := bp_of hX
            refine r_callV1 (v := .int r15) (As := [.int a3, .int r7]) (rest := []) X hS (m_X3_surelyAt hN h13) mv_X3_surelyAt rfl (o_of hN (o := 17) (c := 3) (by decide) rfl) t5_38 ⟨rfl, rfl, Nat.le_of_ble_eq_true rfl, Nat.le_of_ble_eq_true rfl⟩ rfl hl.1 rfl (Nat.le_of_ble_eq_true rfl) ⟨Nat.zero_le _, Nat.zero_le _⟩ dX9_sure_62 (fun H locs hS => ?_)
            refine lv_goto (tgt := 69) hx hb dX9_sure_65 (by decide) ?_
            obtain rfl := some_of hX
            exact x_I (v := r15) X hS dX9_sure_69
        · have hX := if_t c9 hX
          refine lv_aload_n hx hb dX9_sure_36 rfl (lv_at hl 2 rfl) ?_
          refine fg_X9_37 X hS (o_of hN (o := 0) (c := 9) (by decide) rfl) dX9_sure_37 ?_
          refine lv_iload hx hb dX9_sure_40 (lv_at hl 0 rfl) ?_
          obtain ⟨r18, M17, h16, hX⟩ := bp_of hX
          refine r_callV1 (v := .int r18) (As := [.int r7]) (rest := []) X hS (m_X3_bestAsked hN h16) mv_X3_bestAsked rfl (o_of hN (o := 17) (c := 3) (by decide) rfl) t5_34 ⟨rfl, rfl, Nat.le_of_ble_eq_true rfl, Nat.le_of_ble_eq_true rfl⟩ rfl hl.1 rfl (Nat.le_of_ble_eq_true rfl) ⟨Nat.zero_le _, Nat.zero_le _⟩ dX9_sure_42 (fun H locs hS => ?_)
          obtain rfl := some_of hX
          exact x_I (v := r18) X hS dX9_sure_45
      · have hX := if_t c8 hX
        refine lv_iconst (v := (-1)) hx hb dX9_sure_29 (by decide) ?_
        obtain rfl := some_of hX
        exact x_I (v := (-1)) X hS dX9_sure_30
  rw [hH, hlo] at hgoal
  exact hgoal
theorem mv_X9_sure : Mv yX9_sure RX9 cX9_sure 6 ((some .int)) 3 := ⟨t5_33, t5_31, t5_32, t1_1, ⟨by decide, by decide⟩, by decide +kernel⟩
/-! SewnYear.drawn(IIII)I -/
def rm_X9_drawn : Room := { frames := 6, cells := 0, slots := 0, locals := 132 }
def f_X9_drawn (M : Mem) (a1 : Int32) (a2 : Int32) (a3 : Int32) (a4 : Int32) : Option (Int32 × Mem) :=
  bn (f_X9_coatAt M a1) fun r2 => opt r2 (some ((-1000), M)) fun o3 => (if a3 < (nI 0) then (some ((-1000), M)) else (if a3 ≤ (nI 60) then (bn (f_X8_draw M o3 a2 a3) fun M7 => bn (f_X8_tell M7 a4) fun r9 => some (r9, M7)) else (some ((-1000), M))))
set_option maxRecDepth 100000 in
set_option maxHeartbeats 4000000 in
theorem m_X9_drawn {l : Launch} {D : va_G} {cy : Nat → ClassId} {ad : Nat → Nat → Nat} {ns : List (Nat × Nat)} {A : Nat → Prop} {M : Mem} (hN : NsC ns) {a1 : Int32} {a2 : Int32} {a3 : Int32} {a4 : Int32} {r : Int32 × Mem} (hX : f_X9_drawn M a1 a2 a3 a4 = some r) : Ct l yX9_drawn cX9_drawn 6 ((some .int)) rm_X9_drawn D cy ad ns A [.ref (ad 0 0), .int a1, .int a2, .int a3, .int a4] M r.2 (some (.int r.1)) := by
  refine ct_of (lv := [(0, .ref (ad 0 0)), (1, .int a1), (2, .int a2), (3, .int a3), (4, .int a4)]) (by decide) (Nat.le_of_ble_eq_true rfl) rfl ?_
  intro p e s m args below meth c ls X hl hS
  obtain ⟨hx, hb, hml, hown, hts, hK, hr, hlk, hA, hG⟩ := id X
  obtain ⟨H, hH⟩ : ∃ z, z = s.heap := ⟨_, rfl⟩
  obtain ⟨locs, hlo⟩ : ∃ z : List Loc, z = [] := ⟨_, rfl⟩
  have hS : St D cy ad ns A M s.heap H locs := by rw [hH, hlo]; exact hS
  have hgoal : W p l e rm_X9_drawn s m args below meth c H locs 0 0 (MQ below (QC D cy ad ns A r.2 (some (.int r.1))) args s 0 0 A) (F0 m 0 ls []) := by
    unfold f_X9_drawn at hX
    refine lv_aload_n hx hb dX9_drawn_0 rfl (lv_at hl 0 rfl) ?_
    refine lv_iload_n hx hb dX9_drawn_1 rfl (lv_at hl 1 rfl) ?_
    obtain ⟨r2, h1, hX⟩ := bn_of hX
    refine r_callV1 (v := rv ad r2) (As := [.int a1]) (rest := []) X hS (m_X9_coatAt hN h1) mv_X9_coatAt rfl (o_of hN (o := 0) (c := 9) (by decide) rfl) t3_179 ⟨rfl, rfl, Nat.le_of_ble_eq_true rfl, Nat.le_of_ble_eq_true rfl⟩ rfl hl.1 rfl (Nat.le_of_ble_eq_true rfl) ⟨Nat.zero_le _, Nat.zero_le _⟩ dX9_drawn_2 (fun H locs hS => ?_)
    have qr2 : ∀ o, r2 = some o → Ob ns 0 o := fun o e => ob_X9_coatAt hN (by rw [← e]; exact h1)
    refine lv_astoreR (lv' := [(5, rv ad r2), (0, .ref (ad 0 0)), (1, .int a1), (2, .int a2), (3, .int a3), (4, .int a4)]) hx hb dX9_drawn_5 hl (by decide) rfl (fun ls hl => ?_)
    rcases r2 with _ | o3
    · have hX := opt_n hX
      have hl : lv_has ls 6 [(5, .null), (0, .ref (ad 0 0)), (1, .int a1), (2, .int a2), (3, .int a3), (4, .int a4)] := hl
      refine lv_aloadN hx hb dX9_drawn_7 (lv_at hl 0 rfl) ?_
      refine lv_ifnullN (tgt := 22) hx hb dX9_drawn_9 (by decide) ?_
      refine lv_sipush (v := (-1000)) hx hb dX9_drawn_22 (by decide) ?_
      obtain rfl := some_of hX
      exact x_I (v := (-1000)) X hS dX9_drawn_25
    · have hX := opt_s hX
      have hl : lv_has ls 6 [(5, .ref (ad o3 0)), (0, .ref (ad 0 0)), (1, .int a1), (2, .int a2), (3, .int a3), (4, .int a4)] := hl
      refine lv_aload hx hb dX9_drawn_7 (lv_at hl 0 rfl) ?_
      refine lv_ifnull hx hb dX9_drawn_9 ?_
      refine lv_iload_n hx hb dX9_drawn_12 rfl (lv_at hl 4 rfl) ?_
      refine lv_if_lt (tgt := 22) hx hb dX9_drawn_13 (by decide) (fun c4 => ?_) (fun c4 => ?_)
      · have hX := if_t c4 hX
        refine lv_sipush (v := (-1000)) hx hb dX9_drawn_22 (by decide) ?_
        obtain rfl := some_of hX
        exact x_I (v := (-1000)) X hS dX9_drawn_25
      · have hX := if_f c4 hX
        refine lv_iload_n hx hb dX9_drawn_16 rfl (lv_at hl 4 rfl) ?_
        refine lv_bipush (v := nI 60) hx hb dX9_drawn_17 (by decide) ?_
        refine lv_icmp_le (tgt := 26) hx hb dX9_drawn_19 (by decide) (fun c5 => ?_) (fun c5 => ?_)
        · have hX := if_t c5 hX
          refine lv_aload_n hx hb dX9_drawn_26 rfl (lv_at hl 1 rfl) ?_
          refine fg_X9_30 X hS (o_of hN (o := 0) (c := 9) (by decide) rfl) dX9_drawn_27 ?_
          refine lv_aload hx hb dX9_drawn_30 (lv_at hl 0 rfl) ?_
          refine lv_iload_n hx hb dX9_drawn_32 rfl (lv_at hl 3 rfl) ?_
          refine lv_iload_n hx hb dX9_drawn_33 rfl (lv_at hl 4 rfl) ?_
          obtain ⟨M7, h6, hX⟩ := bn_of hX
          refine r_callV0 (As := [.ref (ad o3 0), .int a2, .int a3]) (rest := []) X hS (m_X8_draw hN (qr2 o3 rfl) h6) mv_X8_draw rfl (o_of hN (o := 15) (c := 8) (by decide) rfl) t5_47 ⟨rfl, rfl, Nat.le_of_ble_eq_true rfl, Nat.le_of_ble_eq_true rfl⟩ rfl hl.1 rfl (Nat.le_of_ble_eq_true rfl) ⟨Nat.zero_le _, Nat.zero_le _⟩ dX9_drawn_34 (fun H locs hS => ?_)
          refine lv_aload_n hx hb dX9_drawn_37 rfl (lv_at hl 1 rfl) ?_
          refine fg_X9_30 X hS (o_of hN (o := 0) (c := 9) (by decide) rfl) dX9_drawn_38 ?_
          refine lv_iload hx hb dX9_drawn_41 (lv_at hl 5 rfl) ?_
          obtain ⟨r9, h8, hX⟩ := bn_of hX
          refine r_callV1 (v := .int r9) (As := [.int a4]) (rest := []) X hS (m_X8_tell hN h8) mv_X8_tell rfl (o_of hN (o := 15) (c := 8) (by decide) rfl) t4_22 ⟨rfl, rfl, Nat.le_of_ble_eq_true rfl, Nat.le_of_ble_eq_true rfl⟩ rfl hl.1 rfl (Nat.le_of_ble_eq_true rfl) ⟨Nat.zero_le _, Nat.zero_le _⟩ dX9_drawn_43 (fun H locs hS => ?_)
          obtain rfl := some_of hX
          exact x_I (v := r9) X hS dX9_drawn_46
        · have hX := if_f c5 hX
          refine lv_sipush (v := (-1000)) hx hb dX9_drawn_22 (by decide) ?_
          obtain rfl := some_of hX
          exact x_I (v := (-1000)) X hS dX9_drawn_25
  rw [hH, hlo] at hgoal
  exact hgoal
theorem mv_X9_drawn : Mv yX9_drawn RX9 cX9_drawn 6 ((some .int)) 4 := ⟨t5_46, t5_44, t5_45, t1_1, ⟨by decide, by decide⟩, by decide +kernel⟩
/-! SewnYear.under(III)I -/
def rm_X9_under : Room := { frames := 4, cells := 0, slots := 0, locals := 103 }
def f_X9_under (M : Mem) (a1 : Int32) (a2 : Int32) (a3 : Int32) : Option (Int32 × Mem) :=
  bp (f_X9_orderedAt M a1) fun r3 M2 => opt r3 (some ((-1), M2)) fun o4 => (bn (f_X0_hasSeam M2 o4 a2) fun r6 => if r6 = true then (if a3 = nI 0 then (bn (f_X0_leans M2 o4 a2) fun r10 => some (r10, M2)) else if a3 = nI 1 then (bn (f_X0_needs M2 o4 a2) fun r13 => bn (f_X0_stitchesOf M2 o4 (r13 ||| ((nI 1) <<< (a2 &&& 31)))) fun r15 => bn (f_X9_begun r15 (gI M2 o4 1)) fun r17 => some ((r17 - (nI 1)), M2)) else (some ((-1), M2))) else (some ((-1), M2)))
set_option maxRecDepth 100000 in
set_option maxHeartbeats 4000000 in
theorem m_X9_under {l : Launch} {D : va_G} {cy : Nat → ClassId} {ad : Nat → Nat → Nat} {ns : List (Nat × Nat)} {A : Nat → Prop} {M : Mem} (hN : NsC ns) {a1 : Int32} {a2 : Int32} {a3 : Int32} {r : Int32 × Mem} (hX : f_X9_under M a1 a2 a3 = some r) : Ct l yX9_under cX9_under 5 ((some .int)) rm_X9_under D cy ad ns A [.ref (ad 0 0), .int a1, .int a2, .int a3] M r.2 (some (.int r.1)) := by
  refine ct_of (lv := [(0, .ref (ad 0 0)), (1, .int a1), (2, .int a2), (3, .int a3)]) (by decide) (Nat.le_of_ble_eq_true rfl) rfl ?_
  intro p e s m args below meth c ls X hl hS
  obtain ⟨hx, hb, hml, hown, hts, hK, hr, hlk, hA, hG⟩ := id X
  obtain ⟨H, hH⟩ : ∃ z, z = s.heap := ⟨_, rfl⟩
  obtain ⟨locs, hlo⟩ : ∃ z : List Loc, z = [] := ⟨_, rfl⟩
  have hS : St D cy ad ns A M s.heap H locs := by rw [hH, hlo]; exact hS
  have hgoal : W p l e rm_X9_under s m args below meth c H locs 0 0 (MQ below (QC D cy ad ns A r.2 (some (.int r.1))) args s 0 0 A) (F0 m 0 ls []) := by
    unfold f_X9_under at hX
    refine lv_aload_n hx hb dX9_under_0 rfl (lv_at hl 0 rfl) ?_
    refine lv_iload_n hx hb dX9_under_1 rfl (lv_at hl 1 rfl) ?_
    obtain ⟨r3, M2, h1, hX⟩ := bp_of hX
    refine r_callV1 (v := rv ad r3) (As := [.int a1]) (rest := []) X hS (m_X9_orderedAt hN h1) mv_X9_orderedAt rfl (o_of hN (o := 0) (c := 9) (by decide) rfl) t4_55 ⟨rfl, rfl, Nat.le_of_ble_eq_true rfl, Nat.le_of_ble_eq_true rfl⟩ rfl hl.1 rfl (Nat.le_of_ble_eq_true rfl) ⟨Nat.zero_le _, Nat.zero_le _⟩ dX9_under_2 (fun H locs hS => ?_)
    have qr3 : ∀ o, r3 = some o → Ob ns 0 o := fun o e => ob_X9_orderedAt hN (by rw [← e]; exact h1)
    refine lv_astoreR (lv' := [(4, rv ad r3), (0, .ref (ad 0 0)), (1, .int a1), (2, .int a2), (3, .int a3)]) hx hb dX9_under_5 hl (by decide) rfl (fun ls hl => ?_)
    rcases r3 with _ | o4
    · have hX := opt_n hX
      have hl : lv_has ls 5 [(4, .null), (0, .ref (ad 0 0)), (1, .int a1), (2, .int a2), (3, .int a3)] := hl
      refine lv_aloadN hx hb dX9_under_7 (lv_at hl 0 rfl) ?_
      refine lv_ifnullN (tgt := 21) hx hb dX9_under_9 (by decide) ?_
      refine lv_iconst (v := (-1)) hx hb dX9_under_21 (by decide) ?_
      obtain rfl := some_of hX
      exact x_I (v := (-1)) X hS dX9_under_22
    · have hX := opt_s hX
      have hl : lv_has ls 5 [(4, .ref (ad o4 0)), (0, .ref (ad 0 0)), (1, .int a1), (2, .int a2), (3, .int a3)] := hl
      refine lv_aload hx hb dX9_under_7 (lv_at hl 0 rfl) ?_
      refine lv_ifnull hx hb dX9_under_9 ?_
      refine lv_aload hx hb dX9_under_12 (lv_at hl 0 rfl) ?_
      refine lv_iload_n hx hb dX9_under_14 rfl (lv_at hl 3 rfl) ?_
      obtain ⟨r6, h5, hX⟩ := bn_of hX
      refine r_callV1 (v := .int (b2i r6)) (As := [.int a2]) (rest := []) X hS (m_X0_hasSeam hN (qr3 o4 rfl) h5) mv_X0_hasSeam rfl (qr3 o4 rfl) t4_119 ⟨rfl, rfl, Nat.le_of_ble_eq_true rfl, Nat.le_of_ble_eq_true rfl⟩ rfl hl.1 rfl (Nat.le_of_ble_eq_true rfl) ⟨Nat.zero_le _, Nat.zero_le _⟩ dX9_under_15 (fun H locs hS => ?_)
      refine lv_if_ne (tgt := 23) hx hb dX9_under_18 (by decide) (fun c7 => ?_) (fun c7 => ?_)
      · have hX := if_bt c7 hX
        refine lv_iload_n hx hb dX9_under_23 rfl (lv_at hl 4 rfl) ?_
        by_cases c8 : a3 = nI 0
        · have hX := if_t c8 hX
          refine lv_lookup (off := 28) (tgt := 52) hx hb dX9_under_24 (by decide) (by rw [c8]; rfl) (by decide) ?_
          refine lv_aload hx hb dX9_under_52 (lv_at hl 0 rfl) ?_
          refine lv_iload_n hx hb dX9_under_54 rfl (lv_at hl 3 rfl) ?_
          obtain ⟨r10, h9, hX⟩ := bn_of hX
          refine r_callV1 (v := .int r10) (As := [.int a2]) (rest := []) X hS (m_X0_leans hN (qr3 o4 rfl) h9) mv_X0_leans rfl (qr3 o4 rfl) t4_68 ⟨rfl, rfl, Nat.le_of_ble_eq_true rfl, Nat.le_of_ble_eq_true rfl⟩ rfl hl.1 rfl (Nat.le_of_ble_eq_true rfl) ⟨Nat.zero_le _, Nat.zero_le _⟩ dX9_under_55 (fun H locs hS => ?_)
          obtain rfl := some_of hX
          exact x_I (v := r10) X hS dX9_under_58
        have hX := if_f c8 hX
        by_cases c11 : a3 = nI 1
        · have hX := if_t c11 hX
          refine lv_lookup (off := 35) (tgt := 59) hx hb dX9_under_24 (by decide) (by rw [c11]; rfl) (by decide) ?_
          refine lv_aload hx hb dX9_under_59 (lv_at hl 0 rfl) ?_
          refine lv_aload hx hb dX9_under_61 (lv_at hl 0 rfl) ?_
          refine lv_iload_n hx hb dX9_under_63 rfl (lv_at hl 3 rfl) ?_
          obtain ⟨r13, h12, hX⟩ := bn_of hX
          refine r_callV1 (v := .int r13) (As := [.int a2]) (rest := [.ref (ad o4 0)]) X hS (m_X0_needs hN (qr3 o4 rfl) h12) mv_X0_needs rfl (qr3 o4 rfl) t4_63 ⟨rfl, rfl, Nat.le_of_ble_eq_true rfl, Nat.le_of_ble_eq_true rfl⟩ rfl hl.1 rfl (Nat.le_of_ble_eq_true rfl) ⟨Nat.zero_le _, Nat.zero_le _⟩ dX9_under_64 (fun H locs hS => ?_)
          refine lv_iconst (v := nI 1) hx hb dX9_under_67 (by decide) ?_
          refine lv_iload_n hx hb dX9_under_68 rfl (lv_at hl 3 rfl) ?_
          refine lv_ishl hx hb dX9_under_69 ?_
          refine lv_ior hx hb dX9_under_70 ?_
          obtain ⟨r15, h14, hX⟩ := bn_of hX
          refine r_callV1 (v := .int r15) (As := [.int (r13 ||| ((nI 1) <<< (a2 &&& 31)))]) (rest := []) X hS (m_X0_stitchesOf hN (qr3 o4 rfl) h14) mv_X0_stitchesOf rfl (qr3 o4 rfl) t5_60 ⟨rfl, rfl, Nat.le_of_ble_eq_true rfl, Nat.le_of_ble_eq_true rfl⟩ rfl hl.1 rfl (Nat.le_of_ble_eq_true rfl) ⟨Nat.zero_le _, Nat.zero_le _⟩ dX9_under_71 (fun H locs hS => ?_)
          refine lv_aload hx hb dX9_under_74 (lv_at hl 0 rfl) ?_
          refine fg_X9_150 X hS (qr3 o4 rfl) dX9_under_76 ?_
          obtain ⟨r17, h16, hX⟩ := bn_of hX
          refine r_callS1 (v := .int r17) (As := [.int r15, .int (gI M2 o4 1)]) (rest := []) X hS (m_X9_begun (M := M2) hN h16) ms_X9_begun t5_61 ⟨rfl, rfl, Nat.le_of_ble_eq_true rfl, Nat.le_of_ble_eq_true rfl⟩ rfl hl.1 rfl (Nat.le_of_ble_eq_true rfl) ⟨Nat.zero_le _, Nat.zero_le _⟩ dX9_under_79 (fun H locs hS => ?_)
          refine lv_iconst (v := nI 1) hx hb dX9_under_82 (by decide) ?_
          refine lv_isub hx hb dX9_under_83 ?_
          obtain rfl := some_of hX
          exact x_I (v := (r17 - (nI 1))) X hS dX9_under_84
        have hX := if_f c11 hX
        refine lv_lookup (off := 61) (tgt := 85) hx hb dX9_under_24 (by decide) (by show Op.lookupswitch.offset (_ :: _) _ _ = _; rw [lv_osw (a := 0) c8 (by decide), lv_osw (a := 1) c11 (by decide)]; rfl) (by decide) ?_
        refine lv_iconst (v := (-1)) hx hb dX9_under_85 (by decide) ?_
        obtain rfl := some_of hX
        exact x_I (v := (-1)) X hS dX9_under_86
      · have hX := if_bf c7 hX
        refine lv_iconst (v := (-1)) hx hb dX9_under_21 (by decide) ?_
        obtain rfl := some_of hX
        exact x_I (v := (-1)) X hS dX9_under_22
  rw [hH, hlo] at hgoal
  exact hgoal
theorem mv_X9_under : Mv yX9_under RX9 cX9_under 5 ((some .int)) 3 := ⟨t5_59, t5_57, t5_58, t1_1, ⟨by decide, by decide⟩, by decide +kernel⟩
/-! SewnYear.hands(II)I -/
def rm_X9_hands : Room := { frames := 4, cells := 0, slots := 0, locals := 103 }
def f_X9_hands (M : Mem) (a1 : Int32) (a2 : Int32) : Option (Int32 × Mem) :=
  bp (f_X9_orderedAt M a1) fun r3 M2 => opt r3 (some ((-1), M2)) fun o4 => (if a2 < (nI 1) then (some ((-1), M2)) else (if a2 ≤ (nI 4) then (bp (f_X3_daysOfTailors M2 a2) fun r9 M8 => some (r9, M8)) else (some ((-1), M2))))
set_option maxRecDepth 100000 in
set_option maxHeartbeats 4000000 in
theorem m_X9_hands {l : Launch} {D : va_G} {cy : Nat → ClassId} {ad : Nat → Nat → Nat} {ns : List (Nat × Nat)} {A : Nat → Prop} {M : Mem} (hN : NsC ns) {a1 : Int32} {a2 : Int32} {r : Int32 × Mem} (hX : f_X9_hands M a1 a2 = some r) : Ct l yX9_hands cX9_hands 4 ((some .int)) rm_X9_hands D cy ad ns A [.ref (ad 0 0), .int a1, .int a2] M r.2 (some (.int r.1)) := by
  refine ct_of (lv := [(0, .ref (ad 0 0)), (1, .int a1), (2, .int a2)]) (by decide) (Nat.le_of_ble_eq_true rfl) rfl ?_
  intro p e s m args below meth c ls X hl hS
  obtain ⟨hx, hb, hml, hown, hts, hK, hr, hlk, hA, hG⟩ := id X
  obtain ⟨H, hH⟩ : ∃ z, z = s.heap := ⟨_, rfl⟩
  obtain ⟨locs, hlo⟩ : ∃ z : List Loc, z = [] := ⟨_, rfl⟩
  have hS : St D cy ad ns A M s.heap H locs := by rw [hH, hlo]; exact hS
  have hgoal : W p l e rm_X9_hands s m args below meth c H locs 0 0 (MQ below (QC D cy ad ns A r.2 (some (.int r.1))) args s 0 0 A) (F0 m 0 ls []) := by
    unfold f_X9_hands at hX
    refine lv_aload_n hx hb dX9_hands_0 rfl (lv_at hl 0 rfl) ?_
    refine lv_iload_n hx hb dX9_hands_1 rfl (lv_at hl 1 rfl) ?_
    obtain ⟨r3, M2, h1, hX⟩ := bp_of hX
    refine r_callV1 (v := rv ad r3) (As := [.int a1]) (rest := []) X hS (m_X9_orderedAt hN h1) mv_X9_orderedAt rfl (o_of hN (o := 0) (c := 9) (by decide) rfl) t4_55 ⟨rfl, rfl, Nat.le_of_ble_eq_true rfl, Nat.le_of_ble_eq_true rfl⟩ rfl hl.1 rfl (Nat.le_of_ble_eq_true rfl) ⟨Nat.zero_le _, Nat.zero_le _⟩ dX9_hands_2 (fun H locs hS => ?_)
    have qr3 : ∀ o, r3 = some o → Ob ns 0 o := fun o e => ob_X9_orderedAt hN (by rw [← e]; exact h1)
    refine lv_astore_nR (lv' := [(3, rv ad r3), (0, .ref (ad 0 0)), (1, .int a1), (2, .int a2)]) hx hb dX9_hands_5 rfl hl (by decide) rfl (fun ls hl => ?_)
    rcases r3 with _ | o4
    · have hX := opt_n hX
      have hl : lv_has ls 4 [(3, .null), (0, .ref (ad 0 0)), (1, .int a1), (2, .int a2)] := hl
      refine lv_aload_nN hx hb dX9_hands_6 rfl (lv_at hl 0 rfl) ?_
      refine lv_ifnullN (tgt := 20) hx hb dX9_hands_7 (by decide) ?_
      refine lv_iconst (v := (-1)) hx hb dX9_hands_20 (by decide) ?_
      refine lv_goto (tgt := 32) hx hb dX9_hands_21 (by decide) ?_
      obtain rfl := some_of hX
      exact x_I (v := (-1)) X hS dX9_hands_32
    · have hX := opt_s hX
      have hl : lv_has ls 4 [(3, .ref (ad o4 0)), (0, .ref (ad 0 0)), (1, .int a1), (2, .int a2)] := hl
      refine lv_aload_n hx hb dX9_hands_6 rfl (lv_at hl 0 rfl) ?_
      refine lv_ifnull hx hb dX9_hands_7 ?_
      refine lv_iload_n hx hb dX9_hands_10 rfl (lv_at hl 3 rfl) ?_
      refine lv_iconst (v := nI 1) hx hb dX9_hands_11 (by decide) ?_
      refine lv_icmp_lt (tgt := 20) hx hb dX9_hands_12 (by decide) (fun c5 => ?_) (fun c5 => ?_)
      · have hX := if_t c5 hX
        refine lv_iconst (v := (-1)) hx hb dX9_hands_20 (by decide) ?_
        refine lv_goto (tgt := 32) hx hb dX9_hands_21 (by decide) ?_
        obtain rfl := some_of hX
        exact x_I (v := (-1)) X hS dX9_hands_32
      · have hX := if_f c5 hX
        refine lv_iload_n hx hb dX9_hands_15 rfl (lv_at hl 3 rfl) ?_
        refine lv_iconst (v := nI 4) hx hb dX9_hands_16 (by decide) ?_
        refine lv_icmp_le (tgt := 24) hx hb dX9_hands_17 (by decide) (fun c6 => ?_) (fun c6 => ?_)
        · have hX := if_t c6 hX
          refine lv_aload_n hx hb dX9_hands_24 rfl (lv_at hl 1 rfl) ?_
          refine fg_X9_37 X hS (o_of hN (o := 0) (c := 9) (by decide) rfl) dX9_hands_25 ?_
          refine lv_iload_n hx hb dX9_hands_28 rfl (lv_at hl 3 rfl) ?_
          obtain ⟨r9, M8, h7, hX⟩ := bp_of hX
          refine r_callV1 (v := .int r9) (As := [.int a2]) (rest := []) X hS (m_X3_daysOfTailors hN h7) mv_X3_daysOfTailors rfl (o_of hN (o := 17) (c := 3) (by decide) rfl) t5_66 ⟨rfl, rfl, Nat.le_of_ble_eq_true rfl, Nat.le_of_ble_eq_true rfl⟩ rfl hl.1 rfl (Nat.le_of_ble_eq_true rfl) ⟨Nat.zero_le _, Nat.zero_le _⟩ dX9_hands_29 (fun H locs hS => ?_)
          obtain rfl := some_of hX
          exact x_I (v := r9) X hS dX9_hands_32
        · have hX := if_f c6 hX
          refine lv_iconst (v := (-1)) hx hb dX9_hands_20 (by decide) ?_
          refine lv_goto (tgt := 32) hx hb dX9_hands_21 (by decide) ?_
          obtain rfl := some_of hX
          exact x_I (v := (-1)) X hS dX9_hands_32
  rw [hH, hlo] at hgoal
  exact hgoal
theorem mv_X9_hands : Mv yX9_hands RX9 cX9_hands 4 ((some .int)) 2 := ⟨t5_65, t5_63, t5_64, t1_1, ⟨by decide, by decide⟩, by decide +kernel⟩
/-! SewnYear.spools(II)I -/
def rm_X9_spools : Room := { frames := 2, cells := 0, slots := 0, locals := 81 }
def b_X9_spools_45 (a1 : Int32) (a2 : Int32) (v_3 : Nat) (rc : Int32 → Int32 → Mem → Option (Int32 × Mem)) (v_4 : Int32) (v_5 : Int32) (M : Mem) : Option (Int32 × Mem) :=
  if (nI 4) ≤ v_5 then (some (v_4, M)) else (bn (f_X0_seamsOf M v_3 v_5) fun r3 => bp (f_X3_fewestSpools M r3 a2) fun r6 M5 => nm (v_4 + r6) fun v7 => nm (v_5 + nI 1) fun v8 => rc v7 v8 M5)
def f_X9_spools_45 (a1 : Int32) (a2 : Int32) (v_3 : Nat) : Nat → (Int32 × Int32 × Mem) → Option (Int32 × Mem) := lp (fun rc q => b_X9_spools_45 a1 a2 v_3 (fun x0 x1 x2 => rc (x0, x1, x2)) q.1 q.2.1 q.2.2)
def f_X9_spools (M : Mem) (a1 : Int32) (a2 : Int32) : Option (Int32 × Mem) :=
  bn (f_X9_coatAt M a1) fun r10 => opt r10 (some ((-1), M)) fun o11 => (if a2 < (nI 1) then (some ((-1), M)) else (if (nI 60) < a2 then (some ((-1), M)) else (bn (f_X0_longestSeam M o11) fun r15 => if r15 ≤ a2 then (bn (f_X3_take M o11) fun M18 => f_X9_spools_45 a1 a2 o11 FU ((nI 0), (nI 0), M18)) else (some ((-1), M)))))
set_option maxRecDepth 100000 in
set_option maxHeartbeats 4000000 in
theorem n_X9_spools_45 {a1 : Int32} {a2 : Int32} (X : Cx p s m args meth c D cy ad A RX9 cX9_spools 6 ((some .int))) (hN : NsC ns) {v_3 : Nat} : ∀ (n : Nat) (v_4 : Int32) (v_5 : Int32) (M : Mem) (r : Int32 × Mem), f_X9_spools_45 a1 a2 v_3 n (v_4, v_5, M) = some r → Ob ns 0 v_3 → ∀ (ls : Array Slot) (H : Heap) (locs : List Loc), lv_has ls 6 [(0, .ref (ad 0 0)), (2, .int a2), (3, .ref (ad v_3 0)), (4, .int v_4), (5, .int v_5)] → St D cy ad ns A M s.heap H locs → W p l e rm_X9_spools s m args below meth c H locs 0 0 (MQ below (QC D cy ad ns A r.2 (some (.int r.1))) args s 0 0 A) (F0 m 45 ls []) := by
  obtain ⟨hx, hb, hml, hown, hts, hK, hr, hlk, hA, hG⟩ := id X
  intro n
  induction n with
  | zero => intro v_4 v_5 M r hX; cases (show (none : Option (Int32 × Mem)) = some r from hX)
  | succ n ih =>
    intro v_4 v_5 M r hX hv_3 ls H locs hl hS
    have hX : b_X9_spools_45 a1 a2 v_3 (fun x0 x1 x2 => f_X9_spools_45 a1 a2 v_3 n (x0, x1, x2)) v_4 v_5 M = some r := hX
    unfold b_X9_spools_45 at hX
    refine lv_iload hx hb dX9_spools_45 (lv_at hl 4 rfl) ?_
    refine lv_iconst (v := nI 4) hx hb dX9_spools_47 (by decide) ?_
    refine lv_icmp_ge (tgt := 76) hx hb dX9_spools_48 (by decide) (fun c1 => ?_) (fun c1 => ?_)
    · have hX := if_t c1 hX
      refine lv_iload hx hb dX9_spools_76 (lv_at hl 3 rfl) ?_
      obtain rfl := some_of hX
      exact x_I (v := v_4) X hS dX9_spools_78
    · have hX := if_f c1 hX
      refine lv_iload hx hb dX9_spools_51 (lv_at hl 3 rfl) ?_
      refine lv_aload_n hx hb dX9_spools_53 rfl (lv_at hl 0 rfl) ?_
      refine fg_X9_37 X hS (o_of hN (o := 0) (c := 9) (by decide) rfl) dX9_spools_54 ?_
      refine lv_aload_n hx hb dX9_spools_57 rfl (lv_at hl 2 rfl) ?_
      refine lv_iload hx hb dX9_spools_58 (lv_at hl 4 rfl) ?_
      obtain ⟨r3, h2, hX⟩ := bn_of hX
      refine r_callV1 (v := .int r3) (As := [.int v_5]) (rest := [.ref (ad 17 0), .int v_4]) X hS (m_X0_seamsOf hN hv_3 h2) mv_X0_seamsOf rfl hv_3 t5_83 ⟨rfl, rfl, Nat.le_of_ble_eq_true rfl, Nat.le_of_ble_eq_true rfl⟩ rfl hl.1 rfl (Nat.le_of_ble_eq_true rfl) ⟨Nat.zero_le _, Nat.zero_le _⟩ dX9_spools_60 (fun H locs hS => ?_)
      refine lv_iload_n hx hb dX9_spools_63 rfl (lv_at hl 1 rfl) ?_
      obtain ⟨r6, M5, h4, hX⟩ := bp_of hX
      refine r_callV1 (v := .int r6) (As := [.int r3, .int a2]) (rest := [.int v_4]) X hS (m_X3_fewestSpools hN h4) mv_X3_fewestSpools rfl (o_of hN (o := 17) (c := 3) (by decide) rfl) t5_87 ⟨rfl, rfl, Nat.le_of_ble_eq_true rfl, Nat.le_of_ble_eq_true rfl⟩ rfl hl.1 rfl (Nat.le_of_ble_eq_true rfl) ⟨Nat.zero_le _, Nat.zero_le _⟩ dX9_spools_64 (fun H locs hS => ?_)
      refine lv_iadd hx hb dX9_spools_67 ?_
      refine lv_topi (fun v7 ev7 => ?_)
      have hX := nm_of ev7 hX
      refine lv_istore (lv' := [(4, .int v7), (0, .ref (ad 0 0)), (2, .int a2), (3, .ref (ad v_3 0)), (5, .int v_5)]) hx hb dX9_spools_68 hl (by decide) rfl (fun ls hl => ?_)
      obtain ⟨v8, ev8⟩ : ∃ y : Int32, y = (v_5 + nI 1) := ⟨_, rfl⟩
      have hX := nm_of ev8 hX
      refine lv_iinc (v := v8) (lv' := [(5, .int v8), (4, .int v7), (0, .ref (ad 0 0)), (2, .int a2), (3, .ref (ad v_3 0))]) hx hb dX9_spools_70 hl (k := 4) rfl (by rw [ev8]; rfl) (by decide) rfl (fun ls hl => ?_)
      refine lv_goto (tgt := 45) hx hb dX9_spools_73 (by decide) ?_
      exact ih _ _ _ _ hX hv_3 _ _ _ (lv_sub hl [2, 3, 4, 1, 0] rfl) hS
set_option maxRecDepth 100000 in
set_option maxHeartbeats 4000000 in
theorem m_X9_spools {l : Launch} {D : va_G} {cy : Nat → ClassId} {ad : Nat → Nat → Nat} {ns : List (Nat × Nat)} {A : Nat → Prop} {M : Mem} (hN : NsC ns) {a1 : Int32} {a2 : Int32} {r : Int32 × Mem} (hX : f_X9_spools M a1 a2 = some r) : Ct l yX9_spools cX9_spools 6 ((some .int)) rm_X9_spools D cy ad ns A [.ref (ad 0 0), .int a1, .int a2] M r.2 (some (.int r.1)) := by
  refine ct_of (lv := [(0, .ref (ad 0 0)), (1, .int a1), (2, .int a2)]) (by decide) (Nat.le_of_ble_eq_true rfl) rfl ?_
  intro p e s m args below meth c ls X hl hS
  obtain ⟨hx, hb, hml, hown, hts, hK, hr, hlk, hA, hG⟩ := id X
  obtain ⟨H, hH⟩ : ∃ z, z = s.heap := ⟨_, rfl⟩
  obtain ⟨locs, hlo⟩ : ∃ z : List Loc, z = [] := ⟨_, rfl⟩
  have hS : St D cy ad ns A M s.heap H locs := by rw [hH, hlo]; exact hS
  have hgoal : W p l e rm_X9_spools s m args below meth c H locs 0 0 (MQ below (QC D cy ad ns A r.2 (some (.int r.1))) args s 0 0 A) (F0 m 0 ls []) := by
    unfold f_X9_spools at hX
    refine lv_aload_n hx hb dX9_spools_0 rfl (lv_at hl 0 rfl) ?_
    refine lv_iload_n hx hb dX9_spools_1 rfl (lv_at hl 1 rfl) ?_
    obtain ⟨r10, h9, hX⟩ := bn_of hX
    refine r_callV1 (v := rv ad r10) (As := [.int a1]) (rest := []) X hS (m_X9_coatAt hN h9) mv_X9_coatAt rfl (o_of hN (o := 0) (c := 9) (by decide) rfl) t3_179 ⟨rfl, rfl, Nat.le_of_ble_eq_true rfl, Nat.le_of_ble_eq_true rfl⟩ rfl hl.1 rfl (Nat.le_of_ble_eq_true rfl) ⟨Nat.zero_le _, Nat.zero_le _⟩ dX9_spools_2 (fun H locs hS => ?_)
    have qr10 : ∀ o, r10 = some o → Ob ns 0 o := fun o e => ob_X9_coatAt hN (by rw [← e]; exact h9)
    refine lv_astore_nR (lv' := [(3, rv ad r10), (0, .ref (ad 0 0)), (1, .int a1), (2, .int a2)]) hx hb dX9_spools_5 rfl hl (by decide) rfl (fun ls hl => ?_)
    rcases r10 with _ | o11
    · have hX := opt_n hX
      have hl : lv_has ls 6 [(3, .null), (0, .ref (ad 0 0)), (1, .int a1), (2, .int a2)] := hl
      refine lv_aload_nN hx hb dX9_spools_6 rfl (lv_at hl 0 rfl) ?_
      refine lv_ifnullN (tgt := 29) hx hb dX9_spools_7 (by decide) ?_
      refine lv_iconst (v := (-1)) hx hb dX9_spools_29 (by decide) ?_
      obtain rfl := some_of hX
      exact x_I (v := (-1)) X hS dX9_spools_30
    · have hX := opt_s hX
      have hl : lv_has ls 6 [(3, .ref (ad o11 0)), (0, .ref (ad 0 0)), (1, .int a1), (2, .int a2)] := hl
      refine lv_aload_n hx hb dX9_spools_6 rfl (lv_at hl 0 rfl) ?_
      refine lv_ifnull hx hb dX9_spools_7 ?_
      refine lv_iload_n hx hb dX9_spools_10 rfl (lv_at hl 3 rfl) ?_
      refine lv_iconst (v := nI 1) hx hb dX9_spools_11 (by decide) ?_
      refine lv_icmp_lt (tgt := 29) hx hb dX9_spools_12 (by decide) (fun c12 => ?_) (fun c12 => ?_)
      · have hX := if_t c12 hX
        refine lv_iconst (v := (-1)) hx hb dX9_spools_29 (by decide) ?_
        obtain rfl := some_of hX
        exact x_I (v := (-1)) X hS dX9_spools_30
      · have hX := if_f c12 hX
        refine lv_iload_n hx hb dX9_spools_15 rfl (lv_at hl 3 rfl) ?_
        refine lv_bipush (v := nI 60) hx hb dX9_spools_16 (by decide) ?_
        refine lv_icmp_gt (tgt := 29) hx hb dX9_spools_18 (by decide) (fun c13 => ?_) (fun c13 => ?_)
        · have hX := if_t c13 hX
          refine lv_iconst (v := (-1)) hx hb dX9_spools_29 (by decide) ?_
          obtain rfl := some_of hX
          exact x_I (v := (-1)) X hS dX9_spools_30
        · have hX := if_f c13 hX
          refine lv_aload_n hx hb dX9_spools_21 rfl (lv_at hl 0 rfl) ?_
          obtain ⟨r15, h14, hX⟩ := bn_of hX
          refine r_callV1 (v := .int r15) (As := []) (rest := []) X hS (m_X0_longestSeam hN (qr10 o11 rfl) h14) mv_X0_longestSeam rfl (qr10 o11 rfl) t5_78 ⟨rfl, rfl, Nat.le_of_ble_eq_true rfl, Nat.le_of_ble_eq_true rfl⟩ rfl hl.1 rfl (Nat.le_of_ble_eq_true rfl) ⟨Nat.zero_le _, Nat.zero_le _⟩ dX9_spools_22 (fun H locs hS => ?_)
          refine lv_iload_n hx hb dX9_spools_25 rfl (lv_at hl 3 rfl) ?_
          refine lv_icmp_le (tgt := 31) hx hb dX9_spools_26 (by decide) (fun c16 => ?_) (fun c16 => ?_)
          · have hX := if_t c16 hX
            refine lv_aload_n hx hb dX9_spools_31 rfl (lv_at hl 1 rfl) ?_
            refine fg_X9_37 X hS (o_of hN (o := 0) (c := 9) (by decide) rfl) dX9_spools_32 ?_
            refine lv_aload_n hx hb dX9_spools_35 rfl (lv_at hl 0 rfl) ?_
            obtain ⟨M18, h17, hX⟩ := bn_of hX
            refine r_callV0 (As := [.ref (ad o11 0)]) (rest := []) X hS (m_X3_take hN (qr10 o11 rfl) h17) mv_X3_take rfl (o_of hN (o := 17) (c := 3) (by decide) rfl) t4_31 ⟨rfl, rfl, Nat.le_of_ble_eq_true rfl, Nat.le_of_ble_eq_true rfl⟩ rfl hl.1 rfl (Nat.le_of_ble_eq_true rfl) ⟨Nat.zero_le _, Nat.zero_le _⟩ dX9_spools_36 (fun H locs hS => ?_)
            refine lv_iconst (v := nI 0) hx hb dX9_spools_39 (by decide) ?_
            refine lv_istore (lv' := [(4, .int (nI 0)), (3, .ref (ad o11 0)), (0, .ref (ad 0 0)), (1, .int a1), (2, .int a2)]) hx hb dX9_spools_40 hl (by decide) rfl (fun ls hl => ?_)
            refine lv_iconst (v := nI 0) hx hb dX9_spools_42 (by decide) ?_
            refine lv_istore (lv' := [(5, .int (nI 0)), (4, .int (nI 0)), (3, .ref (ad o11 0)), (0, .ref (ad 0 0)), (1, .int a1), (2, .int a2)]) hx hb dX9_spools_43 hl (by decide) rfl (fun ls hl => ?_)
            exact n_X9_spools_45 X hN _ _ _ _ _ hX (qr10 o11 rfl) _ _ _ (lv_sub hl [3, 5, 2, 1, 0] rfl) hS
          · have hX := if_f c16 hX
            refine lv_iconst (v := (-1)) hx hb dX9_spools_29 (by decide) ?_
            obtain rfl := some_of hX
            exact x_I (v := (-1)) X hS dX9_spools_30
  rw [hH, hlo] at hgoal
  exact hgoal
theorem mv_X9_spools : Mv yX9_spools RX9 cX9_spools 6 ((some .int)) 2 := ⟨t5_77, t5_75, t5_76, t1_1, ⟨by decide, by decide⟩, by decide +kernel⟩
/-! SewnYear.grown(II)I -/
def rm_X9_grown : Room := { frames := 2, cells := 0, slots := 0, locals := 43 }
def b_X9_grown_18 (M : Mem) (a1 : Int32) (a2 : Int32) (v_3 : Nat) (rc : Int32 → Int32 → Option (Int32)) (v_4 : Int32) (v_5 : Int32) : Option (Int32) :=
  if (nI 100) ≤ v_5 then (some (-1)) else (gin v_5 100 <| nm (v_4 + (gA M v_3 6 (ix v_5))) fun v3 => if v3 < a2 then (nm (v_5 + nI 1) fun v5 => rc v3 v5) else (some v_5))
def f_X9_grown_18 (M : Mem) (a1 : Int32) (a2 : Int32) (v_3 : Nat) : Nat → (Int32 × Int32) → Option (Int32) := lp (fun rc q => b_X9_grown_18 M a1 a2 v_3 (fun x0 x1 => rc (x0, x1)) q.1 q.2)
def f_X9_grown (M : Mem) (a1 : Int32) (a2 : Int32) : Option (Int32) :=
  bn (f_X9_coatAt M a1) fun r7 => opt r7 (some (-1)) fun o8 => (f_X9_grown_18 M a1 a2 o8 FU ((nI 0), (nI 0)))
set_option maxRecDepth 100000 in
set_option maxHeartbeats 4000000 in
theorem n_X9_grown_18 {a1 : Int32} {a2 : Int32} (X : Cx p s m args meth c D cy ad A RX9 cX9_grown 6 ((some .int))) (hN : NsC ns) {M : Mem} {v_3 : Nat} : ∀ (n : Nat) (v_4 : Int32) (v_5 : Int32) (r : Int32), f_X9_grown_18 M a1 a2 v_3 n (v_4, v_5) = some r → Ob ns 0 v_3 → ∀ (ls : Array Slot) (H : Heap) (locs : List Loc), lv_has ls 6 [(2, .int a2), (3, .ref (ad v_3 0)), (4, .int v_4), (5, .int v_5)] → St D cy ad ns A M s.heap H locs → W p l e rm_X9_grown s m args below meth c H locs 0 0 (MQ below (QC D cy ad ns A M (some (.int r))) args s 0 0 A) (F0 m 18 ls []) := by
  obtain ⟨hx, hb, hml, hown, hts, hK, hr, hlk, hA, hG⟩ := id X
  intro n
  induction n with
  | zero => intro v_4 v_5 r hX; cases (show (none : Option (Int32)) = some r from hX)
  | succ n ih =>
    intro v_4 v_5 r hX hv_3 ls H locs hl hS
    have hX : b_X9_grown_18 M a1 a2 v_3 (fun x0 x1 => f_X9_grown_18 M a1 a2 v_3 n (x0, x1)) v_4 v_5 = some r := hX
    unfold b_X9_grown_18 at hX
    refine lv_iload hx hb dX9_grown_18 (lv_at hl 3 rfl) ?_
    refine lv_bipush (v := nI 100) hx hb dX9_grown_20 (by decide) ?_
    refine lv_icmp_ge (tgt := 52) hx hb dX9_grown_22 (by decide) (fun c1 => ?_) (fun c1 => ?_)
    · have hX := if_t c1 hX
      refine lv_iconst (v := (-1)) hx hb dX9_grown_52 (by decide) ?_
      obtain rfl := some_of hX
      exact x_I (v := (-1)) X hS dX9_grown_53
    · have hX := if_f c1 hX
      refine lv_iload hx hb dX9_grown_25 (lv_at hl 2 rfl) ?_
      refine lv_aload_n hx hb dX9_grown_27 rfl (lv_at hl 1 rfl) ?_
      refine fg_X9_265 X hS hv_3 dX9_grown_28 ?_
      refine lv_iload hx hb dX9_grown_31 (lv_at hl 3 rfl) ?_
      obtain ⟨g2, hX⟩ := gin_of hX
      refine r_iald (ci := 0) (o := v_3) (k := 6) (n := 100) X hS hv_3 rfl rfl g2 dX9_grown_33 ?_
      refine lv_iadd hx hb dX9_grown_34 ?_
      refine lv_topi (fun v3 ev3 => ?_)
      have hX := nm_of ev3 hX
      refine lv_istore (lv' := [(4, .int v3), (2, .int a2), (3, .ref (ad v_3 0)), (5, .int v_5)]) hx hb dX9_grown_35 hl (by decide) rfl (fun ls hl => ?_)
      refine lv_iload hx hb dX9_grown_37 (lv_at hl 0 rfl) ?_
      refine lv_iload_n hx hb dX9_grown_39 rfl (lv_at hl 1 rfl) ?_
      refine lv_icmp_lt (tgt := 46) hx hb dX9_grown_40 (by decide) (fun c4 => ?_) (fun c4 => ?_)
      · have hX := if_t c4 hX
        obtain ⟨v5, ev5⟩ : ∃ y : Int32, y = (v_5 + nI 1) := ⟨_, rfl⟩
        have hX := nm_of ev5 hX
        refine lv_iinc (v := v5) (lv' := [(5, .int v5), (4, .int v3), (2, .int a2), (3, .ref (ad v_3 0))]) hx hb dX9_grown_46 hl (k := 3) rfl (by rw [ev5]; rfl) (by decide) rfl (fun ls hl => ?_)
        refine lv_goto (tgt := 18) hx hb dX9_grown_49 (by decide) ?_
        exact ih _ _ _ hX hv_3 _ _ _ (lv_sub hl [2, 3, 1, 0] rfl) hS
      · have hX := if_f c4 hX
        refine lv_iload hx hb dX9_grown_43 (lv_at hl 3 rfl) ?_
        obtain rfl := some_of hX
        exact x_I (v := v_5) X hS dX9_grown_45
set_option maxRecDepth 100000 in
set_option maxHeartbeats 4000000 in
theorem m_X9_grown {l : Launch} {D : va_G} {cy : Nat → ClassId} {ad : Nat → Nat → Nat} {ns : List (Nat × Nat)} {A : Nat → Prop} {M : Mem} (hN : NsC ns) {a1 : Int32} {a2 : Int32} {r : Int32} (hX : f_X9_grown M a1 a2 = some r) : Ct l yX9_grown cX9_grown 6 ((some .int)) rm_X9_grown D cy ad ns A [.ref (ad 0 0), .int a1, .int a2] M M (some (.int r)) := by
  refine ct_of (lv := [(0, .ref (ad 0 0)), (1, .int a1), (2, .int a2)]) (by decide) (Nat.le_of_ble_eq_true rfl) rfl ?_
  intro p e s m args below meth c ls X hl hS
  obtain ⟨hx, hb, hml, hown, hts, hK, hr, hlk, hA, hG⟩ := id X
  obtain ⟨H, hH⟩ : ∃ z, z = s.heap := ⟨_, rfl⟩
  obtain ⟨locs, hlo⟩ : ∃ z : List Loc, z = [] := ⟨_, rfl⟩
  have hS : St D cy ad ns A M s.heap H locs := by rw [hH, hlo]; exact hS
  have hgoal : W p l e rm_X9_grown s m args below meth c H locs 0 0 (MQ below (QC D cy ad ns A M (some (.int r))) args s 0 0 A) (F0 m 0 ls []) := by
    unfold f_X9_grown at hX
    refine lv_aload_n hx hb dX9_grown_0 rfl (lv_at hl 0 rfl) ?_
    refine lv_iload_n hx hb dX9_grown_1 rfl (lv_at hl 1 rfl) ?_
    obtain ⟨r7, h6, hX⟩ := bn_of hX
    refine r_callV1 (v := rv ad r7) (As := [.int a1]) (rest := []) X hS (m_X9_coatAt hN h6) mv_X9_coatAt rfl (o_of hN (o := 0) (c := 9) (by decide) rfl) t3_179 ⟨rfl, rfl, Nat.le_of_ble_eq_true rfl, Nat.le_of_ble_eq_true rfl⟩ rfl hl.1 rfl (Nat.le_of_ble_eq_true rfl) ⟨Nat.zero_le _, Nat.zero_le _⟩ dX9_grown_2 (fun H locs hS => ?_)
    have qr7 : ∀ o, r7 = some o → Ob ns 0 o := fun o e => ob_X9_coatAt hN (by rw [← e]; exact h6)
    refine lv_astore_nR (lv' := [(3, rv ad r7), (0, .ref (ad 0 0)), (1, .int a1), (2, .int a2)]) hx hb dX9_grown_5 rfl hl (by decide) rfl (fun ls hl => ?_)
    rcases r7 with _ | o8
    · have hX := opt_n hX
      have hl : lv_has ls 6 [(3, .null), (0, .ref (ad 0 0)), (1, .int a1), (2, .int a2)] := hl
      refine lv_aload_nN hx hb dX9_grown_6 rfl (lv_at hl 0 rfl) ?_
      refine lv_ifnonnullN hx hb dX9_grown_7 ?_
      refine lv_iconst (v := (-1)) hx hb dX9_grown_10 (by decide) ?_
      obtain rfl := some_of hX
      exact x_I (v := (-1)) X hS dX9_grown_11
    · have hX := opt_s hX
      have hl : lv_has ls 6 [(3, .ref (ad o8 0)), (0, .ref (ad 0 0)), (1, .int a1), (2, .int a2)] := hl
      refine lv_aload_n hx hb dX9_grown_6 rfl (lv_at hl 0 rfl) ?_
      refine lv_ifnonnull (tgt := 12) hx hb dX9_grown_7 (by decide) ?_
      refine lv_iconst (v := nI 0) hx hb dX9_grown_12 (by decide) ?_
      refine lv_istore (lv' := [(4, .int (nI 0)), (3, .ref (ad o8 0)), (0, .ref (ad 0 0)), (1, .int a1), (2, .int a2)]) hx hb dX9_grown_13 hl (by decide) rfl (fun ls hl => ?_)
      refine lv_iconst (v := nI 0) hx hb dX9_grown_15 (by decide) ?_
      refine lv_istore (lv' := [(5, .int (nI 0)), (4, .int (nI 0)), (3, .ref (ad o8 0)), (0, .ref (ad 0 0)), (1, .int a1), (2, .int a2)]) hx hb dX9_grown_16 hl (by decide) rfl (fun ls hl => ?_)
      exact n_X9_grown_18 X hN _ _ _ _ hX (qr7 o8 rfl) _ _ _ (lv_sub hl [5, 2, 1, 0] rfl) hS
  rw [hH, hlo] at hgoal
  exact hgoal
theorem mv_X9_grown : Mv yX9_grown RX9 cX9_grown 6 ((some .int)) 2 := ⟨t5_97, t5_95, t5_96, t1_1, ⟨by decide, by decide⟩, by decide +kernel⟩
/-! SewnYear.home(IZ)I -/
def rm_X9_home : Room := { frames := 6, cells := 0, slots := 0, locals := 139 }
def f_X9_home_80 (a1 : Int32) (a2 : Bool) (v_3 : Nat) (k_29 : Int32 → Int32 → Int32 → Mem → Option (Int32 × Mem)) (v_4 : Int32) (v_5 : Int32) (v_6 : Int32) (M : Mem) : Option (Int32 × Mem) :=
  nm (v_6 + nI 1) fun v1 => k_29 v_4 v_5 v1 M
def b_X9_home_29 (a1 : Int32) (a2 : Bool) (v_3 : Nat) (rc : Int32 → Int32 → Int32 → Mem → Option (Int32 × Mem)) (v_4 : Int32) (v_5 : Int32) (v_6 : Int32) (M : Mem) : Option (Int32 × Mem) :=
  if (nI 100) ≤ v_6 then (if a2 = true then (some (v_5, M)) else (some (v_4, M))) else (gnz (nI 10) <| gnz (nI 10) <| bn (f_X7_begin M v_3 (v_6 - v_6 / (nI 10) * (nI 10)) (v_6 / (nI 10))) fun M7 => bp (f_X7_soonest M7 v_4) fun r10 M9 => if v_4 ≤ r10 then (f_X9_home_80 a1 a2 v_3 rc v_4 v_5 v_6 M9) else (f_X9_home_80 a1 a2 v_3 rc r10 v_6 v_6 M9))
def f_X9_home_29 (a1 : Int32) (a2 : Bool) (v_3 : Nat) : Nat → (Int32 × Int32 × Int32 × Mem) → Option (Int32 × Mem) := lp (fun rc q => b_X9_home_29 a1 a2 v_3 (fun x0 x1 x2 x3 => rc (x0, x1, x2, x3)) q.1 q.2.1 q.2.2.1 q.2.2.2)
def f_X9_home (M : Mem) (a1 : Int32) (a2 : Bool) : Option (Int32 × Mem) :=
  bn (f_X9_townAt M a1) fun r13 => opt r13 (some ((-1), M)) fun o14 => (if (gI M o14 4) = (nI 0) then (some ((-1), M)) else (f_X9_home_29 a1 a2 o14 FU ((nI 1000000), (-1), (nI 0), M)))
set_option maxRecDepth 100000 in
set_option maxHeartbeats 4000000 in
theorem n_X9_home_80 {a1 : Int32} {a2 : Bool} {v_3 : Nat} (X : Cx p s m args meth c D cy ad A RX9 cX9_home 8 ((some .int))) (hN : NsC ns) {k_29 : Int32 → Int32 → Int32 → Mem → Option (Int32 × Mem)} {v_4 : Int32} {v_5 : Int32} {v_6 : Int32} {M : Mem} {r : Int32 × Mem} (hX : f_X9_home_80 a1 a2 v_3 k_29 v_4 v_5 v_6 M = some r) : Ob ns 6 v_3 → (∀ (v_4 : Int32) (v_5 : Int32) (v_6 : Int32) (M : Mem) (r : Int32 × Mem), k_29 v_4 v_5 v_6 M = some r → ∀ (ls : Array Slot) (H : Heap) (locs : List Loc), lv_has ls 8 [(0, .ref (ad 0 0)), (2, .int (b2i a2)), (3, .ref (ad v_3 0)), (4, .int v_4), (5, .int v_5), (6, .int v_6)] → St D cy ad ns A M s.heap H locs → W p l e rm_X9_home s m args below meth c H locs 0 0 (MQ below (QC D cy ad ns A r.2 (some (.int r.1))) args s 0 0 A) (F0 m 29 ls [])) → ∀ (ls : Array Slot) (H : Heap) (locs : List Loc), lv_has ls 8 [(0, .ref (ad 0 0)), (2, .int (b2i a2)), (3, .ref (ad v_3 0)), (4, .int v_4), (5, .int v_5), (6, .int v_6)] → St D cy ad ns A M s.heap H locs → W p l e rm_X9_home s m args below meth c H locs 0 0 (MQ below (QC D cy ad ns A r.2 (some (.int r.1))) args s 0 0 A) (F0 m 80 ls []) := by
  obtain ⟨hx, hb, hml, hown, hts, hK, hr, hlk, hA, hG⟩ := id X
  intro hv_3 hk_29 ls H locs hl hS
  unfold f_X9_home_80 at hX
  obtain ⟨v1, ev1⟩ : ∃ y : Int32, y = (v_6 + nI 1) := ⟨_, rfl⟩
  have hX := nm_of ev1 hX
  refine lv_iinc (v := v1) (lv' := [(6, .int v1), (0, .ref (ad 0 0)), (2, .int (b2i a2)), (3, .ref (ad v_3 0)), (4, .int v_4), (5, .int v_5)]) hx hb dX9_home_80 hl (k := 5) rfl (by rw [ev1]; rfl) (by decide) rfl (fun ls hl => ?_)
  refine lv_goto (tgt := 29) hx hb dX9_home_83 (by decide) ?_
  exact hk_29 _ _ _ _ _ hX _ _ _ (lv_sub hl [1, 2, 3, 4, 5, 0] rfl) hS
set_option maxRecDepth 100000 in
set_option maxHeartbeats 4000000 in
theorem n_X9_home_29 {a1 : Int32} {a2 : Bool} (X : Cx p s m args meth c D cy ad A RX9 cX9_home 8 ((some .int))) (hN : NsC ns) {v_3 : Nat} : ∀ (n : Nat) (v_4 : Int32) (v_5 : Int32) (v_6 : Int32) (M : Mem) (r : Int32 × Mem), f_X9_home_29 a1 a2 v_3 n (v_4, v_5, v_6, M) = some r → Ob ns 6 v_3 → ∀ (ls : Array Slot) (H : Heap) (locs : List Loc), lv_has ls 8 [(0, .ref (ad 0 0)), (2, .int (b2i a2)), (3, .ref (ad v_3 0)), (4, .int v_4), (5, .int v_5), (6, .int v_6)] → St D cy ad ns A M s.heap H locs → W p l e rm_X9_home s m args below meth c H locs 0 0 (MQ below (QC D cy ad ns A r.2 (some (.int r.1))) args s 0 0 A) (F0 m 29 ls []) := by
  obtain ⟨hx, hb, hml, hown, hts, hK, hr, hlk, hA, hG⟩ := id X
  intro n
  induction n with
  | zero => intro v_4 v_5 v_6 M r hX; cases (show (none : Option (Int32 × Mem)) = some r from hX)
  | succ n ih =>
    intro v_4 v_5 v_6 M r hX hv_3 ls H locs hl hS
    have hX : b_X9_home_29 a1 a2 v_3 (fun x0 x1 x2 x3 => f_X9_home_29 a1 a2 v_3 n (x0, x1, x2, x3)) v_4 v_5 v_6 M = some r := hX
    unfold b_X9_home_29 at hX
    refine lv_iload hx hb dX9_home_29 (lv_at hl 5 rfl) ?_
    refine lv_bipush (v := nI 100) hx hb dX9_home_31 (by decide) ?_
    refine lv_icmp_ge (tgt := 86) hx hb dX9_home_33 (by decide) (fun c2 => ?_) (fun c2 => ?_)
    · have hX := if_t c2 hX
      refine lv_iload_n hx hb dX9_home_86 rfl (lv_at hl 1 rfl) ?_
      refine lv_if_eq (tgt := 95) hx hb dX9_home_87 (by decide) (fun c3 => ?_) (fun c3 => ?_)
      · have hX := if_bf c3 hX
        refine lv_iload hx hb dX9_home_95 (lv_at hl 3 rfl) ?_
        obtain rfl := some_of hX
        exact x_I (v := v_4) X hS dX9_home_97
      · have hX := if_bt c3 hX
        refine lv_iload hx hb dX9_home_90 (lv_at hl 4 rfl) ?_
        refine lv_goto (tgt := 97) hx hb dX9_home_92 (by decide) ?_
        obtain rfl := some_of hX
        exact x_I (v := v_5) X hS dX9_home_97
    · have hX := if_f c2 hX
      refine lv_aload_n hx hb dX9_home_36 rfl (lv_at hl 0 rfl) ?_
      refine fg_X9_44 X hS (o_of hN (o := 0) (c := 9) (by decide) rfl) dX9_home_37 ?_
      refine lv_aload_n hx hb dX9_home_40 rfl (lv_at hl 2 rfl) ?_
      refine lv_iload hx hb dX9_home_41 (lv_at hl 5 rfl) ?_
      refine lv_bipush (v := nI 10) hx hb dX9_home_43 (by decide) ?_
      obtain ⟨g4, hX⟩ := gnz_of hX
      refine lv_irem hx hb dX9_home_45 g4 ?_
      refine lv_iload hx hb dX9_home_46 (lv_at hl 5 rfl) ?_
      refine lv_bipush (v := nI 10) hx hb dX9_home_48 (by decide) ?_
      obtain ⟨g5, hX⟩ := gnz_of hX
      refine lv_idiv hx hb dX9_home_50 g5 ?_
      obtain ⟨M7, h6, hX⟩ := bn_of hX
      refine r_callV0 (As := [.ref (ad v_3 0), .int (v_6 - v_6 / (nI 10) * (nI 10)), .int (v_6 / (nI 10))]) (rest := []) X hS (m_X7_begin hN hv_3 h6) mv_X7_begin rfl (o_of hN (o := 19) (c := 7) (by decide) rfl) t4_145 ⟨rfl, rfl, Nat.le_of_ble_eq_true rfl, Nat.le_of_ble_eq_true rfl⟩ rfl hl.1 rfl (Nat.le_of_ble_eq_true rfl) ⟨Nat.zero_le _, Nat.zero_le _⟩ dX9_home_51 (fun H locs hS => ?_)
      refine lv_aload_n hx hb dX9_home_54 rfl (lv_at hl 0 rfl) ?_
      refine fg_X9_44 X hS (o_of hN (o := 0) (c := 9) (by decide) rfl) dX9_home_55 ?_
      refine lv_iload hx hb dX9_home_58 (lv_at hl 3 rfl) ?_
      obtain ⟨r10, M9, h8, hX⟩ := bp_of hX
      refine r_callV1 (v := .int r10) (As := [.int v_4]) (rest := []) X hS (m_X7_soonest hN h8) mv_X7_soonest rfl (o_of hN (o := 19) (c := 7) (by decide) rfl) t4_202 ⟨rfl, rfl, Nat.le_of_ble_eq_true rfl, Nat.le_of_ble_eq_true rfl⟩ rfl hl.1 rfl (Nat.le_of_ble_eq_true rfl) ⟨Nat.zero_le _, Nat.zero_le _⟩ dX9_home_60 (fun H locs hS => ?_)
      refine lv_istore (lv' := [(7, .int r10), (0, .ref (ad 0 0)), (2, .int (b2i a2)), (3, .ref (ad v_3 0)), (4, .int v_4), (5, .int v_5), (6, .int v_6)]) hx hb dX9_home_63 hl (by decide) rfl (fun ls hl => ?_)
      refine lv_iload hx hb dX9_home_65 (lv_at hl 0 rfl) ?_
      refine lv_iload hx hb dX9_home_67 (lv_at hl 4 rfl) ?_
      refine lv_icmp_ge (tgt := 80) hx hb dX9_home_69 (by decide) (fun c11 => ?_) (fun c11 => ?_)
      · have hX := if_t c11 hX
        exact n_X9_home_80 X hN hX hv_3 (fun z0 z1 z2 z3 r h ls H locs hl hS => ih z0 z1 z2 z3 r h hv_3 ls H locs hl hS) _ _ _ (lv_sub hl [1, 2, 3, 4, 5, 6] rfl) hS
      · have hX := if_f c11 hX
        refine lv_iload hx hb dX9_home_72 (lv_at hl 0 rfl) ?_
        refine lv_istore (lv' := [(4, .int r10), (7, .int r10), (0, .ref (ad 0 0)), (2, .int (b2i a2)), (3, .ref (ad v_3 0)), (5, .int v_5), (6, .int v_6)]) hx hb dX9_home_74 hl (by decide) rfl (fun ls hl => ?_)
        refine lv_iload hx hb dX9_home_76 (lv_at hl 6 rfl) ?_
        refine lv_istore (lv' := [(5, .int v_6), (4, .int r10), (7, .int r10), (0, .ref (ad 0 0)), (2, .int (b2i a2)), (3, .ref (ad v_3 0)), (6, .int v_6)]) hx hb dX9_home_78 hl (by decide) rfl (fun ls hl => ?_)
        exact n_X9_home_80 X hN hX hv_3 (fun z0 z1 z2 z3 r h ls H locs hl hS => ih z0 z1 z2 z3 r h hv_3 ls H locs hl hS) _ _ _ (lv_sub hl [3, 4, 5, 1, 0, 6] rfl) hS
set_option maxRecDepth 100000 in
set_option maxHeartbeats 4000000 in
theorem m_X9_home {l : Launch} {D : va_G} {cy : Nat → ClassId} {ad : Nat → Nat → Nat} {ns : List (Nat × Nat)} {A : Nat → Prop} {M : Mem} (hN : NsC ns) {a1 : Int32} {a2 : Bool} {r : Int32 × Mem} (hX : f_X9_home M a1 a2 = some r) : Ct l yX9_home cX9_home 8 ((some .int)) rm_X9_home D cy ad ns A [.ref (ad 0 0), .int a1, .int (b2i a2)] M r.2 (some (.int r.1)) := by
  refine ct_of (lv := [(0, .ref (ad 0 0)), (1, .int a1), (2, .int (b2i a2))]) (by decide) (Nat.le_of_ble_eq_true rfl) rfl ?_
  intro p e s m args below meth c ls X hl hS
  obtain ⟨hx, hb, hml, hown, hts, hK, hr, hlk, hA, hG⟩ := id X
  obtain ⟨H, hH⟩ : ∃ z, z = s.heap := ⟨_, rfl⟩
  obtain ⟨locs, hlo⟩ : ∃ z : List Loc, z = [] := ⟨_, rfl⟩
  have hS : St D cy ad ns A M s.heap H locs := by rw [hH, hlo]; exact hS
  have hgoal : W p l e rm_X9_home s m args below meth c H locs 0 0 (MQ below (QC D cy ad ns A r.2 (some (.int r.1))) args s 0 0 A) (F0 m 0 ls []) := by
    unfold f_X9_home at hX
    refine lv_aload_n hx hb dX9_home_0 rfl (lv_at hl 0 rfl) ?_
    refine lv_iload_n hx hb dX9_home_1 rfl (lv_at hl 1 rfl) ?_
    obtain ⟨r13, h12, hX⟩ := bn_of hX
    refine r_callV1 (v := rv ad r13) (As := [.int a1]) (rest := []) X hS (m_X9_townAt hN h12) mv_X9_townAt rfl (o_of hN (o := 0) (c := 9) (by decide) rfl) t4_129 ⟨rfl, rfl, Nat.le_of_ble_eq_true rfl, Nat.le_of_ble_eq_true rfl⟩ rfl hl.1 rfl (Nat.le_of_ble_eq_true rfl) ⟨Nat.zero_le _, Nat.zero_le _⟩ dX9_home_2 (fun H locs hS => ?_)
    have qr13 : ∀ o, r13 = some o → Ob ns 6 o := fun o e => ob_X9_townAt hN (by rw [← e]; exact h12)
    refine lv_astore_nR (lv' := [(3, rv ad r13), (0, .ref (ad 0 0)), (1, .int a1), (2, .int (b2i a2))]) hx hb dX9_home_5 rfl hl (by decide) rfl (fun ls hl => ?_)
    rcases r13 with _ | o14
    · have hX := opt_n hX
      have hl : lv_has ls 8 [(3, .null), (0, .ref (ad 0 0)), (1, .int a1), (2, .int (b2i a2))] := hl
      refine lv_aload_nN hx hb dX9_home_6 rfl (lv_at hl 0 rfl) ?_
      refine lv_ifnullN (tgt := 17) hx hb dX9_home_7 (by decide) ?_
      refine lv_iconst (v := (-1)) hx hb dX9_home_17 (by decide) ?_
      obtain rfl := some_of hX
      exact x_I (v := (-1)) X hS dX9_home_18
    · have hX := opt_s hX
      have hl : lv_has ls 8 [(3, .ref (ad o14 0)), (0, .ref (ad 0 0)), (1, .int a1), (2, .int (b2i a2))] := hl
      refine lv_aload_n hx hb dX9_home_6 rfl (lv_at hl 0 rfl) ?_
      refine lv_ifnull hx hb dX9_home_7 ?_
      refine lv_aload_n hx hb dX9_home_10 rfl (lv_at hl 0 rfl) ?_
      refine fg_X9_190 X hS (qr13 o14 rfl) dX9_home_11 ?_
      refine lv_if_ne (tgt := 19) hx hb dX9_home_14 (by decide) (fun c15 => ?_) (fun c15 => ?_)
      · have hX := if_f c15 hX
        refine lv_ldc hx hb (own := RX9) hown (hts _ t4_120) dX9_home_19 ?_
        refine lv_istore (lv' := [(4, .int (nI 1000000)), (3, .ref (ad o14 0)), (0, .ref (ad 0 0)), (1, .int a1), (2, .int (b2i a2))]) hx hb dX9_home_21 hl (by decide) rfl (fun ls hl => ?_)
        refine lv_iconst (v := (-1)) hx hb dX9_home_23 (by decide) ?_
        refine lv_istore (lv' := [(5, .int (-1)), (4, .int (nI 1000000)), (3, .ref (ad o14 0)), (0, .ref (ad 0 0)), (1, .int a1), (2, .int (b2i a2))]) hx hb dX9_home_24 hl (by decide) rfl (fun ls hl => ?_)
        refine lv_iconst (v := nI 0) hx hb dX9_home_26 (by decide) ?_
        refine lv_istore (lv' := [(6, .int (nI 0)), (5, .int (-1)), (4, .int (nI 1000000)), (3, .ref (ad o14 0)), (0, .ref (ad 0 0)), (1, .int a1), (2, .int (b2i a2))]) hx hb dX9_home_27 hl (by decide) rfl (fun ls hl => ?_)
        exact n_X9_home_29 X hN _ _ _ _ _ _ hX (qr13 o14 rfl) _ _ _ (lv_sub hl [4, 6, 3, 2, 1, 0] rfl) hS
      · have hX := if_t c15 hX
        refine lv_iconst (v := (-1)) hx hb dX9_home_17 (by decide) ?_
        obtain rfl := some_of hX
        exact x_I (v := (-1)) X hS dX9_home_18
  rw [hH, hlo] at hgoal
  exact hgoal
theorem mv_X9_home : Mv yX9_home RX9 cX9_home 8 ((some .int)) 2 := ⟨t5_101, t5_99, t5_100, t1_1, ⟨by decide, by decide⟩, by decide +kernel⟩
/-! SewnYear.way(III)I -/
def rm_X9_way : Room := { frames := 2, cells := 0, slots := 0, locals := 47 }
def f_X9_way (M : Mem) (a1 : Int32) (a2 : Int32) (a3 : Int32) : Option (Int32) :=
  bn (f_X9_townAt M a1) fun r2 => opt r2 (some (-1)) fun o3 => (bn (f_X6_hasWearer M o3 a2) fun r5 => if r5 = true then (bn (f_X6_hasWearer M o3 a3) fun r8 => if r8 = true then (gin a2 6 <| gin a2 6 <| bn (f_X6_daysTo M o3 (gA M o3 5 (ix a2)) (gA M o3 6 (ix a2)) a3) fun r13 => some r13) else (some (-1))) else (some (-1)))
set_option maxRecDepth 100000 in
set_option maxHeartbeats 4000000 in
theorem m_X9_way {l : Launch} {D : va_G} {cy : Nat → ClassId} {ad : Nat → Nat → Nat} {ns : List (Nat × Nat)} {A : Nat → Prop} {M : Mem} (hN : NsC ns) {a1 : Int32} {a2 : Int32} {a3 : Int32} {r : Int32} (hX : f_X9_way M a1 a2 a3 = some r) : Ct l yX9_way cX9_way 5 ((some .int)) rm_X9_way D cy ad ns A [.ref (ad 0 0), .int a1, .int a2, .int a3] M M (some (.int r)) := by
  refine ct_of (lv := [(0, .ref (ad 0 0)), (1, .int a1), (2, .int a2), (3, .int a3)]) (by decide) (Nat.le_of_ble_eq_true rfl) rfl ?_
  intro p e s m args below meth c ls X hl hS
  obtain ⟨hx, hb, hml, hown, hts, hK, hr, hlk, hA, hG⟩ := id X
  obtain ⟨H, hH⟩ : ∃ z, z = s.heap := ⟨_, rfl⟩
  obtain ⟨locs, hlo⟩ : ∃ z : List Loc, z = [] := ⟨_, rfl⟩
  have hS : St D cy ad ns A M s.heap H locs := by rw [hH, hlo]; exact hS
  have hgoal : W p l e rm_X9_way s m args below meth c H locs 0 0 (MQ below (QC D cy ad ns A M (some (.int r))) args s 0 0 A) (F0 m 0 ls []) := by
    unfold f_X9_way at hX
    refine lv_aload_n hx hb dX9_way_0 rfl (lv_at hl 0 rfl) ?_
    refine lv_iload_n hx hb dX9_way_1 rfl (lv_at hl 1 rfl) ?_
    obtain ⟨r2, h1, hX⟩ := bn_of hX
    refine r_callV1 (v := rv ad r2) (As := [.int a1]) (rest := []) X hS (m_X9_townAt hN h1) mv_X9_townAt rfl (o_of hN (o := 0) (c := 9) (by decide) rfl) t4_129 ⟨rfl, rfl, Nat.le_of_ble_eq_true rfl, Nat.le_of_ble_eq_true rfl⟩ rfl hl.1 rfl (Nat.le_of_ble_eq_true rfl) ⟨Nat.zero_le _, Nat.zero_le _⟩ dX9_way_2 (fun H locs hS => ?_)
    have qr2 : ∀ o, r2 = some o → Ob ns 6 o := fun o e => ob_X9_townAt hN (by rw [← e]; exact h1)
    refine lv_astoreR (lv' := [(4, rv ad r2), (0, .ref (ad 0 0)), (1, .int a1), (2, .int a2), (3, .int a3)]) hx hb dX9_way_5 hl (by decide) rfl (fun ls hl => ?_)
    rcases r2 with _ | o3
    · have hX := opt_n hX
      have hl : lv_has ls 5 [(4, .null), (0, .ref (ad 0 0)), (1, .int a1), (2, .int a2), (3, .int a3)] := hl
      refine lv_aloadN hx hb dX9_way_7 (lv_at hl 0 rfl) ?_
      refine lv_ifnullN (tgt := 30) hx hb dX9_way_9 (by decide) ?_
      refine lv_iconst (v := (-1)) hx hb dX9_way_30 (by decide) ?_
      refine lv_goto (tgt := 54) hx hb dX9_way_31 (by decide) ?_
      obtain rfl := some_of hX
      exact x_I (v := (-1)) X hS dX9_way_54
    · have hX := opt_s hX
      have hl : lv_has ls 5 [(4, .ref (ad o3 0)), (0, .ref (ad 0 0)), (1, .int a1), (2, .int a2), (3, .int a3)] := hl
      refine lv_aload hx hb dX9_way_7 (lv_at hl 0 rfl) ?_
      refine lv_ifnull hx hb dX9_way_9 ?_
      refine lv_aload hx hb dX9_way_12 (lv_at hl 0 rfl) ?_
      refine lv_iload_n hx hb dX9_way_14 rfl (lv_at hl 3 rfl) ?_
      obtain ⟨r5, h4, hX⟩ := bn_of hX
      refine r_callV1 (v := .int (b2i r5)) (As := [.int a2]) (rest := []) X hS (m_X6_hasWearer hN (qr2 o3 rfl) h4) mv_X6_hasWearer rfl (qr2 o3 rfl) t5_106 ⟨rfl, rfl, Nat.le_of_ble_eq_true rfl, Nat.le_of_ble_eq_true rfl⟩ rfl hl.1 rfl (Nat.le_of_ble_eq_true rfl) ⟨Nat.zero_le _, Nat.zero_le _⟩ dX9_way_15 (fun H locs hS => ?_)
      refine lv_if_eq (tgt := 30) hx hb dX9_way_18 (by decide) (fun c6 => ?_) (fun c6 => ?_)
      · have hX := if_bf c6 hX
        refine lv_iconst (v := (-1)) hx hb dX9_way_30 (by decide) ?_
        refine lv_goto (tgt := 54) hx hb dX9_way_31 (by decide) ?_
        obtain rfl := some_of hX
        exact x_I (v := (-1)) X hS dX9_way_54
      · have hX := if_bt c6 hX
        refine lv_aload hx hb dX9_way_21 (lv_at hl 0 rfl) ?_
        refine lv_iload_n hx hb dX9_way_23 rfl (lv_at hl 4 rfl) ?_
        obtain ⟨r8, h7, hX⟩ := bn_of hX
        refine r_callV1 (v := .int (b2i r8)) (As := [.int a3]) (rest := []) X hS (m_X6_hasWearer hN (qr2 o3 rfl) h7) mv_X6_hasWearer rfl (qr2 o3 rfl) t5_106 ⟨rfl, rfl, Nat.le_of_ble_eq_true rfl, Nat.le_of_ble_eq_true rfl⟩ rfl hl.1 rfl (Nat.le_of_ble_eq_true rfl) ⟨Nat.zero_le _, Nat.zero_le _⟩ dX9_way_24 (fun H locs hS => ?_)
        refine lv_if_ne (tgt := 34) hx hb dX9_way_27 (by decide) (fun c9 => ?_) (fun c9 => ?_)
        · have hX := if_bt c9 hX
          refine lv_aload hx hb dX9_way_34 (lv_at hl 0 rfl) ?_
          refine lv_aload hx hb dX9_way_36 (lv_at hl 0 rfl) ?_
          refine fg_X9_271 X hS (qr2 o3 rfl) dX9_way_38 ?_
          refine lv_iload_n hx hb dX9_way_41 rfl (lv_at hl 3 rfl) ?_
          obtain ⟨g10, hX⟩ := gin_of hX
          refine r_iald (ci := 6) (o := o3) (k := 5) (n := 6) X hS (qr2 o3 rfl) rfl rfl g10 dX9_way_42 ?_
          refine lv_aload hx hb dX9_way_43 (lv_at hl 0 rfl) ?_
          refine fg_X9_274 X hS (qr2 o3 rfl) dX9_way_45 ?_
          refine lv_iload_n hx hb dX9_way_48 rfl (lv_at hl 3 rfl) ?_
          obtain ⟨g11, hX⟩ := gin_of hX
          refine r_iald (ci := 6) (o := o3) (k := 6) (n := 6) X hS (qr2 o3 rfl) rfl rfl g11 dX9_way_49 ?_
          refine lv_iload_n hx hb dX9_way_50 rfl (lv_at hl 4 rfl) ?_
          obtain ⟨r13, h12, hX⟩ := bn_of hX
          refine r_callV1 (v := .int r13) (As := [.int (gA M o3 5 (ix a2)), .int (gA M o3 6 (ix a2)), .int a3]) (rest := []) X hS (m_X6_daysTo hN (qr2 o3 rfl) h12) mv_X6_daysTo rfl (qr2 o3 rfl) t5_107 ⟨rfl, rfl, Nat.le_of_ble_eq_true rfl, Nat.le_of_ble_eq_true rfl⟩ rfl hl.1 rfl (Nat.le_of_ble_eq_true rfl) ⟨Nat.zero_le _, Nat.zero_le _⟩ dX9_way_51 (fun H locs hS => ?_)
          obtain rfl := some_of hX
          exact x_I (v := r13) X hS dX9_way_54
        · have hX := if_bf c9 hX
          refine lv_iconst (v := (-1)) hx hb dX9_way_30 (by decide) ?_
          refine lv_goto (tgt := 54) hx hb dX9_way_31 (by decide) ?_
          obtain rfl := some_of hX
          exact x_I (v := (-1)) X hS dX9_way_54
  rw [hH, hlo] at hgoal
  exact hgoal
theorem mv_X9_way : Mv yX9_way RX9 cX9_way 5 ((some .int)) 3 := ⟨t5_105, t5_103, t5_104, t1_1, ⟨by decide, by decide⟩, by decide +kernel⟩
/-! SewnYear.enough(IIIZ)J -/
def rm_X9_enough : Room := { frames := 2, cells := 0, slots := 0, locals := 49 }
def f_X9_enough_58 (a1 : Int32) (a2 : Int32) (a3 : Int32) (a4 : Bool) (v_5 : Int64) : Option (Int64) :=
  bn (f_X9_power (nI 10) a1) fun r2 => bn (f_X9_inLeastTerms v_5 r2 a4) fun r4 => some r4
def b_X9_enough_28 (a1 : Int32) (a2 : Int32) (a3 : Int32) (a4 : Bool) (rc : Int64 → Int32 → Option (Int64)) (v_5 : Int64) (v_7 : Int32) : Option (Int64) :=
  if a3 < v_7 then (f_X9_enough_58 a1 a2 a3 a4 v_5) else (if a1 < v_7 then (f_X9_enough_58 a1 a2 a3 a4 v_5) else (bn (f_X9_weight a1 a2 v_7) fun r8 => nm (v_5 + r8) fun v9 => nm (v_7 + nI 1) fun v10 => rc v9 v10))
def f_X9_enough_28 (a1 : Int32) (a2 : Int32) (a3 : Int32) (a4 : Bool) : Nat → (Int64 × Int32) → Option (Int64) := lp (fun rc q => b_X9_enough_28 a1 a2 a3 a4 (fun x0 x1 => rc (x0, x1)) q.1 q.2)
def f_X9_enough (a1 : Int32) (a2 : Int32) (a3 : Int32) (a4 : Bool) : Option (Int64) :=
  bn (f_X9_areMonths a1 a2) fun r12 => if r12 = true then (if a3 < (nI 0) then (some (-1 : Int64)) else (if a3 ≤ (nI 12) then (nm (lN 0) fun v16 => f_X9_enough_28 a1 a2 a3 a4 FU (v16, (nI 0))) else (some (-1 : Int64)))) else (some (-1 : Int64))
set_option maxRecDepth 100000 in
set_option maxHeartbeats 4000000 in
theorem n_X9_enough_58 {a1 : Int32} {a2 : Int32} {a3 : Int32} {a4 : Bool} (X : Cx p s m args meth c D cy ad A RX9 cX9_enough 8 ((some .long))) (hN : NsC ns) {M : Mem} {v_5 : Int64} {r : Int64} (hX : f_X9_enough_58 a1 a2 a3 a4 v_5 = some r) : ∀ (ls : Array Slot) (H : Heap) (locs : List Loc), lv_has ls 8 [(1, .int a1), (4, .int (b2i a4)), (5, .long v_5)] → St D cy ad ns A M s.heap H locs → W p l e rm_X9_enough s m args below meth c H locs 0 0 (MQ below (QC D cy ad ns A M (some (.long r))) args s 0 0 A) (F0 m 58 ls []) := by
  obtain ⟨hx, hb, hml, hown, hts, hK, hr, hlk, hA, hG⟩ := id X
  intro ls H locs hl hS
  unfold f_X9_enough_58 at hX
  refine lv_lload hx hb dX9_enough_58 (lv_at hl 2 rfl) ?_
  refine lv_bipush (v := nI 10) hx hb dX9_enough_60 (by decide) ?_
  refine lv_iload_n hx hb dX9_enough_62 rfl (lv_at hl 0 rfl) ?_
  obtain ⟨r2, h1, hX⟩ := bn_of hX
  refine r_callS1 (v := .long r2) (As := [.int (nI 10), .int a1]) (rest := [.long v_5]) X hS (m_X9_power (M := M) hN h1) ms_X9_power t4_226 ⟨rfl, rfl, Nat.le_of_ble_eq_true rfl, Nat.le_of_ble_eq_true rfl⟩ rfl hl.1 rfl (Nat.le_of_ble_eq_true rfl) ⟨Nat.zero_le _, Nat.zero_le _⟩ dX9_enough_63 (fun H locs hS => ?_)
  refine lv_iload hx hb dX9_enough_66 (lv_at hl 1 rfl) ?_
  obtain ⟨r4, h3, hX⟩ := bn_of hX
  refine r_callS1 (v := .long r4) (As := [.long v_5, .long r2, .int (b2i a4)]) (rest := []) X hS (m_X9_inLeastTerms (M := M) hN h3) ms_X9_inLeastTerms t4_232 ⟨rfl, rfl, Nat.le_of_ble_eq_true rfl, Nat.le_of_ble_eq_true rfl⟩ rfl hl.1 rfl (Nat.le_of_ble_eq_true rfl) ⟨Nat.zero_le _, Nat.zero_le _⟩ dX9_enough_68 (fun H locs hS => ?_)
  obtain rfl := some_of hX
  exact x_L (v := r4) X hS dX9_enough_71
set_option maxRecDepth 100000 in
set_option maxHeartbeats 4000000 in
theorem n_X9_enough_28 {a1 : Int32} {a2 : Int32} {a3 : Int32} {a4 : Bool} (X : Cx p s m args meth c D cy ad A RX9 cX9_enough 8 ((some .long))) (hN : NsC ns) {M : Mem} : ∀ (n : Nat) (v_5 : Int64) (v_7 : Int32) (r : Int64), f_X9_enough_28 a1 a2 a3 a4 n (v_5, v_7) = some r → ∀ (ls : Array Slot) (H : Heap) (locs : List Loc), lv_has ls 8 [(1, .int a1), (2, .int a2), (3, .int a3), (4, .int (b2i a4)), (5, .long v_5), (7, .int v_7)] → St D cy ad ns A M s.heap H locs → W p l e rm_X9_enough s m args below meth c H locs 0 0 (MQ below (QC D cy ad ns A M (some (.long r))) args s 0 0 A) (F0 m 28 ls []) := by
  obtain ⟨hx, hb, hml, hown, hts, hK, hr, hlk, hA, hG⟩ := id X
  intro n
  induction n with
  | zero => intro v_5 v_7 r hX; cases (show (none : Option (Int64)) = some r from hX)
  | succ n ih =>
    intro v_5 v_7 r hX ls H locs hl hS
    have hX : b_X9_enough_28 a1 a2 a3 a4 (fun x0 x1 => f_X9_enough_28 a1 a2 a3 a4 n (x0, x1)) v_5 v_7 = some r := hX
    unfold b_X9_enough_28 at hX
    refine lv_iload hx hb dX9_enough_28 (lv_at hl 5 rfl) ?_
    refine lv_iload_n hx hb dX9_enough_30 rfl (lv_at hl 2 rfl) ?_
    refine lv_icmp_gt (tgt := 58) hx hb dX9_enough_31 (by decide) (fun c5 => ?_) (fun c5 => ?_)
    · have hX := if_t c5 hX
      exact n_X9_enough_58 X hN hX _ _ _ (lv_sub hl [0, 3, 4] rfl) hS
    · have hX := if_f c5 hX
      refine lv_iload hx hb dX9_enough_34 (lv_at hl 5 rfl) ?_
      refine lv_iload_n hx hb dX9_enough_36 rfl (lv_at hl 0 rfl) ?_
      refine lv_icmp_gt (tgt := 58) hx hb dX9_enough_37 (by decide) (fun c6 => ?_) (fun c6 => ?_)
      · have hX := if_t c6 hX
        exact n_X9_enough_58 X hN hX _ _ _ (lv_sub hl [0, 3, 4] rfl) hS
      · have hX := if_f c6 hX
        refine lv_lload hx hb dX9_enough_40 (lv_at hl 4 rfl) ?_
        refine lv_iload_n hx hb dX9_enough_42 rfl (lv_at hl 0 rfl) ?_
        refine lv_iload_n hx hb dX9_enough_43 rfl (lv_at hl 1 rfl) ?_
        refine lv_iload hx hb dX9_enough_44 (lv_at hl 5 rfl) ?_
        obtain ⟨r8, h7, hX⟩ := bn_of hX
        refine r_callS1 (v := .long r8) (As := [.int a1, .int a2, .int v_7]) (rest := [.long v_5]) X hS (m_X9_weight (M := M) hN h7) ms_X9_weight t4_229 ⟨rfl, rfl, Nat.le_of_ble_eq_true rfl, Nat.le_of_ble_eq_true rfl⟩ rfl hl.1 rfl (Nat.le_of_ble_eq_true rfl) ⟨Nat.zero_le _, Nat.zero_le _⟩ dX9_enough_46 (fun H locs hS => ?_)
        refine lv_ladd hx hb dX9_enough_49 ?_
        refine lv_topl (fun v9 ev9 => ?_)
        have hX := nm_of ev9 hX
        refine lv_lstore (lv' := [(5, .long v9), (1, .int a1), (2, .int a2), (3, .int a3), (4, .int (b2i a4)), (7, .int v_7)]) hx hb dX9_enough_50 hl (by decide) rfl (fun ls hl => ?_)
        obtain ⟨v10, ev10⟩ : ∃ y : Int32, y = (v_7 + nI 1) := ⟨_, rfl⟩
        have hX := nm_of ev10 hX
        refine lv_iinc (v := v10) (lv' := [(7, .int v10), (5, .long v9), (1, .int a1), (2, .int a2), (3, .int a3), (4, .int (b2i a4))]) hx hb dX9_enough_52 hl (k := 5) rfl (by rw [ev10]; rfl) (by decide) rfl (fun ls hl => ?_)
        refine lv_goto (tgt := 28) hx hb dX9_enough_55 (by decide) ?_
        exact ih _ _ _ hX _ _ _ (lv_sub hl [2, 3, 4, 5, 1, 0] rfl) hS
set_option maxRecDepth 100000 in
set_option maxHeartbeats 4000000 in
theorem m_X9_enough {l : Launch} {D : va_G} {cy : Nat → ClassId} {ad : Nat → Nat → Nat} {ns : List (Nat × Nat)} {A : Nat → Prop} {M : Mem} (hN : NsC ns) {a1 : Int32} {a2 : Int32} {a3 : Int32} {a4 : Bool} {r : Int64} (hX : f_X9_enough a1 a2 a3 a4 = some r) : Ct l yX9_enough cX9_enough 8 ((some .long)) rm_X9_enough D cy ad ns A [.ref (ad 0 0), .int a1, .int a2, .int a3, .int (b2i a4)] M M (some (.long r)) := by
  refine ct_of (lv := [(0, .ref (ad 0 0)), (1, .int a1), (2, .int a2), (3, .int a3), (4, .int (b2i a4))]) (by decide) (Nat.le_of_ble_eq_true rfl) rfl ?_
  intro p e s m args below meth c ls X hl hS
  obtain ⟨hx, hb, hml, hown, hts, hK, hr, hlk, hA, hG⟩ := id X
  obtain ⟨H, hH⟩ : ∃ z, z = s.heap := ⟨_, rfl⟩
  obtain ⟨locs, hlo⟩ : ∃ z : List Loc, z = [] := ⟨_, rfl⟩
  have hS : St D cy ad ns A M s.heap H locs := by rw [hH, hlo]; exact hS
  have hgoal : W p l e rm_X9_enough s m args below meth c H locs 0 0 (MQ below (QC D cy ad ns A M (some (.long r))) args s 0 0 A) (F0 m 0 ls []) := by
    unfold f_X9_enough at hX
    refine lv_iload_n hx hb dX9_enough_0 rfl (lv_at hl 1 rfl) ?_
    refine lv_iload_n hx hb dX9_enough_1 rfl (lv_at hl 2 rfl) ?_
    obtain ⟨r12, h11, hX⟩ := bn_of hX
    refine r_callS1 (v := .int (b2i r12)) (As := [.int a1, .int a2]) (rest := []) X hS (m_X9_areMonths (M := M) hN h11) ms_X9_areMonths t4_219 ⟨rfl, rfl, Nat.le_of_ble_eq_true rfl, Nat.le_of_ble_eq_true rfl⟩ rfl hl.1 rfl (Nat.le_of_ble_eq_true rfl) ⟨Nat.zero_le _, Nat.zero_le _⟩ dX9_enough_2 (fun H locs hS => ?_)
    refine lv_if_eq (tgt := 18) hx hb dX9_enough_5 (by decide) (fun c13 => ?_) (fun c13 => ?_)
    · have hX := if_bf c13 hX
      refine lv_ldc2 hx hb (own := RX9) hown (hts _ t4_30) dX9_enough_18 ?_
      obtain rfl := some_of hX
      exact x_L (v := (-1 : Int64)) X hS dX9_enough_21
    · have hX := if_bt c13 hX
      refine lv_iload_n hx hb dX9_enough_8 rfl (lv_at hl 3 rfl) ?_
      refine lv_if_lt (tgt := 18) hx hb dX9_enough_9 (by decide) (fun c14 => ?_) (fun c14 => ?_)
      · have hX := if_t c14 hX
        refine lv_ldc2 hx hb (own := RX9) hown (hts _ t4_30) dX9_enough_18 ?_
        obtain rfl := some_of hX
        exact x_L (v := (-1 : Int64)) X hS dX9_enough_21
      · have hX := if_f c14 hX
        refine lv_iload_n hx hb dX9_enough_12 rfl (lv_at hl 3 rfl) ?_
        refine lv_bipush (v := nI 12) hx hb dX9_enough_13 (by decide) ?_
        refine lv_icmp_le (tgt := 22) hx hb dX9_enough_15 (by decide) (fun c15 => ?_) (fun c15 => ?_)
        · have hX := if_t c15 hX
          refine lv_lconst (v := lN 0) hx hb dX9_enough_22 (by decide) ?_
          refine lv_topl (fun v16 ev16 => ?_)
          have hX := nm_of ev16 hX
          refine lv_lstore (lv' := [(5, .long v16), (0, .ref (ad 0 0)), (1, .int a1), (2, .int a2), (3, .int a3), (4, .int (b2i a4))]) hx hb dX9_enough_23 hl (by decide) rfl (fun ls hl => ?_)
          refine lv_iconst (v := nI 0) hx hb dX9_enough_25 (by decide) ?_
          refine lv_istore (lv' := [(7, .int (nI 0)), (5, .long v16), (0, .ref (ad 0 0)), (1, .int a1), (2, .int a2), (3, .int a3), (4, .int (b2i a4))]) hx hb dX9_enough_26 hl (by decide) rfl (fun ls hl => ?_)
          exact n_X9_enough_28 X hN _ _ _ _ hX _ _ _ (lv_sub hl [3, 4, 5, 6, 1, 0] rfl) hS
        · have hX := if_f c15 hX
          refine lv_ldc2 hx hb (own := RX9) hown (hts _ t4_30) dX9_enough_18 ?_
          obtain rfl := some_of hX
          exact x_L (v := (-1 : Int64)) X hS dX9_enough_21
  rw [hH, hlo] at hgoal
  exact hgoal
theorem mv_X9_enough : Mv yX9_enough RX9 cX9_enough 8 ((some .long)) 4 := ⟨t5_111, t5_109, t5_110, t1_1, ⟨by decide, by decide⟩, by decide +kernel⟩
/-! SewnYear.again(I)Z -/
def rm_X9_again : Room := { frames := 3, cells := 0, slots := 0, locals := 103 }
def f_X9_again (M : Mem) (a1 : Int32) : Option (Bool × Mem) :=
  if a1 < (nI 0) then (some (false, M)) else (if (nI 3) ≤ a1 then (some (false, M)) else (gin a1 3 <| opt (imgAt M (ix a1)) (some (false, M)) fun o4 => (gin a1 3 <| opt (imgAt M (ix a1)) none fun o6 => bn (f_X5_take M 1 o6) fun M8 => some (true, M8))))
set_option maxRecDepth 100000 in
set_option maxHeartbeats 4000000 in
theorem m_X9_again {l : Launch} {D : va_G} {cy : Nat → ClassId} {ad : Nat → Nat → Nat} {ns : List (Nat × Nat)} {A : Nat → Prop} {M : Mem} (hN : NsC ns) {a1 : Int32} {r : Bool × Mem} (hX : f_X9_again M a1 = some r) : Ct l yX9_again cX9_again 2 ((some .boolean)) rm_X9_again D cy ad ns A [.ref (ad 0 0), .int a1] M r.2 (some (.int (b2i r.1))) := by
  refine ct_of (lv := [(0, .ref (ad 0 0)), (1, .int a1)]) (by decide) (Nat.le_of_ble_eq_true rfl) rfl ?_
  intro p e s m args below meth c ls X hl hS
  obtain ⟨hx, hb, hml, hown, hts, hK, hr, hlk, hA, hG⟩ := id X
  obtain ⟨H, hH⟩ : ∃ z, z = s.heap := ⟨_, rfl⟩
  obtain ⟨locs, hlo⟩ : ∃ z : List Loc, z = [] := ⟨_, rfl⟩
  have hS : St D cy ad ns A M s.heap H locs := by rw [hH, hlo]; exact hS
  have hgoal : W p l e rm_X9_again s m args below meth c H locs 0 0 (MQ below (QC D cy ad ns A r.2 (some (.int (b2i r.1)))) args s 0 0 A) (F0 m 0 ls []) := by
    unfold f_X9_again at hX
    refine lv_iload_n hx hb dX9_again_0 rfl (lv_at hl 1 rfl) ?_
    refine lv_if_lt (tgt := 18) hx hb dX9_again_1 (by decide) (fun c1 => ?_) (fun c1 => ?_)
    · have hX := if_t c1 hX
      refine lv_iconst (v := nI 0) hx hb dX9_again_18 (by decide) ?_
      obtain rfl := some_of hX
      exact x_Z (v := false) X hS dX9_again_19
    · have hX := if_f c1 hX
      refine lv_iload_n hx hb dX9_again_4 rfl (lv_at hl 1 rfl) ?_
      refine lv_iconst (v := nI 3) hx hb dX9_again_5 (by decide) ?_
      refine lv_icmp_ge (tgt := 18) hx hb dX9_again_6 (by decide) (fun c2 => ?_) (fun c2 => ?_)
      · have hX := if_t c2 hX
        refine lv_iconst (v := nI 0) hx hb dX9_again_18 (by decide) ?_
        obtain rfl := some_of hX
        exact x_Z (v := false) X hS dX9_again_19
      · have hX := if_f c2 hX
        refine lv_aload_n hx hb dX9_again_9 rfl (lv_at hl 0 rfl) ?_
        refine fg_X9_16 X hS (o_of hN (o := 0) (c := 9) (by decide) rfl) dX9_again_10 ?_
        refine lv_iload_n hx hb dX9_again_13 rfl (lv_at hl 1 rfl) ?_
        obtain ⟨g3, hX⟩ := gin_of hX
        refine r_imgld X hS (o_of hN (o := 0) (c := 9) (by decide) rfl) g3 dX9_again_14 ?_
        rcases ho4 : (imgAt M (ix a1)) with _ | o4
        · have hX := opt_nE ho4 hX
          refine lv_ifnonnullN hx hb dX9_again_15 ?_
          refine lv_iconst (v := nI 0) hx hb dX9_again_18 (by decide) ?_
          obtain rfl := some_of hX
          exact x_Z (v := false) X hS dX9_again_19
        · have hX := opt_sE ho4 hX
          refine lv_ifnonnull (tgt := 20) hx hb dX9_again_15 (by decide) ?_
          refine lv_aload_n hx hb dX9_again_20 rfl (lv_at hl 0 rfl) ?_
          refine fg_X9_12 X hS (o_of hN (o := 0) (c := 9) (by decide) rfl) dX9_again_21 ?_
          refine lv_aload_n hx hb dX9_again_24 rfl (lv_at hl 0 rfl) ?_
          refine fg_X9_16 X hS (o_of hN (o := 0) (c := 9) (by decide) rfl) dX9_again_25 ?_
          refine lv_iload_n hx hb dX9_again_28 rfl (lv_at hl 1 rfl) ?_
          obtain ⟨g5, hX⟩ := gin_of hX
          refine r_imgld X hS (o_of hN (o := 0) (c := 9) (by decide) rfl) g5 dX9_again_29 ?_
          obtain ⟨o6, ho6, hX⟩ := optn_of hX
          rw [ho6]
          have qo6 := wr_img hN hS g5 ho6
          obtain ⟨M8, h7, hX⟩ := bn_of hX
          refine r_callV0 (As := [.ref (ad o6 0)]) (rest := []) X hS (m_X5_take hN (o_of hN (o := 1) (c := 5) (by decide) rfl) qo6 h7) mv_X5_take rfl (o_of hN (o := 1) (c := 5) (by decide) rfl) t5_117 ⟨rfl, rfl, Nat.le_of_ble_eq_true rfl, Nat.le_of_ble_eq_true rfl⟩ rfl hl.1 rfl (Nat.le_of_ble_eq_true rfl) ⟨Nat.zero_le _, Nat.zero_le _⟩ dX9_again_30 (fun H locs hS => ?_)
          refine lv_iconst (v := nI 1) hx hb dX9_again_33 (by decide) ?_
          obtain rfl := some_of hX
          exact x_Z (v := true) X hS dX9_again_34
  rw [hH, hlo] at hgoal
  exact hgoal
theorem mv_X9_again : Mv yX9_again RX9 cX9_again 2 ((some .boolean)) 1 := ⟨t5_125, t5_123, t5_124, t1_1, ⟨by decide, by decide⟩, by decide +kernel⟩
end MT_25_X9d
