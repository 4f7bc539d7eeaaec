section FR_30_M3
variable {p : Program} {l : Launch} {e : Env} {R : Room} {s : State} {m : MethodId} {args : Array Value} {below : List Frame} {meth : Method} {c : Code} {H : Heap} {locs : List Loc} {cells slots : Nat} {Q : State → Prop} {D : va_G} {cy : Nat → ClassId} {ad : Nat → Nat → Nat} {ns : List (Nat × Nat)} {A : Nat → Prop} {M M' : Mem} {cc : ByteArray} {nL : Nat} {ret : Option FieldType} {pc : Nat} {ls : Array Slot} {rest : List Value}
theorem fg_X10_81 (X : Cx p s m args meth c D cy ad A RX10 cc nL ret) (hS : St D cy ad ns A M s.heap H locs) (ho : Ob ns 10 100) (hdg : decode cc pc = .ok (.getfield 81, 3)) (kk : W p l e R s m args below meth c H locs cells slots Q (F0 m (pc + 3) ls (.ref (ad 100 (54 + 1)) :: rest))) : W p l e R s m args below meth c H locs cells slots Q (F0 m pc ls (.ref (ad 100 0) :: rest)) := r_get X hS (C := RX10) (T := TX10) (N := 58) (k := 54) tf10 rfl rfl ho (by decide) t5_186 ⟨rfl, rfl, rfl⟩ rfl hdg kk
theorem fg_X10_84 (X : Cx p s m args meth c D cy ad A RX10 cc nL ret) (hS : St D cy ad ns A M s.heap H locs) (ho : Ob ns 10 100) (hdg : decode cc pc = .ok (.getfield 84, 3)) (kk : W p l e R s m args below meth c H locs cells slots Q (F0 m (pc + 3) ls (.ref (ad 100 (55 + 1)) :: rest))) : W p l e R s m args below meth c H locs cells slots Q (F0 m pc ls (.ref (ad 100 0) :: rest)) := r_get X hS (C := RX10) (T := TX10) (N := 58) (k := 55) tf10 rfl rfl ho (by decide) t5_187 ⟨rfl, rfl, rfl⟩ rfl hdg kk
theorem fg_X10_87 (X : Cx p s m args meth c D cy ad A RX10 cc nL ret) (hS : St D cy ad ns A M s.heap H locs) (ho : Ob ns 10 100) (hdg : decode cc pc = .ok (.getfield 87, 3)) (kk : W p l e R s m args below meth c H locs cells slots Q (F0 m (pc + 3) ls (.ref (ad 100 (56 + 1)) :: rest))) : W p l e R s m args below meth c H locs cells slots Q (F0 m pc ls (.ref (ad 100 0) :: rest)) := r_get X hS (C := RX10) (T := TX10) (N := 58) (k := 56) tf10 rfl rfl ho (by decide) t5_188 ⟨rfl, rfl, rfl⟩ rfl hdg kk
theorem fg_X10_90 (X : Cx p s m args meth c D cy ad A RX10 cc nL ret) (hS : St D cy ad ns A M s.heap H locs) (ho : Ob ns 10 100) (hdg : decode cc pc = .ok (.getfield 90, 3)) (kk : W p l e R s m args below meth c H locs cells slots Q (F0 m (pc + 3) ls (.ref (ad 100 (57 + 1)) :: rest))) : W p l e R s m args below meth c H locs cells slots Q (F0 m pc ls (.ref (ad 100 0) :: rest)) := r_get X hS (C := RX10) (T := TX10) (N := 58) (k := 57) tf10 rfl rfl ho (by decide) t5_189 ⟨rfl, rfl, rfl⟩ rfl hdg kk
theorem fg_X10_536 (X : Cx p s m args meth c D cy ad A RX10 cc nL ret) (hS : St D cy ad ns A M s.heap H locs) (ho : Ob ns 10 100) (hdg : decode cc pc = .ok (.getfield 536, 3)) (kk : W p l e R s m args below meth c H locs cells slots Q (F0 m (pc + 3) ls (.int (gI M 100 53) :: rest))) : W p l e R s m args below meth c H locs cells slots Q (F0 m pc ls (.ref (ad 100 0) :: rest)) := r_get X hS (C := RX10) (T := TX10) (N := 58) (k := 53) tf10 rfl rfl ho (by decide) t5_185 ⟨rfl, rfl, rfl⟩ rfl hdg kk
theorem fp_X10_536 (X : Cx p s m args meth c D cy ad A RX10 cc nL ret) (hS : St D cy ad ns A M s.heap H locs) (ho : Ob ns 10 100) {v : Int32} (hdg : decode cc pc = .ok (.putfield 536, 3)) (kk : ∀ (H1 : Heap) (locs1 : List Loc), St D cy ad ns A (sI M 100 53 v) s.heap H1 locs1 → W p l e R s m args below meth c H1 locs1 cells slots Q (F0 m (pc + 3) ls rest)) : W p l e R s m args below meth c H locs cells slots Q (F0 m pc ls (.int v :: .ref (ad 100 0) :: rest)) := r_put X hS (C := RX10) (T := TX10) (N := 58) (k := 53) tf10 rfl rfl tyX10 tyX10_ok nmX10 ho (by decide) t5_185 ⟨rfl, rfl, rfl⟩ rfl (ty := .int) (by decide +kernel) rfl rfl (wr_sI hS.1.2.2) (cel_sI (by decide) rfl) (fun q hq => cel_sI' hq) hdg kk
end FR_30_M3
section MT_30_M3
variable {p : Program} {l : Launch} {e : Env} {s : State} {m : MethodId} {args : Array Value} {below : List Frame} {meth : Method} {c : Code} {D : va_G} {cy : Nat → ClassId} {ad : Nat → Nat → Nat} {ns : List (Nat × Nat)} {A : Nat → Prop}
/-! SewnYearModel.aheadOf(II)J -/
def rm_X10_aheadOf : Room := { frames := 3, cells := 0, slots := 0, locals := 69 }
def f_X10_aheadOf_56 (M : Mem) (a1 : Int32) (a2 : Int32) (k_57 : Int32 → Int64 → Int64 → Option (Int64)) (v_5 : Int32) (s_0 : Int64) : Option (Int64) :=
  k_57 v_5 s_0 (lN 0)
def f_X10_aheadOf_57 (M : Mem) (a1 : Int32) (a2 : Int32) (k_5 : Int64 → Int32 → Option (Int64)) (v_5 : Int32) (s_0 : Int64) (s_1 : Int64) : Option (Int64) :=
  nm (s_0 + s_1) fun v1 => nm (v_5 + nI 1) fun v2 => k_5 v1 v2
def b_X10_aheadOf_5 (M : Mem) (a1 : Int32) (a2 : Int32) (rc : Int64 → Int32 → Option (Int64)) (v_3 : Int64) (v_5 : Int32) : Option (Int64) :=
  if (gI M 100 35) ≤ v_5 then (some v_3) else (bn (f_X10_has v_5 a1) fun r5 => if r5 = true then (bn (f_X10_isSo M v_5 a2) fun r8 => if r8 = true then (gin v_5 512 <| gin (v_5 ||| ((nI 1) <<< (a2 &&& 31))) 512 <| f_X10_aheadOf_57 M a1 a2 rc v_5 v_3 ((gB M 100 51 (ix v_5)) * (gB M 100 52 (ix (v_5 ||| ((nI 1) <<< (a2 &&& 31))))))) else (f_X10_aheadOf_56 M a1 a2 (fun x0 x1 x2 => f_X10_aheadOf_57 M a1 a2 rc x0 x1 x2) v_5 v_3)) else (f_X10_aheadOf_56 M a1 a2 (fun x0 x1 x2 => f_X10_aheadOf_57 M a1 a2 rc x0 x1 x2) v_5 v_3))
def f_X10_aheadOf_5 (M : Mem) (a1 : Int32) (a2 : Int32) : Nat → (Int64 × Int32) → Option (Int64) := lp (fun rc q => b_X10_aheadOf_5 M a1 a2 (fun x0 x1 => rc (x0, x1)) q.1 q.2)
def f_X10_aheadOf (M : Mem) (a1 : Int32) (a2 : Int32) : Option (Int64) :=
  nm (lN 0) fun v12 => f_X10_aheadOf_5 M a1 a2 FU (v12, (nI 0))
set_option maxRecDepth 100000 in
set_option maxHeartbeats 4000000 in
theorem n_X10_aheadOf_56 {a1 : Int32} {a2 : Int32} (X : Cx p s m args meth c D cy ad A RX10 cX10_aheadOf 6 ((some .long))) (hN : Ob ns 10 100) {M : Mem} {k_57 : Int32 → Int64 → Int64 → Option (Int64)} {v_5 : Int32} {s_0 : Int64} {r : Int64} (hX : f_X10_aheadOf_56 M a1 a2 k_57 v_5 s_0 = some r) : (∀ (v_5 : Int32) (s_0 : Int64) (s_1 : Int64) (r : Int64), k_57 v_5 s_0 s_1 = some r → ∀ (ls : Array Slot) (H : Heap) (locs : List Loc), lv_has ls 6 [(0, .ref (ad 100 0)), (1, .int a1), (2, .int a2), (5, .int v_5)] → St D cy ad ns A M s.heap H locs → W p l e rm_X10_aheadOf s m args below meth c H locs 0 0 (MQ below (QC D cy ad ns A M (some (.long r))) args s 0 0 A) (F0 m 57 ls [.long s_1, .long s_0])) → ∀ (ls : Array Slot) (H : Heap) (locs : List Loc), lv_has ls 6 [(0, .ref (ad 100 0)), (1, .int a1), (2, .int a2), (5, .int v_5)] → St D cy ad ns A M s.heap H locs → W p l e rm_X10_aheadOf s m args below meth c H locs 0 0 (MQ below (QC D cy ad ns A M (some (.long r))) args s 0 0 A) (F0 m 56 ls [.long s_0]) := by
  obtain ⟨hx, hb, hml, hown, hts, hK, hr, hlk, hA, hG⟩ := id X
  intro hk_57 ls H locs hl hS
  unfold f_X10_aheadOf_56 at hX
  refine lv_lconst (v := lN 0) hx hb dX10_aheadOf_56 (by decide) ?_
  exact hk_57 _ _ _ _ hX _ _ _ (lv_sub hl [0, 1, 2, 3] rfl) hS
set_option maxRecDepth 100000 in
set_option maxHeartbeats 4000000 in
theorem n_X10_aheadOf_57 {a1 : Int32} {a2 : Int32} (X : Cx p s m args meth c D cy ad A RX10 cX10_aheadOf 6 ((some .long))) (hN : Ob ns 10 100) {M : Mem} {k_5 : Int64 → Int32 → Option (Int64)} {v_5 : Int32} {s_0 : Int64} {s_1 : Int64} {r : Int64} (hX : f_X10_aheadOf_57 M a1 a2 k_5 v_5 s_0 s_1 = some r) : (∀ (v_3 : Int64) (v_5 : Int32) (r : Int64), k_5 v_3 v_5 = some r → ∀ (ls : Array Slot) (H : Heap) (locs : List Loc), lv_has ls 6 [(0, .ref (ad 100 0)), (1, .int a1), (2, .int a2), (3, .long v_3), (5, .int v_5)] → St D cy ad ns A M s.heap H locs → W p l e rm_X10_aheadOf s m args below meth c H locs 0 0 (MQ below (QC D cy ad ns A M (some (.long r))) args s 0 0 A) (F0 m 5 ls [])) → ∀ (ls : Array Slot) (H : Heap) (locs : List Loc), lv_has ls 6 [(0, .ref (ad 100 0)), (1, .int a1), (2, .int a2), (5, .int v_5)] → St D cy ad ns A M s.heap H locs → W p l e rm_X10_aheadOf s m args below meth c H locs 0 0 (MQ below (QC D cy ad ns A M (some (.long r))) args s 0 0 A) (F0 m 57 ls [.long s_1, .long s_0]) := by
  obtain ⟨hx, hb, hml, hown, hts, hK, hr, hlk, hA, hG⟩ := id X
  intro hk_5 ls H locs hl hS
  unfold f_X10_aheadOf_57 at hX
  refine lv_ladd hx hb dX10_aheadOf_57 ?_
  refine lv_topl (fun v1 ev1 => ?_)
  have hX := nm_of ev1 hX
  refine lv_lstore_n (lv' := [(3, .long v1), (0, .ref (ad 100 0)), (1, .int a1), (2, .int a2), (5, .int v_5)]) hx hb dX10_aheadOf_58 rfl hl (by decide) rfl (fun ls hl => ?_)
  obtain ⟨v2, ev2⟩ : ∃ y : Int32, y = (v_5 + nI 1) := ⟨_, rfl⟩
  have hX := nm_of ev2 hX
  refine lv_iinc (v := v2) (lv' := [(5, .int v2), (3, .long v1), (0, .ref (ad 100 0)), (1, .int a1), (2, .int a2)]) hx hb dX10_aheadOf_59 hl (k := 4) rfl (by rw [ev2]; rfl) (by decide) rfl (fun ls hl => ?_)
  refine lv_goto (tgt := 5) hx hb dX10_aheadOf_62 (by decide) ?_
  exact hk_5 _ _ _ hX _ _ _ (lv_sub hl [2, 3, 4, 1, 0] rfl) hS
set_option maxRecDepth 100000 in
set_option maxHeartbeats 4000000 in
theorem n_X10_aheadOf_5 {a1 : Int32} {a2 : Int32} (X : Cx p s m args meth c D cy ad A RX10 cX10_aheadOf 6 ((some .long))) (hN : Ob ns 10 100) {M : Mem} : ∀ (n : Nat) (v_3 : Int64) (v_5 : Int32) (r : Int64), f_X10_aheadOf_5 M a1 a2 n (v_3, v_5) = some r → ∀ (ls : Array Slot) (H : Heap) (locs : List Loc), lv_has ls 6 [(0, .ref (ad 100 0)), (1, .int a1), (2, .int a2), (3, .long v_3), (5, .int v_5)] → St D cy ad ns A M s.heap H locs → W p l e rm_X10_aheadOf s m args below meth c H locs 0 0 (MQ below (QC D cy ad ns A M (some (.long r))) args s 0 0 A) (F0 m 5 ls []) := by
  obtain ⟨hx, hb, hml, hown, hts, hK, hr, hlk, hA, hG⟩ := id X
  intro n
  induction n with
  | zero => intro v_3 v_5 r hX; cases (show (none : Option (Int64)) = some r from hX)
  | succ n ih =>
    intro v_3 v_5 r hX ls H locs hl hS
    have hX : b_X10_aheadOf_5 M a1 a2 (fun x0 x1 => f_X10_aheadOf_5 M a1 a2 n (x0, x1)) v_3 v_5 = some r := hX
    unfold b_X10_aheadOf_5 at hX
    refine lv_iload hx hb dX10_aheadOf_5 (lv_at hl 4 rfl) ?_
    refine lv_aload_n hx hb dX10_aheadOf_7 rfl (lv_at hl 0 rfl) ?_
    refine fg_X10_362 X hS (hN) dX10_aheadOf_8 ?_
    refine lv_icmp_ge (tgt := 65) hx hb dX10_aheadOf_11 (by decide) (fun c3 => ?_) (fun c3 => ?_)
    · have hX := if_t c3 hX
      refine lv_lload_n hx hb dX10_aheadOf_65 rfl (lv_at hl 3 rfl) ?_
      obtain rfl := some_of hX
      exact x_L (v := v_3) X hS dX10_aheadOf_66
    · have hX := if_f c3 hX
      refine lv_lload_n hx hb dX10_aheadOf_14 rfl (lv_at hl 3 rfl) ?_
      refine lv_iload hx hb dX10_aheadOf_15 (lv_at hl 4 rfl) ?_
      refine lv_iload_n hx hb dX10_aheadOf_17 rfl (lv_at hl 1 rfl) ?_
      obtain ⟨r5, h4, hX⟩ := bn_of hX
      refine r_callS1 (v := .int (b2i r5)) (As := [.int v_5, .int a1]) (rest := [.long v_3]) X hS (m_X10_has (M := M) hN h4) ms_X10_has t7_36 ⟨rfl, rfl, Nat.le_of_ble_eq_true rfl, Nat.le_of_ble_eq_true rfl⟩ rfl hl.1 rfl (Nat.le_of_ble_eq_true rfl) ⟨Nat.zero_le _, Nat.zero_le _⟩ dX10_aheadOf_18 (fun H locs hS => ?_)
      refine lv_if_eq (tgt := 56) hx hb dX10_aheadOf_21 (by decide) (fun c6 => ?_) (fun c6 => ?_)
      · have hX := if_bf c6 hX
        exact n_X10_aheadOf_56 X hN hX (fun z0 z1 z2 r h ls H locs hl hS => n_X10_aheadOf_57 X hN h (fun z0 z1 r h ls H locs hl hS => ih z0 z1 r h ls H locs hl hS) _ _ _ hl hS) _ _ _ (lv_sub hl [0, 1, 2, 4] rfl) hS
      · have hX := if_bt c6 hX
        refine lv_aload_n hx hb dX10_aheadOf_24 rfl (lv_at hl 0 rfl) ?_
        refine lv_iload hx hb dX10_aheadOf_25 (lv_at hl 4 rfl) ?_
        refine lv_iload_n hx hb dX10_aheadOf_27 rfl (lv_at hl 2 rfl) ?_
        obtain ⟨r8, h7, hX⟩ := bn_of hX
        refine r_callV1 (v := .int (b2i r8)) (As := [.int v_5, .int a2]) (rest := [.long v_3]) X hS (m_X10_isSo hN h7) mv_X10_isSo rfl (hN) t8_31 ⟨rfl, rfl, Nat.le_of_ble_eq_true rfl, Nat.le_of_ble_eq_true rfl⟩ rfl hl.1 rfl (Nat.le_of_ble_eq_true rfl) ⟨Nat.zero_le _, Nat.zero_le _⟩ dX10_aheadOf_28 (fun H locs hS => ?_)
        refine lv_if_eq (tgt := 56) hx hb dX10_aheadOf_31 (by decide) (fun c9 => ?_) (fun c9 => ?_)
        · have hX := if_bf c9 hX
          exact n_X10_aheadOf_56 X hN hX (fun z0 z1 z2 r h ls H locs hl hS => n_X10_aheadOf_57 X hN h (fun z0 z1 r h ls H locs hl hS => ih z0 z1 r h ls H locs hl hS) _ _ _ hl hS) _ _ _ (lv_sub hl [0, 1, 2, 4] rfl) hS
        · have hX := if_bt c9 hX
          refine lv_aload_n hx hb dX10_aheadOf_34 rfl (lv_at hl 0 rfl) ?_
          refine fg_X10_75 X hS (hN) dX10_aheadOf_35 ?_
          refine lv_iload hx hb dX10_aheadOf_38 (lv_at hl 4 rfl) ?_
          obtain ⟨g10, hX⟩ := gin_of hX
          refine r_lald (ci := 10) (o := 100) (k := 51) (n := 512) X hS (hN) rfl rfl g10 dX10_aheadOf_40 ?_
          refine lv_aload_n hx hb dX10_aheadOf_41 rfl (lv_at hl 0 rfl) ?_
          refine fg_X10_78 X hS (hN) dX10_aheadOf_42 ?_
          refine lv_iload hx hb dX10_aheadOf_45 (lv_at hl 4 rfl) ?_
          refine lv_iconst (v := nI 1) hx hb dX10_aheadOf_47 (by decide) ?_
          refine lv_iload_n hx hb dX10_aheadOf_48 rfl (lv_at hl 2 rfl) ?_
          refine lv_ishl hx hb dX10_aheadOf_49 ?_
          refine lv_ior hx hb dX10_aheadOf_50 ?_
          obtain ⟨g11, hX⟩ := gin_of hX
          refine r_lald (ci := 10) (o := 100) (k := 52) (n := 512) X hS (hN) rfl rfl g11 dX10_aheadOf_51 ?_
          refine lv_lmul hx hb dX10_aheadOf_52 ?_
          refine lv_goto (tgt := 57) hx hb dX10_aheadOf_53 (by decide) ?_
          exact n_X10_aheadOf_57 X hN hX (fun z0 z1 r h ls H locs hl hS => ih z0 z1 r h ls H locs hl hS) _ _ _ (lv_sub hl [0, 1, 2, 4] rfl) hS
set_option maxRecDepth 100000 in
set_option maxHeartbeats 4000000 in
theorem m_X10_aheadOf {l : Launch} {D : va_G} {cy : Nat → ClassId} {ad : Nat → Nat → Nat} {ns : List (Nat × Nat)} {A : Nat → Prop} {M : Mem} (hN : Ob ns 10 100) {a1 : Int32} {a2 : Int32} {r : Int64} (hX : f_X10_aheadOf M a1 a2 = some r) : Ct l yX10_aheadOf cX10_aheadOf 6 ((some .long)) rm_X10_aheadOf D cy ad ns A [.ref (ad 100 0), .int a1, .int a2] M M (some (.long r)) := by
  refine ct_of (lv := [(0, .ref (ad 100 0)), (1, .int a1), (2, .int a2)]) (by decide) (Nat.le_of_ble_eq_true rfl) rfl ?_
  intro p e s m args below meth c ls X hl hS
  obtain ⟨hx, hb, hml, hown, hts, hK, hr, hlk, hA, hG⟩ := id X
  obtain ⟨H, hH⟩ : ∃ z, z = s.heap := ⟨_, rfl⟩
  obtain ⟨locs, hlo⟩ : ∃ z : List Loc, z = [] := ⟨_, rfl⟩
  have hS : St D cy ad ns A M s.heap H locs := by rw [hH, hlo]; exact hS
  have hgoal : W p l e rm_X10_aheadOf s m args below meth c H locs 0 0 (MQ below (QC D cy ad ns A M (some (.long r))) args s 0 0 A) (F0 m 0 ls []) := by
    unfold f_X10_aheadOf at hX
    refine lv_lconst (v := lN 0) hx hb dX10_aheadOf_0 (by decide) ?_
    refine lv_topl (fun v12 ev12 => ?_)
    have hX := nm_of ev12 hX
    refine lv_lstore_n (lv' := [(3, .long v12), (0, .ref (ad 100 0)), (1, .int a1), (2, .int a2)]) hx hb dX10_aheadOf_1 rfl hl (by decide) rfl (fun ls hl => ?_)
    refine lv_iconst (v := nI 0) hx hb dX10_aheadOf_2 (by decide) ?_
    refine lv_istore (lv' := [(5, .int (nI 0)), (3, .long v12), (0, .ref (ad 100 0)), (1, .int a1), (2, .int a2)]) hx hb dX10_aheadOf_3 hl (by decide) rfl (fun ls hl => ?_)
    exact n_X10_aheadOf_5 X hN _ _ _ _ hX _ _ _ (lv_sub hl [2, 3, 4, 1, 0] rfl) hS
  rw [hH, hlo] at hgoal
  exact hgoal
theorem mv_X10_aheadOf : Mv yX10_aheadOf RX10 cX10_aheadOf 6 ((some .long)) 2 := ⟨t8_50, t8_49, ts_88, t1_11, ⟨by decide, by decide⟩, by decide +kernel⟩
/-! SewnYearModel.ask()I -/
def rm_X10_ask : Room := { frames := 4, cells := 0, slots := 0, locals := 94 }
def f_X10_ask_120 (M : Mem) (v_4 : Int32) (k_22 : Int32 → Int64 → Int32 → Option (Int32)) (v_1 : Int32) (v_5 : Int32) (s_0 : Int64) : Option (Int32) :=
  nm (v_5 + nI 1) fun v1 => k_22 v_1 s_0 v1
def f_X10_ask_108 (M : Mem) (v_4 : Int32) (k_22 : Int32 → Int64 → Int32 → Option (Int32)) (v_2 : Int64) (v_5 : Int32) (v_8 : Int64) (v_10 : Bool) (s_0 : Int32) : Option (Int32) :=
  if v_10 = true then (f_X10_ask_120 M v_4 k_22 s_0 v_5 v_8) else (f_X10_ask_120 M v_4 k_22 s_0 v_5 v_2)
def f_X10_ask_84 (M : Mem) (v_4 : Int32) (k_89 : Int32 → Int64 → Int32 → Int64 → Bool → Option (Int32)) (v_1 : Int32) (v_2 : Int64) (v_5 : Int32) (v_8 : Int64) : Option (Int32) :=
  k_89 v_1 v_2 v_5 v_8 true
def f_X10_ask_89 (M : Mem) (v_4 : Int32) (k_22 : Int32 → Int64 → Int32 → Option (Int32)) (v_1 : Int32) (v_2 : Int64) (v_5 : Int32) (v_8 : Int64) (s_0 : Bool) : Option (Int32) :=
  if s_0 = true then (f_X10_ask_108 M v_4 k_22 v_2 v_5 v_8 s_0 (((nI 9) * v_4) + v_5)) else (f_X10_ask_108 M v_4 k_22 v_2 v_5 v_8 s_0 v_1)
def f_X10_ask_70 (M : Mem) (v_4 : Int32) (k_22 : Int32 → Int64 → Int32 → Option (Int32)) (v_1 : Int32) (v_2 : Int64) (v_5 : Int32) (s_0 : Int64) : Option (Int32) :=
  if v_1 = (-1) then (f_X10_ask_84 M v_4 (fun x0 x1 x2 x3 x4 => f_X10_ask_89 M v_4 k_22 x0 x1 x2 x3 x4) v_1 v_2 v_5 s_0) else (if (nI 0) ≤ (lg_cmp s_0 v_2) then (f_X10_ask_89 M v_4 k_22 v_1 v_2 v_5 s_0 false) else (f_X10_ask_84 M v_4 (fun x0 x1 x2 x3 x4 => f_X10_ask_89 M v_4 k_22 x0 x1 x2 x3 x4) v_1 v_2 v_5 s_0))
def b_X10_ask_22 (M : Mem) (k_7 : Int32 → Int64 → Int32 → Option (Int32)) (v_4 : Int32) (rc : Int32 → Int64 → Int32 → Option (Int32)) (v_1 : Int32) (v_2 : Int64) (v_5 : Int32) : Option (Int32) :=
  if (gI M 100 24) ≤ v_5 then (nm (v_4 + nI 1) fun v7 => k_7 v_1 v_2 v7) else (bn (f_X10_aheadOf M v_4 v_5) fun r9 => gin (nI 0) 512 <| if (lg_cmp r9 ((gB M 100 52 (ix (nI 0))) - r9)) ≤ (nI 0) then (gin (nI 0) 512 <| f_X10_ask_70 M v_4 rc v_1 v_2 v_5 ((gB M 100 52 (ix (nI 0))) - r9)) else (f_X10_ask_70 M v_4 rc v_1 v_2 v_5 r9))
def f_X10_ask_22 (M : Mem) (k_7 : Int32 → Int64 → Int32 → Option (Int32)) (v_4 : Int32) : Nat → (Int32 × Int64 × Int32) → Option (Int32) := lp (fun rc q => b_X10_ask_22 M k_7 v_4 (fun x0 x1 x2 => rc (x0, x1, x2)) q.1 q.2.1 q.2.2)
def b_X10_ask_7 (M : Mem) (rc : Int32 → Int64 → Int32 → Option (Int32)) (v_1 : Int32) (v_2 : Int64) (v_4 : Int32) : Option (Int32) :=
  if (gI M 100 24) ≤ v_4 then (some v_1) else (nm (v_4 + (nI 1)) fun v14 => f_X10_ask_22 M rc v_4 FU (v_1, v_2, v14))
def f_X10_ask_7 (M : Mem) : Nat → (Int32 × Int64 × Int32) → Option (Int32) := lp (fun rc q => b_X10_ask_7 M (fun x0 x1 x2 => rc (x0, x1, x2)) q.1 q.2.1 q.2.2)
def f_X10_ask (M : Mem) : Option (Int32) :=
  nm (lN 0) fun v15 => f_X10_ask_7 M FU ((-1), v15, (nI 0))
set_option maxRecDepth 100000 in
set_option maxHeartbeats 4000000 in
theorem n_X10_ask_120 {v_4 : Int32} (X : Cx p s m args meth c D cy ad A RX10 cX10_ask 11 ((some .int))) (hN : Ob ns 10 100) {M : Mem} {k_22 : Int32 → Int64 → Int32 → Option (Int32)} {v_1 : Int32} {v_5 : Int32} {s_0 : Int64} {r : Int32} (hX : f_X10_ask_120 M v_4 k_22 v_1 v_5 s_0 = some r) : (∀ (v_1 : Int32) (v_2 : Int64) (v_5 : Int32) (r : Int32), k_22 v_1 v_2 v_5 = some r → ∀ (ls : Array Slot) (H : Heap) (locs : List Loc), lv_has ls 11 [(0, .ref (ad 100 0)), (1, .int v_1), (2, .long v_2), (4, .int v_4), (5, .int v_5)] → St D cy ad ns A M s.heap H locs → W p l e rm_X10_ask s m args below meth c H locs 0 0 (MQ below (QC D cy ad ns A M (some (.int r))) args s 0 0 A) (F0 m 22 ls [])) → ∀ (ls : Array Slot) (H : Heap) (locs : List Loc), lv_has ls 11 [(0, .ref (ad 100 0)), (1, .int v_1), (4, .int v_4), (5, .int v_5)] → St D cy ad ns A M s.heap H locs → W p l e rm_X10_ask s m args below meth c H locs 0 0 (MQ below (QC D cy ad ns A M (some (.int r))) args s 0 0 A) (F0 m 120 ls [.long s_0]) := by
  obtain ⟨hx, hb, hml, hown, hts, hK, hr, hlk, hA, hG⟩ := id X
  intro hk_22 ls H locs hl hS
  unfold f_X10_ask_120 at hX
  refine lv_lstore_n (lv' := [(2, .long s_0), (0, .ref (ad 100 0)), (1, .int v_1), (4, .int v_4), (5, .int v_5)]) hx hb dX10_ask_120 rfl hl (by decide) rfl (fun ls hl => ?_)
  obtain ⟨v1, ev1⟩ : ∃ y : Int32, y = (v_5 + nI 1) := ⟨_, rfl⟩
  have hX := nm_of ev1 hX
  refine lv_iinc (v := v1) (lv' := [(5, .int v1), (2, .long s_0), (0, .ref (ad 100 0)), (1, .int v_1), (4, .int v_4)]) hx hb dX10_ask_121 hl (k := 4) rfl (by rw [ev1]; rfl) (by decide) rfl (fun ls hl => ?_)
  refine lv_goto (tgt := 22) hx hb dX10_ask_124 (by decide) ?_
  exact hk_22 _ _ _ _ hX _ _ _ (lv_sub hl [2, 3, 1, 4, 0] rfl) hS
set_option maxRecDepth 100000 in
set_option maxHeartbeats 4000000 in
theorem n_X10_ask_108 {v_4 : Int32} (X : Cx p s m args meth c D cy ad A RX10 cX10_ask 11 ((some .int))) (hN : Ob ns 10 100) {M : Mem} {k_22 : Int32 → Int64 → Int32 → Option (Int32)} {v_2 : Int64} {v_5 : Int32} {v_8 : Int64} {v_10 : Bool} {s_0 : Int32} {r : Int32} (hX : f_X10_ask_108 M v_4 k_22 v_2 v_5 v_8 v_10 s_0 = some r) : (∀ (v_1 : Int32) (v_2 : Int64) (v_5 : Int32) (r : Int32), k_22 v_1 v_2 v_5 = some r → ∀ (ls : Array Slot) (H : Heap) (locs : List Loc), lv_has ls 11 [(0, .ref (ad 100 0)), (1, .int v_1), (2, .long v_2), (4, .int v_4), (5, .int v_5)] → St D cy ad ns A M s.heap H locs → W p l e rm_X10_ask s m args below meth c H locs 0 0 (MQ below (QC D cy ad ns A M (some (.int r))) args s 0 0 A) (F0 m 22 ls [])) → ∀ (ls : Array Slot) (H : Heap) (locs : List Loc), lv_has ls 11 [(0, .ref (ad 100 0)), (2, .long v_2), (4, .int v_4), (5, .int v_5), (8, .long v_8), (10, .int (b2i v_10))] → St D cy ad ns A M s.heap H locs → W p l e rm_X10_ask s m args below meth c H locs 0 0 (MQ below (QC D cy ad ns A M (some (.int r))) args s 0 0 A) (F0 m 108 ls [.int s_0]) := by
  obtain ⟨hx, hb, hml, hown, hts, hK, hr, hlk, hA, hG⟩ := id X
  intro hk_22 ls H locs hl hS
  unfold f_X10_ask_108 at hX
  refine lv_istore_n (lv' := [(1, .int s_0), (0, .ref (ad 100 0)), (2, .long v_2), (4, .int v_4), (5, .int v_5), (8, .long v_8), (10, .int (b2i v_10))]) hx hb dX10_ask_108 rfl hl (by decide) rfl (fun ls hl => ?_)
  refine lv_iload hx hb dX10_ask_109 (lv_at hl 6 rfl) ?_
  refine lv_if_eq (tgt := 119) hx hb dX10_ask_111 (by decide) (fun c2 => ?_) (fun c2 => ?_)
  · have hX := if_bf c2 hX
    refine lv_lload_n hx hb dX10_ask_119 rfl (lv_at hl 2 rfl) ?_
    exact n_X10_ask_120 X hN hX hk_22 _ _ _ (lv_sub hl [1, 0, 3, 4] rfl) hS
  · have hX := if_bt c2 hX
    refine lv_lload hx hb dX10_ask_114 (lv_at hl 5 rfl) ?_
    refine lv_goto (tgt := 120) hx hb dX10_ask_116 (by decide) ?_
    exact n_X10_ask_120 X hN hX hk_22 _ _ _ (lv_sub hl [1, 0, 3, 4] rfl) hS
set_option maxRecDepth 100000 in
set_option maxHeartbeats 4000000 in
theorem n_X10_ask_84 {v_4 : Int32} (X : Cx p s m args meth c D cy ad A RX10 cX10_ask 11 ((some .int))) (hN : Ob ns 10 100) {M : Mem} {k_89 : Int32 → Int64 → Int32 → Int64 → Bool → Option (Int32)} {v_1 : Int32} {v_2 : Int64} {v_5 : Int32} {v_8 : Int64} {r : Int32} (hX : f_X10_ask_84 M v_4 k_89 v_1 v_2 v_5 v_8 = some r) : (∀ (v_1 : Int32) (v_2 : Int64) (v_5 : Int32) (v_8 : Int64) (s_0 : Bool) (r : Int32), k_89 v_1 v_2 v_5 v_8 s_0 = some r → ∀ (ls : Array Slot) (H : Heap) (locs : List Loc), lv_has ls 11 [(0, .ref (ad 100 0)), (1, .int v_1), (2, .long v_2), (4, .int v_4), (5, .int v_5), (8, .long v_8)] → St D cy ad ns A M s.heap H locs → W p l e rm_X10_ask s m args below meth c H locs 0 0 (MQ below (QC D cy ad ns A M (some (.int r))) args s 0 0 A) (F0 m 89 ls [.int (b2i s_0)])) → ∀ (ls : Array Slot) (H : Heap) (locs : List Loc), lv_has ls 11 [(0, .ref (ad 100 0)), (1, .int v_1), (2, .long v_2), (4, .int v_4), (5, .int v_5), (8, .long v_8)] → St D cy ad ns A M s.heap H locs → W p l e rm_X10_ask s m args below meth c H locs 0 0 (MQ below (QC D cy ad ns A M (some (.int r))) args s 0 0 A) (F0 m 84 ls []) := by
  obtain ⟨hx, hb, hml, hown, hts, hK, hr, hlk, hA, hG⟩ := id X
  intro hk_89 ls H locs hl hS
  unfold f_X10_ask_84 at hX
  refine lv_iconst (v := nI 1) hx hb dX10_ask_84 (by decide) ?_
  refine lv_goto (tgt := 89) hx hb dX10_ask_85 (by decide) ?_
  exact hk_89 _ _ _ _ _ _ hX _ _ _ (lv_sub hl [0, 1, 2, 3, 4, 5] rfl) hS
set_option maxRecDepth 100000 in
set_option maxHeartbeats 4000000 in
theorem n_X10_ask_89 {v_4 : Int32} (X : Cx p s m args meth c D cy ad A RX10 cX10_ask 11 ((some .int))) (hN : Ob ns 10 100) {M : Mem} {k_22 : Int32 → Int64 → Int32 → Option (Int32)} {v_1 : Int32} {v_2 : Int64} {v_5 : Int32} {v_8 : Int64} {s_0 : Bool} {r : Int32} (hX : f_X10_ask_89 M v_4 k_22 v_1 v_2 v_5 v_8 s_0 = some r) : (∀ (v_1 : Int32) (v_2 : Int64) (v_5 : Int32) (r : Int32), k_22 v_1 v_2 v_5 = some r → ∀ (ls : Array Slot) (H : Heap) (locs : List Loc), lv_has ls 11 [(0, .ref (ad 100 0)), (1, .int v_1), (2, .long v_2), (4, .int v_4), (5, .int v_5)] → St D cy ad ns A M s.heap H locs → W p l e rm_X10_ask s m args below meth c H locs 0 0 (MQ below (QC D cy ad ns A M (some (.int r))) args s 0 0 A) (F0 m 22 ls [])) → ∀ (ls : Array Slot) (H : Heap) (locs : List Loc), lv_has ls 11 [(0, .ref (ad 100 0)), (1, .int v_1), (2, .long v_2), (4, .int v_4), (5, .int v_5), (8, .long v_8)] → St D cy ad ns A M s.heap H locs → W p l e rm_X10_ask s m args below meth c H locs 0 0 (MQ below (QC D cy ad ns A M (some (.int r))) args s 0 0 A) (F0 m 89 ls [.int (b2i s_0)]) := by
  obtain ⟨hx, hb, hml, hown, hts, hK, hr, hlk, hA, hG⟩ := id X
  intro hk_22 ls H locs hl hS
  unfold f_X10_ask_89 at hX
  refine lv_istore (lv' := [(10, .int (b2i s_0)), (0, .ref (ad 100 0)), (1, .int v_1), (2, .long v_2), (4, .int v_4), (5, .int v_5), (8, .long v_8)]) hx hb dX10_ask_89 hl (by decide) rfl (fun ls hl => ?_)
  refine lv_iload hx hb dX10_ask_91 (lv_at hl 0 rfl) ?_
  refine lv_if_eq (tgt := 107) hx hb dX10_ask_93 (by decide) (fun c3 => ?_) (fun c3 => ?_)
  · have hX := if_bf c3 hX
    refine lv_iload_n hx hb dX10_ask_107 rfl (lv_at hl 2 rfl) ?_
    exact n_X10_ask_108 X hN hX hk_22 _ _ _ (lv_sub hl [1, 3, 4, 5, 6, 0] rfl) hS
  · have hX := if_bt c3 hX
    refine lv_bipush (v := nI 9) hx hb dX10_ask_96 (by decide) ?_
    refine lv_iload hx hb dX10_ask_98 (lv_at hl 4 rfl) ?_
    refine lv_imul hx hb dX10_ask_100 ?_
    refine lv_iload hx hb dX10_ask_101 (lv_at hl 5 rfl) ?_
    refine lv_iadd hx hb dX10_ask_103 ?_
    refine lv_goto (tgt := 108) hx hb dX10_ask_104 (by decide) ?_
    exact n_X10_ask_108 X hN hX hk_22 _ _ _ (lv_sub hl [1, 3, 4, 5, 6, 0] rfl) hS
set_option maxRecDepth 100000 in
set_option maxHeartbeats 4000000 in
theorem n_X10_ask_70 {v_4 : Int32} (X : Cx p s m args meth c D cy ad A RX10 cX10_ask 11 ((some .int))) (hN : Ob ns 10 100) {M : Mem} {k_22 : Int32 → Int64 → Int32 → Option (Int32)} {v_1 : Int32} {v_2 : Int64} {v_5 : Int32} {s_0 : Int64} {r : Int32} (hX : f_X10_ask_70 M v_4 k_22 v_1 v_2 v_5 s_0 = some r) : (∀ (v_1 : Int32) (v_2 : Int64) (v_5 : Int32) (r : Int32), k_22 v_1 v_2 v_5 = some r → ∀ (ls : Array Slot) (H : Heap) (locs : List Loc), lv_has ls 11 [(0, .ref (ad 100 0)), (1, .int v_1), (2, .long v_2), (4, .int v_4), (5, .int v_5)] → St D cy ad ns A M s.heap H locs → W p l e rm_X10_ask s m args below meth c H locs 0 0 (MQ below (QC D cy ad ns A M (some (.int r))) args s 0 0 A) (F0 m 22 ls [])) → ∀ (ls : Array Slot) (H : Heap) (locs : List Loc), lv_has ls 11 [(0, .ref (ad 100 0)), (1, .int v_1), (2, .long v_2), (4, .int v_4), (5, .int v_5)] → St D cy ad ns A M s.heap H locs → W p l e rm_X10_ask s m args below meth c H locs 0 0 (MQ below (QC D cy ad ns A M (some (.int r))) args s 0 0 A) (F0 m 70 ls [.long s_0]) := by
  obtain ⟨hx, hb, hml, hown, hts, hK, hr, hlk, hA, hG⟩ := id X
  intro hk_22 ls H locs hl hS
  unfold f_X10_ask_70 at hX
  refine lv_lstore (lv' := [(8, .long s_0), (0, .ref (ad 100 0)), (1, .int v_1), (2, .long v_2), (4, .int v_4), (5, .int v_5)]) hx hb dX10_ask_70 hl (by decide) rfl (fun ls hl => ?_)
  refine lv_iload_n hx hb dX10_ask_72 rfl (lv_at hl 2 rfl) ?_
  refine lv_iconst (v := (-1)) hx hb dX10_ask_73 (by decide) ?_
  refine lv_icmp_eq (tgt := 84) hx hb dX10_ask_74 (by decide) (fun c4 => ?_) (fun c4 => ?_)
  · have hX := if_t c4 hX
    exact n_X10_ask_84 X hN hX (fun z0 z1 z2 z3 z4 r h ls H locs hl hS => n_X10_ask_89 X hN h hk_22 _ _ _ hl hS) _ _ _ (lv_sub hl [1, 2, 3, 4, 5, 0] rfl) hS
  · have hX := if_f c4 hX
    refine lv_lload hx hb dX10_ask_77 (lv_at hl 0 rfl) ?_
    refine lv_lload_n hx hb dX10_ask_79 rfl (lv_at hl 3 rfl) ?_
    refine W.lcmp hx hb dX10_ask_80 ?_
    refine lv_if_ge (tgt := 88) hx hb dX10_ask_81 (by decide) (fun c5 => ?_) (fun c5 => ?_)
    · have hX := if_t c5 hX
      refine lv_iconst (v := nI 0) hx hb dX10_ask_88 (by decide) ?_
      exact n_X10_ask_89 X hN hX hk_22 _ _ _ (lv_sub hl [1, 2, 3, 4, 5, 0] rfl) hS
    · have hX := if_f c5 hX
      exact n_X10_ask_84 X hN hX (fun z0 z1 z2 z3 z4 r h ls H locs hl hS => n_X10_ask_89 X hN h hk_22 _ _ _ hl hS) _ _ _ (lv_sub hl [1, 2, 3, 4, 5, 0] rfl) hS
set_option maxRecDepth 100000 in
set_option maxHeartbeats 4000000 in
theorem n_X10_ask_22 (X : Cx p s m args meth c D cy ad A RX10 cX10_ask 11 ((some .int))) (hN : Ob ns 10 100) {M : Mem} {k_7 : Int32 → Int64 → Int32 → Option (Int32)} {v_4 : Int32} : ∀ (n : Nat) (v_1 : Int32) (v_2 : Int64) (v_5 : Int32) (r : Int32), f_X10_ask_22 M k_7 v_4 n (v_1, v_2, v_5) = some r → (∀ (v_1 : Int32) (v_2 : Int64) (v_4 : Int32) (r : Int32), k_7 v_1 v_2 v_4 = some r → ∀ (ls : Array Slot) (H : Heap) (locs : List Loc), lv_has ls 11 [(0, .ref (ad 100 0)), (1, .int v_1), (2, .long v_2), (4, .int v_4)] → St D cy ad ns A M s.heap H locs → W p l e rm_X10_ask s m args below meth c H locs 0 0 (MQ below (QC D cy ad ns A M (some (.int r))) args s 0 0 A) (F0 m 7 ls [])) → ∀ (ls : Array Slot) (H : Heap) (locs : List Loc), lv_has ls 11 [(0, .ref (ad 100 0)), (1, .int v_1), (2, .long v_2), (4, .int v_4), (5, .int v_5)] → St D cy ad ns A M s.heap H locs → W p l e rm_X10_ask s m args below meth c H locs 0 0 (MQ below (QC D cy ad ns A M (some (.int r))) args s 0 0 A) (F0 m 22 ls []) := by
  obtain ⟨hx, hb, hml, hown, hts, hK, hr, hlk, hA, hG⟩ := id X
  intro n
  induction n with
  | zero => intro v_1 v_2 v_5 r hX; cases (show (none : Option (Int32)) = some r from hX)
  | succ n ih =>
    intro v_1 v_2 v_5 r hX hk_7 ls H locs hl hS
    have hX : b_X10_ask_22 M k_7 v_4 (fun x0 x1 x2 => f_X10_ask_22 M k_7 v_4 n (x0, x1, x2)) v_1 v_2 v_5 = some r := hX
    unfold b_X10_ask_22 at hX
    refine lv_iload hx hb dX10_ask_22 (lv_at hl 4 rfl) ?_
    refine lv_aload_n hx hb dX10_ask_24 rfl (lv_at hl 0 rfl) ?_
    refine fg_X10_281 X hS (hN) dX10_ask_25 ?_
    refine lv_icmp_ge (tgt := 127) hx hb dX10_ask_28 (by decide) (fun c6 => ?_) (fun c6 => ?_)
    · have hX := if_t c6 hX
      obtain ⟨v7, ev7⟩ : ∃ y : Int32, y = (v_4 + nI 1) := ⟨_, rfl⟩
      have hX := nm_of ev7 hX
      refine lv_iinc (v := v7) (lv' := [(4, .int v7), (0, .ref (ad 100 0)), (1, .int v_1), (2, .long v_2), (5, .int v_5)]) hx hb dX10_ask_127 hl (k := 3) rfl (by rw [ev7]; rfl) (by decide) rfl (fun ls hl => ?_)
      refine lv_goto (tgt := 7) hx hb dX10_ask_130 (by decide) ?_
      exact hk_7 _ _ _ _ hX _ _ _ (lv_sub hl [1, 2, 3, 0] rfl) hS
    · have hX := if_f c6 hX
      refine lv_aload_n hx hb dX10_ask_31 rfl (lv_at hl 0 rfl) ?_
      refine lv_iload hx hb dX10_ask_32 (lv_at hl 3 rfl) ?_
      refine lv_iload hx hb dX10_ask_34 (lv_at hl 4 rfl) ?_
      obtain ⟨r9, h8, hX⟩ := bn_of hX
      refine r_callV1 (v := .long r9) (As := [.int v_4, .int v_5]) (rest := []) X hS (m_X10_aheadOf hN h8) mv_X10_aheadOf rfl (hN) t8_47 ⟨rfl, rfl, Nat.le_of_ble_eq_true rfl, Nat.le_of_ble_eq_true rfl⟩ rfl hl.1 rfl (Nat.le_of_ble_eq_true rfl) ⟨Nat.zero_le _, Nat.zero_le _⟩ dX10_ask_36 (fun H locs hS => ?_)
      refine lv_lstore (lv' := [(6, .long r9), (0, .ref (ad 100 0)), (1, .int v_1), (2, .long v_2), (4, .int v_4), (5, .int v_5)]) hx hb dX10_ask_39 hl (by decide) rfl (fun ls hl => ?_)
      refine lv_lload hx hb dX10_ask_41 (lv_at hl 0 rfl) ?_
      refine lv_aload_n hx hb dX10_ask_43 rfl (lv_at hl 1 rfl) ?_
      refine fg_X10_78 X hS (hN) dX10_ask_44 ?_
      refine lv_iconst (v := nI 0) hx hb dX10_ask_47 (by decide) ?_
      obtain ⟨g10, hX⟩ := gin_of hX
      refine r_lald (ci := 10) (o := 100) (k := 52) (n := 512) X hS (hN) rfl rfl g10 dX10_ask_48 ?_
      refine lv_lload hx hb dX10_ask_49 (lv_at hl 0 rfl) ?_
      refine lv_lsub hx hb dX10_ask_51 ?_
      refine W.lcmp hx hb dX10_ask_52 ?_
      refine lv_if_le (tgt := 61) hx hb dX10_ask_53 (by decide) (fun c11 => ?_) (fun c11 => ?_)
      · have hX := if_t c11 hX
        refine lv_aload_n hx hb dX10_ask_61 rfl (lv_at hl 1 rfl) ?_
        refine fg_X10_78 X hS (hN) dX10_ask_62 ?_
        refine lv_iconst (v := nI 0) hx hb dX10_ask_65 (by decide) ?_
        obtain ⟨g12, hX⟩ := gin_of hX
        refine r_lald (ci := 10) (o := 100) (k := 52) (n := 512) X hS (hN) rfl rfl g12 dX10_ask_66 ?_
        refine lv_lload hx hb dX10_ask_67 (lv_at hl 0 rfl) ?_
        refine lv_lsub hx hb dX10_ask_69 ?_
        exact n_X10_ask_70 X hN hX (fun z0 z1 z2 r h ls H locs hl hS => ih z0 z1 z2 r h hk_7 ls H locs hl hS) _ _ _ (lv_sub hl [1, 2, 3, 4, 5] rfl) hS
      · have hX := if_f c11 hX
        refine lv_lload hx hb dX10_ask_56 (lv_at hl 0 rfl) ?_
        refine lv_goto (tgt := 70) hx hb dX10_ask_58 (by decide) ?_
        exact n_X10_ask_70 X hN hX (fun z0 z1 z2 r h ls H locs hl hS => ih z0 z1 z2 r h hk_7 ls H locs hl hS) _ _ _ (lv_sub hl [1, 2, 3, 4, 5] rfl) hS
set_option maxRecDepth 100000 in
set_option maxHeartbeats 4000000 in
theorem n_X10_ask_7 (X : Cx p s m args meth c D cy ad A RX10 cX10_ask 11 ((some .int))) (hN : Ob ns 10 100) {M : Mem} : ∀ (n : Nat) (v_1 : Int32) (v_2 : Int64) (v_4 : Int32) (r : Int32), f_X10_ask_7 M n (v_1, v_2, v_4) = some r → ∀ (ls : Array Slot) (H : Heap) (locs : List Loc), lv_has ls 11 [(0, .ref (ad 100 0)), (1, .int v_1), (2, .long v_2), (4, .int v_4)] → St D cy ad ns A M s.heap H locs → W p l e rm_X10_ask s m args below meth c H locs 0 0 (MQ below (QC D cy ad ns A M (some (.int r))) args s 0 0 A) (F0 m 7 ls []) := by
  obtain ⟨hx, hb, hml, hown, hts, hK, hr, hlk, hA, hG⟩ := id X
  intro n
  induction n with
  | zero => intro v_1 v_2 v_4 r hX; cases (show (none : Option (Int32)) = some r from hX)
  | succ n ih =>
    intro v_1 v_2 v_4 r hX ls H locs hl hS
    have hX : b_X10_ask_7 M (fun x0 x1 x2 => f_X10_ask_7 M n (x0, x1, x2)) v_1 v_2 v_4 = some r := hX
    unfold b_X10_ask_7 at hX
    refine lv_iload hx hb dX10_ask_7 (lv_at hl 3 rfl) ?_
    refine lv_aload_n hx hb dX10_ask_9 rfl (lv_at hl 0 rfl) ?_
    refine fg_X10_281 X hS (hN) dX10_ask_10 ?_
    refine lv_icmp_ge (tgt := 133) hx hb dX10_ask_13 (by decide) (fun c13 => ?_) (fun c13 => ?_)
    · have hX := if_t c13 hX
      refine lv_iload_n hx hb dX10_ask_133 rfl (lv_at hl 1 rfl) ?_
      obtain rfl := some_of hX
      exact x_I (v := v_1) X hS dX10_ask_134
    · have hX := if_f c13 hX
      refine lv_iload hx hb dX10_ask_16 (lv_at hl 3 rfl) ?_
      refine lv_iconst (v := nI 1) hx hb dX10_ask_18 (by decide) ?_
      refine lv_iadd hx hb dX10_ask_19 ?_
      refine lv_topi (fun v14 ev14 => ?_)
      have hX := nm_of ev14 hX
      refine lv_istore (lv' := [(5, .int v14), (0, .ref (ad 100 0)), (1, .int v_1), (2, .long v_2), (4, .int v_4)]) hx hb dX10_ask_20 hl (by decide) rfl (fun ls hl => ?_)
      exact n_X10_ask_22 X hN _ _ _ _ _ hX (fun z0 z1 z2 r h ls H locs hl hS => ih z0 z1 z2 r h ls H locs hl hS) _ _ _ (lv_sub hl [1, 2, 3, 4, 0] rfl) hS
set_option maxRecDepth 100000 in
set_option maxHeartbeats 4000000 in
theorem m_X10_ask {l : Launch} {D : va_G} {cy : Nat → ClassId} {ad : Nat → Nat → Nat} {ns : List (Nat × Nat)} {A : Nat → Prop} {M : Mem} (hN : Ob ns 10 100) {r : Int32} (hX : f_X10_ask M = some r) : Ct l yX10_ask cX10_ask 11 ((some .int)) rm_X10_ask D cy ad ns A [.ref (ad 100 0)] M M (some (.int r)) := by
  refine ct_of (lv := [(0, .ref (ad 100 0))]) (by decide) (Nat.le_of_ble_eq_true rfl) rfl ?_
  intro p e s m args below meth c ls X hl hS
  obtain ⟨hx, hb, hml, hown, hts, hK, hr, hlk, hA, hG⟩ := id X
  obtain ⟨H, hH⟩ : ∃ z, z = s.heap := ⟨_, rfl⟩
  obtain ⟨locs, hlo⟩ : ∃ z : List Loc, z = [] := ⟨_, rfl⟩
  have hS : St D cy ad ns A M s.heap H locs := by rw [hH, hlo]; exact hS
  have hgoal : W p l e rm_X10_ask s m args below meth c H locs 0 0 (MQ below (QC D cy ad ns A M (some (.int r))) args s 0 0 A) (F0 m 0 ls []) := by
    unfold f_X10_ask at hX
    refine lv_iconst (v := (-1)) hx hb dX10_ask_0 (by decide) ?_
    refine lv_istore_n (lv' := [(1, .int (-1)), (0, .ref (ad 100 0))]) hx hb dX10_ask_1 rfl hl (by decide) rfl (fun ls hl => ?_)
    refine lv_lconst (v := lN 0) hx hb dX10_ask_2 (by decide) ?_
    refine lv_topl (fun v15 ev15 => ?_)
    have hX := nm_of ev15 hX
    refine lv_lstore_n (lv' := [(2, .long v15), (1, .int (-1)), (0, .ref (ad 100 0))]) hx hb dX10_ask_3 rfl hl (by decide) rfl (fun ls hl => ?_)
    refine lv_iconst (v := nI 0) hx hb dX10_ask_4 (by decide) ?_
    refine lv_istore (lv' := [(4, .int (nI 0)), (2, .long v15), (1, .int (-1)), (0, .ref (ad 100 0))]) hx hb dX10_ask_5 hl (by decide) rfl (fun ls hl => ?_)
    exact n_X10_ask_7 X hN _ _ _ _ _ hX _ _ _ (lv_sub hl [3, 2, 1, 0] rfl) hS
  rw [hH, hlo] at hgoal
  exact hgoal
theorem mv_X10_ask : Mv yX10_ask RX10 cX10_ask 11 ((some .int)) 0 := ⟨t8_46, t8_45, ts_87, t1_11, ⟨by decide, by decide⟩, by decide +kernel⟩
/-! SewnYearModel.sure(III)I -/
def rm_X10_sure : Room := { frames := 5, cells := 0, slots := 0, locals := 124 }
def b_X10_sure_65 (a1 : Int32) (a2 : Int32) (a3 : Int32) (rc : Int32 → Mem → Option (Int32 × Mem)) (v_4 : Int32) (M : Mem) : Option (Int32 × Mem) :=
  if (gI M 100 24) ≤ v_4 then (some ((-1), M)) else (bn (f_X10_holds M v_4 a3) fun r3 => gin (nI 0) 512 <| if (lg_cmp r3 (gB M 100 52 (ix (nI 0)))) = (nI 0) then (some (v_4, M)) else (nm (v_4 + nI 1) fun v6 => rc v6 M))
def f_X10_sure_65 (a1 : Int32) (a2 : Int32) (a3 : Int32) : Nat → (Int32 × Mem) → Option (Int32 × Mem) := lp (fun rc q => b_X10_sure_65 a1 a2 a3 (fun x0 x1 => rc (x0, x1)) q.1 q.2)
def f_X10_sure_35 (a1 : Int32) (a2 : Int32) (a3 : Int32) (M : Mem) : Option (Int32 × Mem) :=
  bn (f_X10_findSo M) fun M8 => gin (nI 0) 512 <| if (lg_cmp (gB M8 100 52 (ix (nI 0))) (lN 0)) = (nI 0) then (some ((-1), M8)) else (if a3 = (-1) then (bn (f_X10_ask M8) fun r13 => some (r13, M8)) else (f_X10_sure_65 a1 a2 a3 FU ((nI 0), M8)))
def f_X10_sure (M : Mem) (a1 : Int32) (a2 : Int32) (a3 : Int32) : Option (Int32 × Mem) :=
  nm (sI M 100 0 (nI 0)) fun M14 => bp (f_X10_laySight M14 a1 a2) fun r17 M16 => if r17 = true then (if a3 = (-1) then (f_X10_sure_35 a1 a2 a3 M16) else (bn (f_X10_in a3 (nI 0) ((gI M16 100 24) - (nI 1))) fun r21 => if r21 = true then (f_X10_sure_35 a1 a2 a3 M16) else (some ((-1), M16)))) else (some ((-1), M16))
set_option maxRecDepth 100000 in
set_option maxHeartbeats 4000000 in
theorem n_X10_sure_65 {a1 : Int32} {a2 : Int32} {a3 : Int32} (X : Cx p s m args meth c D cy ad A RX10 cX10_sure 5 ((some .int))) (hN : Ob ns 10 100) : ∀ (n : Nat) (v_4 : Int32) (M : Mem) (r : Int32 × Mem), f_X10_sure_65 a1 a2 a3 n (v_4, M) = some r → ∀ (ls : Array Slot) (H : Heap) (locs : List Loc), lv_has ls 5 [(0, .ref (ad 100 0)), (3, .int a3), (4, .int v_4)] → St D cy ad ns A M s.heap H locs → W p l e rm_X10_sure s m args below meth c H locs 0 0 (MQ below (QC D cy ad ns A r.2 (some (.int r.1))) args s 0 0 A) (F0 m 65 ls []) := by
  obtain ⟨hx, hb, hml, hown, hts, hK, hr, hlk, hA, hG⟩ := id X
  intro n
  induction n with
  | zero => intro v_4 M r hX; cases (show (none : Option (Int32 × Mem)) = some r from hX)
  | succ n ih =>
    intro v_4 M r hX ls H locs hl hS
    have hX : b_X10_sure_65 a1 a2 a3 (fun x0 x1 => f_X10_sure_65 a1 a2 a3 n (x0, x1)) v_4 M = some r := hX
    unfold b_X10_sure_65 at hX
    refine lv_iload hx hb dX10_sure_65 (lv_at hl 2 rfl) ?_
    refine lv_aload_n hx hb dX10_sure_67 rfl (lv_at hl 0 rfl) ?_
    refine fg_X10_281 X hS (hN) dX10_sure_68 ?_
    refine lv_icmp_ge (tgt := 100) hx hb dX10_sure_71 (by decide) (fun c1 => ?_) (fun c1 => ?_)
    · have hX := if_t c1 hX
      refine lv_iconst (v := (-1)) hx hb dX10_sure_100 (by decide) ?_
      obtain rfl := some_of hX
      exact x_I (v := (-1)) X hS dX10_sure_101
    · have hX := if_f c1 hX
      refine lv_aload_n hx hb dX10_sure_74 rfl (lv_at hl 0 rfl) ?_
      refine lv_iload hx hb dX10_sure_75 (lv_at hl 2 rfl) ?_
      refine lv_iload_n hx hb dX10_sure_77 rfl (lv_at hl 1 rfl) ?_
      obtain ⟨r3, h2, hX⟩ := bn_of hX
      refine r_callV1 (v := .long r3) (As := [.int v_4, .int a3]) (rest := []) X hS (m_X10_holds hN h2) mv_X10_holds rfl (hN) t8_35 ⟨rfl, rfl, Nat.le_of_ble_eq_true rfl, Nat.le_of_ble_eq_true rfl⟩ rfl hl.1 rfl (Nat.le_of_ble_eq_true rfl) ⟨Nat.zero_le _, Nat.zero_le _⟩ dX10_sure_78 (fun H locs hS => ?_)
      refine lv_aload_n hx hb dX10_sure_81 rfl (lv_at hl 0 rfl) ?_
      refine fg_X10_78 X hS (hN) dX10_sure_82 ?_
      refine lv_iconst (v := nI 0) hx hb dX10_sure_85 (by decide) ?_
      obtain ⟨g4, hX⟩ := gin_of hX
      refine r_lald (ci := 10) (o := 100) (k := 52) (n := 512) X hS (hN) rfl rfl g4 dX10_sure_86 ?_
      refine W.lcmp hx hb dX10_sure_87 ?_
      refine lv_if_ne (tgt := 94) hx hb dX10_sure_88 (by decide) (fun c5 => ?_) (fun c5 => ?_)
      · have hX := if_f c5 hX
        obtain ⟨v6, ev6⟩ : ∃ y : Int32, y = (v_4 + nI 1) := ⟨_, rfl⟩
        have hX := nm_of ev6 hX
        refine lv_iinc (v := v6) (lv' := [(4, .int v6), (0, .ref (ad 100 0)), (3, .int a3)]) hx hb dX10_sure_94 hl (k := 2) rfl (by rw [ev6]; rfl) (by decide) rfl (fun ls hl => ?_)
        refine lv_goto (tgt := 65) hx hb dX10_sure_97 (by decide) ?_
        exact ih _ _ _ hX _ _ _ (lv_sub hl [1, 2, 0] rfl) hS
      · have hX := if_t c5 hX
        refine lv_iload hx hb dX10_sure_91 (lv_at hl 2 rfl) ?_
        obtain rfl := some_of hX
        exact x_I (v := v_4) X hS dX10_sure_93
set_option maxRecDepth 100000 in
set_option maxHeartbeats 4000000 in
theorem n_X10_sure_35 {a1 : Int32} {a2 : Int32} {a3 : Int32} (X : Cx p s m args meth c D cy ad A RX10 cX10_sure 5 ((some .int))) (hN : Ob ns 10 100) {M : Mem} {r : Int32 × Mem} (hX : f_X10_sure_35 a1 a2 a3 M = some r) : ∀ (ls : Array Slot) (H : Heap) (locs : List Loc), lv_has ls 5 [(0, .ref (ad 100 0)), (3, .int a3)] → St D cy ad ns A M s.heap H locs → W p l e rm_X10_sure s m args below meth c H locs 0 0 (MQ below (QC D cy ad ns A r.2 (some (.int r.1))) args s 0 0 A) (F0 m 35 ls []) := by
  obtain ⟨hx, hb, hml, hown, hts, hK, hr, hlk, hA, hG⟩ := id X
  intro ls H locs hl hS
  unfold f_X10_sure_35 at hX
  refine lv_aload_n hx hb dX10_sure_35 rfl (lv_at hl 0 rfl) ?_
  obtain ⟨M8, h7, hX⟩ := bn_of hX
  refine r_callV0 (As := []) (rest := []) X hS (m_X10_findSo hN h7) mv_X10_findSo rfl (hN) t8_27 ⟨rfl, rfl, Nat.le_of_ble_eq_true rfl, Nat.le_of_ble_eq_true rfl⟩ rfl hl.1 rfl (Nat.le_of_ble_eq_true rfl) ⟨Nat.zero_le _, Nat.zero_le _⟩ dX10_sure_36 (fun H locs hS => ?_)
  refine lv_aload_n hx hb dX10_sure_39 rfl (lv_at hl 0 rfl) ?_
  refine fg_X10_78 X hS (hN) dX10_sure_40 ?_
  refine lv_iconst (v := nI 0) hx hb dX10_sure_43 (by decide) ?_
  obtain ⟨g9, hX⟩ := gin_of hX
  refine r_lald (ci := 10) (o := 100) (k := 52) (n := 512) X hS (hN) rfl rfl g9 dX10_sure_44 ?_
  refine lv_lconst (v := lN 0) hx hb dX10_sure_45 (by decide) ?_
  refine W.lcmp hx hb dX10_sure_46 ?_
  refine lv_if_ne (tgt := 52) hx hb dX10_sure_47 (by decide) (fun c10 => ?_) (fun c10 => ?_)
  · have hX := if_f c10 hX
    refine lv_iload_n hx hb dX10_sure_52 rfl (lv_at hl 1 rfl) ?_
    refine lv_iconst (v := (-1)) hx hb dX10_sure_53 (by decide) ?_
    refine lv_icmp_ne (tgt := 62) hx hb dX10_sure_54 (by decide) (fun c11 => ?_) (fun c11 => ?_)
    · have hX := if_f c11 hX
      refine lv_iconst (v := nI 0) hx hb dX10_sure_62 (by decide) ?_
      refine lv_istore (lv' := [(4, .int (nI 0)), (0, .ref (ad 100 0)), (3, .int a3)]) hx hb dX10_sure_63 hl (by decide) rfl (fun ls hl => ?_)
      exact n_X10_sure_65 X hN _ _ _ _ hX _ _ _ (lv_sub hl [1, 2, 0] rfl) hS
    · have hX := if_t c11 hX
      refine lv_aload_n hx hb dX10_sure_57 rfl (lv_at hl 0 rfl) ?_
      obtain ⟨r13, h12, hX⟩ := bn_of hX
      refine r_callV1 (v := .int r13) (As := []) (rest := []) X hS (m_X10_ask hN h12) mv_X10_ask rfl (hN) t8_43 ⟨rfl, rfl, Nat.le_of_ble_eq_true rfl, Nat.le_of_ble_eq_true rfl⟩ rfl hl.1 rfl (Nat.le_of_ble_eq_true rfl) ⟨Nat.zero_le _, Nat.zero_le _⟩ dX10_sure_58 (fun H locs hS => ?_)
      obtain rfl := some_of hX
      exact x_I (v := r13) X hS dX10_sure_61
  · have hX := if_t c10 hX
    refine lv_iconst (v := (-1)) hx hb dX10_sure_50 (by decide) ?_
    obtain rfl := some_of hX
    exact x_I (v := (-1)) X hS dX10_sure_51
set_option maxRecDepth 100000 in
set_option maxHeartbeats 4000000 in
theorem m_X10_sure {l : Launch} {D : va_G} {cy : Nat → ClassId} {ad : Nat → Nat → Nat} {ns : List (Nat × Nat)} {A : Nat → Prop} {M : Mem} (hN : Ob ns 10 100) {a1 : Int32} {a2 : Int32} {a3 : Int32} {r : Int32 × Mem} (hX : f_X10_sure M a1 a2 a3 = some r) : Ct l yX10_sure cX10_sure 5 ((some .int)) rm_X10_sure D cy ad ns A [.ref (ad 100 0), .int a1, .int a2, .int a3] M r.2 (some (.int r.1)) := by
  refine ct_of (lv := [(0, .ref (ad 100 0)), (1, .int a1), (2, .int a2), (3, .int a3)]) (by decide) (Nat.le_of_ble_eq_true rfl) rfl ?_
  intro p e s m args below meth c ls X hl hS
  obtain ⟨hx, hb, hml, hown, hts, hK, hr, hlk, hA, hG⟩ := id X
  obtain ⟨H, hH⟩ : ∃ z, z = s.heap := ⟨_, rfl⟩
  obtain ⟨locs, hlo⟩ : ∃ z : List Loc, z = [] := ⟨_, rfl⟩
  have hS : St D cy ad ns A M s.heap H locs := by rw [hH, hlo]; exact hS
  have hgoal : W p l e rm_X10_sure s m args below meth c H locs 0 0 (MQ below (QC D cy ad ns A r.2 (some (.int r.1))) args s 0 0 A) (F0 m 0 ls []) := by
    unfold f_X10_sure at hX
    refine lv_aload_n hx hb dX10_sure_0 rfl (lv_at hl 0 rfl) ?_
    refine lv_iconst (v := nI 0) hx hb dX10_sure_1 (by decide) ?_
    refine fp_X10_94 X hS (hN) dX10_sure_2 (fun H locs hS => ?_)
    obtain ⟨M14, eM14, hS, hX⟩ := nm_mem hS hX
    refine lv_aload_n hx hb dX10_sure_5 rfl (lv_at hl 0 rfl) ?_
    refine lv_iload_n hx hb dX10_sure_6 rfl (lv_at hl 1 rfl) ?_
    refine lv_iload_n hx hb dX10_sure_7 rfl (lv_at hl 2 rfl) ?_
    obtain ⟨r17, M16, h15, hX⟩ := bp_of hX
    refine r_callV1 (v := .int (b2i r17)) (As := [.int a1, .int a2]) (rest := []) X hS (m_X10_laySight hN h15) mv_X10_laySight rfl (hN) t8_23 ⟨rfl, rfl, Nat.le_of_ble_eq_true rfl, Nat.le_of_ble_eq_true rfl⟩ rfl hl.1 rfl (Nat.le_of_ble_eq_true rfl) ⟨Nat.zero_le _, Nat.zero_le _⟩ dX10_sure_8 (fun H locs hS => ?_)
    refine lv_if_eq (tgt := 33) hx hb dX10_sure_11 (by decide) (fun c18 => ?_) (fun c18 => ?_)
    · have hX := if_bf c18 hX
      refine lv_iconst (v := (-1)) hx hb dX10_sure_33 (by decide) ?_
      obtain rfl := some_of hX
      exact x_I (v := (-1)) X hS dX10_sure_34
    · have hX := if_bt c18 hX
      refine lv_iload_n hx hb dX10_sure_14 rfl (lv_at hl 3 rfl) ?_
      refine lv_iconst (v := (-1)) hx hb dX10_sure_15 (by decide) ?_
      refine lv_icmp_eq (tgt := 35) hx hb dX10_sure_16 (by decide) (fun c19 => ?_) (fun c19 => ?_)
      · have hX := if_t c19 hX
        exact n_X10_sure_35 X hN hX _ _ _ (lv_sub hl [0, 3] rfl) hS
      · have hX := if_f c19 hX
        refine lv_iload_n hx hb dX10_sure_19 rfl (lv_at hl 3 rfl) ?_
        refine lv_iconst (v := nI 0) hx hb dX10_sure_20 (by decide) ?_
        refine lv_aload_n hx hb dX10_sure_21 rfl (lv_at hl 0 rfl) ?_
        refine fg_X10_281 X hS (hN) dX10_sure_22 ?_
        refine lv_iconst (v := nI 1) hx hb dX10_sure_25 (by decide) ?_
        refine lv_isub hx hb dX10_sure_26 ?_
        obtain ⟨r21, h20, hX⟩ := bn_of hX
        refine r_callS1 (v := .int (b2i r21)) (As := [.int a3, .int (nI 0), .int ((gI M16 100 24) - (nI 1))]) (rest := []) X hS (m_X10_in (M := M16) hN h20) ms_X10_in t6_81 ⟨rfl, rfl, Nat.le_of_ble_eq_true rfl, Nat.le_of_ble_eq_true rfl⟩ rfl hl.1 rfl (Nat.le_of_ble_eq_true rfl) ⟨Nat.zero_le _, Nat.zero_le _⟩ dX10_sure_27 (fun H locs hS => ?_)
        refine lv_if_ne (tgt := 35) hx hb dX10_sure_30 (by decide) (fun c22 => ?_) (fun c22 => ?_)
        · have hX := if_bt c22 hX
          exact n_X10_sure_35 X hN hX _ _ _ (lv_sub hl [0, 3] rfl) hS
        · have hX := if_bf c22 hX
          refine lv_iconst (v := (-1)) hx hb dX10_sure_33 (by decide) ?_
          obtain rfl := some_of hX
          exact x_I (v := (-1)) X hS dX10_sure_34
  rw [hH, hlo] at hgoal
  exact hgoal
theorem mv_X10_sure : Mv yX10_sure RX10 cX10_sure 5 ((some .int)) 3 := ⟨t8_42, t8_40, t8_41, t1_11, ⟨by decide, by decide⟩, by decide +kernel⟩
/-! SewnYearModel.draw(I)I -/
def rm_X10_draw : Room := { frames := 0, cells := 0, slots := 0, locals := 0 }
def f_X10_draw (M : Mem) (a1 : Int32) : Option (Int32 × Mem) :=
  nm (sI M 100 53 (((gI M 100 53) * (nI 1103515245)) + (nI 12345))) fun M1 => gnz a1 <| some (((ushr (gI M1 100 53) (nI 16)) - (ushr (gI M1 100 53) (nI 16)) / a1 * a1), M1)
set_option maxRecDepth 100000 in
set_option maxHeartbeats 4000000 in
theorem m_X10_draw {l : Launch} {D : va_G} {cy : Nat → ClassId} {ad : Nat → Nat → Nat} {ns : List (Nat × Nat)} {A : Nat → Prop} {M : Mem} (hN : Ob ns 10 100) {a1 : Int32} {r : Int32 × Mem} (hX : f_X10_draw M a1 = some r) : Ct l yX10_draw cX10_draw 2 ((some .int)) rm_X10_draw D cy ad ns A [.ref (ad 100 0), .int a1] M r.2 (some (.int r.1)) := by
  refine ct_of (lv := [(0, .ref (ad 100 0)), (1, .int a1)]) (by decide) (Nat.le_of_ble_eq_true rfl) rfl ?_
  intro p e s m args below meth c ls X hl hS
  obtain ⟨hx, hb, hml, hown, hts, hK, hr, hlk, hA, hG⟩ := id X
  obtain ⟨H, hH⟩ : ∃ z, z = s.heap := ⟨_, rfl⟩
  obtain ⟨locs, hlo⟩ : ∃ z : List Loc, z = [] := ⟨_, rfl⟩
  have hS : St D cy ad ns A M s.heap H locs := by rw [hH, hlo]; exact hS
  have hgoal : W p l e rm_X10_draw s m args below meth c H locs 0 0 (MQ below (QC D cy ad ns A r.2 (some (.int r.1))) args s 0 0 A) (F0 m 0 ls []) := by
    unfold f_X10_draw at hX
    refine lv_aload_n hx hb dX10_draw_0 rfl (lv_at hl 0 rfl) ?_
    refine lv_aload_n hx hb dX10_draw_1 rfl (lv_at hl 0 rfl) ?_
    refine fg_X10_536 X hS (hN) dX10_draw_2 ?_
    refine lv_ldcw hx hb (own := RX10) hown (hts _ t8_63) dX10_draw_5 ?_
    refine lv_imul hx hb dX10_draw_8 ?_
    refine lv_sipush (v := nI 12345) hx hb dX10_draw_9 (by decide) ?_
    refine lv_iadd hx hb dX10_draw_12 ?_
    refine fp_X10_536 X hS (hN) dX10_draw_13 (fun H locs hS => ?_)
    obtain ⟨M1, eM1, hS, hX⟩ := nm_mem hS hX
    refine lv_aload_n hx hb dX10_draw_16 rfl (lv_at hl 0 rfl) ?_
    refine fg_X10_536 X hS (hN) dX10_draw_17 ?_
    refine lv_bipush (v := nI 16) hx hb dX10_draw_20 (by decide) ?_
    refine lv_iushr (v := (ushr (gI M1 100 53) (nI 16))) hx hb dX10_draw_22 rfl ?_
    refine lv_iload_n hx hb dX10_draw_23 rfl (lv_at hl 1 rfl) ?_
    obtain ⟨g2, hX⟩ := gnz_of hX
    refine lv_irem hx hb dX10_draw_24 g2 ?_
    obtain rfl := some_of hX
    exact x_I (v := ((ushr (gI M1 100 53) (nI 16)) - (ushr (gI M1 100 53) (nI 16)) / a1 * a1)) X hS dX10_draw_25
  rw [hH, hlo] at hgoal
  exact hgoal
theorem mv_X10_draw : Mv yX10_draw RX10 cX10_draw 2 ((some .int)) 1 := ⟨t8_62, t8_61, ts_90, t1_11, ⟨by decide, by decide⟩, by decide +kernel⟩
/-! SewnYearModel.drawDeed()V -/
def rm_X10_drawDeed : Room := { frames := 4, cells := 0, slots := 0, locals := 85 }
def f_X10_drawDeed (M : Mem) : Option (Mem) :=
  bp (f_X10_draw M (nI 10)) fun r3 M2 => if r3 ≤ (nI 7) then (if r3 = (nI 7) then (bp (f_X10_draw M2 (nI 3)) fun r19 M18 => bn (f_X10_grows M18 ((nI 1) + r19)) fun M21 => some M21) else (if (gI M2 100 24) ≤ (nI 0) then (some M2) else (bp (f_X10_draw M2 (gI M2 100 24)) fun r9 M8 => if (nI 6) ≤ r3 then (bp (f_X10_unpicks M8 r9) fun r13 M12 => some M12) else (bp (f_X10_sews M8 r9) fun r16 M15 => some M15)))) else (bp (f_X10_goesOn M2) fun r24 M23 => some M23)
set_option maxRecDepth 100000 in
set_option maxHeartbeats 4000000 in
theorem m_X10_drawDeed {l : Launch} {D : va_G} {cy : Nat → ClassId} {ad : Nat → Nat → Nat} {ns : List (Nat × Nat)} {A : Nat → Prop} {M : Mem} (hN : Ob ns 10 100) {r : Mem} (hX : f_X10_drawDeed M = some r) : Ct l yX10_drawDeed cX10_drawDeed 3 ((none : Option Jvm.ClassFile.FieldType)) rm_X10_drawDeed D cy ad ns A [.ref (ad 100 0)] M r none := by
  refine ct_of (lv := [(0, .ref (ad 100 0))]) (by decide) (Nat.le_of_ble_eq_true rfl) rfl ?_
  intro p e s m args below meth c ls X hl hS
  obtain ⟨hx, hb, hml, hown, hts, hK, hr, hlk, hA, hG⟩ := id X
  obtain ⟨H, hH⟩ : ∃ z, z = s.heap := ⟨_, rfl⟩
  obtain ⟨locs, hlo⟩ : ∃ z : List Loc, z = [] := ⟨_, rfl⟩
  have hS : St D cy ad ns A M s.heap H locs := by rw [hH, hlo]; exact hS
  have hgoal : W p l e rm_X10_drawDeed s m args below meth c H locs 0 0 (MQ below (QC D cy ad ns A r none) args s 0 0 A) (F0 m 0 ls []) := by
    unfold f_X10_drawDeed at hX
    refine lv_aload_n hx hb dX10_drawDeed_0 rfl (lv_at hl 0 rfl) ?_
    refine lv_bipush (v := nI 10) hx hb dX10_drawDeed_1 (by decide) ?_
    obtain ⟨r3, M2, h1, hX⟩ := bp_of hX
    refine r_callV1 (v := .int r3) (As := [.int (nI 10)]) (rest := []) X hS (m_X10_draw hN h1) mv_X10_draw rfl (hN) t8_59 ⟨rfl, rfl, Nat.le_of_ble_eq_true rfl, Nat.le_of_ble_eq_true rfl⟩ rfl hl.1 rfl (Nat.le_of_ble_eq_true rfl) ⟨Nat.zero_le _, Nat.zero_le _⟩ dX10_drawDeed_3 (fun H locs hS => ?_)
    refine lv_istore_n (lv' := [(1, .int r3), (0, .ref (ad 100 0))]) hx hb dX10_drawDeed_6 rfl hl (by decide) rfl (fun ls hl => ?_)
    refine lv_iload_n hx hb dX10_drawDeed_7 rfl (lv_at hl 0 rfl) ?_
    refine lv_bipush (v := nI 7) hx hb dX10_drawDeed_8 (by decide) ?_
    refine lv_icmp_le (tgt := 21) hx hb dX10_drawDeed_10 (by decide) (fun c4 => ?_) (fun c4 => ?_)
    · have hX := if_t c4 hX
      refine lv_iload_n hx hb dX10_drawDeed_21 rfl (lv_at hl 0 rfl) ?_
      refine lv_bipush (v := nI 7) hx hb dX10_drawDeed_22 (by decide) ?_
      refine lv_icmp_ne (tgt := 41) hx hb dX10_drawDeed_24 (by decide) (fun c5 => ?_) (fun c5 => ?_)
      · have hX := if_f c5 hX
        refine lv_aload_n hx hb dX10_drawDeed_41 rfl (lv_at hl 1 rfl) ?_
        refine fg_X10_281 X hS (hN) dX10_drawDeed_42 ?_
        refine lv_if_le (tgt := 78) hx hb dX10_drawDeed_45 (by decide) (fun c6 => ?_) (fun c6 => ?_)
        · have hX := if_t c6 hX
          obtain rfl := some_of hX
          exact x_V X hS dX10_drawDeed_78
        · have hX := if_f c6 hX
          refine lv_aload_n hx hb dX10_drawDeed_48 rfl (lv_at hl 1 rfl) ?_
          refine lv_aload_n hx hb dX10_drawDeed_49 rfl (lv_at hl 1 rfl) ?_
          refine fg_X10_281 X hS (hN) dX10_drawDeed_50 ?_
          obtain ⟨r9, M8, h7, hX⟩ := bp_of hX
          refine r_callV1 (v := .int r9) (As := [.int (gI M2 100 24)]) (rest := []) X hS (m_X10_draw hN h7) mv_X10_draw rfl (hN) t8_59 ⟨rfl, rfl, Nat.le_of_ble_eq_true rfl, Nat.le_of_ble_eq_true rfl⟩ rfl hl.1 rfl (Nat.le_of_ble_eq_true rfl) ⟨Nat.zero_le _, Nat.zero_le _⟩ dX10_drawDeed_53 (fun H locs hS => ?_)
          refine lv_istore_n (lv' := [(2, .int r9), (1, .int r3), (0, .ref (ad 100 0))]) hx hb dX10_drawDeed_56 rfl hl (by decide) rfl (fun ls hl => ?_)
          refine lv_iload_n hx hb dX10_drawDeed_57 rfl (lv_at hl 1 rfl) ?_
          refine lv_bipush (v := nI 6) hx hb dX10_drawDeed_58 (by decide) ?_
          refine lv_icmp_ge (tgt := 72) hx hb dX10_drawDeed_60 (by decide) (fun c10 => ?_) (fun c10 => ?_)
          · have hX := if_t c10 hX
            refine lv_aload_n hx hb dX10_drawDeed_72 rfl (lv_at hl 2 rfl) ?_
            refine lv_iload_n hx hb dX10_drawDeed_73 rfl (lv_at hl 0 rfl) ?_
            obtain ⟨r13, M12, h11, hX⟩ := bp_of hX
            refine r_callV1 (v := .int (b2i r13)) (As := [.int r9]) (rest := []) X hS (m_X10_unpicks hN h11) mv_X10_unpicks rfl (hN) t7_39 ⟨rfl, rfl, Nat.le_of_ble_eq_true rfl, Nat.le_of_ble_eq_true rfl⟩ rfl hl.1 rfl (Nat.le_of_ble_eq_true rfl) ⟨Nat.zero_le _, Nat.zero_le _⟩ dX10_drawDeed_74 (fun H locs hS => ?_)
            refine lv_pop hx hb dX10_drawDeed_77 rfl ?_
            obtain rfl := some_of hX
            exact x_V X hS dX10_drawDeed_78
          · have hX := if_f c10 hX
            refine lv_aload_n hx hb dX10_drawDeed_63 rfl (lv_at hl 2 rfl) ?_
            refine lv_iload_n hx hb dX10_drawDeed_64 rfl (lv_at hl 0 rfl) ?_
            obtain ⟨r16, M15, h14, hX⟩ := bp_of hX
            refine r_callV1 (v := .int (b2i r16)) (As := [.int r9]) (rest := []) X hS (m_X10_sews hN h14) mv_X10_sews rfl (hN) t7_24 ⟨rfl, rfl, Nat.le_of_ble_eq_true rfl, Nat.le_of_ble_eq_true rfl⟩ rfl hl.1 rfl (Nat.le_of_ble_eq_true rfl) ⟨Nat.zero_le _, Nat.zero_le _⟩ dX10_drawDeed_65 (fun H locs hS => ?_)
            refine lv_pop hx hb dX10_drawDeed_68 rfl ?_
            refine lv_goto (tgt := 78) hx hb dX10_drawDeed_69 (by decide) ?_
            obtain rfl := some_of hX
            exact x_V X hS dX10_drawDeed_78
      · have hX := if_t c5 hX
        refine lv_aload_n hx hb dX10_drawDeed_27 rfl (lv_at hl 1 rfl) ?_
        refine lv_iconst (v := nI 1) hx hb dX10_drawDeed_28 (by decide) ?_
        refine lv_aload_n hx hb dX10_drawDeed_29 rfl (lv_at hl 1 rfl) ?_
        refine lv_iconst (v := nI 3) hx hb dX10_drawDeed_30 (by decide) ?_
        obtain ⟨r19, M18, h17, hX⟩ := bp_of hX
        refine r_callV1 (v := .int r19) (As := [.int (nI 3)]) (rest := [.int (nI 1), .ref (ad 100 0)]) X hS (m_X10_draw hN h17) mv_X10_draw rfl (hN) t8_59 ⟨rfl, rfl, Nat.le_of_ble_eq_true rfl, Nat.le_of_ble_eq_true rfl⟩ rfl hl.1 rfl (Nat.le_of_ble_eq_true rfl) ⟨Nat.zero_le _, Nat.zero_le _⟩ dX10_drawDeed_31 (fun H locs hS => ?_)
        refine lv_iadd hx hb dX10_drawDeed_34 ?_
        obtain ⟨M21, h20, hX⟩ := bn_of hX
        refine r_callV0 (As := [.int ((nI 1) + r19)]) (rest := []) X hS (m_X10_grows hN h20) mv_X10_grows rfl (hN) t7_54 ⟨rfl, rfl, Nat.le_of_ble_eq_true rfl, Nat.le_of_ble_eq_true rfl⟩ rfl hl.1 rfl (Nat.le_of_ble_eq_true rfl) ⟨Nat.zero_le _, Nat.zero_le _⟩ dX10_drawDeed_35 (fun H locs hS => ?_)
        refine lv_goto (tgt := 78) hx hb dX10_drawDeed_38 (by decide) ?_
        obtain rfl := some_of hX
        exact x_V X hS dX10_drawDeed_78
    · have hX := if_f c4 hX
      refine lv_aload_n hx hb dX10_drawDeed_13 rfl (lv_at hl 1 rfl) ?_
      obtain ⟨r24, M23, h22, hX⟩ := bp_of hX
      refine r_callV1 (v := .int (b2i r24)) (As := []) (rest := []) X hS (m_X10_goesOn hN h22) mv_X10_goesOn rfl (hN) t7_58 ⟨rfl, rfl, Nat.le_of_ble_eq_true rfl, Nat.le_of_ble_eq_true rfl⟩ rfl hl.1 rfl (Nat.le_of_ble_eq_true rfl) ⟨Nat.zero_le _, Nat.zero_le _⟩ dX10_drawDeed_14 (fun H locs hS => ?_)
      refine lv_pop hx hb dX10_drawDeed_17 rfl ?_
      refine lv_goto (tgt := 78) hx hb dX10_drawDeed_18 (by decide) ?_
      obtain rfl := some_of hX
      exact x_V X hS dX10_drawDeed_78
  rw [hH, hlo] at hgoal
  exact hgoal
theorem mv_X10_drawDeed : Mv yX10_drawDeed RX10 cX10_drawDeed 3 ((none : Option Jvm.ClassFile.FieldType)) 0 := ⟨t8_58, t8_57, ts_89, t1_11, ⟨by decide, by decide⟩, by decide +kernel⟩
/-! SewnYearModel.drawn(IIII)I -/
def rm_X10_drawn : Room := { frames := 5, cells := 0, slots := 0, locals := 107 }
def b_X10_drawn_39 (a1 : Int32) (a2 : Int32) (a3 : Int32) (a4 : Int32) (rc : Int32 → Mem → Option (Int32 × Mem)) (v_5 : Int32) (M : Mem) : Option (Int32 × Mem) :=
  if a3 ≤ v_5 then (bn (f_X10_ofState M a4) fun r3 => some (r3, M)) else (bn (f_X10_drawDeed M) fun M5 => nm (v_5 + nI 1) fun v6 => rc v6 M5)
def f_X10_drawn_39 (a1 : Int32) (a2 : Int32) (a3 : Int32) (a4 : Int32) : Nat → (Int32 × Mem) → Option (Int32 × Mem) := lp (fun rc q => b_X10_drawn_39 a1 a2 a3 a4 (fun x0 x1 => rc (x0, x1)) q.1 q.2)
def f_X10_drawn (M : Mem) (a1 : Int32) (a2 : Int32) (a3 : Int32) (a4 : Int32) : Option (Int32 × Mem) :=
  nm (sI M 100 0 (nI 0)) fun M7 => bn (f_X10_in a3 (nI 0) (nI 60)) fun r9 => if r9 = true then (bp (f_X10_hand M7 a1) fun r13 M12 => if r13 = true then (nm (sI M12 100 53 a2) fun M15 => bn (f_X10_begin M15) fun M17 => f_X10_drawn_39 a1 a2 a3 a4 FU ((nI 0), M17)) else (some ((-1000), M12))) else (some ((-1000), M7))
set_option maxRecDepth 100000 in
set_option maxHeartbeats 4000000 in
theorem n_X10_drawn_39 {a1 : Int32} {a2 : Int32} {a3 : Int32} {a4 : Int32} (X : Cx p s m args meth c D cy ad A RX10 cX10_drawn 6 ((some .int))) (hN : Ob ns 10 100) : ∀ (n : Nat) (v_5 : Int32) (M : Mem) (r : Int32 × Mem), f_X10_drawn_39 a1 a2 a3 a4 n (v_5, M) = some r → ∀ (ls : Array Slot) (H : Heap) (locs : List Loc), lv_has ls 6 [(0, .ref (ad 100 0)), (3, .int a3), (4, .int a4), (5, .int v_5)] → St D cy ad ns A M s.heap H locs → W p l e rm_X10_drawn s m args below meth c H locs 0 0 (MQ below (QC D cy ad ns A r.2 (some (.int r.1))) args s 0 0 A) (F0 m 39 ls []) := by
  obtain ⟨hx, hb, hml, hown, hts, hK, hr, hlk, hA, hG⟩ := id X
  intro n
  induction n with
  | zero => intro v_5 M r hX; cases (show (none : Option (Int32 × Mem)) = some r from hX)
  | succ n ih =>
    intro v_5 M r hX ls H locs hl hS
    have hX : b_X10_drawn_39 a1 a2 a3 a4 (fun x0 x1 => f_X10_drawn_39 a1 a2 a3 a4 n (x0, x1)) v_5 M = some r := hX
    unfold b_X10_drawn_39 at hX
    refine lv_iload hx hb dX10_drawn_39 (lv_at hl 3 rfl) ?_
    refine lv_iload_n hx hb dX10_drawn_41 rfl (lv_at hl 1 rfl) ?_
    refine lv_icmp_ge (tgt := 55) hx hb dX10_drawn_42 (by decide) (fun c1 => ?_) (fun c1 => ?_)
    · have hX := if_t c1 hX
      refine lv_aload_n hx hb dX10_drawn_55 rfl (lv_at hl 0 rfl) ?_
      refine lv_iload hx hb dX10_drawn_56 (lv_at hl 2 rfl) ?_
      obtain ⟨r3, h2, hX⟩ := bn_of hX
      refine r_callV1 (v := .int r3) (As := [.int a4]) (rest := []) X hS (m_X10_ofState hN h2) mv_X10_ofState rfl (hN) t7_66 ⟨rfl, rfl, Nat.le_of_ble_eq_true rfl, Nat.le_of_ble_eq_true rfl⟩ rfl hl.1 rfl (Nat.le_of_ble_eq_true rfl) ⟨Nat.zero_le _, Nat.zero_le _⟩ dX10_drawn_58 (fun H locs hS => ?_)
      obtain rfl := some_of hX
      exact x_I (v := r3) X hS dX10_drawn_61
    · have hX := if_f c1 hX
      refine lv_aload_n hx hb dX10_drawn_45 rfl (lv_at hl 0 rfl) ?_
      obtain ⟨M5, h4, hX⟩ := bn_of hX
      refine r_callV0 (As := []) (rest := []) X hS (m_X10_drawDeed hN h4) mv_X10_drawDeed rfl (hN) t8_55 ⟨rfl, rfl, Nat.le_of_ble_eq_true rfl, Nat.le_of_ble_eq_true rfl⟩ rfl hl.1 rfl (Nat.le_of_ble_eq_true rfl) ⟨Nat.zero_le _, Nat.zero_le _⟩ dX10_drawn_46 (fun H locs hS => ?_)
      obtain ⟨v6, ev6⟩ : ∃ y : Int32, y = (v_5 + nI 1) := ⟨_, rfl⟩
      have hX := nm_of ev6 hX
      refine lv_iinc (v := v6) (lv' := [(5, .int v6), (0, .ref (ad 100 0)), (3, .int a3), (4, .int a4)]) hx hb dX10_drawn_49 hl (k := 3) rfl (by rw [ev6]; rfl) (by decide) rfl (fun ls hl => ?_)
      refine lv_goto (tgt := 39) hx hb dX10_drawn_52 (by decide) ?_
      exact ih _ _ _ hX _ _ _ (lv_sub hl [1, 2, 3, 0] rfl) hS
set_option maxRecDepth 100000 in
set_option maxHeartbeats 4000000 in
theorem m_X10_drawn {l : Launch} {D : va_G} {cy : Nat → ClassId} {ad : Nat → Nat → Nat} {ns : List (Nat × Nat)} {A : Nat → Prop} {M : Mem} (hN : Ob ns 10 100) {a1 : Int32} {a2 : Int32} {a3 : Int32} {a4 : Int32} {r : Int32 × Mem} (hX : f_X10_drawn M a1 a2 a3 a4 = some r) : Ct l yX10_drawn cX10_drawn 6 ((some .int)) rm_X10_drawn D cy ad ns A [.ref (ad 100 0), .int a1, .int a2, .int a3, .int a4] M r.2 (some (.int r.1)) := by
  refine ct_of (lv := [(0, .ref (ad 100 0)), (1, .int a1), (2, .int a2), (3, .int a3), (4, .int a4)]) (by decide) (Nat.le_of_ble_eq_true rfl) rfl ?_
  intro p e s m args below meth c ls X hl hS
  obtain ⟨hx, hb, hml, hown, hts, hK, hr, hlk, hA, hG⟩ := id X
  obtain ⟨H, hH⟩ : ∃ z, z = s.heap := ⟨_, rfl⟩
  obtain ⟨locs, hlo⟩ : ∃ z : List Loc, z = [] := ⟨_, rfl⟩
  have hS : St D cy ad ns A M s.heap H locs := by rw [hH, hlo]; exact hS
  have hgoal : W p l e rm_X10_drawn s m args below meth c H locs 0 0 (MQ below (QC D cy ad ns A r.2 (some (.int r.1))) args s 0 0 A) (F0 m 0 ls []) := by
    unfold f_X10_drawn at hX
    refine lv_aload_n hx hb dX10_drawn_0 rfl (lv_at hl 0 rfl) ?_
    refine lv_iconst (v := nI 0) hx hb dX10_drawn_1 (by decide) ?_
    refine fp_X10_94 X hS (hN) dX10_drawn_2 (fun H locs hS => ?_)
    obtain ⟨M7, eM7, hS, hX⟩ := nm_mem hS hX
    refine lv_iload_n hx hb dX10_drawn_5 rfl (lv_at hl 3 rfl) ?_
    refine lv_iconst (v := nI 0) hx hb dX10_drawn_6 (by decide) ?_
    refine lv_bipush (v := nI 60) hx hb dX10_drawn_7 (by decide) ?_
    obtain ⟨r9, h8, hX⟩ := bn_of hX
    refine r_callS1 (v := .int (b2i r9)) (As := [.int a3, .int (nI 0), .int (nI 60)]) (rest := []) X hS (m_X10_in (M := M7) hN h8) ms_X10_in t6_81 ⟨rfl, rfl, Nat.le_of_ble_eq_true rfl, Nat.le_of_ble_eq_true rfl⟩ rfl hl.1 rfl (Nat.le_of_ble_eq_true rfl) ⟨Nat.zero_le _, Nat.zero_le _⟩ dX10_drawn_9 (fun H locs hS => ?_)
    refine lv_if_eq (tgt := 23) hx hb dX10_drawn_12 (by decide) (fun c10 => ?_) (fun c10 => ?_)
    · have hX := if_bf c10 hX
      refine lv_sipush (v := (-1000)) hx hb dX10_drawn_23 (by decide) ?_
      obtain rfl := some_of hX
      exact x_I (v := (-1000)) X hS dX10_drawn_26
    · have hX := if_bt c10 hX
      refine lv_aload_n hx hb dX10_drawn_15 rfl (lv_at hl 0 rfl) ?_
      refine lv_iload_n hx hb dX10_drawn_16 rfl (lv_at hl 1 rfl) ?_
      obtain ⟨r13, M12, h11, hX⟩ := bp_of hX
      refine r_callV1 (v := .int (b2i r13)) (As := [.int a1]) (rest := []) X hS (m_X10_hand hN h11) mv_X10_hand rfl (hN) t6_216 ⟨rfl, rfl, Nat.le_of_ble_eq_true rfl, Nat.le_of_ble_eq_true rfl⟩ rfl hl.1 rfl (Nat.le_of_ble_eq_true rfl) ⟨Nat.zero_le _, Nat.zero_le _⟩ dX10_drawn_17 (fun H locs hS => ?_)
      refine lv_if_ne (tgt := 27) hx hb dX10_drawn_20 (by decide) (fun c14 => ?_) (fun c14 => ?_)
      · have hX := if_bt c14 hX
        refine lv_aload_n hx hb dX10_drawn_27 rfl (lv_at hl 0 rfl) ?_
        refine lv_iload_n hx hb dX10_drawn_28 rfl (lv_at hl 2 rfl) ?_
        refine fp_X10_536 X hS (hN) dX10_drawn_29 (fun H locs hS => ?_)
        obtain ⟨M15, eM15, hS, hX⟩ := nm_mem hS hX
        refine lv_aload_n hx hb dX10_drawn_32 rfl (lv_at hl 0 rfl) ?_
        obtain ⟨M17, h16, hX⟩ := bn_of hX
        refine r_callV0 (As := []) (rest := []) X hS (m_X10_begin hN h16) mv_X10_begin rfl (hN) t7_16 ⟨rfl, rfl, Nat.le_of_ble_eq_true rfl, Nat.le_of_ble_eq_true rfl⟩ rfl hl.1 rfl (Nat.le_of_ble_eq_true rfl) ⟨Nat.zero_le _, Nat.zero_le _⟩ dX10_drawn_33 (fun H locs hS => ?_)
        refine lv_iconst (v := nI 0) hx hb dX10_drawn_36 (by decide) ?_
        refine lv_istore (lv' := [(5, .int (nI 0)), (0, .ref (ad 100 0)), (1, .int a1), (2, .int a2), (3, .int a3), (4, .int a4)]) hx hb dX10_drawn_37 hl (by decide) rfl (fun ls hl => ?_)
        exact n_X10_drawn_39 X hN _ _ _ _ hX _ _ _ (lv_sub hl [1, 4, 5, 0] rfl) hS
      · have hX := if_bf c14 hX
        refine lv_sipush (v := (-1000)) hx hb dX10_drawn_23 (by decide) ?_
        obtain rfl := some_of hX
        exact x_I (v := (-1000)) X hS dX10_drawn_26
  rw [hH, hlo] at hgoal
  exact hgoal
theorem mv_X10_drawn : Mv yX10_drawn RX10 cX10_drawn 6 ((some .int)) 4 := ⟨t8_54, t8_52, t8_53, t1_11, ⟨by decide, by decide⟩, by decide +kernel⟩
/-! SewnYearModel.under(III)I -/
def rm_X10_under : Room := { frames := 3, cells := 0, slots := 0, locals := 68 }
def f_X10_under (M : Mem) (a1 : Int32) (a2 : Int32) (a3 : Int32) : Option (Int32 × Mem) :=
  nm (sI M 100 0 (nI 0)) fun M1 => bp (f_X10_hand M1 a1) fun r4 M3 => if r4 = true then (bn (f_X10_isSeam M3 a2) fun r7 => if r7 = true then (bn (f_X10_in a3 (nI 0) (nI 1)) fun r10 => if r10 = true then (bp (f_X10_findOrders M3) fun r14 M13 => if r14 = true then (if a3 = (nI 0) then (bn (f_X10_behind M13 a2) fun r23 => some (r23, M13)) else (bn (f_X10_ahead M13 a2) fun r18 => bn (f_X10_stitches M13 (r18 ||| ((nI 1) <<< (a2 &&& 31)))) fun r20 => gnz (gI M13 100 25) <| some (((r20 - (nI 1)) / (gI M13 100 25)), M13))) else (some ((-1), M13))) else (some ((-1), M3))) else (some ((-1), M3))) else (some ((-1), M3))
set_option maxRecDepth 100000 in
set_option maxHeartbeats 4000000 in
theorem m_X10_under {l : Launch} {D : va_G} {cy : Nat → ClassId} {ad : Nat → Nat → Nat} {ns : List (Nat × Nat)} {A : Nat → Prop} {M : Mem} (hN : Ob ns 10 100) {a1 : Int32} {a2 : Int32} {a3 : Int32} {r : Int32 × Mem} (hX : f_X10_under M a1 a2 a3 = some r) : Ct l yX10_under cX10_under 4 ((some .int)) rm_X10_under D cy ad ns A [.ref (ad 100 0), .int a1, .int a2, .int a3] M r.2 (some (.int r.1)) := by
  refine ct_of (lv := [(0, .ref (ad 100 0)), (1, .int a1), (2, .int a2), (3, .int a3)]) (by decide) (Nat.le_of_ble_eq_true rfl) rfl ?_
  intro p e s m args below meth c ls X hl hS
  obtain ⟨hx, hb, hml, hown, hts, hK, hr, hlk, hA, hG⟩ := id X
  obtain ⟨H, hH⟩ : ∃ z, z = s.heap := ⟨_, rfl⟩
  obtain ⟨locs, hlo⟩ : ∃ z : List Loc, z = [] := ⟨_, rfl⟩
  have hS : St D cy ad ns A M s.heap H locs := by rw [hH, hlo]; exact hS
  have hgoal : W p l e rm_X10_under s m args below meth c H locs 0 0 (MQ below (QC D cy ad ns A r.2 (some (.int r.1))) args s 0 0 A) (F0 m 0 ls []) := by
    unfold f_X10_under at hX
    refine lv_aload_n hx hb dX10_under_0 rfl (lv_at hl 0 rfl) ?_
    refine lv_iconst (v := nI 0) hx hb dX10_under_1 (by decide) ?_
    refine fp_X10_94 X hS (hN) dX10_under_2 (fun H locs hS => ?_)
    obtain ⟨M1, eM1, hS, hX⟩ := nm_mem hS hX
    refine lv_aload_n hx hb dX10_under_5 rfl (lv_at hl 0 rfl) ?_
    refine lv_iload_n hx hb dX10_under_6 rfl (lv_at hl 1 rfl) ?_
    obtain ⟨r4, M3, h2, hX⟩ := bp_of hX
    refine r_callV1 (v := .int (b2i r4)) (As := [.int a1]) (rest := []) X hS (m_X10_hand hN h2) mv_X10_hand rfl (hN) t6_216 ⟨rfl, rfl, Nat.le_of_ble_eq_true rfl, Nat.le_of_ble_eq_true rfl⟩ rfl hl.1 rfl (Nat.le_of_ble_eq_true rfl) ⟨Nat.zero_le _, Nat.zero_le _⟩ dX10_under_7 (fun H locs hS => ?_)
    refine lv_if_eq (tgt := 37) hx hb dX10_under_10 (by decide) (fun c5 => ?_) (fun c5 => ?_)
    · have hX := if_bf c5 hX
      refine lv_iconst (v := (-1)) hx hb dX10_under_37 (by decide) ?_
      obtain rfl := some_of hX
      exact x_I (v := (-1)) X hS dX10_under_38
    · have hX := if_bt c5 hX
      refine lv_aload_n hx hb dX10_under_13 rfl (lv_at hl 0 rfl) ?_
      refine lv_iload_n hx hb dX10_under_14 rfl (lv_at hl 2 rfl) ?_
      obtain ⟨r7, h6, hX⟩ := bn_of hX
      refine r_callV1 (v := .int (b2i r7)) (As := [.int a2]) (rest := []) X hS (m_X10_isSeam hN h6) mv_X10_isSeam rfl (hN) t6_224 ⟨rfl, rfl, Nat.le_of_ble_eq_true rfl, Nat.le_of_ble_eq_true rfl⟩ rfl hl.1 rfl (Nat.le_of_ble_eq_true rfl) ⟨Nat.zero_le _, Nat.zero_le _⟩ dX10_under_15 (fun H locs hS => ?_)
      refine lv_if_eq (tgt := 37) hx hb dX10_under_18 (by decide) (fun c8 => ?_) (fun c8 => ?_)
      · have hX := if_bf c8 hX
        refine lv_iconst (v := (-1)) hx hb dX10_under_37 (by decide) ?_
        obtain rfl := some_of hX
        exact x_I (v := (-1)) X hS dX10_under_38
      · have hX := if_bt c8 hX
        refine lv_iload_n hx hb dX10_under_21 rfl (lv_at hl 3 rfl) ?_
        refine lv_iconst (v := nI 0) hx hb dX10_under_22 (by decide) ?_
        refine lv_iconst (v := nI 1) hx hb dX10_under_23 (by decide) ?_
        obtain ⟨r10, h9, hX⟩ := bn_of hX
        refine r_callS1 (v := .int (b2i r10)) (As := [.int a3, .int (nI 0), .int (nI 1)]) (rest := []) X hS (m_X10_in (M := M3) hN h9) ms_X10_in t6_81 ⟨rfl, rfl, Nat.le_of_ble_eq_true rfl, Nat.le_of_ble_eq_true rfl⟩ rfl hl.1 rfl (Nat.le_of_ble_eq_true rfl) ⟨Nat.zero_le _, Nat.zero_le _⟩ dX10_under_24 (fun H locs hS => ?_)
        refine lv_if_eq (tgt := 37) hx hb dX10_under_27 (by decide) (fun c11 => ?_) (fun c11 => ?_)
        · have hX := if_bf c11 hX
          refine lv_iconst (v := (-1)) hx hb dX10_under_37 (by decide) ?_
          obtain rfl := some_of hX
          exact x_I (v := (-1)) X hS dX10_under_38
        · have hX := if_bt c11 hX
          refine lv_aload_n hx hb dX10_under_30 rfl (lv_at hl 0 rfl) ?_
          obtain ⟨r14, M13, h12, hX⟩ := bp_of hX
          refine r_callV1 (v := .int (b2i r14)) (As := []) (rest := []) X hS (m_X10_findOrders hN h12) mv_X10_findOrders rfl (hN) t7_75 ⟨rfl, rfl, Nat.le_of_ble_eq_true rfl, Nat.le_of_ble_eq_true rfl⟩ rfl hl.1 rfl (Nat.le_of_ble_eq_true rfl) ⟨Nat.zero_le _, Nat.zero_le _⟩ dX10_under_31 (fun H locs hS => ?_)
          refine lv_if_ne (tgt := 39) hx hb dX10_under_34 (by decide) (fun c15 => ?_) (fun c15 => ?_)
          · have hX := if_bt c15 hX
            refine lv_iload_n hx hb dX10_under_39 rfl (lv_at hl 3 rfl) ?_
            refine lv_if_ne (tgt := 51) hx hb dX10_under_40 (by decide) (fun c16 => ?_) (fun c16 => ?_)
            · have hX := if_f c16 hX
              refine lv_aload_n hx hb dX10_under_51 rfl (lv_at hl 0 rfl) ?_
              refine lv_aload_n hx hb dX10_under_52 rfl (lv_at hl 0 rfl) ?_
              refine lv_iload_n hx hb dX10_under_53 rfl (lv_at hl 2 rfl) ?_
              obtain ⟨r18, h17, hX⟩ := bn_of hX
              refine r_callV1 (v := .int r18) (As := [.int a2]) (rest := [.ref (ad 100 0)]) X hS (m_X10_ahead hN h17) mv_X10_ahead rfl (hN) t7_91 ⟨rfl, rfl, Nat.le_of_ble_eq_true rfl, Nat.le_of_ble_eq_true rfl⟩ rfl hl.1 rfl (Nat.le_of_ble_eq_true rfl) ⟨Nat.zero_le _, Nat.zero_le _⟩ dX10_under_54 (fun H locs hS => ?_)
              refine lv_iconst (v := nI 1) hx hb dX10_under_57 (by decide) ?_
              refine lv_iload_n hx hb dX10_under_58 rfl (lv_at hl 2 rfl) ?_
              refine lv_ishl hx hb dX10_under_59 ?_
              refine lv_ior hx hb dX10_under_60 ?_
              obtain ⟨r20, h19, hX⟩ := bn_of hX
              refine r_callV1 (v := .int r20) (As := [.int (r18 ||| ((nI 1) <<< (a2 &&& 31)))]) (rest := []) X hS (m_X10_stitches hN h19) mv_X10_stitches rfl (hN) t7_111 ⟨rfl, rfl, Nat.le_of_ble_eq_true rfl, Nat.le_of_ble_eq_true rfl⟩ rfl hl.1 rfl (Nat.le_of_ble_eq_true rfl) ⟨Nat.zero_le _, Nat.zero_le _⟩ dX10_under_61 (fun H locs hS => ?_)
              refine lv_iconst (v := nI 1) hx hb dX10_under_64 (by decide) ?_
              refine lv_isub hx hb dX10_under_65 ?_
              refine lv_aload_n hx hb dX10_under_66 rfl (lv_at hl 0 rfl) ?_
              refine fg_X10_284 X hS (hN) dX10_under_67 ?_
              obtain ⟨g21, hX⟩ := gnz_of hX
              refine lv_idiv hx hb dX10_under_70 g21 ?_
              obtain rfl := some_of hX
              exact x_I (v := ((r20 - (nI 1)) / (gI M13 100 25))) X hS dX10_under_71
            · have hX := if_t c16 hX
              refine lv_aload_n hx hb dX10_under_43 rfl (lv_at hl 0 rfl) ?_
              refine lv_iload_n hx hb dX10_under_44 rfl (lv_at hl 2 rfl) ?_
              obtain ⟨r23, h22, hX⟩ := bn_of hX
              refine r_callV1 (v := .int r23) (As := [.int a2]) (rest := []) X hS (m_X10_behind hN h22) mv_X10_behind rfl (hN) t7_98 ⟨rfl, rfl, Nat.le_of_ble_eq_true rfl, Nat.le_of_ble_eq_true rfl⟩ rfl hl.1 rfl (Nat.le_of_ble_eq_true rfl) ⟨Nat.zero_le _, Nat.zero_le _⟩ dX10_under_45 (fun H locs hS => ?_)
              refine lv_goto (tgt := 71) hx hb dX10_under_48 (by decide) ?_
              obtain rfl := some_of hX
              exact x_I (v := r23) X hS dX10_under_71
          · have hX := if_bf c15 hX
            refine lv_iconst (v := (-1)) hx hb dX10_under_37 (by decide) ?_
            obtain rfl := some_of hX
            exact x_I (v := (-1)) X hS dX10_under_38
  rw [hH, hlo] at hgoal
  exact hgoal
theorem mv_X10_under : Mv yX10_under RX10 cX10_under 4 ((some .int)) 3 := ⟨t8_67, t8_65, t8_66, t1_11, ⟨by decide, by decide⟩, by decide +kernel⟩
/-! SewnYearModel.canBegin(II)Z -/
def rm_X10_canBegin : Room := { frames := 1, cells := 0, slots := 0, locals := 21 }
def f_X10_canBegin_59 (M : Mem) (a1 : Int32) (a2 : Int32) (k_14 : Int32 → Option (Bool)) (v_3 : Int32) : Option (Bool) :=
  nm (v_3 + nI 1) fun v1 => k_14 v1
def b_X10_canBegin_14 (M : Mem) (a1 : Int32) (a2 : Int32) (rc : Int32 → Option (Bool)) (v_3 : Int32) : Option (Bool) :=
  if (gI M 100 24) ≤ v_3 then (some true) else (bn (f_X10_of M ((nI 29) + a1)) fun r4 => bn (f_X10_has r4 v_3) fun r6 => if r6 = true then (gin v_3 9 <| if (gA M 100 54 (ix v_3)) = (-1) then (some false) else (gin v_3 9 <| if (gA M 100 54 (ix v_3)) < a2 then (f_X10_canBegin_59 M a1 a2 rc v_3) else (some false))) else (f_X10_canBegin_59 M a1 a2 rc v_3))
def f_X10_canBegin_14 (M : Mem) (a1 : Int32) (a2 : Int32) : Nat → Int32 → Option (Bool) := lp (fun rc q => b_X10_canBegin_14 M a1 a2 (fun x0 => rc x0) q)
def f_X10_canBegin (M : Mem) (a1 : Int32) (a2 : Int32) : Option (Bool) :=
  gin a1 9 <| if (gA M 100 54 (ix a1)) = (-1) then (f_X10_canBegin_14 M a1 a2 FU (nI 0)) else (some false)
set_option maxRecDepth 100000 in
set_option maxHeartbeats 4000000 in
theorem n_X10_canBegin_59 {a1 : Int32} {a2 : Int32} (X : Cx p s m args meth c D cy ad A RX10 cX10_canBegin 4 ((some .boolean))) (hN : Ob ns 10 100) {M : Mem} {k_14 : Int32 → Option (Bool)} {v_3 : Int32} {r : Bool} (hX : f_X10_canBegin_59 M a1 a2 k_14 v_3 = some r) : (∀ (v_3 : Int32) (r : Bool), k_14 v_3 = some r → ∀ (ls : Array Slot) (H : Heap) (locs : List Loc), lv_has ls 4 [(0, .ref (ad 100 0)), (1, .int a1), (2, .int a2), (3, .int v_3)] → St D cy ad ns A M s.heap H locs → W p l e rm_X10_canBegin s m args below meth c H locs 0 0 (MQ below (QC D cy ad ns A M (some (.int (b2i r)))) args s 0 0 A) (F0 m 14 ls [])) → ∀ (ls : Array Slot) (H : Heap) (locs : List Loc), lv_has ls 4 [(0, .ref (ad 100 0)), (1, .int a1), (2, .int a2), (3, .int v_3)] → St D cy ad ns A M s.heap H locs → W p l e rm_X10_canBegin s m args below meth c H locs 0 0 (MQ below (QC D cy ad ns A M (some (.int (b2i r)))) args s 0 0 A) (F0 m 59 ls []) := by
  obtain ⟨hx, hb, hml, hown, hts, hK, hr, hlk, hA, hG⟩ := id X
  intro hk_14 ls H locs hl hS
  unfold f_X10_canBegin_59 at hX
  obtain ⟨v1, ev1⟩ : ∃ y : Int32, y = (v_3 + nI 1) := ⟨_, rfl⟩
  have hX := nm_of ev1 hX
  refine lv_iinc (v := v1) (lv' := [(3, .int v1), (0, .ref (ad 100 0)), (1, .int a1), (2, .int a2)]) hx hb dX10_canBegin_59 hl (k := 3) rfl (by rw [ev1]; rfl) (by decide) rfl (fun ls hl => ?_)
  refine lv_goto (tgt := 14) hx hb dX10_canBegin_62 (by decide) ?_
  exact hk_14 _ _ hX _ _ _ (lv_sub hl [1, 2, 3, 0] rfl) hS
set_option maxRecDepth 100000 in
set_option maxHeartbeats 4000000 in
theorem n_X10_canBegin_14 {a1 : Int32} {a2 : Int32} (X : Cx p s m args meth c D cy ad A RX10 cX10_canBegin 4 ((some .boolean))) (hN : Ob ns 10 100) {M : Mem} : ∀ (n : Nat) (v_3 : Int32) (r : Bool), f_X10_canBegin_14 M a1 a2 n v_3 = some r → ∀ (ls : Array Slot) (H : Heap) (locs : List Loc), lv_has ls 4 [(0, .ref (ad 100 0)), (1, .int a1), (2, .int a2), (3, .int v_3)] → St D cy ad ns A M s.heap H locs → W p l e rm_X10_canBegin s m args below meth c H locs 0 0 (MQ below (QC D cy ad ns A M (some (.int (b2i r)))) args s 0 0 A) (F0 m 14 ls []) := by
  obtain ⟨hx, hb, hml, hown, hts, hK, hr, hlk, hA, hG⟩ := id X
  intro n
  induction n with
  | zero => intro v_3 r hX; cases (show (none : Option (Bool)) = some r from hX)
  | succ n ih =>
    intro v_3 r hX ls H locs hl hS
    have hX : b_X10_canBegin_14 M a1 a2 (fun x0 => f_X10_canBegin_14 M a1 a2 n x0) v_3 = some r := hX
    unfold b_X10_canBegin_14 at hX
    refine lv_iload_n hx hb dX10_canBegin_14 rfl (lv_at hl 3 rfl) ?_
    refine lv_aload_n hx hb dX10_canBegin_15 rfl (lv_at hl 0 rfl) ?_
    refine fg_X10_281 X hS (hN) dX10_canBegin_16 ?_
    refine lv_icmp_ge (tgt := 65) hx hb dX10_canBegin_19 (by decide) (fun c2 => ?_) (fun c2 => ?_)
    · have hX := if_t c2 hX
      refine lv_iconst (v := nI 1) hx hb dX10_canBegin_65 (by decide) ?_
      obtain rfl := some_of hX
      exact x_Z (v := true) X hS dX10_canBegin_66
    · have hX := if_f c2 hX
      refine lv_aload_n hx hb dX10_canBegin_22 rfl (lv_at hl 0 rfl) ?_
      refine lv_bipush (v := nI 29) hx hb dX10_canBegin_23 (by decide) ?_
      refine lv_iload_n hx hb dX10_canBegin_25 rfl (lv_at hl 1 rfl) ?_
      refine lv_iadd hx hb dX10_canBegin_26 ?_
      obtain ⟨r4, h3, hX⟩ := bn_of hX
      refine r_callV1 (v := .int r4) (As := [.int ((nI 29) + a1)]) (rest := []) X hS (m_X10_of hN h3) mv_X10_of rfl (hN) t6_220 ⟨rfl, rfl, Nat.le_of_ble_eq_true rfl, Nat.le_of_ble_eq_true rfl⟩ rfl hl.1 rfl (Nat.le_of_ble_eq_true rfl) ⟨Nat.zero_le _, Nat.zero_le _⟩ dX10_canBegin_27 (fun H locs hS => ?_)
      refine lv_iload_n hx hb dX10_canBegin_30 rfl (lv_at hl 3 rfl) ?_
      obtain ⟨r6, h5, hX⟩ := bn_of hX
      refine r_callS1 (v := .int (b2i r6)) (As := [.int r4, .int v_3]) (rest := []) X hS (m_X10_has (M := M) hN h5) ms_X10_has t7_36 ⟨rfl, rfl, Nat.le_of_ble_eq_true rfl, Nat.le_of_ble_eq_true rfl⟩ rfl hl.1 rfl (Nat.le_of_ble_eq_true rfl) ⟨Nat.zero_le _, Nat.zero_le _⟩ dX10_canBegin_31 (fun H locs hS => ?_)
      refine lv_if_eq (tgt := 59) hx hb dX10_canBegin_34 (by decide) (fun c7 => ?_) (fun c7 => ?_)
      · have hX := if_bf c7 hX
        exact n_X10_canBegin_59 X hN hX (fun z0 r h ls H locs hl hS => ih z0 r h ls H locs hl hS) _ _ _ (lv_sub hl [0, 1, 2, 3] rfl) hS
      · have hX := if_bt c7 hX
        refine lv_aload_n hx hb dX10_canBegin_37 rfl (lv_at hl 0 rfl) ?_
        refine fg_X10_81 X hS (hN) dX10_canBegin_38 ?_
        refine lv_iload_n hx hb dX10_canBegin_41 rfl (lv_at hl 3 rfl) ?_
        obtain ⟨g8, hX⟩ := gin_of hX
        refine r_iald (ci := 10) (o := 100) (k := 54) (n := 9) X hS (hN) rfl rfl g8 dX10_canBegin_42 ?_
        refine lv_iconst (v := (-1)) hx hb dX10_canBegin_43 (by decide) ?_
        refine lv_icmp_eq (tgt := 57) hx hb dX10_canBegin_44 (by decide) (fun c9 => ?_) (fun c9 => ?_)
        · have hX := if_t c9 hX
          refine lv_iconst (v := nI 0) hx hb dX10_canBegin_57 (by decide) ?_
          obtain rfl := some_of hX
          exact x_Z (v := false) X hS dX10_canBegin_58
        · have hX := if_f c9 hX
          refine lv_aload_n hx hb dX10_canBegin_47 rfl (lv_at hl 0 rfl) ?_
          refine fg_X10_81 X hS (hN) dX10_canBegin_48 ?_
          refine lv_iload_n hx hb dX10_canBegin_51 rfl (lv_at hl 3 rfl) ?_
          obtain ⟨g10, hX⟩ := gin_of hX
          refine r_iald (ci := 10) (o := 100) (k := 54) (n := 9) X hS (hN) rfl rfl g10 dX10_canBegin_52 ?_
          refine lv_iload_n hx hb dX10_canBegin_53 rfl (lv_at hl 2 rfl) ?_
          refine lv_icmp_lt (tgt := 59) hx hb dX10_canBegin_54 (by decide) (fun c11 => ?_) (fun c11 => ?_)
          · have hX := if_t c11 hX
            exact n_X10_canBegin_59 X hN hX (fun z0 r h ls H locs hl hS => ih z0 r h ls H locs hl hS) _ _ _ (lv_sub hl [0, 1, 2, 3] rfl) hS
          · have hX := if_f c11 hX
            refine lv_iconst (v := nI 0) hx hb dX10_canBegin_57 (by decide) ?_
            obtain rfl := some_of hX
            exact x_Z (v := false) X hS dX10_canBegin_58
set_option maxRecDepth 100000 in
set_option maxHeartbeats 4000000 in
theorem m_X10_canBegin {l : Launch} {D : va_G} {cy : Nat → ClassId} {ad : Nat → Nat → Nat} {ns : List (Nat × Nat)} {A : Nat → Prop} {M : Mem} (hN : Ob ns 10 100) {a1 : Int32} {a2 : Int32} {r : Bool} (hX : f_X10_canBegin M a1 a2 = some r) : Ct l yX10_canBegin cX10_canBegin 4 ((some .boolean)) rm_X10_canBegin D cy ad ns A [.ref (ad 100 0), .int a1, .int a2] M M (some (.int (b2i r))) := by
  refine ct_of (lv := [(0, .ref (ad 100 0)), (1, .int a1), (2, .int a2)]) (by decide) (Nat.le_of_ble_eq_true rfl) rfl ?_
  intro p e s m args below meth c ls X hl hS
  obtain ⟨hx, hb, hml, hown, hts, hK, hr, hlk, hA, hG⟩ := id X
  obtain ⟨H, hH⟩ : ∃ z, z = s.heap := ⟨_, rfl⟩
  obtain ⟨locs, hlo⟩ : ∃ z : List Loc, z = [] := ⟨_, rfl⟩
  have hS : St D cy ad ns A M s.heap H locs := by rw [hH, hlo]; exact hS
  have hgoal : W p l e rm_X10_canBegin s m args below meth c H locs 0 0 (MQ below (QC D cy ad ns A M (some (.int (b2i r)))) args s 0 0 A) (F0 m 0 ls []) := by
    unfold f_X10_canBegin at hX
    refine lv_aload_n hx hb dX10_canBegin_0 rfl (lv_at hl 0 rfl) ?_
    refine fg_X10_81 X hS (hN) dX10_canBegin_1 ?_
    refine lv_iload_n hx hb dX10_canBegin_4 rfl (lv_at hl 1 rfl) ?_
    obtain ⟨g12, hX⟩ := gin_of hX
    refine r_iald (ci := 10) (o := 100) (k := 54) (n := 9) X hS (hN) rfl rfl g12 dX10_canBegin_5 ?_
    refine lv_iconst (v := (-1)) hx hb dX10_canBegin_6 (by decide) ?_
    refine lv_icmp_eq (tgt := 12) hx hb dX10_canBegin_7 (by decide) (fun c13 => ?_) (fun c13 => ?_)
    · have hX := if_t c13 hX
      refine lv_iconst (v := nI 0) hx hb dX10_canBegin_12 (by decide) ?_
      refine lv_istore_n (lv' := [(3, .int (nI 0)), (0, .ref (ad 100 0)), (1, .int a1), (2, .int a2)]) hx hb dX10_canBegin_13 rfl hl (by decide) rfl (fun ls hl => ?_)
      exact n_X10_canBegin_14 X hN _ _ _ hX _ _ _ (lv_sub hl [1, 2, 3, 0] rfl) hS
    · have hX := if_f c13 hX
      refine lv_iconst (v := nI 0) hx hb dX10_canBegin_10 (by decide) ?_
      obtain rfl := some_of hX
      exact x_Z (v := false) X hS dX10_canBegin_11
  rw [hH, hlo] at hgoal
  exact hgoal
theorem mv_X10_canBegin : Mv yX10_canBegin RX10 cX10_canBegin 4 ((some .boolean)) 2 := ⟨t8_79, t8_78, ts_92, t1_11, ⟨by decide, by decide⟩, by decide +kernel⟩
/-! SewnYearModel.morning(II)V -/
def rm_X10_morning : Room := { frames := 2, cells := 0, slots := 0, locals := 44 }
def f_X10_morning_95 (a1 : Int32) (a2 : Int32) (v_3 : Int32) (k_27 : Bool → Int32 → Mem → Option (Mem)) (v_4 : Bool) (v_5 : Int32) (M : Mem) : Option (Mem) :=
  nm (v_5 + nI 1) fun v1 => k_27 v_4 v1 M
def f_X10_morning_101 (a1 : Int32) (a2 : Int32) (k_2 : Int32 → Mem → Option (Mem)) (v_3 : Int32) (M : Mem) : Option (Mem) :=
  nm (v_3 + nI 1) fun v2 => k_2 v2 M
def b_X10_morning_27 (a1 : Int32) (a2 : Int32) (k_2 : Int32 → Mem → Option (Mem)) (v_3 : Int32) (rc : Bool → Int32 → Mem → Option (Mem)) (v_4 : Bool) (v_5 : Int32) (M : Mem) : Option (Mem) :=
  if (gI M 100 24) ≤ v_5 then (f_X10_morning_101 a1 a2 k_2 v_3 M) else (if v_4 = true then (f_X10_morning_101 a1 a2 k_2 v_3 M) else (bn (f_X10_canBegin M v_5 a2) fun r6 => if r6 = true then (bn (f_X10_of M ((nI 2) + v_5)) fun r9 => bn (f_X10_upwards r9 (gI M 100 25)) fun r11 => gin v_5 9 <| nm (sA M 100 54 (ix v_5) ((a2 + r11) - (nI 1))) fun M13 => gin v_5 9 <| gin v_3 4 <| nm (sA M13 100 55 (ix v_3) ((gA M13 100 54 (ix v_5)) + (nI 1))) fun M16 => f_X10_morning_95 a1 a2 v_3 rc true v_5 M16) else (f_X10_morning_95 a1 a2 v_3 rc v_4 v_5 M)))
def f_X10_morning_27 (a1 : Int32) (a2 : Int32) (k_2 : Int32 → Mem → Option (Mem)) (v_3 : Int32) : Nat → (Bool × Int32 × Mem) → Option (Mem) := lp (fun rc q => b_X10_morning_27 a1 a2 k_2 v_3 (fun x0 x1 x2 => rc (x0, x1, x2)) q.1 q.2.1 q.2.2)
def f_X10_morning_22 (a1 : Int32) (a2 : Int32) (k_2 : Int32 → Mem → Option (Mem)) (v_3 : Int32) (s_0 : Bool) (M : Mem) : Option (Mem) :=
  f_X10_morning_27 a1 a2 k_2 v_3 FU (s_0, (nI 0), M)
def b_X10_morning_2 (a1 : Int32) (a2 : Int32) (rc : Int32 → Mem → Option (Mem)) (v_3 : Int32) (M : Mem) : Option (Mem) :=
  if a1 ≤ v_3 then (some M) else (gin v_3 4 <| if (gA M 100 55 (ix v_3)) ≤ a2 then (f_X10_morning_22 a1 a2 rc v_3 false M) else (f_X10_morning_22 a1 a2 rc v_3 true M))
def f_X10_morning_2 (a1 : Int32) (a2 : Int32) : Nat → (Int32 × Mem) → Option (Mem) := lp (fun rc q => b_X10_morning_2 a1 a2 (fun x0 x1 => rc (x0, x1)) q.1 q.2)
def f_X10_morning (M : Mem) (a1 : Int32) (a2 : Int32) : Option (Mem) :=
  f_X10_morning_2 a1 a2 FU ((nI 0), M)
set_option maxRecDepth 100000 in
set_option maxHeartbeats 4000000 in
theorem n_X10_morning_95 {a1 : Int32} {a2 : Int32} {v_3 : Int32} (X : Cx p s m args meth c D cy ad A RX10 cX10_morning 6 ((none : Option Jvm.ClassFile.FieldType))) (hN : Ob ns 10 100) {k_27 : Bool → Int32 → Mem → Option (Mem)} {v_4 : Bool} {v_5 : Int32} {M : Mem} {r : Mem} (hX : f_X10_morning_95 a1 a2 v_3 k_27 v_4 v_5 M = some r) : (∀ (v_4 : Bool) (v_5 : Int32) (M : Mem) (r : Mem), k_27 v_4 v_5 M = some r → ∀ (ls : Array Slot) (H : Heap) (locs : List Loc), lv_has ls 6 [(0, .ref (ad 100 0)), (1, .int a1), (2, .int a2), (3, .int v_3), (4, .int (b2i v_4)), (5, .int v_5)] → St D cy ad ns A M s.heap H locs → W p l e rm_X10_morning s m args below meth c H locs 0 0 (MQ below (QC D cy ad ns A r none) args s 0 0 A) (F0 m 27 ls [])) → ∀ (ls : Array Slot) (H : Heap) (locs : List Loc), lv_has ls 6 [(0, .ref (ad 100 0)), (1, .int a1), (2, .int a2), (3, .int v_3), (4, .int (b2i v_4)), (5, .int v_5)] → St D cy ad ns A M s.heap H locs → W p l e rm_X10_morning s m args below meth c H locs 0 0 (MQ below (QC D cy ad ns A r none) args s 0 0 A) (F0 m 95 ls []) := by
  obtain ⟨hx, hb, hml, hown, hts, hK, hr, hlk, hA, hG⟩ := id X
  intro hk_27 ls H locs hl hS
  unfold f_X10_morning_95 at hX
  obtain ⟨v1, ev1⟩ : ∃ y : Int32, y = (v_5 + nI 1) := ⟨_, rfl⟩
  have hX := nm_of ev1 hX
  refine lv_iinc (v := v1) (lv' := [(5, .int v1), (0, .ref (ad 100 0)), (1, .int a1), (2, .int a2), (3, .int v_3), (4, .int (b2i v_4))]) hx hb dX10_morning_95 hl (k := 5) rfl (by rw [ev1]; rfl) (by decide) rfl (fun ls hl => ?_)
  refine lv_goto (tgt := 27) hx hb dX10_morning_98 (by decide) ?_
  exact hk_27 _ _ _ _ hX _ _ _ (lv_sub hl [1, 2, 3, 4, 5, 0] rfl) hS
set_option maxRecDepth 100000 in
set_option maxHeartbeats 4000000 in
theorem n_X10_morning_101 {a1 : Int32} {a2 : Int32} (X : Cx p s m args meth c D cy ad A RX10 cX10_morning 6 ((none : Option Jvm.ClassFile.FieldType))) (hN : Ob ns 10 100) {k_2 : Int32 → Mem → Option (Mem)} {v_3 : Int32} {M : Mem} {r : Mem} (hX : f_X10_morning_101 a1 a2 k_2 v_3 M = some r) : (∀ (v_3 : Int32) (M : Mem) (r : Mem), k_2 v_3 M = some r → ∀ (ls : Array Slot) (H : Heap) (locs : List Loc), lv_has ls 6 [(0, .ref (ad 100 0)), (1, .int a1), (2, .int a2), (3, .int v_3)] → St D cy ad ns A M s.heap H locs → W p l e rm_X10_morning s m args below meth c H locs 0 0 (MQ below (QC D cy ad ns A r none) args s 0 0 A) (F0 m 2 ls [])) → ∀ (ls : Array Slot) (H : Heap) (locs : List Loc), lv_has ls 6 [(0, .ref (ad 100 0)), (1, .int a1), (2, .int a2), (3, .int v_3)] → St D cy ad ns A M s.heap H locs → W p l e rm_X10_morning s m args below meth c H locs 0 0 (MQ below (QC D cy ad ns A r none) args s 0 0 A) (F0 m 101 ls []) := by
  obtain ⟨hx, hb, hml, hown, hts, hK, hr, hlk, hA, hG⟩ := id X
  intro hk_2 ls H locs hl hS
  unfold f_X10_morning_101 at hX
  obtain ⟨v2, ev2⟩ : ∃ y : Int32, y = (v_3 + nI 1) := ⟨_, rfl⟩
  have hX := nm_of ev2 hX
  refine lv_iinc (v := v2) (lv' := [(3, .int v2), (0, .ref (ad 100 0)), (1, .int a1), (2, .int a2)]) hx hb dX10_morning_101 hl (k := 3) rfl (by rw [ev2]; rfl) (by decide) rfl (fun ls hl => ?_)
  refine lv_goto (tgt := 2) hx hb dX10_morning_104 (by decide) ?_
  exact hk_2 _ _ _ hX _ _ _ (lv_sub hl [1, 2, 3, 0] rfl) hS
set_option maxRecDepth 100000 in
set_option maxHeartbeats 4000000 in
theorem n_X10_morning_27 {a1 : Int32} {a2 : Int32} (X : Cx p s m args meth c D cy ad A RX10 cX10_morning 6 ((none : Option Jvm.ClassFile.FieldType))) (hN : Ob ns 10 100) {k_2 : Int32 → Mem → Option (Mem)} {v_3 : Int32} : ∀ (n : Nat) (v_4 : Bool) (v_5 : Int32) (M : Mem) (r : Mem), f_X10_morning_27 a1 a2 k_2 v_3 n (v_4, v_5, M) = some r → (∀ (v_3 : Int32) (M : Mem) (r : Mem), k_2 v_3 M = some r → ∀ (ls : Array Slot) (H : Heap) (locs : List Loc), lv_has ls 6 [(0, .ref (ad 100 0)), (1, .int a1), (2, .int a2), (3, .int v_3)] → St D cy ad ns A M s.heap H locs → W p l e rm_X10_morning s m args below meth c H locs 0 0 (MQ below (QC D cy ad ns A r none) args s 0 0 A) (F0 m 2 ls [])) → ∀ (ls : Array Slot) (H : Heap) (locs : List Loc), lv_has ls 6 [(0, .ref (ad 100 0)), (1, .int a1), (2, .int a2), (3, .int v_3), (4, .int (b2i v_4)), (5, .int v_5)] → St D cy ad ns A M s.heap H locs → W p l e rm_X10_morning s m args below meth c H locs 0 0 (MQ below (QC D cy ad ns A r none) args s 0 0 A) (F0 m 27 ls []) := by
  obtain ⟨hx, hb, hml, hown, hts, hK, hr, hlk, hA, hG⟩ := id X
  intro n
  induction n with
  | zero => intro v_4 v_5 M r hX; cases (show (none : Option (Mem)) = some r from hX)
  | succ n ih =>
    intro v_4 v_5 M r hX hk_2 ls H locs hl hS
    have hX : b_X10_morning_27 a1 a2 k_2 v_3 (fun x0 x1 x2 => f_X10_morning_27 a1 a2 k_2 v_3 n (x0, x1, x2)) v_4 v_5 M = some r := hX
    unfold b_X10_morning_27 at hX
    refine lv_iload hx hb dX10_morning_27 (lv_at hl 5 rfl) ?_
    refine lv_aload_n hx hb dX10_morning_29 rfl (lv_at hl 0 rfl) ?_
    refine fg_X10_281 X hS (hN) dX10_morning_30 ?_
    refine lv_icmp_ge (tgt := 101) hx hb dX10_morning_33 (by decide) (fun c3 => ?_) (fun c3 => ?_)
    · have hX := if_t c3 hX
      exact n_X10_morning_101 X hN hX hk_2 _ _ _ (lv_sub hl [0, 1, 2, 3] rfl) hS
    · have hX := if_f c3 hX
      refine lv_iload hx hb dX10_morning_36 (lv_at hl 4 rfl) ?_
      refine lv_if_ne (tgt := 101) hx hb dX10_morning_38 (by decide) (fun c4 => ?_) (fun c4 => ?_)
      · have hX := if_bt c4 hX
        exact n_X10_morning_101 X hN hX hk_2 _ _ _ (lv_sub hl [0, 1, 2, 3] rfl) hS
      · have hX := if_bf c4 hX
        refine lv_aload_n hx hb dX10_morning_41 rfl (lv_at hl 0 rfl) ?_
        refine lv_iload hx hb dX10_morning_42 (lv_at hl 5 rfl) ?_
        refine lv_iload_n hx hb dX10_morning_44 rfl (lv_at hl 2 rfl) ?_
        obtain ⟨r6, h5, hX⟩ := bn_of hX
        refine r_callV1 (v := .int (b2i r6)) (As := [.int v_5, .int a2]) (rest := []) X hS (m_X10_canBegin hN h5) mv_X10_canBegin rfl (hN) t8_76 ⟨rfl, rfl, Nat.le_of_ble_eq_true rfl, Nat.le_of_ble_eq_true rfl⟩ rfl hl.1 rfl (Nat.le_of_ble_eq_true rfl) ⟨Nat.zero_le _, Nat.zero_le _⟩ dX10_morning_45 (fun H locs hS => ?_)
        refine lv_if_eq (tgt := 95) hx hb dX10_morning_48 (by decide) (fun c7 => ?_) (fun c7 => ?_)
        · have hX := if_bf c7 hX
          exact n_X10_morning_95 X hN hX (fun z0 z1 z2 r h ls H locs hl hS => ih z0 z1 z2 r h hk_2 ls H locs hl hS) _ _ _ (lv_sub hl [0, 1, 2, 3, 4, 5] rfl) hS
        · have hX := if_bt c7 hX
          refine lv_iconst (v := nI 1) hx hb dX10_morning_51 (by decide) ?_
          refine lv_istore (lv' := [(4, .int (nI 1)), (0, .ref (ad 100 0)), (1, .int a1), (2, .int a2), (3, .int v_3), (5, .int v_5)]) hx hb dX10_morning_52 hl (by decide) rfl (fun ls hl => ?_)
          refine lv_aload_n hx hb dX10_morning_54 rfl (lv_at hl 1 rfl) ?_
          refine fg_X10_81 X hS (hN) dX10_morning_55 ?_
          refine lv_iload hx hb dX10_morning_58 (lv_at hl 5 rfl) ?_
          refine lv_iload_n hx hb dX10_morning_60 rfl (lv_at hl 3 rfl) ?_
          refine lv_aload_n hx hb dX10_morning_61 rfl (lv_at hl 1 rfl) ?_
          refine lv_iconst (v := nI 2) hx hb dX10_morning_62 (by decide) ?_
          refine lv_iload hx hb dX10_morning_63 (lv_at hl 5 rfl) ?_
          refine lv_iadd hx hb dX10_morning_65 ?_
          obtain ⟨r9, h8, hX⟩ := bn_of hX
          refine r_callV1 (v := .int r9) (As := [.int ((nI 2) + v_5)]) (rest := [.int a2, .int v_5, .ref (ad 100 (54 + 1))]) X hS (m_X10_of hN h8) mv_X10_of rfl (hN) t6_220 ⟨rfl, rfl, Nat.le_of_ble_eq_true rfl, Nat.le_of_ble_eq_true rfl⟩ rfl hl.1 rfl (Nat.le_of_ble_eq_true rfl) ⟨Nat.zero_le _, Nat.zero_le _⟩ dX10_morning_66 (fun H locs hS => ?_)
          refine lv_aload_n hx hb dX10_morning_69 rfl (lv_at hl 1 rfl) ?_
          refine fg_X10_284 X hS (hN) dX10_morning_70 ?_
          obtain ⟨r11, h10, hX⟩ := bn_of hX
          refine r_callS1 (v := .int r11) (As := [.int r9, .int (gI M 100 25)]) (rest := [.int a2, .int v_5, .ref (ad 100 (54 + 1))]) X hS (m_X10_upwards (M := M) hN h10) ms_X10_upwards t7_147 ⟨rfl, rfl, Nat.le_of_ble_eq_true rfl, Nat.le_of_ble_eq_true rfl⟩ rfl hl.1 rfl (Nat.le_of_ble_eq_true rfl) ⟨Nat.zero_le _, Nat.zero_le _⟩ dX10_morning_73 (fun H locs hS => ?_)
          refine lv_iadd hx hb dX10_morning_76 ?_
          refine lv_iconst (v := nI 1) hx hb dX10_morning_77 (by decide) ?_
          refine lv_isub hx hb dX10_morning_78 ?_
          obtain ⟨g12, hX⟩ := gin_of hX
          refine r_iast (ci := 10) (o := 100) (k := 54) (n := 9) X hS (hN) rfl rfl g12 dX10_morning_79 (fun H locs hS => ?_)
          obtain ⟨M13, eM13, hS, hX⟩ := nm_mem hS hX
          refine lv_aload_n hx hb dX10_morning_80 rfl (lv_at hl 1 rfl) ?_
          refine fg_X10_84 X hS (hN) dX10_morning_81 ?_
          refine lv_iload_n hx hb dX10_morning_84 rfl (lv_at hl 4 rfl) ?_
          refine lv_aload_n hx hb dX10_morning_85 rfl (lv_at hl 1 rfl) ?_
          refine fg_X10_81 X hS (hN) dX10_morning_86 ?_
          refine lv_iload hx hb dX10_morning_89 (lv_at hl 5 rfl) ?_
          obtain ⟨g14, hX⟩ := gin_of hX
          refine r_iald (ci := 10) (o := 100) (k := 54) (n := 9) X hS (hN) rfl rfl g14 dX10_morning_91 ?_
          refine lv_iconst (v := nI 1) hx hb dX10_morning_92 (by decide) ?_
          refine lv_iadd hx hb dX10_morning_93 ?_
          obtain ⟨g15, hX⟩ := gin_of hX
          refine r_iast (ci := 10) (o := 100) (k := 55) (n := 4) X hS (hN) rfl rfl g15 dX10_morning_94 (fun H locs hS => ?_)
          obtain ⟨M16, eM16, hS, hX⟩ := nm_mem hS hX
          exact n_X10_morning_95 X hN hX (fun z0 z1 z2 r h ls H locs hl hS => ih z0 z1 z2 r h hk_2 ls H locs hl hS) _ _ _ (lv_sub hl [1, 2, 3, 4, 0, 5] rfl) hS
set_option maxRecDepth 100000 in
set_option maxHeartbeats 4000000 in
theorem n_X10_morning_22 {a1 : Int32} {a2 : Int32} (X : Cx p s m args meth c D cy ad A RX10 cX10_morning 6 ((none : Option Jvm.ClassFile.FieldType))) (hN : Ob ns 10 100) {k_2 : Int32 → Mem → Option (Mem)} {v_3 : Int32} {s_0 : Bool} {M : Mem} {r : Mem} (hX : f_X10_morning_22 a1 a2 k_2 v_3 s_0 M = some r) : (∀ (v_3 : Int32) (M : Mem) (r : Mem), k_2 v_3 M = some r → ∀ (ls : Array Slot) (H : Heap) (locs : List Loc), lv_has ls 6 [(0, .ref (ad 100 0)), (1, .int a1), (2, .int a2), (3, .int v_3)] → St D cy ad ns A M s.heap H locs → W p l e rm_X10_morning s m args below meth c H locs 0 0 (MQ below (QC D cy ad ns A r none) args s 0 0 A) (F0 m 2 ls [])) → ∀ (ls : Array Slot) (H : Heap) (locs : List Loc), lv_has ls 6 [(0, .ref (ad 100 0)), (1, .int a1), (2, .int a2), (3, .int v_3)] → St D cy ad ns A M s.heap H locs → W p l e rm_X10_morning s m args below meth c H locs 0 0 (MQ below (QC D cy ad ns A r none) args s 0 0 A) (F0 m 22 ls [.int (b2i s_0)]) := by
  obtain ⟨hx, hb, hml, hown, hts, hK, hr, hlk, hA, hG⟩ := id X
  intro hk_2 ls H locs hl hS
  unfold f_X10_morning_22 at hX
  refine lv_istore (lv' := [(4, .int (b2i s_0)), (0, .ref (ad 100 0)), (1, .int a1), (2, .int a2), (3, .int v_3)]) hx hb dX10_morning_22 hl (by decide) rfl (fun ls hl => ?_)
  refine lv_iconst (v := nI 0) hx hb dX10_morning_24 (by decide) ?_
  refine lv_istore (lv' := [(5, .int (nI 0)), (4, .int (b2i s_0)), (0, .ref (ad 100 0)), (1, .int a1), (2, .int a2), (3, .int v_3)]) hx hb dX10_morning_25 hl (by decide) rfl (fun ls hl => ?_)
  exact n_X10_morning_27 X hN _ _ _ _ _ hX hk_2 _ _ _ (lv_sub hl [2, 3, 4, 5, 1, 0] rfl) hS
set_option maxRecDepth 100000 in
set_option maxHeartbeats 4000000 in
theorem n_X10_morning_2 {a1 : Int32} {a2 : Int32} (X : Cx p s m args meth c D cy ad A RX10 cX10_morning 6 ((none : Option Jvm.ClassFile.FieldType))) (hN : Ob ns 10 100) : ∀ (n : Nat) (v_3 : Int32) (M : Mem) (r : Mem), f_X10_morning_2 a1 a2 n (v_3, M) = some r → ∀ (ls : Array Slot) (H : Heap) (locs : List Loc), lv_has ls 6 [(0, .ref (ad 100 0)), (1, .int a1), (2, .int a2), (3, .int v_3)] → St D cy ad ns A M s.heap H locs → W p l e rm_X10_morning s m args below meth c H locs 0 0 (MQ below (QC D cy ad ns A r none) args s 0 0 A) (F0 m 2 ls []) := by
  obtain ⟨hx, hb, hml, hown, hts, hK, hr, hlk, hA, hG⟩ := id X
  intro n
  induction n with
  | zero => intro v_3 M r hX; cases (show (none : Option (Mem)) = some r from hX)
  | succ n ih =>
    intro v_3 M r hX ls H locs hl hS
    have hX : b_X10_morning_2 a1 a2 (fun x0 x1 => f_X10_morning_2 a1 a2 n (x0, x1)) v_3 M = some r := hX
    unfold b_X10_morning_2 at hX
    refine lv_iload_n hx hb dX10_morning_2 rfl (lv_at hl 3 rfl) ?_
    refine lv_iload_n hx hb dX10_morning_3 rfl (lv_at hl 1 rfl) ?_
    refine lv_icmp_ge (tgt := 107) hx hb dX10_morning_4 (by decide) (fun c17 => ?_) (fun c17 => ?_)
    · have hX := if_t c17 hX
      obtain rfl := some_of hX
      exact x_V X hS dX10_morning_107
    · have hX := if_f c17 hX
      refine lv_aload_n hx hb dX10_morning_7 rfl (lv_at hl 0 rfl) ?_
      refine fg_X10_84 X hS (hN) dX10_morning_8 ?_
      refine lv_iload_n hx hb dX10_morning_11 rfl (lv_at hl 3 rfl) ?_
      obtain ⟨g18, hX⟩ := gin_of hX
      refine r_iald (ci := 10) (o := 100) (k := 55) (n := 4) X hS (hN) rfl rfl g18 dX10_morning_12 ?_
      refine lv_iload_n hx hb dX10_morning_13 rfl (lv_at hl 2 rfl) ?_
      refine lv_icmp_le (tgt := 21) hx hb dX10_morning_14 (by decide) (fun c19 => ?_) (fun c19 => ?_)
      · have hX := if_t c19 hX
        refine lv_iconst (v := nI 0) hx hb dX10_morning_21 (by decide) ?_
        exact n_X10_morning_22 X hN hX (fun z0 z1 r h ls H locs hl hS => ih z0 z1 r h ls H locs hl hS) _ _ _ (lv_sub hl [0, 1, 2, 3] rfl) hS
      · have hX := if_f c19 hX
        refine lv_iconst (v := nI 1) hx hb dX10_morning_17 (by decide) ?_
        refine lv_goto (tgt := 22) hx hb dX10_morning_18 (by decide) ?_
        exact n_X10_morning_22 X hN hX (fun z0 z1 r h ls H locs hl hS => ih z0 z1 r h ls H locs hl hS) _ _ _ (lv_sub hl [0, 1, 2, 3] rfl) hS
set_option maxRecDepth 100000 in
set_option maxHeartbeats 4000000 in
theorem m_X10_morning {l : Launch} {D : va_G} {cy : Nat → ClassId} {ad : Nat → Nat → Nat} {ns : List (Nat × Nat)} {A : Nat → Prop} {M : Mem} (hN : Ob ns 10 100) {a1 : Int32} {a2 : Int32} {r : Mem} (hX : f_X10_morning M a1 a2 = some r) : Ct l yX10_morning cX10_morning 6 ((none : Option Jvm.ClassFile.FieldType)) rm_X10_morning D cy ad ns A [.ref (ad 100 0), .int a1, .int a2] M r none := by
  refine ct_of (lv := [(0, .ref (ad 100 0)), (1, .int a1), (2, .int a2)]) (by decide) (Nat.le_of_ble_eq_true rfl) rfl ?_
  intro p e s m args below meth c ls X hl hS
  obtain ⟨hx, hb, hml, hown, hts, hK, hr, hlk, hA, hG⟩ := id X
  obtain ⟨H, hH⟩ : ∃ z, z = s.heap := ⟨_, rfl⟩
  obtain ⟨locs, hlo⟩ : ∃ z : List Loc, z = [] := ⟨_, rfl⟩
  have hS : St D cy ad ns A M s.heap H locs := by rw [hH, hlo]; exact hS
  have hgoal : W p l e rm_X10_morning s m args below meth c H locs 0 0 (MQ below (QC D cy ad ns A r none) args s 0 0 A) (F0 m 0 ls []) := by
    unfold f_X10_morning at hX
    refine lv_iconst (v := nI 0) hx hb dX10_morning_0 (by decide) ?_
    refine lv_istore_n (lv' := [(3, .int (nI 0)), (0, .ref (ad 100 0)), (1, .int a1), (2, .int a2)]) hx hb dX10_morning_1 rfl hl (by decide) rfl (fun ls hl => ?_)
    exact n_X10_morning_2 X hN _ _ _ _ hX _ _ _ (lv_sub hl [1, 2, 3, 0] rfl) hS
  rw [hH, hlo] at hgoal
  exact hgoal
theorem mv_X10_morning : Mv yX10_morning RX10 cX10_morning 6 ((none : Option Jvm.ClassFile.FieldType)) 2 := ⟨t8_75, t8_74, ts_91, t1_11, ⟨by decide, by decide⟩, by decide +kernel⟩
/-! SewnYearModel.hands(II)I -/
def rm_X10_hands : Room := { frames := 3, cells := 0, slots := 0, locals := 69 }
def b_X10_hands_97 (a1 : Int32) (a2 : Int32) (rc : Int32 → Int32 → Mem → Option (Int32 × Mem)) (v_3 : Int32) (v_4 : Int32) (M : Mem) : Option (Int32 × Mem) :=
  if (gI M 100 24) ≤ v_4 then (some ((v_3 + (nI 1)), M)) else (gin v_4 9 <| bn (f_X10_greater v_3 (gA M 100 54 (ix v_4))) fun r4 => nm (v_4 + nI 1) fun v5 => rc r4 v5 M)
def f_X10_hands_97 (a1 : Int32) (a2 : Int32) : Nat → (Int32 × Int32 × Mem) → Option (Int32 × Mem) := lp (fun rc q => b_X10_hands_97 a1 a2 (fun x0 x1 x2 => rc (x0, x1, x2)) q.1 q.2.1 q.2.2)
def b_X10_hands_74 (a1 : Int32) (a2 : Int32) (rc : Int32 → Mem → Option (Int32 × Mem)) (v_3 : Int32) (M : Mem) : Option (Int32 × Mem) :=
  if (nI 99) < v_3 then (f_X10_hands_97 a1 a2 FU ((-1), (nI 0), M)) else (bn (f_X10_morning M a2 v_3) fun M8 => nm (v_3 + nI 1) fun v9 => rc v9 M8)
def f_X10_hands_74 (a1 : Int32) (a2 : Int32) : Nat → (Int32 × Mem) → Option (Int32 × Mem) := lp (fun rc q => b_X10_hands_74 a1 a2 (fun x0 x1 => rc (x0, x1)) q.1 q.2)
def b_X10_hands_54 (a1 : Int32) (a2 : Int32) (rc : Int32 → Mem → Option (Int32 × Mem)) (v_3 : Int32) (M : Mem) : Option (Int32 × Mem) :=
  if (nI 4) ≤ v_3 then (f_X10_hands_74 a1 a2 FU ((nI 0), M)) else (gin v_3 4 <| nm (sA M 100 55 (ix v_3) (nI 0)) fun M12 => nm (v_3 + nI 1) fun v13 => rc v13 M12)
def f_X10_hands_54 (a1 : Int32) (a2 : Int32) : Nat → (Int32 × Mem) → Option (Int32 × Mem) := lp (fun rc q => b_X10_hands_54 a1 a2 (fun x0 x1 => rc (x0, x1)) q.1 q.2)
def b_X10_hands_33 (a1 : Int32) (a2 : Int32) (rc : Int32 → Mem → Option (Int32 × Mem)) (v_3 : Int32) (M : Mem) : Option (Int32 × Mem) :=
  if (nI 9) ≤ v_3 then (f_X10_hands_54 a1 a2 FU ((nI 0), M)) else (gin v_3 9 <| nm (sA M 100 54 (ix v_3) (-1)) fun M16 => nm (v_3 + nI 1) fun v17 => rc v17 M16)
def f_X10_hands_33 (a1 : Int32) (a2 : Int32) : Nat → (Int32 × Mem) → Option (Int32 × Mem) := lp (fun rc q => b_X10_hands_33 a1 a2 (fun x0 x1 => rc (x0, x1)) q.1 q.2)
def f_X10_hands (M : Mem) (a1 : Int32) (a2 : Int32) : Option (Int32 × Mem) :=
  nm (sI M 100 0 (nI 0)) fun M18 => bn (f_X10_in a2 (nI 1) (nI 4)) fun r20 => if r20 = true then (bp (f_X10_hand M18 a1) fun r24 M23 => if r24 = true then (bp (f_X10_findOrders M23) fun r28 M27 => if r28 = true then (f_X10_hands_33 a1 a2 FU ((nI 0), M27)) else (some ((-1), M27))) else (some ((-1), M23))) else (some ((-1), M18))
set_option maxRecDepth 100000 in
set_option maxHeartbeats 4000000 in
theorem n_X10_hands_97 {a1 : Int32} {a2 : Int32} (X : Cx p s m args meth c D cy ad A RX10 cX10_hands 5 ((some .int))) (hN : Ob ns 10 100) : ∀ (n : Nat) (v_3 : Int32) (v_4 : Int32) (M : Mem) (r : Int32 × Mem), f_X10_hands_97 a1 a2 n (v_3, v_4, M) = some r → ∀ (ls : Array Slot) (H : Heap) (locs : List Loc), lv_has ls 5 [(0, .ref (ad 100 0)), (3, .int v_3), (4, .int v_4)] → St D cy ad ns A M s.heap H locs → W p l e rm_X10_hands s m args below meth c H locs 0 0 (MQ below (QC D cy ad ns A r.2 (some (.int r.1))) args s 0 0 A) (F0 m 97 ls []) := by
  obtain ⟨hx, hb, hml, hown, hts, hK, hr, hlk, hA, hG⟩ := id X
  intro n
  induction n with
  | zero => intro v_3 v_4 M r hX; cases (show (none : Option (Int32 × Mem)) = some r from hX)
  | succ n ih =>
    intro v_3 v_4 M r hX ls H locs hl hS
    have hX : b_X10_hands_97 a1 a2 (fun x0 x1 x2 => f_X10_hands_97 a1 a2 n (x0, x1, x2)) v_3 v_4 M = some r := hX
    unfold b_X10_hands_97 at hX
    refine lv_iload hx hb dX10_hands_97 (lv_at hl 2 rfl) ?_
    refine lv_aload_n hx hb dX10_hands_99 rfl (lv_at hl 0 rfl) ?_
    refine fg_X10_281 X hS (hN) dX10_hands_100 ?_
    refine lv_icmp_ge (tgt := 124) hx hb dX10_hands_103 (by decide) (fun c1 => ?_) (fun c1 => ?_)
    · have hX := if_t c1 hX
      refine lv_iload_n hx hb dX10_hands_124 rfl (lv_at hl 1 rfl) ?_
      refine lv_iconst (v := nI 1) hx hb dX10_hands_125 (by decide) ?_
      refine lv_iadd hx hb dX10_hands_126 ?_
      obtain rfl := some_of hX
      exact x_I (v := (v_3 + (nI 1))) X hS dX10_hands_127
    · have hX := if_f c1 hX
      refine lv_iload_n hx hb dX10_hands_106 rfl (lv_at hl 1 rfl) ?_
      refine lv_aload_n hx hb dX10_hands_107 rfl (lv_at hl 0 rfl) ?_
      refine fg_X10_81 X hS (hN) dX10_hands_108 ?_
      refine lv_iload hx hb dX10_hands_111 (lv_at hl 2 rfl) ?_
      obtain ⟨g2, hX⟩ := gin_of hX
      refine r_iald (ci := 10) (o := 100) (k := 54) (n := 9) X hS (hN) rfl rfl g2 dX10_hands_113 ?_
      obtain ⟨r4, h3, hX⟩ := bn_of hX
      refine r_callS1 (v := .int r4) (As := [.int v_3, .int (gA M 100 54 (ix v_4))]) (rest := []) X hS (m_X10_greater (M := M) hN h3) ms_X10_greater t6_156 ⟨rfl, rfl, Nat.le_of_ble_eq_true rfl, Nat.le_of_ble_eq_true rfl⟩ rfl hl.1 rfl (Nat.le_of_ble_eq_true rfl) ⟨Nat.zero_le _, Nat.zero_le _⟩ dX10_hands_114 (fun H locs hS => ?_)
      refine lv_istore_n (lv' := [(3, .int r4), (0, .ref (ad 100 0)), (4, .int v_4)]) hx hb dX10_hands_117 rfl hl (by decide) rfl (fun ls hl => ?_)
      obtain ⟨v5, ev5⟩ : ∃ y : Int32, y = (v_4 + nI 1) := ⟨_, rfl⟩
      have hX := nm_of ev5 hX
      refine lv_iinc (v := v5) (lv' := [(4, .int v5), (3, .int r4), (0, .ref (ad 100 0))]) hx hb dX10_hands_118 hl (k := 2) rfl (by rw [ev5]; rfl) (by decide) rfl (fun ls hl => ?_)
      refine lv_goto (tgt := 97) hx hb dX10_hands_121 (by decide) ?_
      exact ih _ _ _ _ hX _ _ _ (lv_sub hl [2, 1, 0] rfl) hS
set_option maxRecDepth 100000 in
set_option maxHeartbeats 4000000 in
theorem n_X10_hands_74 {a1 : Int32} {a2 : Int32} (X : Cx p s m args meth c D cy ad A RX10 cX10_hands 5 ((some .int))) (hN : Ob ns 10 100) : ∀ (n : Nat) (v_3 : Int32) (M : Mem) (r : Int32 × Mem), f_X10_hands_74 a1 a2 n (v_3, M) = some r → ∀ (ls : Array Slot) (H : Heap) (locs : List Loc), lv_has ls 5 [(0, .ref (ad 100 0)), (2, .int a2), (3, .int v_3)] → St D cy ad ns A M s.heap H locs → W p l e rm_X10_hands s m args below meth c H locs 0 0 (MQ below (QC D cy ad ns A r.2 (some (.int r.1))) args s 0 0 A) (F0 m 74 ls []) := by
  obtain ⟨hx, hb, hml, hown, hts, hK, hr, hlk, hA, hG⟩ := id X
  intro n
  induction n with
  | zero => intro v_3 M r hX; cases (show (none : Option (Int32 × Mem)) = some r from hX)
  | succ n ih =>
    intro v_3 M r hX ls H locs hl hS
    have hX : b_X10_hands_74 a1 a2 (fun x0 x1 => f_X10_hands_74 a1 a2 n (x0, x1)) v_3 M = some r := hX
    unfold b_X10_hands_74 at hX
    refine lv_iload_n hx hb dX10_hands_74 rfl (lv_at hl 2 rfl) ?_
    refine lv_bipush (v := nI 99) hx hb dX10_hands_75 (by decide) ?_
    refine lv_icmp_gt (tgt := 92) hx hb dX10_hands_77 (by decide) (fun c6 => ?_) (fun c6 => ?_)
    · have hX := if_t c6 hX
      refine lv_iconst (v := (-1)) hx hb dX10_hands_92 (by decide) ?_
      refine lv_istore_n (lv' := [(3, .int (-1)), (0, .ref (ad 100 0)), (2, .int a2)]) hx hb dX10_hands_93 rfl hl (by decide) rfl (fun ls hl => ?_)
      refine lv_iconst (v := nI 0) hx hb dX10_hands_94 (by decide) ?_
      refine lv_istore (lv' := [(4, .int (nI 0)), (3, .int (-1)), (0, .ref (ad 100 0)), (2, .int a2)]) hx hb dX10_hands_95 hl (by decide) rfl (fun ls hl => ?_)
      exact n_X10_hands_97 X hN _ _ _ _ _ hX _ _ _ (lv_sub hl [2, 1, 0] rfl) hS
    · have hX := if_f c6 hX
      refine lv_aload_n hx hb dX10_hands_80 rfl (lv_at hl 0 rfl) ?_
      refine lv_iload_n hx hb dX10_hands_81 rfl (lv_at hl 1 rfl) ?_
      refine lv_iload_n hx hb dX10_hands_82 rfl (lv_at hl 2 rfl) ?_
      obtain ⟨M8, h7, hX⟩ := bn_of hX
      refine r_callV0 (As := [.int a2, .int v_3]) (rest := []) X hS (m_X10_morning hN h7) mv_X10_morning rfl (hN) t8_72 ⟨rfl, rfl, Nat.le_of_ble_eq_true rfl, Nat.le_of_ble_eq_true rfl⟩ rfl hl.1 rfl (Nat.le_of_ble_eq_true rfl) ⟨Nat.zero_le _, Nat.zero_le _⟩ dX10_hands_83 (fun H locs hS => ?_)
      obtain ⟨v9, ev9⟩ : ∃ y : Int32, y = (v_3 + nI 1) := ⟨_, rfl⟩
      have hX := nm_of ev9 hX
      refine lv_iinc (v := v9) (lv' := [(3, .int v9), (0, .ref (ad 100 0)), (2, .int a2)]) hx hb dX10_hands_86 hl (k := 2) rfl (by rw [ev9]; rfl) (by decide) rfl (fun ls hl => ?_)
      refine lv_goto (tgt := 74) hx hb dX10_hands_89 (by decide) ?_
      exact ih _ _ _ hX _ _ _ (lv_sub hl [1, 2, 0] rfl) hS
set_option maxRecDepth 100000 in
set_option maxHeartbeats 4000000 in
theorem n_X10_hands_54 {a1 : Int32} {a2 : Int32} (X : Cx p s m args meth c D cy ad A RX10 cX10_hands 5 ((some .int))) (hN : Ob ns 10 100) : ∀ (n : Nat) (v_3 : Int32) (M : Mem) (r : Int32 × Mem), f_X10_hands_54 a1 a2 n (v_3, M) = some r → ∀ (ls : Array Slot) (H : Heap) (locs : List Loc), lv_has ls 5 [(0, .ref (ad 100 0)), (2, .int a2), (3, .int v_3)] → St D cy ad ns A M s.heap H locs → W p l e rm_X10_hands s m args below meth c H locs 0 0 (MQ below (QC D cy ad ns A r.2 (some (.int r.1))) args s 0 0 A) (F0 m 54 ls []) := by
  obtain ⟨hx, hb, hml, hown, hts, hK, hr, hlk, hA, hG⟩ := id X
  intro n
  induction n with
  | zero => intro v_3 M r hX; cases (show (none : Option (Int32 × Mem)) = some r from hX)
  | succ n ih =>
    intro v_3 M r hX ls H locs hl hS
    have hX : b_X10_hands_54 a1 a2 (fun x0 x1 => f_X10_hands_54 a1 a2 n (x0, x1)) v_3 M = some r := hX
    unfold b_X10_hands_54 at hX
    refine lv_iload_n hx hb dX10_hands_54 rfl (lv_at hl 2 rfl) ?_
    refine lv_iconst (v := nI 4) hx hb dX10_hands_55 (by decide) ?_
    refine lv_icmp_ge (tgt := 72) hx hb dX10_hands_56 (by decide) (fun c10 => ?_) (fun c10 => ?_)
    · have hX := if_t c10 hX
      refine lv_iconst (v := nI 0) hx hb dX10_hands_72 (by decide) ?_
      refine lv_istore_n (lv' := [(3, .int (nI 0)), (0, .ref (ad 100 0)), (2, .int a2)]) hx hb dX10_hands_73 rfl hl (by decide) rfl (fun ls hl => ?_)
      exact n_X10_hands_74 X hN _ _ _ _ hX _ _ _ (lv_sub hl [1, 2, 0] rfl) hS
    · have hX := if_f c10 hX
      refine lv_aload_n hx hb dX10_hands_59 rfl (lv_at hl 0 rfl) ?_
      refine fg_X10_84 X hS (hN) dX10_hands_60 ?_
      refine lv_iload_n hx hb dX10_hands_63 rfl (lv_at hl 2 rfl) ?_
      refine lv_iconst (v := nI 0) hx hb dX10_hands_64 (by decide) ?_
      obtain ⟨g11, hX⟩ := gin_of hX
      refine r_iast (ci := 10) (o := 100) (k := 55) (n := 4) X hS (hN) rfl rfl g11 dX10_hands_65 (fun H locs hS => ?_)
      obtain ⟨M12, eM12, hS, hX⟩ := nm_mem hS hX
      obtain ⟨v13, ev13⟩ : ∃ y : Int32, y = (v_3 + nI 1) := ⟨_, rfl⟩
      have hX := nm_of ev13 hX
      refine lv_iinc (v := v13) (lv' := [(3, .int v13), (0, .ref (ad 100 0)), (2, .int a2)]) hx hb dX10_hands_66 hl (k := 2) rfl (by rw [ev13]; rfl) (by decide) rfl (fun ls hl => ?_)
      refine lv_goto (tgt := 54) hx hb dX10_hands_69 (by decide) ?_
      exact ih _ _ _ hX _ _ _ (lv_sub hl [1, 2, 0] rfl) hS
set_option maxRecDepth 100000 in
set_option maxHeartbeats 4000000 in
theorem n_X10_hands_33 {a1 : Int32} {a2 : Int32} (X : Cx p s m args meth c D cy ad A RX10 cX10_hands 5 ((some .int))) (hN : Ob ns 10 100) : ∀ (n : Nat) (v_3 : Int32) (M : Mem) (r : Int32 × Mem), f_X10_hands_33 a1 a2 n (v_3, M) = some r → ∀ (ls : Array Slot) (H : Heap) (locs : List Loc), lv_has ls 5 [(0, .ref (ad 100 0)), (2, .int a2), (3, .int v_3)] → St D cy ad ns A M s.heap H locs → W p l e rm_X10_hands s m args below meth c H locs 0 0 (MQ below (QC D cy ad ns A r.2 (some (.int r.1))) args s 0 0 A) (F0 m 33 ls []) := by
  obtain ⟨hx, hb, hml, hown, hts, hK, hr, hlk, hA, hG⟩ := id X
  intro n
  induction n with
  | zero => intro v_3 M r hX; cases (show (none : Option (Int32 × Mem)) = some r from hX)
  | succ n ih =>
    intro v_3 M r hX ls H locs hl hS
    have hX : b_X10_hands_33 a1 a2 (fun x0 x1 => f_X10_hands_33 a1 a2 n (x0, x1)) v_3 M = some r := hX
    unfold b_X10_hands_33 at hX
    refine lv_iload_n hx hb dX10_hands_33 rfl (lv_at hl 2 rfl) ?_
    refine lv_bipush (v := nI 9) hx hb dX10_hands_34 (by decide) ?_
    refine lv_icmp_ge (tgt := 52) hx hb dX10_hands_36 (by decide) (fun c14 => ?_) (fun c14 => ?_)
    · have hX := if_t c14 hX
      refine lv_iconst (v := nI 0) hx hb dX10_hands_52 (by decide) ?_
      refine lv_istore_n (lv' := [(3, .int (nI 0)), (0, .ref (ad 100 0)), (2, .int a2)]) hx hb dX10_hands_53 rfl hl (by decide) rfl (fun ls hl => ?_)
      exact n_X10_hands_54 X hN _ _ _ _ hX _ _ _ (lv_sub hl [1, 2, 0] rfl) hS
    · have hX := if_f c14 hX
      refine lv_aload_n hx hb dX10_hands_39 rfl (lv_at hl 0 rfl) ?_
      refine fg_X10_81 X hS (hN) dX10_hands_40 ?_
      refine lv_iload_n hx hb dX10_hands_43 rfl (lv_at hl 2 rfl) ?_
      refine lv_iconst (v := (-1)) hx hb dX10_hands_44 (by decide) ?_
      obtain ⟨g15, hX⟩ := gin_of hX
      refine r_iast (ci := 10) (o := 100) (k := 54) (n := 9) X hS (hN) rfl rfl g15 dX10_hands_45 (fun H locs hS => ?_)
      obtain ⟨M16, eM16, hS, hX⟩ := nm_mem hS hX
      obtain ⟨v17, ev17⟩ : ∃ y : Int32, y = (v_3 + nI 1) := ⟨_, rfl⟩
      have hX := nm_of ev17 hX
      refine lv_iinc (v := v17) (lv' := [(3, .int v17), (0, .ref (ad 100 0)), (2, .int a2)]) hx hb dX10_hands_46 hl (k := 2) rfl (by rw [ev17]; rfl) (by decide) rfl (fun ls hl => ?_)
      refine lv_goto (tgt := 33) hx hb dX10_hands_49 (by decide) ?_
      exact ih _ _ _ hX _ _ _ (lv_sub hl [1, 2, 0] rfl) hS
set_option maxRecDepth 100000 in
set_option maxHeartbeats 4000000 in
theorem m_X10_hands {l : Launch} {D : va_G} {cy : Nat → ClassId} {ad : Nat → Nat → Nat} {ns : List (Nat × Nat)} {A : Nat → Prop} {M : Mem} (hN : Ob ns 10 100) {a1 : Int32} {a2 : Int32} {r : Int32 × Mem} (hX : f_X10_hands M a1 a2 = some r) : Ct l yX10_hands cX10_hands 5 ((some .int)) rm_X10_hands D cy ad ns A [.ref (ad 100 0), .int a1, .int a2] M r.2 (some (.int r.1)) := by
  refine ct_of (lv := [(0, .ref (ad 100 0)), (1, .int a1), (2, .int a2)]) (by decide) (Nat.le_of_ble_eq_true rfl) rfl ?_
  intro p e s m args below meth c ls X hl hS
  obtain ⟨hx, hb, hml, hown, hts, hK, hr, hlk, hA, hG⟩ := id X
  obtain ⟨H, hH⟩ : ∃ z, z = s.heap := ⟨_, rfl⟩
  obtain ⟨locs, hlo⟩ : ∃ z : List Loc, z = [] := ⟨_, rfl⟩
  have hS : St D cy ad ns A M s.heap H locs := by rw [hH, hlo]; exact hS
  have hgoal : W p l e rm_X10_hands s m args below meth c H locs 0 0 (MQ below (QC D cy ad ns A r.2 (some (.int r.1))) args s 0 0 A) (F0 m 0 ls []) := by
    unfold f_X10_hands at hX
    refine lv_aload_n hx hb dX10_hands_0 rfl (lv_at hl 0 rfl) ?_
    refine lv_iconst (v := nI 0) hx hb dX10_hands_1 (by decide) ?_
    refine fp_X10_94 X hS (hN) dX10_hands_2 (fun H locs hS => ?_)
    obtain ⟨M18, eM18, hS, hX⟩ := nm_mem hS hX
    refine lv_iload_n hx hb dX10_hands_5 rfl (lv_at hl 2 rfl) ?_
    refine lv_iconst (v := nI 1) hx hb dX10_hands_6 (by decide) ?_
    refine lv_iconst (v := nI 4) hx hb dX10_hands_7 (by decide) ?_
    obtain ⟨r20, h19, hX⟩ := bn_of hX
    refine r_callS1 (v := .int (b2i r20)) (As := [.int a2, .int (nI 1), .int (nI 4)]) (rest := []) X hS (m_X10_in (M := M18) hN h19) ms_X10_in t6_81 ⟨rfl, rfl, Nat.le_of_ble_eq_true rfl, Nat.le_of_ble_eq_true rfl⟩ rfl hl.1 rfl (Nat.le_of_ble_eq_true rfl) ⟨Nat.zero_le _, Nat.zero_le _⟩ dX10_hands_8 (fun H locs hS => ?_)
    refine lv_if_eq (tgt := 29) hx hb dX10_hands_11 (by decide) (fun c21 => ?_) (fun c21 => ?_)
    · have hX := if_bf c21 hX
      refine lv_iconst (v := (-1)) hx hb dX10_hands_29 (by decide) ?_
      obtain rfl := some_of hX
      exact x_I (v := (-1)) X hS dX10_hands_30
    · have hX := if_bt c21 hX
      refine lv_aload_n hx hb dX10_hands_14 rfl (lv_at hl 0 rfl) ?_
      refine lv_iload_n hx hb dX10_hands_15 rfl (lv_at hl 1 rfl) ?_
      obtain ⟨r24, M23, h22, hX⟩ := bp_of hX
      refine r_callV1 (v := .int (b2i r24)) (As := [.int a1]) (rest := []) X hS (m_X10_hand hN h22) mv_X10_hand rfl (hN) t6_216 ⟨rfl, rfl, Nat.le_of_ble_eq_true rfl, Nat.le_of_ble_eq_true rfl⟩ rfl hl.1 rfl (Nat.le_of_ble_eq_true rfl) ⟨Nat.zero_le _, Nat.zero_le _⟩ dX10_hands_16 (fun H locs hS => ?_)
      refine lv_if_eq (tgt := 29) hx hb dX10_hands_19 (by decide) (fun c25 => ?_) (fun c25 => ?_)
      · have hX := if_bf c25 hX
        refine lv_iconst (v := (-1)) hx hb dX10_hands_29 (by decide) ?_
        obtain rfl := some_of hX
        exact x_I (v := (-1)) X hS dX10_hands_30
      · have hX := if_bt c25 hX
        refine lv_aload_n hx hb dX10_hands_22 rfl (lv_at hl 0 rfl) ?_
        obtain ⟨r28, M27, h26, hX⟩ := bp_of hX
        refine r_callV1 (v := .int (b2i r28)) (As := []) (rest := []) X hS (m_X10_findOrders hN h26) mv_X10_findOrders rfl (hN) t7_75 ⟨rfl, rfl, Nat.le_of_ble_eq_true rfl, Nat.le_of_ble_eq_true rfl⟩ rfl hl.1 rfl (Nat.le_of_ble_eq_true rfl) ⟨Nat.zero_le _, Nat.zero_le _⟩ dX10_hands_23 (fun H locs hS => ?_)
        refine lv_if_ne (tgt := 31) hx hb dX10_hands_26 (by decide) (fun c29 => ?_) (fun c29 => ?_)
        · have hX := if_bt c29 hX
          refine lv_iconst (v := nI 0) hx hb dX10_hands_31 (by decide) ?_
          refine lv_istore_n (lv' := [(3, .int (nI 0)), (0, .ref (ad 100 0)), (1, .int a1), (2, .int a2)]) hx hb dX10_hands_32 rfl hl (by decide) rfl (fun ls hl => ?_)
          exact n_X10_hands_33 X hN _ _ _ _ hX _ _ _ (lv_sub hl [1, 3, 0] rfl) hS
        · have hX := if_bf c29 hX
          refine lv_iconst (v := (-1)) hx hb dX10_hands_29 (by decide) ?_
          obtain rfl := some_of hX
          exact x_I (v := (-1)) X hS dX10_hands_30
  rw [hH, hlo] at hgoal
  exact hgoal
theorem mv_X10_hands : Mv yX10_hands RX10 cX10_hands 5 ((some .int)) 2 := ⟨t8_71, t8_69, t8_70, t1_11, ⟨by decide, by decide⟩, by decide +kernel⟩
/-! SewnYearModel.ofColour(I)I -/
def rm_X10_ofColour : Room := { frames := 1, cells := 0, slots := 0, locals := 21 }
def f_X10_ofColour_32 (M : Mem) (a1 : Int32) (k_4 : Int32 → Int32 → Option (Int32)) (v_3 : Int32) (s_0 : Int32) (s_1 : Int32) : Option (Int32) :=
  nm (s_0 ||| s_1) fun v1 => nm (v_3 + nI 1) fun v2 => k_4 v1 v2
def b_X10_ofColour_4 (M : Mem) (a1 : Int32) (rc : Int32 → Int32 → Option (Int32)) (v_2 : Int32) (v_3 : Int32) : Option (Int32) :=
  if (gI M 100 24) ≤ v_3 then (some v_2) else (bn (f_X10_of M ((nI 11) + v_3)) fun r5 => if r5 = a1 then (f_X10_ofColour_32 M a1 rc v_3 v_2 ((nI 1) <<< (v_3 &&& 31))) else (f_X10_ofColour_32 M a1 rc v_3 v_2 (nI 0)))
def f_X10_ofColour_4 (M : Mem) (a1 : Int32) : Nat → (Int32 × Int32) → Option (Int32) := lp (fun rc q => b_X10_ofColour_4 M a1 (fun x0 x1 => rc (x0, x1)) q.1 q.2)
def f_X10_ofColour (M : Mem) (a1 : Int32) : Option (Int32) :=
  f_X10_ofColour_4 M a1 FU ((nI 0), (nI 0))
set_option maxRecDepth 100000 in
set_option maxHeartbeats 4000000 in
theorem n_X10_ofColour_32 {a1 : Int32} (X : Cx p s m args meth c D cy ad A RX10 cX10_ofColour 4 ((some .int))) (hN : Ob ns 10 100) {M : Mem} {k_4 : Int32 → Int32 → Option (Int32)} {v_3 : Int32} {s_0 : Int32} {s_1 : Int32} {r : Int32} (hX : f_X10_ofColour_32 M a1 k_4 v_3 s_0 s_1 = some r) : (∀ (v_2 : Int32) (v_3 : Int32) (r : Int32), k_4 v_2 v_3 = some r → ∀ (ls : Array Slot) (H : Heap) (locs : List Loc), lv_has ls 4 [(0, .ref (ad 100 0)), (1, .int a1), (2, .int v_2), (3, .int v_3)] → St D cy ad ns A M s.heap H locs → W p l e rm_X10_ofColour s m args below meth c H locs 0 0 (MQ below (QC D cy ad ns A M (some (.int r))) args s 0 0 A) (F0 m 4 ls [])) → ∀ (ls : Array Slot) (H : Heap) (locs : List Loc), lv_has ls 4 [(0, .ref (ad 100 0)), (1, .int a1), (3, .int v_3)] → St D cy ad ns A M s.heap H locs → W p l e rm_X10_ofColour s m args below meth c H locs 0 0 (MQ below (QC D cy ad ns A M (some (.int r))) args s 0 0 A) (F0 m 32 ls [.int s_1, .int s_0]) := by
  obtain ⟨hx, hb, hml, hown, hts, hK, hr, hlk, hA, hG⟩ := id X
  intro hk_4 ls H locs hl hS
  unfold f_X10_ofColour_32 at hX
  refine lv_ior hx hb dX10_ofColour_32 ?_
  refine lv_topi (fun v1 ev1 => ?_)
  have hX := nm_of ev1 hX
  refine lv_istore_n (lv' := [(2, .int v1), (0, .ref (ad 100 0)), (1, .int a1), (3, .int v_3)]) hx hb dX10_ofColour_33 rfl hl (by decide) rfl (fun ls hl => ?_)
  obtain ⟨v2, ev2⟩ : ∃ y : Int32, y = (v_3 + nI 1) := ⟨_, rfl⟩
  have hX := nm_of ev2 hX
  refine lv_iinc (v := v2) (lv' := [(3, .int v2), (2, .int v1), (0, .ref (ad 100 0)), (1, .int a1)]) hx hb dX10_ofColour_34 hl (k := 3) rfl (by rw [ev2]; rfl) (by decide) rfl (fun ls hl => ?_)
  refine lv_goto (tgt := 4) hx hb dX10_ofColour_37 (by decide) ?_
  exact hk_4 _ _ _ hX _ _ _ (lv_sub hl [2, 3, 1, 0] rfl) hS
set_option maxRecDepth 100000 in
set_option maxHeartbeats 4000000 in
theorem n_X10_ofColour_4 {a1 : Int32} (X : Cx p s m args meth c D cy ad A RX10 cX10_ofColour 4 ((some .int))) (hN : Ob ns 10 100) {M : Mem} : ∀ (n : Nat) (v_2 : Int32) (v_3 : Int32) (r : Int32), f_X10_ofColour_4 M a1 n (v_2, v_3) = some r → ∀ (ls : Array Slot) (H : Heap) (locs : List Loc), lv_has ls 4 [(0, .ref (ad 100 0)), (1, .int a1), (2, .int v_2), (3, .int v_3)] → St D cy ad ns A M s.heap H locs → W p l e rm_X10_ofColour s m args below meth c H locs 0 0 (MQ below (QC D cy ad ns A M (some (.int r))) args s 0 0 A) (F0 m 4 ls []) := by
  obtain ⟨hx, hb, hml, hown, hts, hK, hr, hlk, hA, hG⟩ := id X
  intro n
  induction n with
  | zero => intro v_2 v_3 r hX; cases (show (none : Option (Int32)) = some r from hX)
  | succ n ih =>
    intro v_2 v_3 r hX ls H locs hl hS
    have hX : b_X10_ofColour_4 M a1 (fun x0 x1 => f_X10_ofColour_4 M a1 n (x0, x1)) v_2 v_3 = some r := hX
    unfold b_X10_ofColour_4 at hX
    refine lv_iload_n hx hb dX10_ofColour_4 rfl (lv_at hl 3 rfl) ?_
    refine lv_aload_n hx hb dX10_ofColour_5 rfl (lv_at hl 0 rfl) ?_
    refine fg_X10_281 X hS (hN) dX10_ofColour_6 ?_
    refine lv_icmp_ge (tgt := 40) hx hb dX10_ofColour_9 (by decide) (fun c3 => ?_) (fun c3 => ?_)
    · have hX := if_t c3 hX
      refine lv_iload_n hx hb dX10_ofColour_40 rfl (lv_at hl 2 rfl) ?_
      obtain rfl := some_of hX
      exact x_I (v := v_2) X hS dX10_ofColour_41
    · have hX := if_f c3 hX
      refine lv_iload_n hx hb dX10_ofColour_12 rfl (lv_at hl 2 rfl) ?_
      refine lv_aload_n hx hb dX10_ofColour_13 rfl (lv_at hl 0 rfl) ?_
      refine lv_bipush (v := nI 11) hx hb dX10_ofColour_14 (by decide) ?_
      refine lv_iload_n hx hb dX10_ofColour_16 rfl (lv_at hl 3 rfl) ?_
      refine lv_iadd hx hb dX10_ofColour_17 ?_
      obtain ⟨r5, h4, hX⟩ := bn_of hX
      refine r_callV1 (v := .int r5) (As := [.int ((nI 11) + v_3)]) (rest := [.int v_2]) X hS (m_X10_of hN h4) mv_X10_of rfl (hN) t6_220 ⟨rfl, rfl, Nat.le_of_ble_eq_true rfl, Nat.le_of_ble_eq_true rfl⟩ rfl hl.1 rfl (Nat.le_of_ble_eq_true rfl) ⟨Nat.zero_le _, Nat.zero_le _⟩ dX10_ofColour_18 (fun H locs hS => ?_)
      refine lv_iload_n hx hb dX10_ofColour_21 rfl (lv_at hl 1 rfl) ?_
      refine lv_icmp_ne (tgt := 31) hx hb dX10_ofColour_22 (by decide) (fun c6 => ?_) (fun c6 => ?_)
      · have hX := if_f c6 hX
        refine lv_iconst (v := nI 0) hx hb dX10_ofColour_31 (by decide) ?_
        exact n_X10_ofColour_32 X hN hX (fun z0 z1 r h ls H locs hl hS => ih z0 z1 r h ls H locs hl hS) _ _ _ (lv_sub hl [0, 1, 3] rfl) hS
      · have hX := if_t c6 hX
        refine lv_iconst (v := nI 1) hx hb dX10_ofColour_25 (by decide) ?_
        refine lv_iload_n hx hb dX10_ofColour_26 rfl (lv_at hl 3 rfl) ?_
        refine lv_ishl hx hb dX10_ofColour_27 ?_
        refine lv_goto (tgt := 32) hx hb dX10_ofColour_28 (by decide) ?_
        exact n_X10_ofColour_32 X hN hX (fun z0 z1 r h ls H locs hl hS => ih z0 z1 r h ls H locs hl hS) _ _ _ (lv_sub hl [0, 1, 3] rfl) hS
set_option maxRecDepth 100000 in
set_option maxHeartbeats 4000000 in
theorem m_X10_ofColour {l : Launch} {D : va_G} {cy : Nat → ClassId} {ad : Nat → Nat → Nat} {ns : List (Nat × Nat)} {A : Nat → Prop} {M : Mem} (hN : Ob ns 10 100) {a1 : Int32} {r : Int32} (hX : f_X10_ofColour M a1 = some r) : Ct l yX10_ofColour cX10_ofColour 4 ((some .int)) rm_X10_ofColour D cy ad ns A [.ref (ad 100 0), .int a1] M M (some (.int r)) := by
  refine ct_of (lv := [(0, .ref (ad 100 0)), (1, .int a1)]) (by decide) (Nat.le_of_ble_eq_true rfl) rfl ?_
  intro p e s m args below meth c ls X hl hS
  obtain ⟨hx, hb, hml, hown, hts, hK, hr, hlk, hA, hG⟩ := id X
  obtain ⟨H, hH⟩ : ∃ z, z = s.heap := ⟨_, rfl⟩
  obtain ⟨locs, hlo⟩ : ∃ z : List Loc, z = [] := ⟨_, rfl⟩
  have hS : St D cy ad ns A M s.heap H locs := by rw [hH, hlo]; exact hS
  have hgoal : W p l e rm_X10_ofColour s m args below meth c H locs 0 0 (MQ below (QC D cy ad ns A M (some (.int r))) args s 0 0 A) (F0 m 0 ls []) := by
    unfold f_X10_ofColour at hX
    refine lv_iconst (v := nI 0) hx hb dX10_ofColour_0 (by decide) ?_
    refine lv_istore_n (lv' := [(2, .int (nI 0)), (0, .ref (ad 100 0)), (1, .int a1)]) hx hb dX10_ofColour_1 rfl hl (by decide) rfl (fun ls hl => ?_)
    refine lv_iconst (v := nI 0) hx hb dX10_ofColour_2 (by decide) ?_
    refine lv_istore_n (lv' := [(3, .int (nI 0)), (2, .int (nI 0)), (0, .ref (ad 100 0)), (1, .int a1)]) hx hb dX10_ofColour_3 rfl hl (by decide) rfl (fun ls hl => ?_)
    exact n_X10_ofColour_4 X hN _ _ _ _ hX _ _ _ (lv_sub hl [2, 3, 1, 0] rfl) hS
  rw [hH, hlo] at hgoal
  exact hgoal
theorem mv_X10_ofColour : Mv yX10_ofColour RX10 cX10_ofColour 4 ((some .int)) 1 := ⟨t8_87, t8_86, ts_93, t1_11, ⟨by decide, by decide⟩, by decide +kernel⟩
/-! SewnYearModel.spools(II)I -/
def rm_X10_spools : Room := { frames := 3, cells := 0, slots := 0, locals := 65 }
def f_X10_spools_107 (a1 : Int32) (a2 : Int32) (v_3 : Int32) (k_56 : Int32 → Mem → Option (Int32 × Mem)) (v_4 : Int32) (s_1 : Int32) (s_2 : Int32) (M : Mem) : Option (Int32 × Mem) :=
  gin s_1 512 <| nm (sA M 100 56 (ix s_1) s_2) fun M2 => nm ((v_4 - (nI 1)) &&& v_3) fun v3 => k_56 v3 M2
def b_X10_spools_56 (a1 : Int32) (a2 : Int32) (k_34 : Int32 → Mem → Option (Int32 × Mem)) (v_3 : Int32) (rc : Int32 → Mem → Option (Int32 × Mem)) (v_4 : Int32) (M : Mem) : Option (Int32 × Mem) :=
  if v_4 ≤ (nI 0) then (nm (v_3 + nI 1) fun v5 => k_34 v5 M) else (bn (f_X10_stitches M v_4) fun r7 => if a2 < r7 then (gin v_3 512 <| f_X10_spools_107 a1 a2 v_3 rc v_4 v_3 (gA M 100 56 (ix v_3)) M) else (gin v_3 512 <| gin (v_3 &&& (v_4 ^^^ (-1))) 512 <| bn (f_X10_lesser (gA M 100 56 (ix v_3)) ((nI 1) + (gA M 100 56 (ix (v_3 &&& (v_4 ^^^ (-1))))))) fun r13 => f_X10_spools_107 a1 a2 v_3 rc v_4 v_3 r13 M))
def f_X10_spools_56 (a1 : Int32) (a2 : Int32) (k_34 : Int32 → Mem → Option (Int32 × Mem)) (v_3 : Int32) : Nat → (Int32 × Mem) → Option (Int32 × Mem) := lp (fun rc q => b_X10_spools_56 a1 a2 k_34 v_3 (fun x0 x1 => rc (x0, x1)) q.1 q.2)
def b_X10_spools_130 (a1 : Int32) (a2 : Int32) (rc : Int32 → Int32 → Mem → Option (Int32 × Mem)) (v_3 : Int32) (v_4 : Int32) (M : Mem) : Option (Int32 × Mem) :=
  if (nI 4) ≤ v_4 then (if v_3 < (nI 1000000) then (some (v_3, M)) else (some ((-1), M))) else (bn (f_X10_ofColour M v_4) fun r17 => gin r17 512 <| nm (v_3 + (gA M 100 56 (ix r17))) fun v19 => nm (v_4 + nI 1) fun v20 => rc v19 v20 M)
def f_X10_spools_130 (a1 : Int32) (a2 : Int32) : Nat → (Int32 × Int32 × Mem) → Option (Int32 × Mem) := lp (fun rc q => b_X10_spools_130 a1 a2 (fun x0 x1 x2 => rc (x0, x1, x2)) q.1 q.2.1 q.2.2)
def b_X10_spools_34 (a1 : Int32) (a2 : Int32) (rc : Int32 → Mem → Option (Int32 × Mem)) (v_3 : Int32) (M : Mem) : Option (Int32 × Mem) :=
  if ((nI 1) <<< ((gI M 100 24) &&& 31)) ≤ v_3 then (f_X10_spools_130 a1 a2 FU ((nI 0), (nI 0), M)) else (gin v_3 512 <| nm (sA M 100 56 (ix v_3) (nI 1000000)) fun M23 => f_X10_spools_56 a1 a2 rc v_3 FU (v_3, M23))
def f_X10_spools_34 (a1 : Int32) (a2 : Int32) : Nat → (Int32 × Mem) → Option (Int32 × Mem) := lp (fun rc q => b_X10_spools_34 a1 a2 (fun x0 x1 => rc (x0, x1)) q.1 q.2)
def f_X10_spools (M : Mem) (a1 : Int32) (a2 : Int32) : Option (Int32 × Mem) :=
  nm (sI M 100 0 (nI 0)) fun M24 => bn (f_X10_in a2 (nI 1) (nI 60)) fun r26 => if r26 = true then (bp (f_X10_hand M24 a1) fun r30 M29 => if r30 = true then (gin (nI 0) 512 <| nm (sA M29 100 56 (ix (nI 0)) (nI 0)) fun M33 => f_X10_spools_34 a1 a2 FU ((nI 1), M33)) else (some ((-1), M29))) else (some ((-1), M24))
set_option maxRecDepth 100000 in
set_option maxHeartbeats 4000000 in
theorem n_X10_spools_107 {a1 : Int32} {a2 : Int32} {v_3 : Int32} (X : Cx p s m args meth c D cy ad A RX10 cX10_spools 5 ((some .int))) (hN : Ob ns 10 100) {k_56 : Int32 → Mem → Option (Int32 × Mem)} {v_4 : Int32} {s_1 : Int32} {s_2 : Int32} {M : Mem} {r : Int32 × Mem} (hX : f_X10_spools_107 a1 a2 v_3 k_56 v_4 s_1 s_2 M = some r) : (∀ (v_4 : Int32) (M : Mem) (r : Int32 × Mem), k_56 v_4 M = some r → ∀ (ls : Array Slot) (H : Heap) (locs : List Loc), lv_has ls 5 [(0, .ref (ad 100 0)), (2, .int a2), (3, .int v_3), (4, .int v_4)] → St D cy ad ns A M s.heap H locs → W p l e rm_X10_spools s m args below meth c H locs 0 0 (MQ below (QC D cy ad ns A r.2 (some (.int r.1))) args s 0 0 A) (F0 m 56 ls [])) → ∀ (ls : Array Slot) (H : Heap) (locs : List Loc), lv_has ls 5 [(0, .ref (ad 100 0)), (2, .int a2), (3, .int v_3), (4, .int v_4)] → St D cy ad ns A M s.heap H locs → W p l e rm_X10_spools s m args below meth c H locs 0 0 (MQ below (QC D cy ad ns A r.2 (some (.int r.1))) args s 0 0 A) (F0 m 107 ls [.int s_2, .int s_1, .ref (ad 100 (56 + 1))]) := by
  obtain ⟨hx, hb, hml, hown, hts, hK, hr, hlk, hA, hG⟩ := id X
  intro hk_56 ls H locs hl hS
  unfold f_X10_spools_107 at hX
  obtain ⟨g1, hX⟩ := gin_of hX
  refine r_iast (ci := 10) (o := 100) (k := 56) (n := 512) X hS (hN) rfl rfl g1 dX10_spools_107 (fun H locs hS => ?_)
  obtain ⟨M2, eM2, hS, hX⟩ := nm_mem hS hX
  refine lv_iload hx hb dX10_spools_108 (lv_at hl 3 rfl) ?_
  refine lv_iconst (v := nI 1) hx hb dX10_spools_110 (by decide) ?_
  refine lv_isub hx hb dX10_spools_111 ?_
  refine lv_iload_n hx hb dX10_spools_112 rfl (lv_at hl 2 rfl) ?_
  refine lv_iand hx hb dX10_spools_113 ?_
  refine lv_topi (fun v3 ev3 => ?_)
  have hX := nm_of ev3 hX
  refine lv_istore (lv' := [(4, .int v3), (0, .ref (ad 100 0)), (2, .int a2), (3, .int v_3)]) hx hb dX10_spools_114 hl (by decide) rfl (fun ls hl => ?_)
  refine lv_goto (tgt := 56) hx hb dX10_spools_116 (by decide) ?_
  exact hk_56 _ _ _ hX _ _ _ (lv_sub hl [1, 2, 3, 0] rfl) hS
set_option maxRecDepth 100000 in
set_option maxHeartbeats 4000000 in
theorem n_X10_spools_56 {a1 : Int32} {a2 : Int32} (X : Cx p s m args meth c D cy ad A RX10 cX10_spools 5 ((some .int))) (hN : Ob ns 10 100) {k_34 : Int32 → Mem → Option (Int32 × Mem)} {v_3 : Int32} : ∀ (n : Nat) (v_4 : Int32) (M : Mem) (r : Int32 × Mem), f_X10_spools_56 a1 a2 k_34 v_3 n (v_4, M) = some r → (∀ (v_3 : Int32) (M : Mem) (r : Int32 × Mem), k_34 v_3 M = some r → ∀ (ls : Array Slot) (H : Heap) (locs : List Loc), lv_has ls 5 [(0, .ref (ad 100 0)), (2, .int a2), (3, .int v_3)] → St D cy ad ns A M s.heap H locs → W p l e rm_X10_spools s m args below meth c H locs 0 0 (MQ below (QC D cy ad ns A r.2 (some (.int r.1))) args s 0 0 A) (F0 m 34 ls [])) → ∀ (ls : Array Slot) (H : Heap) (locs : List Loc), lv_has ls 5 [(0, .ref (ad 100 0)), (2, .int a2), (3, .int v_3), (4, .int v_4)] → St D cy ad ns A M s.heap H locs → W p l e rm_X10_spools s m args below meth c H locs 0 0 (MQ below (QC D cy ad ns A r.2 (some (.int r.1))) args s 0 0 A) (F0 m 56 ls []) := by
  obtain ⟨hx, hb, hml, hown, hts, hK, hr, hlk, hA, hG⟩ := id X
  intro n
  induction n with
  | zero => intro v_4 M r hX; cases (show (none : Option (Int32 × Mem)) = some r from hX)
  | succ n ih =>
    intro v_4 M r hX hk_34 ls H locs hl hS
    have hX : b_X10_spools_56 a1 a2 k_34 v_3 (fun x0 x1 => f_X10_spools_56 a1 a2 k_34 v_3 n (x0, x1)) v_4 M = some r := hX
    unfold b_X10_spools_56 at hX
    refine lv_iload hx hb dX10_spools_56 (lv_at hl 3 rfl) ?_
    refine lv_if_le (tgt := 119) hx hb dX10_spools_58 (by decide) (fun c4 => ?_) (fun c4 => ?_)
    · have hX := if_t c4 hX
      obtain ⟨v5, ev5⟩ : ∃ y : Int32, y = (v_3 + nI 1) := ⟨_, rfl⟩
      have hX := nm_of ev5 hX
      refine lv_iinc (v := v5) (lv' := [(3, .int v5), (0, .ref (ad 100 0)), (2, .int a2), (4, .int v_4)]) hx hb dX10_spools_119 hl (k := 2) rfl (by rw [ev5]; rfl) (by decide) rfl (fun ls hl => ?_)
      refine lv_goto (tgt := 34) hx hb dX10_spools_122 (by decide) ?_
      exact hk_34 _ _ _ hX _ _ _ (lv_sub hl [1, 2, 0] rfl) hS
    · have hX := if_f c4 hX
      refine lv_aload_n hx hb dX10_spools_61 rfl (lv_at hl 0 rfl) ?_
      refine fg_X10_87 X hS (hN) dX10_spools_62 ?_
      refine lv_iload_n hx hb dX10_spools_65 rfl (lv_at hl 2 rfl) ?_
      refine lv_aload_n hx hb dX10_spools_66 rfl (lv_at hl 0 rfl) ?_
      refine lv_iload hx hb dX10_spools_67 (lv_at hl 3 rfl) ?_
      obtain ⟨r7, h6, hX⟩ := bn_of hX
      refine r_callV1 (v := .int r7) (As := [.int v_4]) (rest := [.int v_3, .ref (ad 100 (56 + 1))]) X hS (m_X10_stitches hN h6) mv_X10_stitches rfl (hN) t7_111 ⟨rfl, rfl, Nat.le_of_ble_eq_true rfl, Nat.le_of_ble_eq_true rfl⟩ rfl hl.1 rfl (Nat.le_of_ble_eq_true rfl) ⟨Nat.zero_le _, Nat.zero_le _⟩ dX10_spools_69 (fun H locs hS => ?_)
      refine lv_iload_n hx hb dX10_spools_72 rfl (lv_at hl 1 rfl) ?_
      refine lv_icmp_gt (tgt := 101) hx hb dX10_spools_73 (by decide) (fun c8 => ?_) (fun c8 => ?_)
      · have hX := if_t c8 hX
        refine lv_aload_n hx hb dX10_spools_101 rfl (lv_at hl 0 rfl) ?_
        refine fg_X10_87 X hS (hN) dX10_spools_102 ?_
        refine lv_iload_n hx hb dX10_spools_105 rfl (lv_at hl 2 rfl) ?_
        obtain ⟨g9, hX⟩ := gin_of hX
        refine r_iald (ci := 10) (o := 100) (k := 56) (n := 512) X hS (hN) rfl rfl g9 dX10_spools_106 ?_
        exact n_X10_spools_107 X hN hX (fun z0 z1 r h ls H locs hl hS => ih z0 z1 r h hk_34 ls H locs hl hS) _ _ _ (lv_sub hl [0, 1, 2, 3] rfl) hS
      · have hX := if_f c8 hX
        refine lv_aload_n hx hb dX10_spools_76 rfl (lv_at hl 0 rfl) ?_
        refine fg_X10_87 X hS (hN) dX10_spools_77 ?_
        refine lv_iload_n hx hb dX10_spools_80 rfl (lv_at hl 2 rfl) ?_
        obtain ⟨g10, hX⟩ := gin_of hX
        refine r_iald (ci := 10) (o := 100) (k := 56) (n := 512) X hS (hN) rfl rfl g10 dX10_spools_81 ?_
        refine lv_iconst (v := nI 1) hx hb dX10_spools_82 (by decide) ?_
        refine lv_aload_n hx hb dX10_spools_83 rfl (lv_at hl 0 rfl) ?_
        refine fg_X10_87 X hS (hN) dX10_spools_84 ?_
        refine lv_iload_n hx hb dX10_spools_87 rfl (lv_at hl 2 rfl) ?_
        refine lv_iload hx hb dX10_spools_88 (lv_at hl 3 rfl) ?_
        refine lv_iconst (v := (-1)) hx hb dX10_spools_90 (by decide) ?_
        refine lv_ixor hx hb dX10_spools_91 ?_
        refine lv_iand hx hb dX10_spools_92 ?_
        obtain ⟨g11, hX⟩ := gin_of hX
        refine r_iald (ci := 10) (o := 100) (k := 56) (n := 512) X hS (hN) rfl rfl g11 dX10_spools_93 ?_
        refine lv_iadd hx hb dX10_spools_94 ?_
        obtain ⟨r13, h12, hX⟩ := bn_of hX
        refine r_callS1 (v := .int r13) (As := [.int (gA M 100 56 (ix v_3)), .int ((nI 1) + (gA M 100 56 (ix (v_3 &&& (v_4 ^^^ (-1))))))]) (rest := [.int v_3, .ref (ad 100 (56 + 1))]) X hS (m_X10_lesser (M := M) hN h12) ms_X10_lesser t7_43 ⟨rfl, rfl, Nat.le_of_ble_eq_true rfl, Nat.le_of_ble_eq_true rfl⟩ rfl hl.1 rfl (Nat.le_of_ble_eq_true rfl) ⟨Nat.zero_le _, Nat.zero_le _⟩ dX10_spools_95 (fun H locs hS => ?_)
        refine lv_goto (tgt := 107) hx hb dX10_spools_98 (by decide) ?_
        exact n_X10_spools_107 X hN hX (fun z0 z1 r h ls H locs hl hS => ih z0 z1 r h hk_34 ls H locs hl hS) _ _ _ (lv_sub hl [0, 1, 2, 3] rfl) hS
set_option maxRecDepth 100000 in
set_option maxHeartbeats 4000000 in
theorem n_X10_spools_130 {a1 : Int32} {a2 : Int32} (X : Cx p s m args meth c D cy ad A RX10 cX10_spools 5 ((some .int))) (hN : Ob ns 10 100) : ∀ (n : Nat) (v_3 : Int32) (v_4 : Int32) (M : Mem) (r : Int32 × Mem), f_X10_spools_130 a1 a2 n (v_3, v_4, M) = some r → ∀ (ls : Array Slot) (H : Heap) (locs : List Loc), lv_has ls 5 [(0, .ref (ad 100 0)), (3, .int v_3), (4, .int v_4)] → St D cy ad ns A M s.heap H locs → W p l e rm_X10_spools s m args below meth c H locs 0 0 (MQ below (QC D cy ad ns A r.2 (some (.int r.1))) args s 0 0 A) (F0 m 130 ls []) := by
  obtain ⟨hx, hb, hml, hown, hts, hK, hr, hlk, hA, hG⟩ := id X
  intro n
  induction n with
  | zero => intro v_3 v_4 M r hX; cases (show (none : Option (Int32 × Mem)) = some r from hX)
  | succ n ih =>
    intro v_3 v_4 M r hX ls H locs hl hS
    have hX : b_X10_spools_130 a1 a2 (fun x0 x1 x2 => f_X10_spools_130 a1 a2 n (x0, x1, x2)) v_3 v_4 M = some r := hX
    unfold b_X10_spools_130 at hX
    refine lv_iload hx hb dX10_spools_130 (lv_at hl 2 rfl) ?_
    refine lv_iconst (v := nI 4) hx hb dX10_spools_132 (by decide) ?_
    refine lv_icmp_ge (tgt := 156) hx hb dX10_spools_133 (by decide) (fun c14 => ?_) (fun c14 => ?_)
    · have hX := if_t c14 hX
      refine lv_iload_n hx hb dX10_spools_156 rfl (lv_at hl 1 rfl) ?_
      refine lv_ldcw hx hb (own := RX10) hown (hts _ t7_106) dX10_spools_157 ?_
      refine lv_icmp_lt (tgt := 167) hx hb dX10_spools_160 (by decide) (fun c15 => ?_) (fun c15 => ?_)
      · have hX := if_t c15 hX
        refine lv_iload_n hx hb dX10_spools_167 rfl (lv_at hl 1 rfl) ?_
        obtain rfl := some_of hX
        exact x_I (v := v_3) X hS dX10_spools_168
      · have hX := if_f c15 hX
        refine lv_iconst (v := (-1)) hx hb dX10_spools_163 (by decide) ?_
        refine lv_goto (tgt := 168) hx hb dX10_spools_164 (by decide) ?_
        obtain rfl := some_of hX
        exact x_I (v := (-1)) X hS dX10_spools_168
    · have hX := if_f c14 hX
      refine lv_iload_n hx hb dX10_spools_136 rfl (lv_at hl 1 rfl) ?_
      refine lv_aload_n hx hb dX10_spools_137 rfl (lv_at hl 0 rfl) ?_
      refine fg_X10_87 X hS (hN) dX10_spools_138 ?_
      refine lv_aload_n hx hb dX10_spools_141 rfl (lv_at hl 0 rfl) ?_
      refine lv_iload hx hb dX10_spools_142 (lv_at hl 2 rfl) ?_
      obtain ⟨r17, h16, hX⟩ := bn_of hX
      refine r_callV1 (v := .int r17) (As := [.int v_4]) (rest := [.ref (ad 100 (56 + 1)), .int v_3]) X hS (m_X10_ofColour hN h16) mv_X10_ofColour rfl (hN) t8_84 ⟨rfl, rfl, Nat.le_of_ble_eq_true rfl, Nat.le_of_ble_eq_true rfl⟩ rfl hl.1 rfl (Nat.le_of_ble_eq_true rfl) ⟨Nat.zero_le _, Nat.zero_le _⟩ dX10_spools_144 (fun H locs hS => ?_)
      obtain ⟨g18, hX⟩ := gin_of hX
      refine r_iald (ci := 10) (o := 100) (k := 56) (n := 512) X hS (hN) rfl rfl g18 dX10_spools_147 ?_
      refine lv_iadd hx hb dX10_spools_148 ?_
      refine lv_topi (fun v19 ev19 => ?_)
      have hX := nm_of ev19 hX
      refine lv_istore_n (lv' := [(3, .int v19), (0, .ref (ad 100 0)), (4, .int v_4)]) hx hb dX10_spools_149 rfl hl (by decide) rfl (fun ls hl => ?_)
      obtain ⟨v20, ev20⟩ : ∃ y : Int32, y = (v_4 + nI 1) := ⟨_, rfl⟩
      have hX := nm_of ev20 hX
      refine lv_iinc (v := v20) (lv' := [(4, .int v20), (3, .int v19), (0, .ref (ad 100 0))]) hx hb dX10_spools_150 hl (k := 2) rfl (by rw [ev20]; rfl) (by decide) rfl (fun ls hl => ?_)
      refine lv_goto (tgt := 130) hx hb dX10_spools_153 (by decide) ?_
      exact ih _ _ _ _ hX _ _ _ (lv_sub hl [2, 1, 0] rfl) hS
set_option maxRecDepth 100000 in
set_option maxHeartbeats 4000000 in
theorem n_X10_spools_34 {a1 : Int32} {a2 : Int32} (X : Cx p s m args meth c D cy ad A RX10 cX10_spools 5 ((some .int))) (hN : Ob ns 10 100) : ∀ (n : Nat) (v_3 : Int32) (M : Mem) (r : Int32 × Mem), f_X10_spools_34 a1 a2 n (v_3, M) = some r → ∀ (ls : Array Slot) (H : Heap) (locs : List Loc), lv_has ls 5 [(0, .ref (ad 100 0)), (2, .int a2), (3, .int v_3)] → St D cy ad ns A M s.heap H locs → W p l e rm_X10_spools s m args below meth c H locs 0 0 (MQ below (QC D cy ad ns A r.2 (some (.int r.1))) args s 0 0 A) (F0 m 34 ls []) := by
  obtain ⟨hx, hb, hml, hown, hts, hK, hr, hlk, hA, hG⟩ := id X
  intro n
  induction n with
  | zero => intro v_3 M r hX; cases (show (none : Option (Int32 × Mem)) = some r from hX)
  | succ n ih =>
    intro v_3 M r hX ls H locs hl hS
    have hX : b_X10_spools_34 a1 a2 (fun x0 x1 => f_X10_spools_34 a1 a2 n (x0, x1)) v_3 M = some r := hX
    unfold b_X10_spools_34 at hX
    refine lv_iload_n hx hb dX10_spools_34 rfl (lv_at hl 2 rfl) ?_
    refine lv_iconst (v := nI 1) hx hb dX10_spools_35 (by decide) ?_
    refine lv_aload_n hx hb dX10_spools_36 rfl (lv_at hl 0 rfl) ?_
    refine fg_X10_281 X hS (hN) dX10_spools_37 ?_
    refine lv_ishl hx hb dX10_spools_40 ?_
    refine lv_icmp_ge (tgt := 125) hx hb dX10_spools_41 (by decide) (fun c21 => ?_) (fun c21 => ?_)
    · have hX := if_t c21 hX
      refine lv_iconst (v := nI 0) hx hb dX10_spools_125 (by decide) ?_
      refine lv_istore_n (lv' := [(3, .int (nI 0)), (0, .ref (ad 100 0)), (2, .int a2)]) hx hb dX10_spools_126 rfl hl (by decide) rfl (fun ls hl => ?_)
      refine lv_iconst (v := nI 0) hx hb dX10_spools_127 (by decide) ?_
      refine lv_istore (lv' := [(4, .int (nI 0)), (3, .int (nI 0)), (0, .ref (ad 100 0)), (2, .int a2)]) hx hb dX10_spools_128 hl (by decide) rfl (fun ls hl => ?_)
      exact n_X10_spools_130 X hN _ _ _ _ _ hX _ _ _ (lv_sub hl [2, 1, 0] rfl) hS
    · have hX := if_f c21 hX
      refine lv_aload_n hx hb dX10_spools_44 rfl (lv_at hl 0 rfl) ?_
      refine fg_X10_87 X hS (hN) dX10_spools_45 ?_
      refine lv_iload_n hx hb dX10_spools_48 rfl (lv_at hl 2 rfl) ?_
      refine lv_ldcw hx hb (own := RX10) hown (hts _ t7_106) dX10_spools_49 ?_
      obtain ⟨g22, hX⟩ := gin_of hX
      refine r_iast (ci := 10) (o := 100) (k := 56) (n := 512) X hS (hN) rfl rfl g22 dX10_spools_52 (fun H locs hS => ?_)
      obtain ⟨M23, eM23, hS, hX⟩ := nm_mem hS hX
      refine lv_iload_n hx hb dX10_spools_53 rfl (lv_at hl 2 rfl) ?_
      refine lv_istore (lv' := [(4, .int v_3), (0, .ref (ad 100 0)), (2, .int a2), (3, .int v_3)]) hx hb dX10_spools_54 hl (by decide) rfl (fun ls hl => ?_)
      exact n_X10_spools_56 X hN _ _ _ _ hX (fun z0 z1 r h ls H locs hl hS => ih z0 z1 r h ls H locs hl hS) _ _ _ (lv_sub hl [1, 2, 3, 0] rfl) hS
set_option maxRecDepth 100000 in
set_option maxHeartbeats 4000000 in
theorem m_X10_spools {l : Launch} {D : va_G} {cy : Nat → ClassId} {ad : Nat → Nat → Nat} {ns : List (Nat × Nat)} {A : Nat → Prop} {M : Mem} (hN : Ob ns 10 100) {a1 : Int32} {a2 : Int32} {r : Int32 × Mem} (hX : f_X10_spools M a1 a2 = some r) : Ct l yX10_spools cX10_spools 5 ((some .int)) rm_X10_spools D cy ad ns A [.ref (ad 100 0), .int a1, .int a2] M r.2 (some (.int r.1)) := by
  refine ct_of (lv := [(0, .ref (ad 100 0)), (1, .int a1), (2, .int a2)]) (by decide) (Nat.le_of_ble_eq_true rfl) rfl ?_
  intro p e s m args below meth c ls X hl hS
  obtain ⟨hx, hb, hml, hown, hts, hK, hr, hlk, hA, hG⟩ := id X
  obtain ⟨H, hH⟩ : ∃ z, z = s.heap := ⟨_, rfl⟩
  obtain ⟨locs, hlo⟩ : ∃ z : List Loc, z = [] := ⟨_, rfl⟩
  have hS : St D cy ad ns A M s.heap H locs := by rw [hH, hlo]; exact hS
  have hgoal : W p l e rm_X10_spools s m args below meth c H locs 0 0 (MQ below (QC D cy ad ns A r.2 (some (.int r.1))) args s 0 0 A) (F0 m 0 ls []) := by
    unfold f_X10_spools at hX
    refine lv_aload_n hx hb dX10_spools_0 rfl (lv_at hl 0 rfl) ?_
    refine lv_iconst (v := nI 0) hx hb dX10_spools_1 (by decide) ?_
    refine fp_X10_94 X hS (hN) dX10_spools_2 (fun H locs hS => ?_)
    obtain ⟨M24, eM24, hS, hX⟩ := nm_mem hS hX
    refine lv_iload_n hx hb dX10_spools_5 rfl (lv_at hl 2 rfl) ?_
    refine lv_iconst (v := nI 1) hx hb dX10_spools_6 (by decide) ?_
    refine lv_bipush (v := nI 60) hx hb dX10_spools_7 (by decide) ?_
    obtain ⟨r26, h25, hX⟩ := bn_of hX
    refine r_callS1 (v := .int (b2i r26)) (As := [.int a2, .int (nI 1), .int (nI 60)]) (rest := []) X hS (m_X10_in (M := M24) hN h25) ms_X10_in t6_81 ⟨rfl, rfl, Nat.le_of_ble_eq_true rfl, Nat.le_of_ble_eq_true rfl⟩ rfl hl.1 rfl (Nat.le_of_ble_eq_true rfl) ⟨Nat.zero_le _, Nat.zero_le _⟩ dX10_spools_9 (fun H locs hS => ?_)
    refine lv_if_eq (tgt := 23) hx hb dX10_spools_12 (by decide) (fun c27 => ?_) (fun c27 => ?_)
    · have hX := if_bf c27 hX
      refine lv_iconst (v := (-1)) hx hb dX10_spools_23 (by decide) ?_
      obtain rfl := some_of hX
      exact x_I (v := (-1)) X hS dX10_spools_24
    · have hX := if_bt c27 hX
      refine lv_aload_n hx hb dX10_spools_15 rfl (lv_at hl 0 rfl) ?_
      refine lv_iload_n hx hb dX10_spools_16 rfl (lv_at hl 1 rfl) ?_
      obtain ⟨r30, M29, h28, hX⟩ := bp_of hX
      refine r_callV1 (v := .int (b2i r30)) (As := [.int a1]) (rest := []) X hS (m_X10_hand hN h28) mv_X10_hand rfl (hN) t6_216 ⟨rfl, rfl, Nat.le_of_ble_eq_true rfl, Nat.le_of_ble_eq_true rfl⟩ rfl hl.1 rfl (Nat.le_of_ble_eq_true rfl) ⟨Nat.zero_le _, Nat.zero_le _⟩ dX10_spools_17 (fun H locs hS => ?_)
      refine lv_if_ne (tgt := 25) hx hb dX10_spools_20 (by decide) (fun c31 => ?_) (fun c31 => ?_)
      · have hX := if_bt c31 hX
        refine lv_aload_n hx hb dX10_spools_25 rfl (lv_at hl 0 rfl) ?_
        refine fg_X10_87 X hS (hN) dX10_spools_26 ?_
        refine lv_iconst (v := nI 0) hx hb dX10_spools_29 (by decide) ?_
        refine lv_iconst (v := nI 0) hx hb dX10_spools_30 (by decide) ?_
        obtain ⟨g32, hX⟩ := gin_of hX
        refine r_iast (ci := 10) (o := 100) (k := 56) (n := 512) X hS (hN) rfl rfl g32 dX10_spools_31 (fun H locs hS => ?_)
        obtain ⟨M33, eM33, hS, hX⟩ := nm_mem hS hX
        refine lv_iconst (v := nI 1) hx hb dX10_spools_32 (by decide) ?_
        refine lv_istore_n (lv' := [(3, .int (nI 1)), (0, .ref (ad 100 0)), (1, .int a1), (2, .int a2)]) hx hb dX10_spools_33 rfl hl (by decide) rfl (fun ls hl => ?_)
        exact n_X10_spools_34 X hN _ _ _ _ hX _ _ _ (lv_sub hl [1, 3, 0] rfl) hS
      · have hX := if_bf c31 hX
        refine lv_iconst (v := (-1)) hx hb dX10_spools_23 (by decide) ?_
        obtain rfl := some_of hX
        exact x_I (v := (-1)) X hS dX10_spools_24
  rw [hH, hlo] at hgoal
  exact hgoal
theorem mv_X10_spools : Mv yX10_spools RX10 cX10_spools 5 ((some .int)) 2 := ⟨t8_83, t8_81, t8_82, t1_11, ⟨by decide, by decide⟩, by decide +kernel⟩
/-! SewnYearModel.grown(II)I -/
def rm_X10_grown : Room := { frames := 3, cells := 0, slots := 0, locals := 65 }
def b_X10_grown_20 (a1 : Int32) (a2 : Int32) (rc : Int32 → Int32 → Mem → Option (Int32 × Mem)) (v_3 : Int32) (v_4 : Int32) (M : Mem) : Option (Int32 × Mem) :=
  if (nI 99) < v_4 then (some ((-1), M)) else (bn (f_X10_of M ((nI 38) + v_4)) fun r3 => nm (v_3 + r3) fun v4 => if v4 < a2 then (nm (v_4 + nI 1) fun v6 => rc v4 v6 M) else (some (v_4, M)))
def f_X10_grown_20 (a1 : Int32) (a2 : Int32) : Nat → (Int32 × Int32 × Mem) → Option (Int32 × Mem) := lp (fun rc q => b_X10_grown_20 a1 a2 (fun x0 x1 x2 => rc (x0, x1, x2)) q.1 q.2.1 q.2.2)
def f_X10_grown (M : Mem) (a1 : Int32) (a2 : Int32) : Option (Int32 × Mem) :=
  nm (sI M 100 0 (nI 0)) fun M7 => bp (f_X10_hand M7 a1) fun r10 M9 => if r10 = true then (f_X10_grown_20 a1 a2 FU ((nI 0), (nI 0), M9)) else (some ((-1), M9))
set_option maxRecDepth 100000 in
set_option maxHeartbeats 4000000 in
theorem n_X10_grown_20 {a1 : Int32} {a2 : Int32} (X : Cx p s m args meth c D cy ad A RX10 cX10_grown 5 ((some .int))) (hN : Ob ns 10 100) : ∀ (n : Nat) (v_3 : Int32) (v_4 : Int32) (M : Mem) (r : Int32 × Mem), f_X10_grown_20 a1 a2 n (v_3, v_4, M) = some r → ∀ (ls : Array Slot) (H : Heap) (locs : List Loc), lv_has ls 5 [(0, .ref (ad 100 0)), (2, .int a2), (3, .int v_3), (4, .int v_4)] → St D cy ad ns A M s.heap H locs → W p l e rm_X10_grown s m args below meth c H locs 0 0 (MQ below (QC D cy ad ns A r.2 (some (.int r.1))) args s 0 0 A) (F0 m 20 ls []) := by
  obtain ⟨hx, hb, hml, hown, hts, hK, hr, hlk, hA, hG⟩ := id X
  intro n
  induction n with
  | zero => intro v_3 v_4 M r hX; cases (show (none : Option (Int32 × Mem)) = some r from hX)
  | succ n ih =>
    intro v_3 v_4 M r hX ls H locs hl hS
    have hX : b_X10_grown_20 a1 a2 (fun x0 x1 x2 => f_X10_grown_20 a1 a2 n (x0, x1, x2)) v_3 v_4 M = some r := hX
    unfold b_X10_grown_20 at hX
    refine lv_iload hx hb dX10_grown_20 (lv_at hl 3 rfl) ?_
    refine lv_bipush (v := nI 99) hx hb dX10_grown_22 (by decide) ?_
    refine lv_icmp_gt (tgt := 53) hx hb dX10_grown_24 (by decide) (fun c1 => ?_) (fun c1 => ?_)
    · have hX := if_t c1 hX
      refine lv_iconst (v := (-1)) hx hb dX10_grown_53 (by decide) ?_
      obtain rfl := some_of hX
      exact x_I (v := (-1)) X hS dX10_grown_54
    · have hX := if_f c1 hX
      refine lv_iload_n hx hb dX10_grown_27 rfl (lv_at hl 2 rfl) ?_
      refine lv_aload_n hx hb dX10_grown_28 rfl (lv_at hl 0 rfl) ?_
      refine lv_bipush (v := nI 38) hx hb dX10_grown_29 (by decide) ?_
      refine lv_iload hx hb dX10_grown_31 (lv_at hl 3 rfl) ?_
      refine lv_iadd hx hb dX10_grown_33 ?_
      obtain ⟨r3, h2, hX⟩ := bn_of hX
      refine r_callV1 (v := .int r3) (As := [.int ((nI 38) + v_4)]) (rest := [.int v_3]) X hS (m_X10_of hN h2) mv_X10_of rfl (hN) t6_220 ⟨rfl, rfl, Nat.le_of_ble_eq_true rfl, Nat.le_of_ble_eq_true rfl⟩ rfl hl.1 rfl (Nat.le_of_ble_eq_true rfl) ⟨Nat.zero_le _, Nat.zero_le _⟩ dX10_grown_34 (fun H locs hS => ?_)
      refine lv_iadd hx hb dX10_grown_37 ?_
      refine lv_topi (fun v4 ev4 => ?_)
      have hX := nm_of ev4 hX
      refine lv_istore_n (lv' := [(3, .int v4), (0, .ref (ad 100 0)), (2, .int a2), (4, .int v_4)]) hx hb dX10_grown_38 rfl hl (by decide) rfl (fun ls hl => ?_)
      refine lv_iload_n hx hb dX10_grown_39 rfl (lv_at hl 0 rfl) ?_
      refine lv_iload_n hx hb dX10_grown_40 rfl (lv_at hl 2 rfl) ?_
      refine lv_icmp_lt (tgt := 47) hx hb dX10_grown_41 (by decide) (fun c5 => ?_) (fun c5 => ?_)
      · have hX := if_t c5 hX
        obtain ⟨v6, ev6⟩ : ∃ y : Int32, y = (v_4 + nI 1) := ⟨_, rfl⟩
        have hX := nm_of ev6 hX
        refine lv_iinc (v := v6) (lv' := [(4, .int v6), (3, .int v4), (0, .ref (ad 100 0)), (2, .int a2)]) hx hb dX10_grown_47 hl (k := 3) rfl (by rw [ev6]; rfl) (by decide) rfl (fun ls hl => ?_)
        refine lv_goto (tgt := 20) hx hb dX10_grown_50 (by decide) ?_
        exact ih _ _ _ _ hX _ _ _ (lv_sub hl [2, 3, 1, 0] rfl) hS
      · have hX := if_f c5 hX
        refine lv_iload hx hb dX10_grown_44 (lv_at hl 3 rfl) ?_
        obtain rfl := some_of hX
        exact x_I (v := v_4) X hS dX10_grown_46
set_option maxRecDepth 100000 in
set_option maxHeartbeats 4000000 in
theorem m_X10_grown {l : Launch} {D : va_G} {cy : Nat → ClassId} {ad : Nat → Nat → Nat} {ns : List (Nat × Nat)} {A : Nat → Prop} {M : Mem} (hN : Ob ns 10 100) {a1 : Int32} {a2 : Int32} {r : Int32 × Mem} (hX : f_X10_grown M a1 a2 = some r) : Ct l yX10_grown cX10_grown 5 ((some .int)) rm_X10_grown D cy ad ns A [.ref (ad 100 0), .int a1, .int a2] M r.2 (some (.int r.1)) := by
  refine ct_of (lv := [(0, .ref (ad 100 0)), (1, .int a1), (2, .int a2)]) (by decide) (Nat.le_of_ble_eq_true rfl) rfl ?_
  intro p e s m args below meth c ls X hl hS
  obtain ⟨hx, hb, hml, hown, hts, hK, hr, hlk, hA, hG⟩ := id X
  obtain ⟨H, hH⟩ : ∃ z, z = s.heap := ⟨_, rfl⟩
  obtain ⟨locs, hlo⟩ : ∃ z : List Loc, z = [] := ⟨_, rfl⟩
  have hS : St D cy ad ns A M s.heap H locs := by rw [hH, hlo]; exact hS
  have hgoal : W p l e rm_X10_grown s m args below meth c H locs 0 0 (MQ below (QC D cy ad ns A r.2 (some (.int r.1))) args s 0 0 A) (F0 m 0 ls []) := by
    unfold f_X10_grown at hX
    refine lv_aload_n hx hb dX10_grown_0 rfl (lv_at hl 0 rfl) ?_
    refine lv_iconst (v := nI 0) hx hb dX10_grown_1 (by decide) ?_
    refine fp_X10_94 X hS (hN) dX10_grown_2 (fun H locs hS => ?_)
    obtain ⟨M7, eM7, hS, hX⟩ := nm_mem hS hX
    refine lv_aload_n hx hb dX10_grown_5 rfl (lv_at hl 0 rfl) ?_
    refine lv_iload_n hx hb dX10_grown_6 rfl (lv_at hl 1 rfl) ?_
    obtain ⟨r10, M9, h8, hX⟩ := bp_of hX
    refine r_callV1 (v := .int (b2i r10)) (As := [.int a1]) (rest := []) X hS (m_X10_hand hN h8) mv_X10_hand rfl (hN) t6_216 ⟨rfl, rfl, Nat.le_of_ble_eq_true rfl, Nat.le_of_ble_eq_true rfl⟩ rfl hl.1 rfl (Nat.le_of_ble_eq_true rfl) ⟨Nat.zero_le _, Nat.zero_le _⟩ dX10_grown_7 (fun H locs hS => ?_)
    refine lv_if_ne (tgt := 15) hx hb dX10_grown_10 (by decide) (fun c11 => ?_) (fun c11 => ?_)
    · have hX := if_bt c11 hX
      refine lv_iconst (v := nI 0) hx hb dX10_grown_15 (by decide) ?_
      refine lv_istore_n (lv' := [(3, .int (nI 0)), (0, .ref (ad 100 0)), (1, .int a1), (2, .int a2)]) hx hb dX10_grown_16 rfl hl (by decide) rfl (fun ls hl => ?_)
      refine lv_iconst (v := nI 0) hx hb dX10_grown_17 (by decide) ?_
      refine lv_istore (lv' := [(4, .int (nI 0)), (3, .int (nI 0)), (0, .ref (ad 100 0)), (1, .int a1), (2, .int a2)]) hx hb dX10_grown_18 hl (by decide) rfl (fun ls hl => ?_)
      exact n_X10_grown_20 X hN _ _ _ _ _ hX _ _ _ (lv_sub hl [2, 4, 1, 0] rfl) hS
    · have hX := if_bf c11 hX
      refine lv_iconst (v := (-1)) hx hb dX10_grown_13 (by decide) ?_
      obtain rfl := some_of hX
      exact x_I (v := (-1)) X hS dX10_grown_14
  rw [hH, hlo] at hgoal
  exact hgoal
theorem mv_X10_grown : Mv yX10_grown RX10 cX10_grown 5 ((some .int)) 2 := ⟨t8_91, t8_89, t8_90, t1_11, ⟨by decide, by decide⟩, by decide +kernel⟩
/-! SewnYearModel.home(IZ)I -/
def rm_X10_home : Room := { frames := 5, cells := 0, slots := 0, locals := 116 }
def f_X10_home_76 (a1 : Int32) (a2 : Bool) (k_32 : Int32 → Int32 → Int32 → Mem → Option (Int32 × Mem)) (v_4 : Int32) (v_5 : Int32) (s_0 : Int32) (M : Mem) : Option (Int32 × Mem) :=
  bn (f_X10_lesser v_4 (gI M 100 46)) fun r2 => nm (v_5 + nI 1) fun v3 => k_32 s_0 r2 v3 M
def b_X10_home_32 (a1 : Int32) (a2 : Bool) (rc : Int32 → Int32 → Int32 → Mem → Option (Int32 × Mem)) (v_3 : Int32) (v_4 : Int32) (v_5 : Int32) (M : Mem) : Option (Int32 × Mem) :=
  if (nI 100) ≤ v_5 then (if a2 = true then (some (v_3, M)) else (some (v_4, M))) else (gnz (nI 10) <| nm (sI M 100 41 (v_5 - v_5 / (nI 10) * (nI 10))) fun M7 => gnz (nI 10) <| nm (sI M7 100 42 (v_5 / (nI 10))) fun M9 => bn (f_X10_findRounds M9) fun M11 => if v_4 ≤ (gI M11 100 46) then (f_X10_home_76 a1 a2 rc v_4 v_5 v_3 M11) else (f_X10_home_76 a1 a2 rc v_4 v_5 v_5 M11))
def f_X10_home_32 (a1 : Int32) (a2 : Bool) : Nat → (Int32 × Int32 × Int32 × Mem) → Option (Int32 × Mem) := lp (fun rc q => b_X10_home_32 a1 a2 (fun x0 x1 x2 x3 => rc (x0, x1, x2, x3)) q.1 q.2.1 q.2.2.1 q.2.2.2)
def f_X10_home (M : Mem) (a1 : Int32) (a2 : Bool) : Option (Int32 × Mem) :=
  nm (sI M 100 0 (nI 0)) fun M13 => bp (f_X10_layTown M13 a1) fun r16 M15 => if r16 = true then (if (gI M15 100 40) = (nI 0) then (some ((-1), M15)) else (f_X10_home_32 a1 a2 FU ((-1), (nI 1000000), (nI 0), M15))) else (some ((-1), M15))
set_option maxRecDepth 100000 in
set_option maxHeartbeats 4000000 in
theorem n_X10_home_76 {a1 : Int32} {a2 : Bool} (X : Cx p s m args meth c D cy ad A RX10 cX10_home 6 ((some .int))) (hN : Ob ns 10 100) {k_32 : Int32 → Int32 → Int32 → Mem → Option (Int32 × Mem)} {v_4 : Int32} {v_5 : Int32} {s_0 : Int32} {M : Mem} {r : Int32 × Mem} (hX : f_X10_home_76 a1 a2 k_32 v_4 v_5 s_0 M = some r) : (∀ (v_3 : Int32) (v_4 : Int32) (v_5 : Int32) (M : Mem) (r : Int32 × Mem), k_32 v_3 v_4 v_5 M = some r → ∀ (ls : Array Slot) (H : Heap) (locs : List Loc), lv_has ls 6 [(0, .ref (ad 100 0)), (2, .int (b2i a2)), (3, .int v_3), (4, .int v_4), (5, .int v_5)] → St D cy ad ns A M s.heap H locs → W p l e rm_X10_home s m args below meth c H locs 0 0 (MQ below (QC D cy ad ns A r.2 (some (.int r.1))) args s 0 0 A) (F0 m 32 ls [])) → ∀ (ls : Array Slot) (H : Heap) (locs : List Loc), lv_has ls 6 [(0, .ref (ad 100 0)), (2, .int (b2i a2)), (4, .int v_4), (5, .int v_5)] → St D cy ad ns A M s.heap H locs → W p l e rm_X10_home s m args below meth c H locs 0 0 (MQ below (QC D cy ad ns A r.2 (some (.int r.1))) args s 0 0 A) (F0 m 76 ls [.int s_0]) := by
  obtain ⟨hx, hb, hml, hown, hts, hK, hr, hlk, hA, hG⟩ := id X
  intro hk_32 ls H locs hl hS
  unfold f_X10_home_76 at hX
  refine lv_istore_n (lv' := [(3, .int s_0), (0, .ref (ad 100 0)), (2, .int (b2i a2)), (4, .int v_4), (5, .int v_5)]) hx hb dX10_home_76 rfl hl (by decide) rfl (fun ls hl => ?_)
  refine lv_iload hx hb dX10_home_77 (lv_at hl 3 rfl) ?_
  refine lv_aload_n hx hb dX10_home_79 rfl (lv_at hl 1 rfl) ?_
  refine fg_X10_463 X hS (hN) dX10_home_80 ?_
  obtain ⟨r2, h1, hX⟩ := bn_of hX
  refine r_callS1 (v := .int r2) (As := [.int v_4, .int (gI M 100 46)]) (rest := []) X hS (m_X10_lesser (M := M) hN h1) ms_X10_lesser t7_43 ⟨rfl, rfl, Nat.le_of_ble_eq_true rfl, Nat.le_of_ble_eq_true rfl⟩ rfl hl.1 rfl (Nat.le_of_ble_eq_true rfl) ⟨Nat.zero_le _, Nat.zero_le _⟩ dX10_home_83 (fun H locs hS => ?_)
  refine lv_istore (lv' := [(4, .int r2), (3, .int s_0), (0, .ref (ad 100 0)), (2, .int (b2i a2)), (5, .int v_5)]) hx hb dX10_home_86 hl (by decide) rfl (fun ls hl => ?_)
  obtain ⟨v3, ev3⟩ : ∃ y : Int32, y = (v_5 + nI 1) := ⟨_, rfl⟩
  have hX := nm_of ev3 hX
  refine lv_iinc (v := v3) (lv' := [(5, .int v3), (4, .int r2), (3, .int s_0), (0, .ref (ad 100 0)), (2, .int (b2i a2))]) hx hb dX10_home_88 hl (k := 4) rfl (by rw [ev3]; rfl) (by decide) rfl (fun ls hl => ?_)
  refine lv_goto (tgt := 32) hx hb dX10_home_91 (by decide) ?_
  exact hk_32 _ _ _ _ _ hX _ _ _ (lv_sub hl [3, 4, 2, 1, 0] rfl) hS
set_option maxRecDepth 100000 in
set_option maxHeartbeats 4000000 in
theorem n_X10_home_32 {a1 : Int32} {a2 : Bool} (X : Cx p s m args meth c D cy ad A RX10 cX10_home 6 ((some .int))) (hN : Ob ns 10 100) : ∀ (n : Nat) (v_3 : Int32) (v_4 : Int32) (v_5 : Int32) (M : Mem) (r : Int32 × Mem), f_X10_home_32 a1 a2 n (v_3, v_4, v_5, M) = some r → ∀ (ls : Array Slot) (H : Heap) (locs : List Loc), lv_has ls 6 [(0, .ref (ad 100 0)), (2, .int (b2i a2)), (3, .int v_3), (4, .int v_4), (5, .int v_5)] → St D cy ad ns A M s.heap H locs → W p l e rm_X10_home s m args below meth c H locs 0 0 (MQ below (QC D cy ad ns A r.2 (some (.int r.1))) args s 0 0 A) (F0 m 32 ls []) := by
  obtain ⟨hx, hb, hml, hown, hts, hK, hr, hlk, hA, hG⟩ := id X
  intro n
  induction n with
  | zero => intro v_3 v_4 v_5 M r hX; cases (show (none : Option (Int32 × Mem)) = some r from hX)
  | succ n ih =>
    intro v_3 v_4 v_5 M r hX ls H locs hl hS
    have hX : b_X10_home_32 a1 a2 (fun x0 x1 x2 x3 => f_X10_home_32 a1 a2 n (x0, x1, x2, x3)) v_3 v_4 v_5 M = some r := hX
    unfold b_X10_home_32 at hX
    refine lv_iload hx hb dX10_home_32 (lv_at hl 4 rfl) ?_
    refine lv_bipush (v := nI 100) hx hb dX10_home_34 (by decide) ?_
    refine lv_icmp_ge (tgt := 94) hx hb dX10_home_36 (by decide) (fun c4 => ?_) (fun c4 => ?_)
    · have hX := if_t c4 hX
      refine lv_iload_n hx hb dX10_home_94 rfl (lv_at hl 1 rfl) ?_
      refine lv_if_eq (tgt := 102) hx hb dX10_home_95 (by decide) (fun c5 => ?_) (fun c5 => ?_)
      · have hX := if_bf c5 hX
        refine lv_iload hx hb dX10_home_102 (lv_at hl 3 rfl) ?_
        obtain rfl := some_of hX
        exact x_I (v := v_4) X hS dX10_home_104
      · have hX := if_bt c5 hX
        refine lv_iload_n hx hb dX10_home_98 rfl (lv_at hl 2 rfl) ?_
        refine lv_goto (tgt := 104) hx hb dX10_home_99 (by decide) ?_
        obtain rfl := some_of hX
        exact x_I (v := v_3) X hS dX10_home_104
    · have hX := if_f c4 hX
      refine lv_aload_n hx hb dX10_home_39 rfl (lv_at hl 0 rfl) ?_
      refine lv_iload hx hb dX10_home_40 (lv_at hl 4 rfl) ?_
      refine lv_bipush (v := nI 10) hx hb dX10_home_42 (by decide) ?_
      obtain ⟨g6, hX⟩ := gnz_of hX
      refine lv_irem hx hb dX10_home_44 g6 ?_
      refine fp_X10_432 X hS (hN) dX10_home_45 (fun H locs hS => ?_)
      obtain ⟨M7, eM7, hS, hX⟩ := nm_mem hS hX
      refine lv_aload_n hx hb dX10_home_48 rfl (lv_at hl 0 rfl) ?_
      refine lv_iload hx hb dX10_home_49 (lv_at hl 4 rfl) ?_
      refine lv_bipush (v := nI 10) hx hb dX10_home_51 (by decide) ?_
      obtain ⟨g8, hX⟩ := gnz_of hX
      refine lv_idiv hx hb dX10_home_53 g8 ?_
      refine fp_X10_435 X hS (hN) dX10_home_54 (fun H locs hS => ?_)
      obtain ⟨M9, eM9, hS, hX⟩ := nm_mem hS hX
      refine lv_aload_n hx hb dX10_home_57 rfl (lv_at hl 0 rfl) ?_
      obtain ⟨M11, h10, hX⟩ := bn_of hX
      refine r_callV0 (As := []) (rest := []) X hS (m_X10_findRounds hN h10) mv_X10_findRounds rfl (hN) t7_198 ⟨rfl, rfl, Nat.le_of_ble_eq_true rfl, Nat.le_of_ble_eq_true rfl⟩ rfl hl.1 rfl (Nat.le_of_ble_eq_true rfl) ⟨Nat.zero_le _, Nat.zero_le _⟩ dX10_home_58 (fun H locs hS => ?_)
      refine lv_aload_n hx hb dX10_home_61 rfl (lv_at hl 0 rfl) ?_
      refine fg_X10_463 X hS (hN) dX10_home_62 ?_
      refine lv_iload hx hb dX10_home_65 (lv_at hl 3 rfl) ?_
      refine lv_icmp_ge (tgt := 75) hx hb dX10_home_67 (by decide) (fun c12 => ?_) (fun c12 => ?_)
      · have hX := if_t c12 hX
        refine lv_iload_n hx hb dX10_home_75 rfl (lv_at hl 2 rfl) ?_
        exact n_X10_home_76 X hN hX (fun z0 z1 z2 z3 r h ls H locs hl hS => ih z0 z1 z2 z3 r h ls H locs hl hS) _ _ _ (lv_sub hl [0, 1, 3, 4] rfl) hS
      · have hX := if_f c12 hX
        refine lv_iload hx hb dX10_home_70 (lv_at hl 4 rfl) ?_
        refine lv_goto (tgt := 76) hx hb dX10_home_72 (by decide) ?_
        exact n_X10_home_76 X hN hX (fun z0 z1 z2 z3 r h ls H locs hl hS => ih z0 z1 z2 z3 r h ls H locs hl hS) _ _ _ (lv_sub hl [0, 1, 3, 4] rfl) hS
set_option maxRecDepth 100000 in
set_option maxHeartbeats 4000000 in
theorem m_X10_home {l : Launch} {D : va_G} {cy : Nat → ClassId} {ad : Nat → Nat → Nat} {ns : List (Nat × Nat)} {A : Nat → Prop} {M : Mem} (hN : Ob ns 10 100) {a1 : Int32} {a2 : Bool} {r : Int32 × Mem} (hX : f_X10_home M a1 a2 = some r) : Ct l yX10_home cX10_home 6 ((some .int)) rm_X10_home D cy ad ns A [.ref (ad 100 0), .int a1, .int (b2i a2)] M r.2 (some (.int r.1)) := by
  refine ct_of (lv := [(0, .ref (ad 100 0)), (1, .int a1), (2, .int (b2i a2))]) (by decide) (Nat.le_of_ble_eq_true rfl) rfl ?_
  intro p e s m args below meth c ls X hl hS
  obtain ⟨hx, hb, hml, hown, hts, hK, hr, hlk, hA, hG⟩ := id X
  obtain ⟨H, hH⟩ : ∃ z, z = s.heap := ⟨_, rfl⟩
  obtain ⟨locs, hlo⟩ : ∃ z : List Loc, z = [] := ⟨_, rfl⟩
  have hS : St D cy ad ns A M s.heap H locs := by rw [hH, hlo]; exact hS
  have hgoal : W p l e rm_X10_home s m args below meth c H locs 0 0 (MQ below (QC D cy ad ns A r.2 (some (.int r.1))) args s 0 0 A) (F0 m 0 ls []) := by
    unfold f_X10_home at hX
    refine lv_aload_n hx hb dX10_home_0 rfl (lv_at hl 0 rfl) ?_
    refine lv_iconst (v := nI 0) hx hb dX10_home_1 (by decide) ?_
    refine fp_X10_94 X hS (hN) dX10_home_2 (fun H locs hS => ?_)
    obtain ⟨M13, eM13, hS, hX⟩ := nm_mem hS hX
    refine lv_aload_n hx hb dX10_home_5 rfl (lv_at hl 0 rfl) ?_
    refine lv_iload_n hx hb dX10_home_6 rfl (lv_at hl 1 rfl) ?_
    obtain ⟨r16, M15, h14, hX⟩ := bp_of hX
    refine r_callV1 (v := .int (b2i r16)) (As := [.int a1]) (rest := []) X hS (m_X10_layTown hN h14) mv_X10_layTown rfl (hN) t7_162 ⟨rfl, rfl, Nat.le_of_ble_eq_true rfl, Nat.le_of_ble_eq_true rfl⟩ rfl hl.1 rfl (Nat.le_of_ble_eq_true rfl) ⟨Nat.zero_le _, Nat.zero_le _⟩ dX10_home_7 (fun H locs hS => ?_)
    refine lv_if_eq (tgt := 20) hx hb dX10_home_10 (by decide) (fun c17 => ?_) (fun c17 => ?_)
    · have hX := if_bf c17 hX
      refine lv_iconst (v := (-1)) hx hb dX10_home_20 (by decide) ?_
      obtain rfl := some_of hX
      exact x_I (v := (-1)) X hS dX10_home_21
    · have hX := if_bt c17 hX
      refine lv_aload_n hx hb dX10_home_13 rfl (lv_at hl 0 rfl) ?_
      refine fg_X10_429 X hS (hN) dX10_home_14 ?_
      refine lv_if_ne (tgt := 22) hx hb dX10_home_17 (by decide) (fun c18 => ?_) (fun c18 => ?_)
      · have hX := if_f c18 hX
        refine lv_iconst (v := (-1)) hx hb dX10_home_22 (by decide) ?_
        refine lv_istore_n (lv' := [(3, .int (-1)), (0, .ref (ad 100 0)), (1, .int a1), (2, .int (b2i a2))]) hx hb dX10_home_23 rfl hl (by decide) rfl (fun ls hl => ?_)
        refine lv_ldcw hx hb (own := RX10) hown (hts _ t7_106) dX10_home_24 ?_
        refine lv_istore (lv' := [(4, .int (nI 1000000)), (3, .int (-1)), (0, .ref (ad 100 0)), (1, .int a1), (2, .int (b2i a2))]) hx hb dX10_home_27 hl (by decide) rfl (fun ls hl => ?_)
        refine lv_iconst (v := nI 0) hx hb dX10_home_29 (by decide) ?_
        refine lv_istore (lv' := [(5, .int (nI 0)), (4, .int (nI 1000000)), (3, .int (-1)), (0, .ref (ad 100 0)), (1, .int a1), (2, .int (b2i a2))]) hx hb dX10_home_30 hl (by decide) rfl (fun ls hl => ?_)
        exact n_X10_home_32 X hN _ _ _ _ _ _ hX _ _ _ (lv_sub hl [3, 5, 2, 1, 0] rfl) hS
      · have hX := if_t c18 hX
        refine lv_iconst (v := (-1)) hx hb dX10_home_20 (by decide) ?_
        obtain rfl := some_of hX
        exact x_I (v := (-1)) X hS dX10_home_21
  rw [hH, hlo] at hgoal
  exact hgoal
theorem mv_X10_home : Mv yX10_home RX10 cX10_home 6 ((some .int)) 2 := ⟨t8_95, t8_93, t8_94, t1_11, ⟨by decide, by decide⟩, by decide +kernel⟩
/-! SewnYearModel.way(III)I -/
def rm_X10_way : Room := { frames := 3, cells := 0, slots := 0, locals := 69 }
def f_X10_way (M : Mem) (a1 : Int32) (a2 : Int32) (a3 : Int32) : Option (Int32 × Mem) :=
  nm (sI M 100 0 (nI 0)) fun M1 => bp (f_X10_layTown M1 a1) fun r4 M3 => if r4 = true then (bn (f_X10_isWearer M3 a2) fun r7 => if r7 = true then (bn (f_X10_isWearer M3 a3) fun r10 => if r10 = true then (bn (f_X10_between M3 a2 a3) fun r13 => some (r13, M3)) else (some ((-1), M3))) else (some ((-1), M3))) else (some ((-1), M3))
set_option maxRecDepth 100000 in
set_option maxHeartbeats 4000000 in
theorem m_X10_way {l : Launch} {D : va_G} {cy : Nat → ClassId} {ad : Nat → Nat → Nat} {ns : List (Nat × Nat)} {A : Nat → Prop} {M : Mem} (hN : Ob ns 10 100) {a1 : Int32} {a2 : Int32} {a3 : Int32} {r : Int32 × Mem} (hX : f_X10_way M a1 a2 a3 = some r) : Ct l yX10_way cX10_way 4 ((some .int)) rm_X10_way D cy ad ns A [.ref (ad 100 0), .int a1, .int a2, .int a3] M r.2 (some (.int r.1)) := by
  refine ct_of (lv := [(0, .ref (ad 100 0)), (1, .int a1), (2, .int a2), (3, .int a3)]) (by decide) (Nat.le_of_ble_eq_true rfl) rfl ?_
  intro p e s m args below meth c ls X hl hS
  obtain ⟨hx, hb, hml, hown, hts, hK, hr, hlk, hA, hG⟩ := id X
  obtain ⟨H, hH⟩ : ∃ z, z = s.heap := ⟨_, rfl⟩
  obtain ⟨locs, hlo⟩ : ∃ z : List Loc, z = [] := ⟨_, rfl⟩
  have hS : St D cy ad ns A M s.heap H locs := by rw [hH, hlo]; exact hS
  have hgoal : W p l e rm_X10_way s m args below meth c H locs 0 0 (MQ below (QC D cy ad ns A r.2 (some (.int r.1))) args s 0 0 A) (F0 m 0 ls []) := by
    unfold f_X10_way at hX
    refine lv_aload_n hx hb dX10_way_0 rfl (lv_at hl 0 rfl) ?_
    refine lv_iconst (v := nI 0) hx hb dX10_way_1 (by decide) ?_
    refine fp_X10_94 X hS (hN) dX10_way_2 (fun H locs hS => ?_)
    obtain ⟨M1, eM1, hS, hX⟩ := nm_mem hS hX
    refine lv_aload_n hx hb dX10_way_5 rfl (lv_at hl 0 rfl) ?_
    refine lv_iload_n hx hb dX10_way_6 rfl (lv_at hl 1 rfl) ?_
    obtain ⟨r4, M3, h2, hX⟩ := bp_of hX
    refine r_callV1 (v := .int (b2i r4)) (As := [.int a1]) (rest := []) X hS (m_X10_layTown hN h2) mv_X10_layTown rfl (hN) t7_162 ⟨rfl, rfl, Nat.le_of_ble_eq_true rfl, Nat.le_of_ble_eq_true rfl⟩ rfl hl.1 rfl (Nat.le_of_ble_eq_true rfl) ⟨Nat.zero_le _, Nat.zero_le _⟩ dX10_way_7 (fun H locs hS => ?_)
    refine lv_if_eq (tgt := 38) hx hb dX10_way_10 (by decide) (fun c5 => ?_) (fun c5 => ?_)
    · have hX := if_bf c5 hX
      refine lv_iconst (v := (-1)) hx hb dX10_way_38 (by decide) ?_
      obtain rfl := some_of hX
      exact x_I (v := (-1)) X hS dX10_way_39
    · have hX := if_bt c5 hX
      refine lv_aload_n hx hb dX10_way_13 rfl (lv_at hl 0 rfl) ?_
      refine lv_iload_n hx hb dX10_way_14 rfl (lv_at hl 2 rfl) ?_
      obtain ⟨r7, h6, hX⟩ := bn_of hX
      refine r_callV1 (v := .int (b2i r7)) (As := [.int a2]) (rest := []) X hS (m_X10_isWearer hN h6) mv_X10_isWearer rfl (hN) t7_170 ⟨rfl, rfl, Nat.le_of_ble_eq_true rfl, Nat.le_of_ble_eq_true rfl⟩ rfl hl.1 rfl (Nat.le_of_ble_eq_true rfl) ⟨Nat.zero_le _, Nat.zero_le _⟩ dX10_way_15 (fun H locs hS => ?_)
      refine lv_if_eq (tgt := 38) hx hb dX10_way_18 (by decide) (fun c8 => ?_) (fun c8 => ?_)
      · have hX := if_bf c8 hX
        refine lv_iconst (v := (-1)) hx hb dX10_way_38 (by decide) ?_
        obtain rfl := some_of hX
        exact x_I (v := (-1)) X hS dX10_way_39
      · have hX := if_bt c8 hX
        refine lv_aload_n hx hb dX10_way_21 rfl (lv_at hl 0 rfl) ?_
        refine lv_iload_n hx hb dX10_way_22 rfl (lv_at hl 3 rfl) ?_
        obtain ⟨r10, h9, hX⟩ := bn_of hX
        refine r_callV1 (v := .int (b2i r10)) (As := [.int a3]) (rest := []) X hS (m_X10_isWearer hN h9) mv_X10_isWearer rfl (hN) t7_170 ⟨rfl, rfl, Nat.le_of_ble_eq_true rfl, Nat.le_of_ble_eq_true rfl⟩ rfl hl.1 rfl (Nat.le_of_ble_eq_true rfl) ⟨Nat.zero_le _, Nat.zero_le _⟩ dX10_way_23 (fun H locs hS => ?_)
        refine lv_if_eq (tgt := 38) hx hb dX10_way_26 (by decide) (fun c11 => ?_) (fun c11 => ?_)
        · have hX := if_bf c11 hX
          refine lv_iconst (v := (-1)) hx hb dX10_way_38 (by decide) ?_
          obtain rfl := some_of hX
          exact x_I (v := (-1)) X hS dX10_way_39
        · have hX := if_bt c11 hX
          refine lv_aload_n hx hb dX10_way_29 rfl (lv_at hl 0 rfl) ?_
          refine lv_iload_n hx hb dX10_way_30 rfl (lv_at hl 2 rfl) ?_
          refine lv_iload_n hx hb dX10_way_31 rfl (lv_at hl 3 rfl) ?_
          obtain ⟨r13, h12, hX⟩ := bn_of hX
          refine r_callV1 (v := .int r13) (As := [.int a2, .int a3]) (rest := []) X hS (m_X10_between hN h12) mv_X10_between rfl (hN) t7_186 ⟨rfl, rfl, Nat.le_of_ble_eq_true rfl, Nat.le_of_ble_eq_true rfl⟩ rfl hl.1 rfl (Nat.le_of_ble_eq_true rfl) ⟨Nat.zero_le _, Nat.zero_le _⟩ dX10_way_32 (fun H locs hS => ?_)
          refine lv_goto (tgt := 39) hx hb dX10_way_35 (by decide) ?_
          obtain rfl := some_of hX
          exact x_I (v := r13) X hS dX10_way_39
  rw [hH, hlo] at hgoal
  exact hgoal
theorem mv_X10_way : Mv yX10_way RX10 cX10_way 4 ((some .int)) 3 := ⟨t8_99, t8_97, t8_98, t1_11, ⟨by decide, by decide⟩, by decide +kernel⟩
/-! SewnYearModel.enough(IIIZ)J -/
def rm_X10_enough : Room := { frames := 1, cells := 0, slots := 0, locals := 29 }
def f_X10_enough_75 (a1 : Int32) (a2 : Int32) (a3 : Int32) (a4 : Bool) (v_5 : Int64) (M : Mem) : Option (Int64 × Mem) :=
  bn (f_X10_tens a1) fun r2 => bn (f_X10_common r2 v_5) fun r4 => if a4 = true then (bn (f_X10_tens a1) fun r8 => gnl r4 <| some ((r8 / r4), M)) else (gnl r4 <| some ((v_5 / r4), M))
def b_X10_enough_45 (a1 : Int32) (a2 : Int32) (a3 : Int32) (a4 : Bool) (rc : Int64 → Int32 → Mem → Option (Int64 × Mem)) (v_5 : Int64) (v_7 : Int32) (M : Mem) : Option (Int64 × Mem) :=
  if a3 < v_7 then (f_X10_enough_75 a1 a2 a3 a4 v_5 M) else (if a1 < v_7 then (f_X10_enough_75 a1 a2 a3 a4 v_5 M) else (bn (f_X10_just a1 v_7 a2) fun r13 => nm (v_5 + r13) fun v14 => nm (v_7 + nI 1) fun v15 => rc v14 v15 M))
def f_X10_enough_45 (a1 : Int32) (a2 : Int32) (a3 : Int32) (a4 : Bool) : Nat → (Int64 × Int32 × Mem) → Option (Int64 × Mem) := lp (fun rc q => b_X10_enough_45 a1 a2 a3 a4 (fun x0 x1 x2 => rc (x0, x1, x2)) q.1 q.2.1 q.2.2)
def f_X10_enough (M : Mem) (a1 : Int32) (a2 : Int32) (a3 : Int32) (a4 : Bool) : Option (Int64 × Mem) :=
  nm (sI M 100 0 (nI 0)) fun M16 => bn (f_X10_in a1 (nI 1) (nI 12)) fun r18 => if r18 = true then (bn (f_X10_in a2 (nI 0) (nI 10)) fun r21 => if r21 = true then (bn (f_X10_in a3 (nI 0) (nI 12)) fun r24 => if r24 = true then (nm (lN 0) fun v26 => f_X10_enough_45 a1 a2 a3 a4 FU (v26, (nI 0), M16)) else (some ((-1 : Int64), M16))) else (some ((-1 : Int64), M16))) else (some ((-1 : Int64), M16))
set_option maxRecDepth 100000 in
set_option maxHeartbeats 4000000 in
theorem n_X10_enough_75 {a1 : Int32} {a2 : Int32} {a3 : Int32} {a4 : Bool} (X : Cx p s m args meth c D cy ad A RX10 cX10_enough 9 ((some .long))) (hN : Ob ns 10 100) {v_5 : Int64} {M : Mem} {r : Int64 × Mem} (hX : f_X10_enough_75 a1 a2 a3 a4 v_5 M = some r) : ∀ (ls : Array Slot) (H : Heap) (locs : List Loc), lv_has ls 9 [(1, .int a1), (4, .int (b2i a4)), (5, .long v_5)] → St D cy ad ns A M s.heap H locs → W p l e rm_X10_enough s m args below meth c H locs 0 0 (MQ below (QC D cy ad ns A r.2 (some (.long r.1))) args s 0 0 A) (F0 m 75 ls []) := by
  obtain ⟨hx, hb, hml, hown, hts, hK, hr, hlk, hA, hG⟩ := id X
  intro ls H locs hl hS
  unfold f_X10_enough_75 at hX
  refine lv_iload_n hx hb dX10_enough_75 rfl (lv_at hl 0 rfl) ?_
  obtain ⟨r2, h1, hX⟩ := bn_of hX
  refine r_callS1 (v := .long r2) (As := [.int a1]) (rest := []) X hS (m_X10_tens (M := M) hN h1) ms_X10_tens t7_233 ⟨rfl, rfl, Nat.le_of_ble_eq_true rfl, Nat.le_of_ble_eq_true rfl⟩ rfl hl.1 rfl (Nat.le_of_ble_eq_true rfl) ⟨Nat.zero_le _, Nat.zero_le _⟩ dX10_enough_76 (fun H locs hS => ?_)
  refine lv_lload hx hb dX10_enough_79 (lv_at hl 2 rfl) ?_
  obtain ⟨r4, h3, hX⟩ := bn_of hX
  refine r_callS1 (v := .long r4) (As := [.long r2, .long v_5]) (rest := []) X hS (m_X10_common (M := M) hN h3) ms_X10_common t8_0 ⟨rfl, rfl, Nat.le_of_ble_eq_true rfl, Nat.le_of_ble_eq_true rfl⟩ rfl hl.1 rfl (Nat.le_of_ble_eq_true rfl) ⟨Nat.zero_le _, Nat.zero_le _⟩ dX10_enough_81 (fun H locs hS => ?_)
  refine lv_lstore (lv' := [(7, .long r4), (1, .int a1), (4, .int (b2i a4)), (5, .long v_5)]) hx hb dX10_enough_84 hl (by decide) rfl (fun ls hl => ?_)
  refine lv_iload hx hb dX10_enough_86 (lv_at hl 2 rfl) ?_
  refine lv_if_eq (tgt := 98) hx hb dX10_enough_88 (by decide) (fun c5 => ?_) (fun c5 => ?_)
  · have hX := if_bf c5 hX
    refine lv_lload hx hb dX10_enough_98 (lv_at hl 3 rfl) ?_
    refine lv_lload hx hb dX10_enough_100 (lv_at hl 0 rfl) ?_
    obtain ⟨g6, hX⟩ := gnl_of hX
    refine lv_ldiv hx hb dX10_enough_102 g6 ?_
    obtain rfl := some_of hX
    exact x_L (v := (v_5 / r4)) X hS dX10_enough_103
  · have hX := if_bt c5 hX
    refine lv_iload_n hx hb dX10_enough_91 rfl (lv_at hl 1 rfl) ?_
    obtain ⟨r8, h7, hX⟩ := bn_of hX
    refine r_callS1 (v := .long r8) (As := [.int a1]) (rest := []) X hS (m_X10_tens (M := M) hN h7) ms_X10_tens t7_233 ⟨rfl, rfl, Nat.le_of_ble_eq_true rfl, Nat.le_of_ble_eq_true rfl⟩ rfl hl.1 rfl (Nat.le_of_ble_eq_true rfl) ⟨Nat.zero_le _, Nat.zero_le _⟩ dX10_enough_92 (fun H locs hS => ?_)
    refine lv_goto (tgt := 100) hx hb dX10_enough_95 (by decide) ?_
    refine lv_lload hx hb dX10_enough_100 (lv_at hl 0 rfl) ?_
    obtain ⟨g9, hX⟩ := gnl_of hX
    refine lv_ldiv hx hb dX10_enough_102 g9 ?_
    obtain rfl := some_of hX
    exact x_L (v := (r8 / r4)) X hS dX10_enough_103
set_option maxRecDepth 100000 in
set_option maxHeartbeats 4000000 in
theorem n_X10_enough_45 {a1 : Int32} {a2 : Int32} {a3 : Int32} {a4 : Bool} (X : Cx p s m args meth c D cy ad A RX10 cX10_enough 9 ((some .long))) (hN : Ob ns 10 100) : ∀ (n : Nat) (v_5 : Int64) (v_7 : Int32) (M : Mem) (r : Int64 × Mem), f_X10_enough_45 a1 a2 a3 a4 n (v_5, v_7, M) = some r → ∀ (ls : Array Slot) (H : Heap) (locs : List Loc), lv_has ls 9 [(1, .int a1), (2, .int a2), (3, .int a3), (4, .int (b2i a4)), (5, .long v_5), (7, .int v_7)] → St D cy ad ns A M s.heap H locs → W p l e rm_X10_enough s m args below meth c H locs 0 0 (MQ below (QC D cy ad ns A r.2 (some (.long r.1))) args s 0 0 A) (F0 m 45 ls []) := by
  obtain ⟨hx, hb, hml, hown, hts, hK, hr, hlk, hA, hG⟩ := id X
  intro n
  induction n with
  | zero => intro v_5 v_7 M r hX; cases (show (none : Option (Int64 × Mem)) = some r from hX)
  | succ n ih =>
    intro v_5 v_7 M r hX ls H locs hl hS
    have hX : b_X10_enough_45 a1 a2 a3 a4 (fun x0 x1 x2 => f_X10_enough_45 a1 a2 a3 a4 n (x0, x1, x2)) v_5 v_7 M = some r := hX
    unfold b_X10_enough_45 at hX
    refine lv_iload hx hb dX10_enough_45 (lv_at hl 5 rfl) ?_
    refine lv_iload_n hx hb dX10_enough_47 rfl (lv_at hl 2 rfl) ?_
    refine lv_icmp_gt (tgt := 75) hx hb dX10_enough_48 (by decide) (fun c10 => ?_) (fun c10 => ?_)
    · have hX := if_t c10 hX
      exact n_X10_enough_75 X hN hX _ _ _ (lv_sub hl [0, 3, 4] rfl) hS
    · have hX := if_f c10 hX
      refine lv_iload hx hb dX10_enough_51 (lv_at hl 5 rfl) ?_
      refine lv_iload_n hx hb dX10_enough_53 rfl (lv_at hl 0 rfl) ?_
      refine lv_icmp_gt (tgt := 75) hx hb dX10_enough_54 (by decide) (fun c11 => ?_) (fun c11 => ?_)
      · have hX := if_t c11 hX
        exact n_X10_enough_75 X hN hX _ _ _ (lv_sub hl [0, 3, 4] rfl) hS
      · have hX := if_f c11 hX
        refine lv_lload hx hb dX10_enough_57 (lv_at hl 4 rfl) ?_
        refine lv_iload_n hx hb dX10_enough_59 rfl (lv_at hl 0 rfl) ?_
        refine lv_iload hx hb dX10_enough_60 (lv_at hl 5 rfl) ?_
        refine lv_iload_n hx hb dX10_enough_62 rfl (lv_at hl 1 rfl) ?_
        obtain ⟨r13, h12, hX⟩ := bn_of hX
        refine r_callS1 (v := .long r13) (As := [.int a1, .int v_7, .int a2]) (rest := [.long v_5]) X hS (m_X10_just (M := M) hN h12) ms_X10_just t7_237 ⟨rfl, rfl, Nat.le_of_ble_eq_true rfl, Nat.le_of_ble_eq_true rfl⟩ rfl hl.1 rfl (Nat.le_of_ble_eq_true rfl) ⟨Nat.zero_le _, Nat.zero_le _⟩ dX10_enough_63 (fun H locs hS => ?_)
        refine lv_ladd hx hb dX10_enough_66 ?_
        refine lv_topl (fun v14 ev14 => ?_)
        have hX := nm_of ev14 hX
        refine lv_lstore (lv' := [(5, .long v14), (1, .int a1), (2, .int a2), (3, .int a3), (4, .int (b2i a4)), (7, .int v_7)]) hx hb dX10_enough_67 hl (by decide) rfl (fun ls hl => ?_)
        obtain ⟨v15, ev15⟩ : ∃ y : Int32, y = (v_7 + nI 1) := ⟨_, rfl⟩
        have hX := nm_of ev15 hX
        refine lv_iinc (v := v15) (lv' := [(7, .int v15), (5, .long v14), (1, .int a1), (2, .int a2), (3, .int a3), (4, .int (b2i a4))]) hx hb dX10_enough_69 hl (k := 5) rfl (by rw [ev15]; rfl) (by decide) rfl (fun ls hl => ?_)
        refine lv_goto (tgt := 45) hx hb dX10_enough_72 (by decide) ?_
        exact ih _ _ _ _ hX _ _ _ (lv_sub hl [2, 3, 4, 5, 1, 0] rfl) hS
set_option maxRecDepth 100000 in
set_option maxHeartbeats 4000000 in
theorem m_X10_enough {l : Launch} {D : va_G} {cy : Nat → ClassId} {ad : Nat → Nat → Nat} {ns : List (Nat × Nat)} {A : Nat → Prop} {M : Mem} (hN : Ob ns 10 100) {a1 : Int32} {a2 : Int32} {a3 : Int32} {a4 : Bool} {r : Int64 × Mem} (hX : f_X10_enough M a1 a2 a3 a4 = some r) : Ct l yX10_enough cX10_enough 9 ((some .long)) rm_X10_enough D cy ad ns A [.ref (ad 100 0), .int a1, .int a2, .int a3, .int (b2i a4)] M r.2 (some (.long r.1)) := by
  refine ct_of (lv := [(0, .ref (ad 100 0)), (1, .int a1), (2, .int a2), (3, .int a3), (4, .int (b2i a4))]) (by decide) (Nat.le_of_ble_eq_true rfl) rfl ?_
  intro p e s m args below meth c ls X hl hS
  obtain ⟨hx, hb, hml, hown, hts, hK, hr, hlk, hA, hG⟩ := id X
  obtain ⟨H, hH⟩ : ∃ z, z = s.heap := ⟨_, rfl⟩
  obtain ⟨locs, hlo⟩ : ∃ z : List Loc, z = [] := ⟨_, rfl⟩
  have hS : St D cy ad ns A M s.heap H locs := by rw [hH, hlo]; exact hS
  have hgoal : W p l e rm_X10_enough s m args below meth c H locs 0 0 (MQ below (QC D cy ad ns A r.2 (some (.long r.1))) args s 0 0 A) (F0 m 0 ls []) := by
    unfold f_X10_enough at hX
    refine lv_aload_n hx hb dX10_enough_0 rfl (lv_at hl 0 rfl) ?_
    refine lv_iconst (v := nI 0) hx hb dX10_enough_1 (by decide) ?_
    refine fp_X10_94 X hS (hN) dX10_enough_2 (fun H locs hS => ?_)
    obtain ⟨M16, eM16, hS, hX⟩ := nm_mem hS hX
    refine lv_iload_n hx hb dX10_enough_5 rfl (lv_at hl 1 rfl) ?_
    refine lv_iconst (v := nI 1) hx hb dX10_enough_6 (by decide) ?_
    refine lv_bipush (v := nI 12) hx hb dX10_enough_7 (by decide) ?_
    obtain ⟨r18, h17, hX⟩ := bn_of hX
    refine r_callS1 (v := .int (b2i r18)) (As := [.int a1, .int (nI 1), .int (nI 12)]) (rest := []) X hS (m_X10_in (M := M16) hN h17) ms_X10_in t6_81 ⟨rfl, rfl, Nat.le_of_ble_eq_true rfl, Nat.le_of_ble_eq_true rfl⟩ rfl hl.1 rfl (Nat.le_of_ble_eq_true rfl) ⟨Nat.zero_le _, Nat.zero_le _⟩ dX10_enough_9 (fun H locs hS => ?_)
    refine lv_if_eq (tgt := 35) hx hb dX10_enough_12 (by decide) (fun c19 => ?_) (fun c19 => ?_)
    · have hX := if_bf c19 hX
      refine lv_ldc2 hx hb (own := RX10) hown (hts _ t7_74) dX10_enough_35 ?_
      obtain rfl := some_of hX
      exact x_L (v := (-1 : Int64)) X hS dX10_enough_38
    · have hX := if_bt c19 hX
      refine lv_iload_n hx hb dX10_enough_15 rfl (lv_at hl 2 rfl) ?_
      refine lv_iconst (v := nI 0) hx hb dX10_enough_16 (by decide) ?_
      refine lv_bipush (v := nI 10) hx hb dX10_enough_17 (by decide) ?_
      obtain ⟨r21, h20, hX⟩ := bn_of hX
      refine r_callS1 (v := .int (b2i r21)) (As := [.int a2, .int (nI 0), .int (nI 10)]) (rest := []) X hS (m_X10_in (M := M16) hN h20) ms_X10_in t6_81 ⟨rfl, rfl, Nat.le_of_ble_eq_true rfl, Nat.le_of_ble_eq_true rfl⟩ rfl hl.1 rfl (Nat.le_of_ble_eq_true rfl) ⟨Nat.zero_le _, Nat.zero_le _⟩ dX10_enough_19 (fun H locs hS => ?_)
      refine lv_if_eq (tgt := 35) hx hb dX10_enough_22 (by decide) (fun c22 => ?_) (fun c22 => ?_)
      · have hX := if_bf c22 hX
        refine lv_ldc2 hx hb (own := RX10) hown (hts _ t7_74) dX10_enough_35 ?_
        obtain rfl := some_of hX
        exact x_L (v := (-1 : Int64)) X hS dX10_enough_38
      · have hX := if_bt c22 hX
        refine lv_iload_n hx hb dX10_enough_25 rfl (lv_at hl 3 rfl) ?_
        refine lv_iconst (v := nI 0) hx hb dX10_enough_26 (by decide) ?_
        refine lv_bipush (v := nI 12) hx hb dX10_enough_27 (by decide) ?_
        obtain ⟨r24, h23, hX⟩ := bn_of hX
        refine r_callS1 (v := .int (b2i r24)) (As := [.int a3, .int (nI 0), .int (nI 12)]) (rest := []) X hS (m_X10_in (M := M16) hN h23) ms_X10_in t6_81 ⟨rfl, rfl, Nat.le_of_ble_eq_true rfl, Nat.le_of_ble_eq_true rfl⟩ rfl hl.1 rfl (Nat.le_of_ble_eq_true rfl) ⟨Nat.zero_le _, Nat.zero_le _⟩ dX10_enough_29 (fun H locs hS => ?_)
        refine lv_if_ne (tgt := 39) hx hb dX10_enough_32 (by decide) (fun c25 => ?_) (fun c25 => ?_)
        · have hX := if_bt c25 hX
          refine lv_lconst (v := lN 0) hx hb dX10_enough_39 (by decide) ?_
          refine lv_topl (fun v26 ev26 => ?_)
          have hX := nm_of ev26 hX
          refine lv_lstore (lv' := [(5, .long v26), (0, .ref (ad 100 0)), (1, .int a1), (2, .int a2), (3, .int a3), (4, .int (b2i a4))]) hx hb dX10_enough_40 hl (by decide) rfl (fun ls hl => ?_)
          refine lv_iconst (v := nI 0) hx hb dX10_enough_42 (by decide) ?_
          refine lv_istore (lv' := [(7, .int (nI 0)), (5, .long v26), (0, .ref (ad 100 0)), (1, .int a1), (2, .int a2), (3, .int a3), (4, .int (b2i a4))]) hx hb dX10_enough_43 hl (by decide) rfl (fun ls hl => ?_)
          exact n_X10_enough_45 X hN _ _ _ _ _ hX _ _ _ (lv_sub hl [3, 4, 5, 6, 1, 0] rfl) hS
        · have hX := if_bf c25 hX
          refine lv_ldc2 hx hb (own := RX10) hown (hts _ t7_74) dX10_enough_35 ?_
          obtain rfl := some_of hX
          exact x_L (v := (-1 : Int64)) X hS dX10_enough_38
  rw [hH, hlo] at hgoal
  exact hgoal
theorem mv_X10_enough : Mv yX10_enough RX10 cX10_enough 9 ((some .long)) 4 := ⟨t8_103, t8_101, t8_102, t1_11, ⟨by decide, by decide⟩, by decide +kernel⟩
/-! SewnYearModel.count(I)I -/
def rm_X10_count : Room := { frames := 1, cells := 0, slots := 0, locals := 22 }
def f_X10_count (M : Mem) (a1 : Int32) : Option (Int32 × Mem) :=
  nm (sI M 100 0 (nI 0)) fun M1 => bn (f_X10_in a1 (nI 0) (nI 3)) fun r3 => if r3 = true then (gin a1 16 <| some ((gA M1 100 5 (ix a1)), M1)) else (some ((-2), M1))
set_option maxRecDepth 100000 in
set_option maxHeartbeats 4000000 in
theorem m_X10_count {l : Launch} {D : va_G} {cy : Nat → ClassId} {ad : Nat → Nat → Nat} {ns : List (Nat × Nat)} {A : Nat → Prop} {M : Mem} (hN : Ob ns 10 100) {a1 : Int32} {r : Int32 × Mem} (hX : f_X10_count M a1 = some r) : Ct l yX10_count cX10_count 2 ((some .int)) rm_X10_count D cy ad ns A [.ref (ad 100 0), .int a1] M r.2 (some (.int r.1)) := by
  refine ct_of (lv := [(0, .ref (ad 100 0)), (1, .int a1)]) (by decide) (Nat.le_of_ble_eq_true rfl) rfl ?_
  intro p e s m args below meth c ls X hl hS
  obtain ⟨hx, hb, hml, hown, hts, hK, hr, hlk, hA, hG⟩ := id X
  obtain ⟨H, hH⟩ : ∃ z, z = s.heap := ⟨_, rfl⟩
  obtain ⟨locs, hlo⟩ : ∃ z : List Loc, z = [] := ⟨_, rfl⟩
  have hS : St D cy ad ns A M s.heap H locs := by rw [hH, hlo]; exact hS
  have hgoal : W p l e rm_X10_count s m args below meth c H locs 0 0 (MQ below (QC D cy ad ns A r.2 (some (.int r.1))) args s 0 0 A) (F0 m 0 ls []) := by
    unfold f_X10_count at hX
    refine lv_aload_n hx hb dX10_count_0 rfl (lv_at hl 0 rfl) ?_
    refine lv_iconst (v := nI 0) hx hb dX10_count_1 (by decide) ?_
    refine fp_X10_94 X hS (hN) dX10_count_2 (fun H locs hS => ?_)
    obtain ⟨M1, eM1, hS, hX⟩ := nm_mem hS hX
    refine lv_iload_n hx hb dX10_count_5 rfl (lv_at hl 1 rfl) ?_
    refine lv_iconst (v := nI 0) hx hb dX10_count_6 (by decide) ?_
    refine lv_iconst (v := nI 3) hx hb dX10_count_7 (by decide) ?_
    obtain ⟨r3, h2, hX⟩ := bn_of hX
    refine r_callS1 (v := .int (b2i r3)) (As := [.int a1, .int (nI 0), .int (nI 3)]) (rest := []) X hS (m_X10_in (M := M1) hN h2) ms_X10_in t6_81 ⟨rfl, rfl, Nat.le_of_ble_eq_true rfl, Nat.le_of_ble_eq_true rfl⟩ rfl hl.1 rfl (Nat.le_of_ble_eq_true rfl) ⟨Nat.zero_le _, Nat.zero_le _⟩ dX10_count_8 (fun H locs hS => ?_)
    refine lv_if_eq (tgt := 23) hx hb dX10_count_11 (by decide) (fun c4 => ?_) (fun c4 => ?_)
    · have hX := if_bf c4 hX
      refine lv_bipush (v := (-2)) hx hb dX10_count_23 (by decide) ?_
      obtain rfl := some_of hX
      exact x_I (v := (-2)) X hS dX10_count_25
    · have hX := if_bt c4 hX
      refine lv_aload_n hx hb dX10_count_14 rfl (lv_at hl 0 rfl) ?_
      refine fg_X10_23 X hS (hN) dX10_count_15 ?_
      refine lv_iload_n hx hb dX10_count_18 rfl (lv_at hl 1 rfl) ?_
      obtain ⟨g5, hX⟩ := gin_of hX
      refine r_iald (ci := 10) (o := 100) (k := 5) (n := 16) X hS (hN) rfl rfl g5 dX10_count_19 ?_
      refine lv_goto (tgt := 25) hx hb dX10_count_20 (by decide) ?_
      obtain rfl := some_of hX
      exact x_I (v := (gA M1 100 5 (ix a1))) X hS dX10_count_25
  rw [hH, hlo] at hgoal
  exact hgoal
theorem mv_X10_count : Mv yX10_count RX10 cX10_count 2 ((some .int)) 1 := ⟨t8_107, t8_105, t8_106, t1_11, ⟨by decide, by decide⟩, by decide +kernel⟩
/-! SewnYearModel.image(I)Z -/
def rm_X10_image : Room := { frames := 2, cells := 0, slots := 0, locals := 47 }
def f_X10_image (M : Mem) (a1 : Int32) : Option (Bool × Mem) :=
  nm (sI M 100 0 (nI 0)) fun M1 => bn (f_X10_in a1 (nI 0) (nI 2)) fun r3 => if r3 = true then (bn (f_X10_copyAll M1 (nI 0) (a1 + (nI 1))) fun M6 => gin a1 3 <| nm (sA M6 100 57 (ix a1) (b2i true)) fun M8 => some (true, M8)) else (some (false, M1))
set_option maxRecDepth 100000 in
set_option maxHeartbeats 4000000 in
theorem m_X10_image {l : Launch} {D : va_G} {cy : Nat → ClassId} {ad : Nat → Nat → Nat} {ns : List (Nat × Nat)} {A : Nat → Prop} {M : Mem} (hN : Ob ns 10 100) {a1 : Int32} {r : Bool × Mem} (hX : f_X10_image M a1 = some r) : Ct l yX10_image cX10_image 2 ((some .boolean)) rm_X10_image D cy ad ns A [.ref (ad 100 0), .int a1] M r.2 (some (.int (b2i r.1))) := by
  refine ct_of (lv := [(0, .ref (ad 100 0)), (1, .int a1)]) (by decide) (Nat.le_of_ble_eq_true rfl) rfl ?_
  intro p e s m args below meth c ls X hl hS
  obtain ⟨hx, hb, hml, hown, hts, hK, hr, hlk, hA, hG⟩ := id X
  obtain ⟨H, hH⟩ : ∃ z, z = s.heap := ⟨_, rfl⟩
  obtain ⟨locs, hlo⟩ : ∃ z : List Loc, z = [] := ⟨_, rfl⟩
  have hS : St D cy ad ns A M s.heap H locs := by rw [hH, hlo]; exact hS
  have hgoal : W p l e rm_X10_image s m args below meth c H locs 0 0 (MQ below (QC D cy ad ns A r.2 (some (.int (b2i r.1)))) args s 0 0 A) (F0 m 0 ls []) := by
    unfold f_X10_image at hX
    refine lv_aload_n hx hb dX10_image_0 rfl (lv_at hl 0 rfl) ?_
    refine lv_iconst (v := nI 0) hx hb dX10_image_1 (by decide) ?_
    refine fp_X10_94 X hS (hN) dX10_image_2 (fun H locs hS => ?_)
    obtain ⟨M1, eM1, hS, hX⟩ := nm_mem hS hX
    refine lv_iload_n hx hb dX10_image_5 rfl (lv_at hl 1 rfl) ?_
    refine lv_iconst (v := nI 0) hx hb dX10_image_6 (by decide) ?_
    refine lv_iconst (v := nI 2) hx hb dX10_image_7 (by decide) ?_
    obtain ⟨r3, h2, hX⟩ := bn_of hX
    refine r_callS1 (v := .int (b2i r3)) (As := [.int a1, .int (nI 0), .int (nI 2)]) (rest := []) X hS (m_X10_in (M := M1) hN h2) ms_X10_in t6_81 ⟨rfl, rfl, Nat.le_of_ble_eq_true rfl, Nat.le_of_ble_eq_true rfl⟩ rfl hl.1 rfl (Nat.le_of_ble_eq_true rfl) ⟨Nat.zero_le _, Nat.zero_le _⟩ dX10_image_8 (fun H locs hS => ?_)
    refine lv_if_ne (tgt := 16) hx hb dX10_image_11 (by decide) (fun c4 => ?_) (fun c4 => ?_)
    · have hX := if_bt c4 hX
      refine lv_aload_n hx hb dX10_image_16 rfl (lv_at hl 0 rfl) ?_
      refine lv_iconst (v := nI 0) hx hb dX10_image_17 (by decide) ?_
      refine lv_iload_n hx hb dX10_image_18 rfl (lv_at hl 1 rfl) ?_
      refine lv_iconst (v := nI 1) hx hb dX10_image_19 (by decide) ?_
      refine lv_iadd hx hb dX10_image_20 ?_
      obtain ⟨M6, h5, hX⟩ := bn_of hX
      refine r_callV0 (As := [.int (nI 0), .int (a1 + (nI 1))]) (rest := []) X hS (m_X10_copyAll hN h5) mv_X10_copyAll rfl (hN) t8_112 ⟨rfl, rfl, Nat.le_of_ble_eq_true rfl, Nat.le_of_ble_eq_true rfl⟩ rfl hl.1 rfl (Nat.le_of_ble_eq_true rfl) ⟨Nat.zero_le _, Nat.zero_le _⟩ dX10_image_21 (fun H locs hS => ?_)
      refine lv_aload_n hx hb dX10_image_24 rfl (lv_at hl 0 rfl) ?_
      refine fg_X10_90 X hS (hN) dX10_image_25 ?_
      refine lv_iload_n hx hb dX10_image_28 rfl (lv_at hl 1 rfl) ?_
      refine lv_iconst (v := nI 1) hx hb dX10_image_29 (by decide) ?_
      obtain ⟨g7, hX⟩ := gin_of hX
      refine r_zast (ci := 10) (o := 100) (k := 57) (n := 3) (x := true) X hS (hN) rfl rfl g7 dX10_image_30 (fun H locs hS => ?_)
      obtain ⟨M8, eM8, hS, hX⟩ := nm_mem hS hX
      refine lv_iconst (v := nI 1) hx hb dX10_image_31 (by decide) ?_
      obtain rfl := some_of hX
      exact x_Z (v := true) X hS dX10_image_32
    · have hX := if_bf c4 hX
      refine lv_iconst (v := nI 0) hx hb dX10_image_14 (by decide) ?_
      obtain rfl := some_of hX
      exact x_Z (v := false) X hS dX10_image_15
  rw [hH, hlo] at hgoal
  exact hgoal
theorem mv_X10_image : Mv yX10_image RX10 cX10_image 2 ((some .boolean)) 1 := ⟨t8_111, t8_109, t8_110, t1_11, ⟨by decide, by decide⟩, by decide +kernel⟩
/-! SewnYearModel.again(I)Z -/
def rm_X10_again : Room := { frames := 2, cells := 0, slots := 0, locals := 47 }
def f_X10_again (M : Mem) (a1 : Int32) : Option (Bool × Mem) :=
  nm (sI M 100 0 (nI 0)) fun M1 => bn (f_X10_in a1 (nI 0) (nI 2)) fun r3 => if r3 = true then (gin a1 3 <| if (gA M1 100 57 (ix a1)) = (nI 0) then (some (false, M1)) else (bn (f_X10_copyAll M1 (a1 + (nI 1)) (nI 0)) fun M8 => some (true, M8))) else (some (false, M1))
set_option maxRecDepth 100000 in
set_option maxHeartbeats 4000000 in
theorem m_X10_again {l : Launch} {D : va_G} {cy : Nat → ClassId} {ad : Nat → Nat → Nat} {ns : List (Nat × Nat)} {A : Nat → Prop} {M : Mem} (hN : Ob ns 10 100) {a1 : Int32} {r : Bool × Mem} (hX : f_X10_again M a1 = some r) : Ct l yX10_again cX10_again 2 ((some .boolean)) rm_X10_again D cy ad ns A [.ref (ad 100 0), .int a1] M r.2 (some (.int (b2i r.1))) := by
  refine ct_of (lv := [(0, .ref (ad 100 0)), (1, .int a1)]) (by decide) (Nat.le_of_ble_eq_true rfl) rfl ?_
  intro p e s m args below meth c ls X hl hS
  obtain ⟨hx, hb, hml, hown, hts, hK, hr, hlk, hA, hG⟩ := id X
  obtain ⟨H, hH⟩ : ∃ z, z = s.heap := ⟨_, rfl⟩
  obtain ⟨locs, hlo⟩ : ∃ z : List Loc, z = [] := ⟨_, rfl⟩
  have hS : St D cy ad ns A M s.heap H locs := by rw [hH, hlo]; exact hS
  have hgoal : W p l e rm_X10_again s m args below meth c H locs 0 0 (MQ below (QC D cy ad ns A r.2 (some (.int (b2i r.1)))) args s 0 0 A) (F0 m 0 ls []) := by
    unfold f_X10_again at hX
    refine lv_aload_n hx hb dX10_again_0 rfl (lv_at hl 0 rfl) ?_
    refine lv_iconst (v := nI 0) hx hb dX10_again_1 (by decide) ?_
    refine fp_X10_94 X hS (hN) dX10_again_2 (fun H locs hS => ?_)
    obtain ⟨M1, eM1, hS, hX⟩ := nm_mem hS hX
    refine lv_iload_n hx hb dX10_again_5 rfl (lv_at hl 1 rfl) ?_
    refine lv_iconst (v := nI 0) hx hb dX10_again_6 (by decide) ?_
    refine lv_iconst (v := nI 2) hx hb dX10_again_7 (by decide) ?_
    obtain ⟨r3, h2, hX⟩ := bn_of hX
    refine r_callS1 (v := .int (b2i r3)) (As := [.int a1, .int (nI 0), .int (nI 2)]) (rest := []) X hS (m_X10_in (M := M1) hN h2) ms_X10_in t6_81 ⟨rfl, rfl, Nat.le_of_ble_eq_true rfl, Nat.le_of_ble_eq_true rfl⟩ rfl hl.1 rfl (Nat.le_of_ble_eq_true rfl) ⟨Nat.zero_le _, Nat.zero_le _⟩ dX10_again_8 (fun H locs hS => ?_)
    refine lv_if_eq (tgt := 23) hx hb dX10_again_11 (by decide) (fun c4 => ?_) (fun c4 => ?_)
    · have hX := if_bf c4 hX
      refine lv_iconst (v := nI 0) hx hb dX10_again_23 (by decide) ?_
      obtain rfl := some_of hX
      exact x_Z (v := false) X hS dX10_again_24
    · have hX := if_bt c4 hX
      refine lv_aload_n hx hb dX10_again_14 rfl (lv_at hl 0 rfl) ?_
      refine fg_X10_90 X hS (hN) dX10_again_15 ?_
      refine lv_iload_n hx hb dX10_again_18 rfl (lv_at hl 1 rfl) ?_
      obtain ⟨g5, hX⟩ := gin_of hX
      refine r_zald (ci := 10) (o := 100) (k := 57) (n := 3) X hS (hN) rfl rfl g5 dX10_again_19 ?_
      refine lv_if_ne (tgt := 25) hx hb dX10_again_20 (by decide) (fun c6 => ?_) (fun c6 => ?_)
      · have hX := if_f c6 hX
        refine lv_aload_n hx hb dX10_again_25 rfl (lv_at hl 0 rfl) ?_
        refine lv_iload_n hx hb dX10_again_26 rfl (lv_at hl 1 rfl) ?_
        refine lv_iconst (v := nI 1) hx hb dX10_again_27 (by decide) ?_
        refine lv_iadd hx hb dX10_again_28 ?_
        refine lv_iconst (v := nI 0) hx hb dX10_again_29 (by decide) ?_
        obtain ⟨M8, h7, hX⟩ := bn_of hX
        refine r_callV0 (As := [.int (a1 + (nI 1)), .int (nI 0)]) (rest := []) X hS (m_X10_copyAll hN h7) mv_X10_copyAll rfl (hN) t8_112 ⟨rfl, rfl, Nat.le_of_ble_eq_true rfl, Nat.le_of_ble_eq_true rfl⟩ rfl hl.1 rfl (Nat.le_of_ble_eq_true rfl) ⟨Nat.zero_le _, Nat.zero_le _⟩ dX10_again_30 (fun H locs hS => ?_)
        refine lv_iconst (v := nI 1) hx hb dX10_again_33 (by decide) ?_
        obtain rfl := some_of hX
        exact x_Z (v := true) X hS dX10_again_34
      · have hX := if_t c6 hX
        refine lv_iconst (v := nI 0) hx hb dX10_again_23 (by decide) ?_
        obtain rfl := some_of hX
        exact x_Z (v := false) X hS dX10_again_24
  rw [hH, hlo] at hgoal
  exact hgoal
theorem mv_X10_again : Mv yX10_again RX10 cX10_again 2 ((some .boolean)) 1 := ⟨t8_122, t8_120, t8_121, t1_11, ⟨by decide, by decide⟩, by decide +kernel⟩
end MT_30_M3
