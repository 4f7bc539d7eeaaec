/-! THE LAW'S ROWS: arguments out of the script, calls of either side -/
def A0 (s : State) : Nat → Prop := fun q => s.heap.size ≤ q
def LC (p : Program) (s : State) (m : MethodId) (c : Code) (b L : Nat) (xs : Nat → Int32) (D : va_G) (cy : Nat → ClassId) : Prop := p.tables.exec = Jvm.exec ∧ c.code = code ∧ c.maxLocals = 4 ∧ s.vm.findClass "SewnYearLaw" = some m.cls ∧ (∀ w ∈ Tb, w.before #[Value.ref b] s = true) ∧ va_X b L xs s s.heap ∧ b < s.heap.size ∧ va_K D vwCl (tysE cy) s
def LW (D : va_G) (cy : Nat → ClassId) (ad : Nat → Nat → Nat) (nx : List (Nat × Nat)) (Mx Mm : Mem) (s : State) (H : Heap) (locs : List Loc) : Prop := (va_P D vwCl (wo cy ad Mx nx ++ wo cy ad Mm ns10) H ∧ va_D (A0 s) (wo cy ad Mx nx ++ wo cy ad Mm ns10)) ∧ WR nx Mx ∧ va_S (A0 s) s.heap H locs
/-- what both sides hold is alike -/
def LI (nx : List (Nat × Nat)) (Mx Mm : Mem) : Prop := Rl Mx Mm ∧ FRE nx Mx
theorem FRE_k {nx : List (Nat × Nat)} {Mx Mm Mx' Mm' : Mem} (h : Rl Mx Mm) (h' : Rl Mx' Mm') (hk : gA Mm' 100 57 = gA Mm 100 57) (hF : FRE nx Mx) : FRE nx Mx' := by
  intro j hj hj0
  refine hF j hj ?_
  rcases h.2 j hj with ⟨a, b⟩ | ⟨a, b, -⟩
  · exact a
  · rcases h'.2 j hj with ⟨a', b'⟩ | ⟨a', -⟩
    · rw [hk, b] at b'
      exact absurd b' (by decide)
    · exact absurd hj0 a'
theorem wM_of {α : Type} {x : Option α} {M M' : Mem} {r : α} (h : wM x M = some (r, M')) : x = some r ∧ M = M' := by
  cases x with
  | none => cases h
  | some a => cases h; exact ⟨rfl, rfl⟩
theorem lg_same (x : Int64) : lg_cmp x x = 0 := by
  unfold lg_cmp
  rw [if_neg (by simp [Int64.lt_iff_toInt_lt]), if_pos rfl]
section Law
variable {p : Program} {l : Launch} {e : Env} {s : State} {m : MethodId} {below : List Frame} {meth : Method} {c : Code} {b L : Nat} {xs : Nat → Int32} {D : va_G} {cy : Nat → ClassId} {ad : Nat → Nat → Nat} {nx : List (Nat × Nat)} {Mx Mm Mx' Mm' : Mem} {H : Heap} {locs : List Loc} {cells slots : Nat} {Q : State → Prop} {pc : Nat} {ls : Array Slot} {rest : List Value}
/-- one argument: the script's int at i + k -/
theorem lc_A (C : LC p s m c b L xs D cy) (hS : va_S (A0 s) s.heap H locs) {i k : Nat} {lv : List (Nat × Value)} (hi : i + k < L) (hL : L ≤ 3072) (hl : lv_has ls 4 lv) (h0 : lv_has ls 4 [(0, .ref b), (3, .int (nI i))]) {kc : Int} (hk : Int32.ofInt kc = nI k) (d : decode code pc = .ok (.aload_n 0, 1) ∧ decode code (pc + 1) = .ok (.iload_n 3, 1) ∧ decode code (pc + 2) = .ok (.iconst kc, 1) ∧ decode code (pc + 3) = .ok (.iadd, 1) ∧ decode code (pc + 4) = .ok (.iaload, 1))
    (kk : W p l e room_1 s m #[Value.ref b] below meth c H locs cells slots Q (F0 m (pc + 5) ls (.int (xs (i + k)) :: rest))) : W p l e room_1 s m #[Value.ref b] below meth c H locs cells slots Q (F0 m pc ls rest) := by
  obtain ⟨hx, hb, hml, hown, hts, hX, hbl, hK⟩ := C
  obtain ⟨d0, d1, d2, d3, d4⟩ := d
  refine lv_aload_n hx hb d0 rfl (lv_at h0 0 rfl) ?_
  refine lv_iload_n hx hb d1 rfl (lv_at h0 1 rfl) ?_
  refine lv_iconst (v := nI k) hx hb d2 hk ?_
  refine lv_iadd hx hb d3 ?_
  rw [nI_add]
  have hA : ¬ A0 s b := Nat.not_le.mpr hbl
  refine va_sld hx hb hX hbl hA hS (vp_in_nI hi (by omega)) d4 ?_
  have hix : (nI (i + k)).toNatClampNeg = i + k := ix_n (by omega)
  rw [hix]
  exact kk
/-- an int told as a truth -/
theorem lc_B (C : LC p s m c b L xs D cy) {x : Int32} (d : decode code pc = .ok (.ifCond .eq 7, 3) ∧ decode code (pc + 3) = .ok (.iconst 1, 1) ∧ decode code (pc + 4) = .ok (.goto 4, 3) ∧ decode code (pc + 7) = .ok (.iconst 0, 1))
    (kk : W p l e room_1 s m #[Value.ref b] below meth c H locs cells slots Q (F0 m (pc + 8) ls (.int (b2i (!decide (x = 0))) :: rest))) : W p l e room_1 s m #[Value.ref b] below meth c H locs cells slots Q (F0 m pc ls (.int x :: rest)) := by
  obtain ⟨hx, hb, hml, hown, hts, hX, hbl, hK⟩ := C
  obtain ⟨d0, d1, d2, d3⟩ := d
  refine lv_if_eq (tgt := pc + 7) hx hb d0 (by omega) (fun h => ?_) (fun h => ?_)
  · refine lv_iconst (v := b2i (!decide (x = 0))) hx hb d3 (by rw [decide_eq_true h]; decide) ?_
    exact kk
  · refine lv_iconst (v := b2i (!decide (x = 0))) hx hb d1 (by rw [decide_eq_false h]; decide) ?_
    exact lv_goto (tgt := pc + 8) hx hb d2 (by omega) kk
/-- a call that has one of two worlds side by side -/
theorem lc_run {y : MethodName} {Cn : String} {bc : ByteArray} {nL' n ci o index : Nat} {ret' : Option FieldType} {rm : Room} {As st : List Value} {T : u_T} {N : Nat} {mc ms : Nat} {Qc : Array Value → State → Outcome → State → Prop} {ns : List (Nat × Nat)} {M : Mem} {wb : va_W} (C : LC p s m c b L xs D cy) (hG : Gx ad (A0 s) s s.heap) (hP : va_P D vwCl (wo cy ad M ns ++ wb) H) (hD : va_D (A0 s) (wo cy ad M ns ++ wb)) (hW : WR ns M) (hS : va_S (A0 s) s.heap H locs)
    (hM : Met l y (Cond.code y bc nL' ret' :: Tb) rm (va_Pc (.ref (ad o 0) :: As) (fun U => Wd D cy ad ns (va_A (wo cy ad M ns) H.size) M U.heap ∧ va_K D vwCl (tysE cy) U ∧ (∀ q, U.heap.size ≤ q → va_A (wo cy ad M ns) H.size q) ∧ Gx ad (va_A (wo cy ad M ns) H.size) U U.heap)) Qc mc ms (va_A (wo cy ad M ns) H.size)) (hy : Mv y Cn bc nL' ret' n) (hs : vwCl[ci]? = some (Cn, T, N)) (ho : Ob ns ci o) (hlink : Cond.methodLink "SewnYearLaw" index y ∈ Tb) (hrm : rm.cells = mc ∧ rm.slots = ms ∧ rm.frames + 1 ≤ 12 ∧ 8 + (nL' + 11) + rm.locals ≤ 462) (hn : As.length = n) (hls : ls.size = 4) (hst : st = As.reverse ++ .ref (ad o 0) :: rest) (hcat : (rest.map fun v => v.category).sum ≤ 8) (hcs : cells + mc ≤ 600000 ∧ slots + ms ≤ 7302250) (hdg : decode code pc = .ok (.invokevirtual index, 3)) :
    va_Run p l e room_1 s m #[Value.ref b] below meth c H locs cells slots mc ms (F0 m pc ls st) rest (Qc (Value.ref (ad o 0) :: As).toArray) (va_A (wo cy ad M ns) H.size) := by
  obtain ⟨hx, hb, hml, hown, hts, hX, hbl, hK⟩ := C
  obtain ⟨g1, g2, g3, g4, g5, g6⟩ := hy
  obtain ⟨i, -, hi⟩ := wo_get (cy := cy) (ad := ad) (M := M) ho.2.1
  have hoc := ho.1
  have hPc := P_l hP
  have hrec := va_recv (q := (Cn, T, N)) hK hPc (ci := oc o) (q0 := i) (by rw [hoc]; exact hs) hi
  have hfree := free_l hD hS (fun _ h => h)
  have hG1 := Gx_narrow hG hfree
  exact va_runV (As := As) (rest := rest) (Ts := Tb) ⟨hx, hb, hml, hown, hts⟩ hM ⟨callB_of n hts (goodIn_Tb g1) rfl hrm.1 hrm.2.1 (hts _ g4) (hts _ hlink) ⟨g5.1, g5.2, g6⟩ hrm.2.2, hts _ g2, hts _ g3⟩ ⟨pc_blind, hrec, fun U hU hWm => ⟨rfl, by rw [hU]; exact ⟨hPc, (D_l hD).self, hW⟩, va_K.moved hWm.alike hK, fun q hq => Or.inr (by rw [← hU]; exact hq), by rw [hU]; exact Gx_warm hWm (fun a h1 h2 => hS.2.1 a h1 (Nat.not_le.mpr h1)) hG1⟩⟩ rfl hn hls hst (lv_room hcat) hdg hcs
theorem lc_call {y : MethodName} {Cn : String} {bc : ByteArray} {nL' n ci o index : Nat} {ret' : Option FieldType} {rm : Room} {As st : List Value} {v : Value} {T : u_T} {N : Nat} {ns : List (Nat × Nat)} {M M' : Mem} {wb : va_W} (C : LC p s m c b L xs D cy) (hG : Gx ad (A0 s) s s.heap) (hP : va_P D vwCl (wo cy ad M ns ++ wb) H) (hD : va_D (A0 s) (wo cy ad M ns ++ wb)) (hW : WR ns M) (hS : va_S (A0 s) s.heap H locs)
    (hM : Ct l y bc nL' ret' rm D cy ad ns (va_A (wo cy ad M ns) H.size) (.ref (ad o 0) :: As) M M' (some v)) (hy : Mv y Cn bc nL' ret' n) (hs : vwCl[ci]? = some (Cn, T, N)) (ho : Ob ns ci o) (hlink : Cond.methodLink "SewnYearLaw" index y ∈ Tb) (hrm : rm.cells = 0 ∧ rm.slots = 0 ∧ rm.frames + 1 ≤ 12 ∧ 8 + (nL' + 11) + rm.locals ≤ 462) (hn : As.length = n) (hls : ls.size = 4) (hst : st = As.reverse ++ .ref (ad o 0) :: rest) (hcat : (rest.map fun v => v.category).sum ≤ 8) (hcs : cells ≤ 600000 ∧ slots ≤ 7302250) (hdg : decode code pc = .ok (.invokevirtual index, 3))
    (kk : ∀ (H1 : Heap) (locs1 : List Loc), va_P D vwCl (wo cy ad M' ns ++ wb) H1 → va_D (A0 s) (wo cy ad M' ns ++ wb) → WR ns M' → va_S (A0 s) s.heap H1 locs1 → W p l e room_1 s m #[Value.ref b] below meth c H1 locs1 cells slots Q (F0 m (pc + 3) ls (v :: rest))) : W p l e room_1 s m #[Value.ref b] below meth c H locs cells slots Q (F0 m pc ls st) := by
  have hr := lc_run (l := l) (e := e) (below := below) (meth := meth) C hG hP hD hW hS hM hy hs ho hlink hrm hn hls hst hcat hcs hdg
  have hfree := free_l hD hS (fun _ h => h)
  intro T hT Z
  obtain ⟨v', st₀, t, T', L', h0, Z', hLc, e1, e2, ⟨hv, hw, hk, hz, hq⟩, stp⟩ := hr T hT Z
  cases hv
  rw [h0] at hz hq
  obtain ⟨hP1, hD1⟩ := back_l hP hD hq hfree hw.1 hw.2.1
  obtain ⟨t2, a1, b1⟩ := kk T'.heap (locs ++ L') (by rw [e1]; exact hP1) hD1 hw.2.2 ⟨Nat.le_trans hS.1 (by rw [e1]; exact hz), fun q h1 h2 => by rw [e1, hq q (Nat.lt_of_lt_of_le h1 hS.1) (fun z => h2 (hfree q z))]; exact hS.2.1 q h1 h2, fun q hq => by
      rcases List.mem_append.mp hq with h | h
      · exact hS.2.2 q h
      · exact hfree _ (hLc q h)⟩ T' rfl Z'
  exact ⟨t2, stp t2 a1, b1⟩
/-- a call of the one side -/
theorem lc_X {y : MethodName} {bc : ByteArray} {nL' n index : Nat} {ret' : Option FieldType} {rm : Room} {As st : List Value} {v : Value} (C : LC p s m c b L xs D cy) (hG : Gx ad (A0 s) s s.heap) (hN : NsC nx) (hw : LW D cy ad nx Mx Mm s H locs)
    (hM : ∀ A : Nat → Prop, Ct l y bc nL' ret' rm D cy ad nx A (.ref (ad 0 0) :: As) Mx Mx' (some v)) (hy : Mv y RX9 bc nL' ret' n) (hlink : Cond.methodLink "SewnYearLaw" index y ∈ Tb) (hrm : rm.cells = 0 ∧ rm.slots = 0 ∧ rm.frames + 1 ≤ 12 ∧ 8 + (nL' + 11) + rm.locals ≤ 462) (hn : As.length = n) (hls : ls.size = 4) (hst : st = As.reverse ++ .ref (ad 0 0) :: rest) (hcat : (rest.map fun v => v.category).sum ≤ 8) (hcs : cells ≤ 600000 ∧ slots ≤ 7302250) (hdg : decode code pc = .ok (.invokevirtual index, 3))
    (kk : ∀ (H1 : Heap) (locs1 : List Loc), LW D cy ad nx Mx' Mm s H1 locs1 → W p l e room_1 s m #[Value.ref b] below meth c H1 locs1 cells slots Q (F0 m (pc + 3) ls (v :: rest))) : W p l e room_1 s m #[Value.ref b] below meth c H locs cells slots Q (F0 m pc ls st) := by
  obtain ⟨⟨hP, hD⟩, hW, hS⟩ := hw
  exact lc_call C hG hP hD hW hS (hM _) hy rfl (o_of hN (o := 0) (c := 9) (by decide) rfl) hlink hrm hn hls hst hcat hcs hdg (fun H1 locs1 hP1 hD1 hW1 hS1 => kk H1 locs1 ⟨⟨hP1, hD1⟩, hW1, hS1⟩)
/-- a call of the other side -/
theorem lc_M {y : MethodName} {bc : ByteArray} {nL' n index : Nat} {ret' : Option FieldType} {rm : Room} {As st : List Value} {v : Value} (C : LC p s m c b L xs D cy) (hG : Gx ad (A0 s) s s.heap) (hw : LW D cy ad nx Mx Mm s H locs)
    (hM : ∀ A : Nat → Prop, Ct l y bc nL' ret' rm D cy ad ns10 A (.ref (ad 100 0) :: As) Mm Mm' (some v)) (hy : Mv y RX10 bc nL' ret' n) (hlink : Cond.methodLink "SewnYearLaw" index y ∈ Tb) (hrm : rm.cells = 0 ∧ rm.slots = 0 ∧ rm.frames + 1 ≤ 12 ∧ 8 + (nL' + 11) + rm.locals ≤ 462) (hn : As.length = n) (hls : ls.size = 4) (hst : st = As.reverse ++ .ref (ad 100 0) :: rest) (hcat : (rest.map fun v => v.category).sum ≤ 8) (hcs : cells ≤ 600000 ∧ slots ≤ 7302250) (hdg : decode code pc = .ok (.invokevirtual index, 3))
    (kk : ∀ (H1 : Heap) (locs1 : List Loc), LW D cy ad nx Mx Mm' s H1 locs1 → W p l e room_1 s m #[Value.ref b] below meth c H1 locs1 cells slots Q (F0 m (pc + 3) ls (v :: rest))) : W p l e room_1 s m #[Value.ref b] below meth c H locs cells slots Q (F0 m pc ls st) := by
  obtain ⟨⟨hP, hD⟩, hW, hS⟩ := hw
  exact lc_call C hG (P_swap hP) (D_swap hD) (WR_10 Mm) hS (hM _) hy rfl Ob_10 hlink hrm hn hls hst hcat hcs hdg (fun H1 locs1 hP1 hD1 hW1 hS1 => kk H1 locs1 ⟨⟨P_swap hP1, D_swap hD1⟩, hW, hS1⟩)
/-- image, where it makes its Told -/
theorem lc_N {index : Nat} {j : Nat} {st : List Value} (C : LC p s m c b L xs D cy) (hG : Gx ad (A0 s) s s.heap) (hN : NsC nx) (hB : NB nx) (hF : FRE nx Mx) (hw : LW D cy ad nx Mx Mm s H locs) (hj : j < 3) (hj0 : gA Mx 0 1 j = 0) (hX : f_X5_take (sA (nwM (21 + 9 * j) Mx) 0 1 j 1) (21 + 9 * j) 1 = some Mx') (hlink : Cond.methodLink "SewnYearLaw" index yX9_image ∈ Tb) (hls : ls.size = 4) (hst : st = .int (nI j) :: .ref (ad 0 0) :: rest) (hcat : (rest.map fun v => v.category).sum ≤ 8) (hcs : cells + 47 ≤ 600000 ∧ slots + 1235 ≤ 7302250) (hdg : decode code pc = .ok (.invokevirtual index, 3))
    (kk : ∀ (h : Nat) (u : Nat → Nat) (H1 : Heap) (locs1 : List Loc), LW D cy (adT ad (21 + 9 * j) h u) (nx ++ ns5 (21 + 9 * j)) Mx' Mm s H1 locs1 → W p l e room_1 s m #[Value.ref b] below meth c H1 locs1 (cells + 47) (slots + 1235) Q (F0 m (pc + 3) ls (.int (b2i true) :: rest))) : W p l e room_1 s m #[Value.ref b] below meth c H locs cells slots Q (F0 m pc ls st) := by
  obtain ⟨⟨hP, hD⟩, hW, hS⟩ := hw
  have hr := lc_run (l := l) (e := e) (below := below) (meth := meth) (rest := rest) (As := [.int (nI j)]) (o := 0) C hG hP hD hW hS (mi_new hN hB hF hj hj0 hX) mv_X9_image rfl (o_of hN (o := 0) (c := 9) (by decide) rfl) hlink ⟨rfl, rfl, Nat.le_of_ble_eq_true rfl, Nat.le_of_ble_eq_true rfl⟩ rfl hls hst hcat hcs hdg
  have hfree := free_l hD hS (fun _ h => h)
  intro T hT Z
  obtain ⟨v', st₀, t, T', L', h0, Z', hLc, e1, e2, ⟨h, u, hv, hw, hk, hz, hq⟩, stp⟩ := hr T hT Z
  cases hv
  rw [h0] at hz hq
  obtain ⟨hP1, hD1⟩ := back_l hP hD hq hfree hw.1 hw.2.1
  have hm : wo cy (adT ad (21 + 9 * j) h u) Mm ns10 = wo cy ad Mm ns10 := by
    refine List.map_congr_left (fun q hq => ?_)
    have h1 : ∀ q ∈ ns10, q.1 = 100 := by decide +kernel
    obtain ⟨o, k⟩ := q
    cases (show o = 100 from h1 _ hq)
    have ha : adT ad (21 + 9 * j) h u 100 = ad 100 := by funext z; exact adT_out (by omega) z
    cases k with
    | zero =>
      show (adT ad (21 + 9 * j) h u 100 0, Sum.inr (oc 100, (List.range (nf (oc 100))).map (fv (adT ad (21 + 9 * j) h u) Mm 100))) = (ad 100 0, Sum.inr (oc 100, (List.range (nf (oc 100))).map (fv ad Mm 100)))
      rw [ha]
      have hf : (List.range (nf (oc 100))).map (fv (adT ad (21 + 9 * j) h u) Mm 100) = (List.range (nf (oc 100))).map (fv ad Mm 100) := by
        refine List.map_congr_left (fun i hi => ?_)
        have hi := List.mem_range.mp hi
        have h3 : ∀ i, i < nf (oc 100) → kd (oc 100) i < 3 := by decide +kernel
        have h3 := h3 i hi
        unfold fv
        generalize kd (oc 100) i = n at h3 ⊢
        match n, h3 with
        | 0, _ => rfl
        | 1, _ => rfl
        | 2, _ => exact congrArg Value.ref (congrFun ha _)
        | n + 3, h3 => omega
      rw [hf]
    | succ k =>
      show (adT ad (21 + 9 * j) h u 100 (k + 1), ce cy (adT ad (21 + 9 * j) h u) Mm 100 k) = (ad 100 (k + 1), ce cy ad Mm 100 k)
      rw [ha]
      have h2 : ∀ q ∈ ns10, q.2 = 0 ∨ ak (oc 100) (q.2 - 1) ≤ 3 := by decide +kernel
      have h3 : ak (oc 100) k ≤ 3 := by
        rcases h2 _ hq with z | z
        · cases z
        · exact z
      unfold ce
      generalize ak (oc 100) k = n at h3 ⊢
      match n, h3 with
      | 0, _ => rfl
      | 1, _ => rfl
      | 2, _ => rfl
      | 3, _ => rfl
      | n + 4, h3 => omega
  obtain ⟨t2, a1, b1⟩ := kk h u T'.heap (locs ++ L') ⟨⟨by rw [e1, hm]; exact hP1, by rw [hm]; exact hD1⟩, hw.2.2, ⟨Nat.le_trans hS.1 (by rw [e1]; exact hz), fun q h1 h2 => by rw [e1, hq q (Nat.lt_of_lt_of_le h1 hS.1) (fun z => h2 (hfree q z))]; exact hS.2.1 q h1 h2, fun q hq => by
      rcases List.mem_append.mp hq with h | h
      · exact hS.2.2 q h
      · exact hfree _ (hLc q h)⟩⟩ T' rfl Z'
  exact ⟨t2, stp t2 a1, b1⟩
end Law
