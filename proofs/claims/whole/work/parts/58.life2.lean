/-! lives: sewing, deeds, the state -/
def woS (C : CoatA) (hs : Nat → Nat) : Nat → Nat := dS (fun s => if hs s = cSt C s then 1 else 0) 1
theorem woS_tb (C : CoatA) (hs : Nat → Nat) (n o : Nat) : (woS C hs n).testBit o = true ↔ o < n ∧ hs o = cSt C o := by
  unfold woS
  rw [dS_tb]
  by_cases q : hs o = cSt C o
  · simp [q]
  · simp [q]
theorem woS_s (C : CoatA) (hs : Nat → Nat) (s : Nat) : woS C hs (s + 1) = if hs s = cSt C s then woS C hs s ||| 2 ^ s else woS C hs s := by
  unfold woS
  show (if 0 < (if hs s = cSt C s then 1 else 0) ∧ (if hs s = cSt C s then 1 else 0) ≤ 1 then _ else _) = _
  by_cases q : hs s = cSt C s
  · simp [q]
  · simp [q]
section Life
variable {p : WP} {hs : Nat → Nat} {d t : Nat} {Mx Mm : Mem}
theorem w_ones (h : WS p hs d t Mx Mm) : f_X8_wholeOnes Mx = some (nI (woS (pC p) hs (cN (pC p)))) := by
  have h9 := h.2.2.2.2.2.1.1
  unfold f_X8_wholeOnes f_X8_wholeOnes_4
  refine lpU_for (fun s => (nI (woS (pC p) hs s), nI s)) (cN (pC p)) _ (by omega) 0 (Nat.zero_le _) ?_ ?_
  · intro rc
    show b_X8_wholeOnes_4 Mx _ _ (nI (cN (pC p))) = _
    unfold b_X8_wholeOnes_4
    rw [h.2.2.1.1, h.2.2.2.1.1, if_pos (nI_le (Nat.le_refl _) (by omega))]
  · intro rc s _ hs2
    rw [woS_s]
    show b_X8_wholeOnes_4 Mx _ _ (nI s) = _
    unfold b_X8_wholeOnes_4 f_X8_wholeOnes_29
    rw [h.2.2.1.1, h.2.2.2.1.1, if_neg (nI_ge hs2 (by omega)), w_wholeX h hs2, bn_s, or_nI (by omega), nI_add, nm_s, nm_s, nm_s]
    by_cases q : hs s = cSt (pC p) s
    · rw [if_pos (dT q), if_pos q]
    · rw [if_neg (dF q), if_neg q]
theorem w_are (h : WS p hs d t Mx Mm) {A : Nat} (hA : A < 2 ^ cN (pC p)) : f_X10_areWhole Mm (nI A) = some (decide (A &&& (woS (pC p) hs (cN (pC p)) ^^^ 4294967295) = 0)) := by
  have h9 := h.2.2.2.2.2.1.1
  have w2 := (pw9 (cN (pC p)) (by omega)).2.1
  have h24 := h.2.2.2.2.1.2.2.1
  obtain ⟨m, q1, q2, q3⟩ := first_of (fun o => A.testBit o = true ∧ ¬ hs o = cSt (pC p) o) (cN (pC p))
  have em : decide (A &&& (woS (pC p) hs (cN (pC p)) ^^^ 4294967295) = 0) = decide (m = cN (pC p)) := by
    congr 1
    rw [sub_iff _ _ (by omega)]
    apply propext
    constructor
    · intro z
      by_cases e : m = cN (pC p)
      · exact e
      · have := q3 (by omega)
        exact absurd ((woS_tb _ _ _ _).mp (z m this.1)).2 this.2
    · intro e o ho
      have hon := tb_lt hA ho
      rw [woS_tb]
      refine ⟨hon, ?_⟩
      have := q2 o (by omega)
      by_cases z : hs o = cSt (pC p) o
      · exact z
      · exact absurd ⟨ho, z⟩ this
  rw [em]
  unfold f_X10_areWhole f_X10_areWhole_2
  refine lpU_find (fun o => nI o) (cN (pC p)) (fun m => some (decide (m = cN (pC p)))) (fun o => A.testBit o = true ∧ ¬ hs o = cSt (pC p) o) (by omega) ?_ ?_ ?_ m q1 q2 q3 0 (Nat.zero_le _)
  · intro rc
    show b_X10_areWhole_2 Mm (nI A) _ (nI (cN (pC p))) = _
    unfold b_X10_areWhole_2
    rw [h24, if_pos (nI_le (Nat.le_refl _) (by omega)), decide_eq_true rfl]
  · intro rc o ho hst
    show b_X10_areWhole_2 Mm (nI A) _ (nI o) = _
    unfold b_X10_areWhole_2
    rw [h24, if_neg (nI_ge ho (by omega)), has_v (by omega) (by omega), bn_s, if_pos hst.1, w_wholeM h ho, bn_s, if_neg (dF hst.2), decide_eq_false (show ¬ o = cN (pC p) by omega)]
  · intro rc o ho hst
    show b_X10_areWhole_2 Mm (nI A) _ (nI o) = _
    unfold b_X10_areWhole_2 f_X10_areWhole_28
    rw [h24, if_neg (nI_ge ho (by omega)), has_v (by omega) (by omega), bn_s, w_wholeM h ho, bn_s, nI_add, nm_s]
    by_cases z : A.testBit o = true
    · have z2 : hs o = cSt (pC p) o := by
        by_cases y : hs o = cSt (pC p) o
        · exact y
        · exact absurd ⟨z, y⟩ hst
      rw [if_pos z, if_pos (dT z2)]
    · rw [if_neg z]
theorem w_stitch (h : WS p hs d t Mx Mm) {s : Nat} (hs2 : s < 2147483648) : WE p (f_X8_stitch Mx (nI s)) (f_X10_sews Mm (nI s)) := by
  have hV := h.2.2.2.2.2.1
  have h9 := hV.1
  have h24 := h.2.2.2.2.1.2.2.1
  have w2 := (pw9 (cN (pC p)) (by omega)).2.1
  have hX := h.2.2.2.1
  have hp := hV.2.1
  have non : WE p (some (false, Mx)) (some (false, Mm)) := ⟨_, _, _, hs, d, t, rfl, rfl, h⟩
  unfold f_X8_stitch f_X10_sews
  rw [w_seam h hs2, isSeam_v h24 (by omega) hs2, bn_s, bn_s]
  by_cases c : s < cN (pC p)
  · have h1 := h.1 s c
    have h2 := (hV.2.2.1 s c).1
    have hA := Od_A hV s c
    have hg : ∀ x : Option (Bool × Mem), gin (nI s) 9 x = x := fun x => gin_n (by omega) (by omega)
    obtain ⟨ht1, ht2, ht3⟩ := h.2.1.2.2.1
    simp only [hg]
    rw [if_pos (dT c), if_pos (dT c), w_wholeX h c, w_wholeM h c, bn_s, bn_s]
    by_cases c1 : hs s = cSt (pC p) s
    · rw [if_pos (dT c1), if_pos (dT c1)]; exact non
    · rw [if_neg (dF c1), if_neg (dF c1), h.2.2.1.1, hX.2.1, ht1, ht2, h.2.2.2.2.1.2.2.2.1, ite_p (lt_n (by omega) (by omega)), ite_p (eq_n (by omega) (by omega))]
      by_cases c2 : t = cP (pC p)
      · rw [if_neg (by omega), if_pos c2]; exact non
      · have eo : f_X10_of Mm (nI 29 + nI s) = some (nI (cAf (pC p) s)) := by
          obtain ⟨hk, y0, -, -, -, -, -, m3, -⟩ := h.2.2.2.2.1
          rw [nI_add, of_v y0 hk (by omega), m3 s (by omega)]
        rw [if_pos (by omega), if_neg c2, w_ones h, bn_s, eo, bn_s, w_are h hA, bn_s, ix_n (by omega), hX.2.2.2.1 s (by omega), not_n, ite_p (eq_n (a := cAf (pC p) s &&& (woS (pC p) hs (cN (pC p)) ^^^ 4294967295)) (b := 0) (by have := and_lt (b := woS (pC p) hs (cN (pC p)) ^^^ 4294967295) hA; omega) (by omega))]
        by_cases c3 : cAf (pC p) s &&& (woS (pC p) hs (cN (pC p)) ^^^ 4294967295) = 0
        · have hup : ∀ (v1 v2 : Int32), (hs s + 1 = cSt (pC p) s → v1 = v2) → (¬ hs s + 1 = cSt (pC p) s → v2 = -1000) → WSa (pC p) (fun x => if x = s then hs s + 1 else hs x) (if hs s + 1 = cSt (pC p) s then sA (sI (sA Mx 15 7 s (nI (hs s + 1))) 15 3 (nI (t + 1))) 15 8 s v1 else sI (sA Mx 15 7 s (nI (hs s + 1))) 15 3 (nI (t + 1))) (sA (sI (sA Mm 100 27 s (nI (hs s + 1))) 100 31 (nI (t + 1))) 100 28 s v2) := by
            intro v1 v2 e1 e2 x hx
            have hx1 := h.1 x hx
            by_cases z : hs s + 1 = cSt (pC p) s
            · rw [if_pos z]
              rw [gA_sA, gA_sI, gA_sA, gA_sA, gA_sI, gA_sA, gA_sA, gA_sI, gA_sA, gA_sA, gA_sI, gA_sA]
              by_cases q : x = s
              · subst q
                simp
                exact ⟨by omega, Or.inl ⟨z, e1 z⟩⟩
              · simp [q]
                exact hx1
            · rw [if_neg z]
              rw [gA_sI, gA_sA, gA_sA, gA_sI, gA_sA, gA_sI, gA_sA, gA_sA, gA_sI, gA_sA]
              by_cases q : x = s
              · subst q
                simp
                exact ⟨by omega, Or.inr ⟨by omega, e2 z⟩⟩
              · simp [q]
                exact hx1
          have hb : ∀ M1 M2, (∀ j, ¬ j = 3 → gI M1 15 j = gI Mx 15 j) → gI M1 15 3 = nI (t + 1) → (∀ j, ¬ j = 31 → gI M2 100 j = gI Mm 100 j) → gI M2 100 31 = nI (t + 1) → WSb (pC p) d (t + 1) M1 M2 := by
            intro M1 M2 b1 b2 b3 b4
            obtain ⟨⟨a1, a2, a3⟩, b, -, e, f⟩ := h.2.1
            exact ⟨⟨by rw [b1 1 (by omega)]; exact a1, by rw [b3 29 (by omega)]; exact a2, a3⟩, by rw [b1 2 (by omega), b3 30 (by omega)]; exact b, ⟨b2, b4, by omega⟩, by rw [b1 4 (by omega), b3 32 (by omega)]; exact e, by rw [b1 5 (by omega), b3 33 (by omega)]; exact f⟩
          have i1 : ∀ (M : Mem) (o k : Nat) (v : Int32) (j : Nat), ¬ j = k → gI (sI M o k v) o j = gI M o j := fun M o k v j hj => by rw [gI_sI, if_neg (fun z => hj z.2)]
          rw [if_pos c3, if_pos (dT c3), h1.1, h1.2.1, nI_add]
          simp only [nm_s, gI_sA]
          rw [ht1, ht2, nI_add]
          -- whole now?
          have kx : f_X8_isWhole (sI (sA Mx 15 7 s (nI (hs s + 1))) 15 3 (nI (t + 1))) (nI s) = some (decide (hs s + 1 = cSt (pC p) s)) := by
            have hX2 : CX (sI (sA Mx 15 7 s (nI (hs s + 1))) 15 3 (nI (t + 1))) (pO p) (pC p) := cX_sI (cX_sA hX h.2.2.1.2) h.2.2.1.2
            have e0 : gR (sI (sA Mx 15 7 s (nI (hs s + 1))) 15 3 (nI (t + 1))) 15 0 = pO p := h.2.2.1.1
            have e7 : gA (sI (sA Mx 15 7 s (nI (hs s + 1))) 15 3 (nI (t + 1))) 15 7 s = nI (hs s + 1) := by rw [gA_sI, gA_sA, if_pos ⟨rfl, rfl, rfl⟩]
            unfold f_X8_isWhole
            rw [e0, hasSeam_v hX2.1 (by omega) (by omega), bn_s, if_pos (dT c), gin_n (by omega) (by omega), gin_n (by omega) (by omega), ix_n (by omega), (hX2.2.2.1 s c).1, e7, ite_p (eq_n (by omega) (by omega))]
            by_cases q : hs s + 1 = cSt (pC p) s
            · rw [if_pos q, decide_eq_true q]
            · rw [if_neg q, decide_eq_false q]
          have km : f_X10_isWhole (sI (sA Mm 100 27 s (nI (hs s + 1))) 100 31 (nI (t + 1))) (nI s) = some (decide (hs s + 1 = cSt (pC p) s)) := by
            have hH2 : MH (sI (sA Mm 100 27 s (nI (hs s + 1))) 100 31 (nI (t + 1))) (pK p) (pC p) := mH_sI (mH_sA h.2.2.2.2.1 (by omega)) (by omega)
            have e7 : gA (sI (sA Mm 100 27 s (nI (hs s + 1))) 100 31 (nI (t + 1))) 100 27 s = nI (hs s + 1) := by rw [gA_sI, gA_sA, if_pos ⟨rfl, rfl, rfl⟩]
            obtain ⟨hk, y0, -, -, -, -, m2, -, -⟩ := hH2
            unfold f_X10_isWhole
            rw [gin_n (by omega) (by omega), nI_add, of_v y0 hk (by omega), (m2 s c).1, bn_s, ix_n (by omega), e7, ite_p (eq_n (by omega) (by omega))]
            by_cases q : hs s + 1 = cSt (pC p) s
            · rw [if_pos q, decide_eq_true q]
            · rw [if_neg q, decide_eq_false q]
          rw [kx, km, bn_s, bn_s]
          by_cases z : hs s + 1 = cSt (pC p) s
          · have a := hup (gI (sI (sA Mx 15 7 s (nI (hs s + 1))) 15 3 (nI (t + 1))) 15 2) (gI (sI (sA Mm 100 27 s (nI (hs s + 1))) 100 31 (nI (t + 1))) 100 30) (fun _ => by rw [i1 _ _ _ _ _ (by omega), i1 _ _ _ _ _ (by omega)]; exact h.2.1.2.1) (fun z2 => absurd z z2)
            rw [if_pos z] at a
            rw [if_pos (dT z), if_pos (dT z)]
            refine ⟨_, _, _, _, d, t + 1, rfl, rfl, a, hb _ _ (fun j hj => ?_) ?_ (fun j hj => ?_) ?_, wc_sAm (wc_sIm (wc_sAm (wc_sAx (wc_sIx (wc_sAx h.2.2) (by omega))) (by omega)) (by omega)) (by omega)⟩
            · rw [gI_sA, i1 _ _ _ _ _ hj, gI_sA]
            · rw [gI_sA, gI_sI, if_pos ⟨rfl, rfl⟩]
            · rw [gI_sA, i1 _ _ _ _ _ hj, gI_sA]
            · rw [gI_sA, gI_sI, if_pos ⟨rfl, rfl⟩]
          · have a := hup (-1000) (-1000) (fun _ => rfl) (fun _ => rfl)
            rw [if_neg z] at a
            rw [if_neg (dF z), if_neg (dF z)]
            refine ⟨_, _, _, _, d, t + 1, rfl, rfl, a, hb _ _ (fun j hj => ?_) ?_ (fun j hj => ?_) ?_, wc_sAm (wc_sIm (wc_sAm (wc_sIx (wc_sAx h.2.2) (by omega)) (by omega)) (by omega)) (by omega)⟩
            · rw [i1 _ _ _ _ _ hj, gI_sA]
            · rw [gI_sI, if_pos ⟨rfl, rfl⟩]
            · rw [gI_sA, i1 _ _ _ _ _ hj, gI_sA]
            · rw [gI_sA, gI_sI, if_pos ⟨rfl, rfl⟩]
        · rw [if_neg c3, if_neg (dF c3)]; exact non
  · rw [if_neg (dF c), if_neg (dF c)]; exact non
/-- the k-th deed, on both sides -/
theorem w_act (h : WS p hs d t Mx Mm) {kd : Nat} {nb : Int32} (h5 : kd ≤ 5) (hnb : kd ≤ 2 → ∃ s, s ≤ 8 ∧ nb = nI s) (k : Int32) (e1 : f_X10_deedOf Mm k (nI 1) = some nb) (e0 : f_X10_deedOf Mm k (nI 0) = some (nI kd)) : WE p (f_X8_act Mx (nI kd) nb) (f_X10_does Mm k) := by
  have fin : ∀ {x m}, WE p x m → WE p (bp x fun r M => some (r, M)) (bp m fun r M => some (r, M)) := by
    rintro x m ⟨r, M1, M2, hs', d', t', rfl, rfl, hw⟩
    exact ⟨r, M1, M2, hs', d', t', rfl, rfl, hw⟩
  unfold f_X8_act f_X10_does
  rw [e1, bn_s, e0, bn_s]
  have c : kd = 0 ∨ kd = 1 ∨ kd = 2 ∨ kd = 3 ∨ kd = 4 ∨ kd = 5 := by omega
  have ne : ∀ a b : Nat, a < 10 → b < 10 → ¬ a = b → ¬ nI a = nI b := fun a b h1 h2 h3 => ne_n h3 (by omega) (by omega)
  rcases c with rfl | rfl | rfl | rfl | rfl | rfl
  · obtain ⟨s, hs3, rfl⟩ := hnb (by omega)
    rw [if_pos rfl, if_pos rfl]
    exact fin (w_stitch h (by omega))
  · obtain ⟨s, hs3, rfl⟩ := hnb (by omega)
    rw [if_neg (ne 1 0 (by omega) (by omega) (by omega)), if_pos rfl, if_neg (ne 1 0 (by omega) (by omega) (by omega)), if_pos rfl]
    exact fin (w_unpick h (by omega))
  · obtain ⟨s, hs3, rfl⟩ := hnb (by omega)
    rw [if_neg (ne 2 0 (by omega) (by omega) (by omega)), if_neg (ne 2 1 (by omega) (by omega) (by omega)), if_pos rfl, if_neg (ne 2 0 (by omega) (by omega) (by omega)), if_neg (ne 2 1 (by omega) (by omega) (by omega)), if_pos rfl]
    exact fin (w_tear h (by omega))
  · rw [if_neg (ne 3 0 (by omega) (by omega) (by omega)), if_neg (ne 3 1 (by omega) (by omega) (by omega)), if_neg (ne 3 2 (by omega) (by omega) (by omega)), if_pos rfl, if_neg (ne 3 0 (by omega) (by omega) (by omega)), if_neg (ne 3 1 (by omega) (by omega) (by omega)), if_neg (ne 3 2 (by omega) (by omega) (by omega)), if_pos rfl]
    obtain ⟨M1, M2, hs', g1, g2, g3⟩ := w_grow h nb
    rw [g1, g2]
    exact ⟨_, _, _, _, _, _, rfl, rfl, g3⟩
  · rw [if_neg (ne 4 0 (by omega) (by omega) (by omega)), if_neg (ne 4 1 (by omega) (by omega) (by omega)), if_neg (ne 4 2 (by omega) (by omega) (by omega)), if_neg (ne 4 3 (by omega) (by omega) (by omega)), if_pos rfl, if_neg (ne 4 0 (by omega) (by omega) (by omega)), if_neg (ne 4 1 (by omega) (by omega) (by omega)), if_neg (ne 4 2 (by omega) (by omega) (by omega)), if_neg (ne 4 3 (by omega) (by omega) (by omega)), if_pos rfl]
    obtain ⟨M1, M2, hs', g1, g2, g3⟩ := w_grow h (-nb)
    rw [g1, g2]
    exact ⟨_, _, _, _, _, _, rfl, rfl, g3⟩
  · rw [if_neg (ne 5 0 (by omega) (by omega) (by omega)), if_neg (ne 5 1 (by omega) (by omega) (by omega)), if_neg (ne 5 2 (by omega) (by omega) (by omega)), if_neg (ne 5 3 (by omega) (by omega) (by omega)), if_neg (ne 5 4 (by omega) (by omega) (by omega)), if_pos rfl, if_neg (ne 5 0 (by omega) (by omega) (by omega)), if_neg (ne 5 1 (by omega) (by omega) (by omega)), if_neg (ne 5 2 (by omega) (by omega) (by omega)), if_neg (ne 5 3 (by omega) (by omega) (by omega)), if_neg (ne 5 4 (by omega) (by omega) (by omega))]
    exact fin (w_sleep h)
/-- what is told of the state -/
theorem w_tell (h : WS p hs d t Mx Mm) (w : Int32) : ∃ r, f_X8_tell Mx w = some r ∧ f_X10_ofState Mm w = some r := by
  have hV := h.2.2.2.2.2.1
  have h9 := hV.1
  have h24 := h.2.2.2.2.1.2.2.1
  have hX := h.2.2.2.1
  have hb := h.2.1
  -- the reference's last part
  have kl : ∀ v, f_X10_ofState_56 Mm v FU (nI 0, nI 0) = some (if v = nI 0 then gI Mm 100 29 else if v = nI 1 then gI Mm 100 30 else if v = nI 2 then gI Mm 100 31 else if v = nI 3 then gI Mm 100 32 else if v = nI 4 then gI Mm 100 33 else if v = nI 5 then nI (woS (pC p) hs (cN (pC p))) else -1000) := by
    intro v
    unfold f_X10_ofState_56
    refine lpU_for (fun s => (nI (woS (pC p) hs s), nI s)) (cN (pC p)) _ (by omega) 0 (Nat.zero_le _) ?_ ?_
    · intro rc
      show b_X10_ofState_56 Mm v _ _ (nI (cN (pC p))) = _
      unfold b_X10_ofState_56
      rw [h24, if_pos (nI_le (Nat.le_refl _) (by omega))]
      split
      · rfl
      split
      · rfl
      split
      · rfl
      split
      · rfl
      split
      · rfl
      split
      · rfl
      · rfl
    · intro rc s _ hs2
      rw [woS_s]
      show b_X10_ofState_56 Mm v _ _ (nI s) = _
      unfold b_X10_ofState_56 f_X10_ofState_80
      rw [h24, if_neg (nI_ge hs2 (by omega)), w_wholeM h hs2, bn_s, or_nI (by omega), nI_add, nm_s, nm_s, or_n, Nat.or_zero, nm_s, nm_s]
      by_cases q : hs s = cSt (pC p) s
      · rw [if_pos (dT q), if_pos q]
      · rw [if_neg (dF q), if_neg q]
  unfold f_X8_tell f_X10_ofState
  rw [h24, nI_add, nI_add]
  rcases int_cases w with hw | ⟨w, hw, rfl⟩
  · rw [in_neg hw 10 (by omega), in_neg hw 20 (by omega)]
    simp only [bn_s, Bool.false_eq_true, if_false]
    rw [kl]
    have ne : ∀ k, k < 10 → ¬ w = nI k := fun k hk => neg_ne hw k (by omega)
    rw [if_neg (ne 0 (by omega)), if_neg (ne 1 (by omega)), if_neg (ne 2 (by omega)), if_neg (ne 3 (by omega)), if_neg (ne 4 (by omega)), if_neg (ne 5 (by omega)), if_neg (ne 0 (by omega)), if_neg (ne 1 (by omega)), if_neg (ne 2 (by omega)), if_neg (ne 3 (by omega)), if_neg (ne 4 (by omega)), if_neg (ne 5 (by omega)), gnz_n (by omega) (by omega), nm_s, if_pos (neg_lt hw 10 (by omega))]
    unfold f_X8_tell_105
    rw [if_pos (neg_lt hw 20 (by omega))]
    exact ⟨_, rfl, rfl⟩
  · rw [in_n hw (by omega) (by omega), in_n hw (by omega) (by omega), bn_s, bn_s, kl]
    by_cases c0 : w = 0
    · subst c0
      rw [if_pos rfl, if_neg (dF (by omega)), if_neg (dF (by omega)), if_pos rfl]
      exact ⟨_, rfl, by rw [hb.1.2.1, hb.1.1]⟩
    have n0 := ne_n c0 hw (show (0 : Nat) < 2147483648 by omega)
    by_cases c1 : w = 1
    · subst c1
      rw [if_neg n0, if_pos rfl, if_neg (dF (by omega)), if_neg (dF (by omega)), if_neg n0, if_pos rfl]
      exact ⟨_, rfl, by rw [hb.2.1]⟩
    have n1 := ne_n c1 hw (show (1 : Nat) < 2147483648 by omega)
    by_cases c2 : w = 2
    · subst c2
      rw [if_neg n0, if_neg n1, if_pos rfl, if_neg (dF (by omega)), if_neg (dF (by omega)), if_neg n0, if_neg n1, if_pos rfl]
      exact ⟨_, rfl, by rw [hb.2.2.1.2.1, hb.2.2.1.1]⟩
    have n2 := ne_n c2 hw (show (2 : Nat) < 2147483648 by omega)
    by_cases c3 : w = 3
    · subst c3
      rw [if_neg n0, if_neg n1, if_neg n2, if_pos rfl, if_neg (dF (by omega)), if_neg (dF (by omega)), if_neg n0, if_neg n1, if_neg n2, if_pos rfl]
      exact ⟨_, rfl, by rw [hb.2.2.2.1]⟩
    have n3 := ne_n c3 hw (show (3 : Nat) < 2147483648 by omega)
    by_cases c4 : w = 4
    · subst c4
      rw [if_neg n0, if_neg n1, if_neg n2, if_neg n3, if_pos rfl, if_neg (dF (by omega)), if_neg (dF (by omega)), if_neg n0, if_neg n1, if_neg n2, if_neg n3, if_pos rfl]
      exact ⟨_, rfl, by rw [hb.2.2.2.2]⟩
    have n4 := ne_n c4 hw (show (4 : Nat) < 2147483648 by omega)
    by_cases c5 : w = 5
    · subst c5
      rw [if_neg n0, if_neg n1, if_neg n2, if_neg n3, if_neg n4, if_pos rfl, if_neg (dF (by omega)), if_neg (dF (by omega)), if_neg n0, if_neg n1, if_neg n2, if_neg n3, if_neg n4, if_pos rfl, w_ones h, bn_s]
      exact ⟨_, rfl, rfl⟩
    have n5 := ne_n c5 hw (show (5 : Nat) < 2147483648 by omega)
    rw [if_neg n0, if_neg n1, if_neg n2, if_neg n3, if_neg n4, if_neg n5, if_neg n0, if_neg n1, if_neg n2, if_neg n3, if_neg n4, if_neg n5, gnz_n (by omega) (by omega), rem_n hw (by omega) (by omega), nm_s, ite_p (lt_n hw (by omega)), ite_p (le_n (by omega) hw), w_seam h (by omega), bn_s]
    have k105 : f_X8_tell_105 Mx (nI w) (nI (w % 10)) = some (if 20 ≤ w ∧ w < 30 ∧ w % 10 < cN (pC p) ∧ hs (w % 10) = cSt (pC p) (w % 10) then gA Mx 15 8 (w % 10) else -1000) := by
      unfold f_X8_tell_105
      rw [ite_p (lt_n hw (by omega)), ite_p (le_n (by omega) hw)]
      by_cases z1 : w < 20
      · rw [if_pos z1, if_neg (by omega)]
      · rw [if_neg z1]
        by_cases z2 : 30 ≤ w
        · rw [if_pos z2, if_neg (by omega)]
        · rw [if_neg z2]
          by_cases z3 : w % 10 < cN (pC p)
          · rw [w_wholeX h z3, bn_s]
            by_cases z4 : hs (w % 10) = cSt (pC p) (w % 10)
            · rw [if_pos (dT z4), if_pos ⟨by omega, by omega, z3, z4⟩, gin_n (by omega) (by omega), ix_n (by omega)]
            · rw [if_neg (dF z4), if_neg (fun q => z4 q.2.2.2)]
          · unfold f_X8_isWhole
            rw [w_seam h (by omega), bn_s, if_neg (dF z3), bn_s, if_neg (by decide), if_neg (fun q => z3 q.2.2.1)]
    rw [k105]
    by_cases a1 : 10 ≤ w ∧ w ≤ 9 + cN (pC p)
    · have e : w % 10 = w - 10 := by omega
      have hx := h.1 (w - 10) (by omega)
      rw [if_neg (show ¬ w < 10 by omega), if_neg (show ¬ 20 ≤ w by omega), if_pos (dT (by omega)), if_pos (dT a1), e, gin_n (by omega) (by omega), ix_n (by omega), sub_n (by omega), gin_n (by omega) (by omega), ix_n (by omega), hx.1, hx.2.1]
      exact ⟨_, rfl, rfl⟩
    · rw [if_neg (dF a1)]
      have ex : (if w < 10 then some (if 20 ≤ w ∧ w < 30 ∧ w % 10 < cN (pC p) ∧ hs (w % 10) = cSt (pC p) (w % 10) then gA Mx 15 8 (w % 10) else -1000) else if 20 ≤ w then some (if 20 ≤ w ∧ w < 30 ∧ w % 10 < cN (pC p) ∧ hs (w % 10) = cSt (pC p) (w % 10) then gA Mx 15 8 (w % 10) else -1000) else if decide (w % 10 < cN (pC p)) = true then gin (nI (w % 10)) 9 (some (gA Mx 15 7 (ix (nI (w % 10))))) else some (if 20 ≤ w ∧ w < 30 ∧ w % 10 < cN (pC p) ∧ hs (w % 10) = cSt (pC p) (w % 10) then gA Mx 15 8 (w % 10) else -1000)) = some (if 20 ≤ w ∧ w < 30 ∧ w % 10 < cN (pC p) ∧ hs (w % 10) = cSt (pC p) (w % 10) then gA Mx 15 8 (w % 10) else -1000) := by
        by_cases z1 : w < 10
        · rw [if_pos z1]
        · rw [if_neg z1]
          by_cases z2 : 20 ≤ w
          · rw [if_pos z2]
          · rw [if_neg z2, if_neg (dF (by omega))]
      rw [ex]
      by_cases a2 : 20 ≤ w ∧ w ≤ 19 + cN (pC p)
      · have e : w % 10 = w - 20 := by omega
        have hx := h.1 (w - 20) (by omega)
        rw [if_pos (dT a2), sub_n (by omega), gin_n (by omega) (by omega), ix_n (by omega), e]
        rcases hx.2.2.2 with z | z
        · rw [if_pos ⟨by omega, by omega, by omega, z.1⟩, z.2]
          exact ⟨_, rfl, rfl⟩
        · rw [if_neg (fun q => by omega), z.2]
          exact ⟨_, rfl, rfl⟩
      · rw [if_neg (dF a2), if_neg (by omega)]
        exact ⟨_, rfl, rfl⟩
end Life
