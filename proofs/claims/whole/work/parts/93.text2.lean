/-! TEXTS: text() on both sides -/
theorem read_5 {Mx Mm : Mem} {a : Nat} (H : Rl Mx Mm) (ha : a < 4) : ∃ r M8, f_X10_readText (M21 Mm) (nI a) = some (r, M8) ∧ gA M8 100 5 = gA Mm 100 5 := by
  obtain ⟨⟨n, h1, h2, h3⟩, h4, -⟩ := H.1
  obtain ⟨r1, r2, r3, r4, r5, r6⟩ := M21_r Mm
  have hm : MTq (fun j => byN (gA Mx 1 0 j)) n (M21 Mm) := by
    refine ⟨by rw [r6]; exact h3, fun j hj => ?_, h1⟩
    rw [r1 1 (by omega) (by omega) (by omega)]
    have := h4 j (by omega)
    rw [show 600 * 0 + j = j by omega] at this
    exact (byN_c this).symm
  obtain ⟨x', X1, M1, e1, e2, e3, e4, e5, e6, e7, e8, e9, e10, e11⟩ := read_a (tb := fun j => byN (gA Mx 1 0 j)) ha h1 (fun j _ => rfl) hm
  exact ⟨_, M1, e6, by rw [e9 5 (by omega) (by omega) (by omega), r1 5 (by omega) (by omega) (by omega)]⟩
theorem text75 {Mx Mm : Mem} {a v c : Nat} {t : Int32} (H : Rl Mx Mm) (ha : a < 4) (hv : v < 2) (hc : gA Mm 100 5 a = nI c) (ht : (t = -1 ∧ v = c) ∨ (t = nI v ∧ v < c)) (hc2 : c ≤ 2) : f_X10_text_75 (nI a) t (M21 Mm) = bp (f_X10_readText (M21 Mm) (nI a)) fun r9 M8 => if r9 = true then (bn (f_X10_storeAll (sA M8 100 5 a (nI (max c (v + 1)))) (nI a) (nI v)) fun M4 => some (nI v, M4)) else (some ((-1), M8)) := by
  obtain ⟨r, M8, h1, h2⟩ := read_5 H ha
  unfold f_X10_text_75 f_X10_text_100 f_X10_text_118
  rw [h1, bp_s, bp_s]
  by_cases p : r = true
  · rw [if_pos p, if_pos p]
    have hcc : gA M8 100 5 a = nI c := by rw [h2]; exact hc
    rcases ht with ⟨rfl, rfl⟩ | ⟨rfl, hlt⟩
    · rw [if_pos rfl, gin_n (by omega) (by omega), ix_n (by omega), hcc, gin_n (by omega) (by omega), if_pos rfl, gin_n (by omega) (by omega), show b2i true = nI 1 from rfl, nI_add, nm_s, show max v (v + 1) = v + 1 by omega]
    · rw [if_neg (nI_m1 v (by omega)), gin_n (by omega) (by omega), ix_n (by omega), hcc, if_neg (nI_m1 v (by omega)), gin_n (by omega) (by omega), show b2i false = nI 0 from rfl, nI_add, nm_s, show max c (v + 1) = c + 0 by omega]
  · rw [if_neg p, if_neg p]
theorem text_x {Mx : Mem} {a v c : Nat} {t : Int32} (ha : a < 4) (hv : v < 2) (hc : gA Mx 1 4 a = nI c) (ht : (t = -1 ∧ v = c) ∨ (t = nI v ∧ v < c)) (hc2 : c ≤ 2) : f_X9_text Mx (nI a) t = (bn (f_X2_read Mx (nI a) 1 (gI Mx 1 1)) fun M5 => bn (f_X5_close M5 1 (gI M5 10 12) (gI M5 10 13)) fun M7 => if (gI M7 10 12) = (nI 0) then (bn (f_X5_keep M7 1 (nI a) (nI v)) fun M2 => some (nI v, M2)) else (some ((-1), M7))) := by
  have hcount : f_X9_count Mx (nI a) = some (nI c) := by
    unfold f_X9_count
    rw [if_neg (n_nneg (by omega)), if_pos (nI_lt ha (by omega)), gin_n ha (by omega), ix_n (by omega), hc]
  unfold f_X9_text
  rw [hcount, bn_s]
  rcases ht with ⟨rfl, rfl⟩ | ⟨rfl, hlt⟩
  · rw [if_pos rfl]
    unfold f_X9_text_16
    rw [if_pos rfl, if_neg (n_nneg (by omega)), if_neg (nI_ge hv (by omega))]
    unfold f_X9_text_54 f_X9_text_138
    rw [if_pos rfl]
    simp only [if_pos]
  · rw [if_neg (nI_m1 v (by omega))]
    unfold f_X9_text_16
    rw [if_neg (by decide), if_neg (n_nneg (by omega)), if_neg (nI_ge hlt (by omega))]
    unfold f_X9_text_54 f_X9_text_138
    rw [if_pos rfl]
    rfl
theorem q_text {Mx Mm : Mem} (H : Rl Mx Mm) (a t : Int32) : EqI Mx Mm (f_X9_text Mx a t) (f_X10_text Mm a t) := by
  have e0 : f_X10_text Mm a t = bn (f_X10_in a (nI 0) (nI 3)) fun r23 => if r23 = true then (if t = (-1) then (gin a 16 <| if (gA (M21 Mm) 100 5 (ix a)) = (nI 2) then (some ((-2), (M21 Mm))) else (f_X10_text_75 a t (M21 Mm))) else (bn (f_X10_is (M21 Mm) a t) fun r27 => if r27 = true then (f_X10_text_75 a t (M21 Mm)) else (some ((-2), (M21 Mm))))) else (some ((-2), (M21 Mm))) := by
    unfold f_X10_text M21
    rw [nm_s, gin_n (by omega) (by omega), nm_s, gin_n (by omega) (by omega), nm_s, gin_n (by omega) (by omega), nm_s, gin_n (by omega) (by omega), nm_s, ix_n (by omega)]
    rfl
  obtain ⟨Xn, n1, n2⟩ := text_none H
  obtain ⟨r1, -⟩ := M21_r Mm
  obtain ⟨-, -, -, cn, h7, -⟩ := H.1
  rcases int_cases a with hneg | ⟨j, hj, rfl⟩
  · -- no such sort, below
    have hcount : f_X9_count Mx a = some (-2) := by
      unfold f_X9_count
      rw [if_pos (show a < nI 0 from hneg)]
    have ex : f_X9_text Mx a t = some (-2, Xn) := by
      unfold f_X9_text f_X9_text_16 f_X9_text_36 f_X9_text_53 f_X9_text_54
      rw [hcount, bn_s]
      by_cases c1 : t = -1
      · rw [if_pos c1, if_pos rfl, if_pos (by decide)]
        exact n1
      · rw [if_neg c1, if_neg (by decide)]
        by_cases c2 : t < nI 0
        · rw [if_pos c2]
          exact n1
        · rw [if_neg c2]
          rcases int_cases t with ht | ⟨i, hi, rfl⟩
          · exact absurd ht c2
          · rw [if_pos (Int32.le_of_lt (neg_lt (by decide) i hi))]
            exact n1
    refine ⟨-2, Xn, M21 Mm, ex, ?_, n2⟩
    rw [e0, in_neg hneg 0 (by omega), bn_s, if_neg (by decide)]
  · by_cases hj4 : j < 4
    · obtain ⟨c2, g1, g2⟩ := h7 j hj4
      rw [show 4 * 0 + j = j by omega] at g2
      have hin : f_X10_in (nI j) (nI 0) (nI 3) = some true := by
        rw [in_n hj (by omega) (by omega), decide_eq_true ⟨by omega, by omega⟩]
      have hcount : f_X9_count Mx (nI j) = some (nI (cn j)) := by
        unfold f_X9_count
        rw [if_neg (n_nneg hj), if_pos (nI_lt hj4 (by omega)), gin_n hj4 (by omega), ix_n hj, g1]
      have hno : f_X9_text Mx (nI j) t = some (-2, Xn) → f_X10_text Mm (nI j) t = some (-2, M21 Mm) → EqI Mx Mm (f_X9_text Mx (nI j) t) (f_X10_text Mm (nI j) t) := fun p q => ⟨-2, Xn, M21 Mm, p, q, n2⟩
      have hgo : ∀ v, v < 2 → ((t = -1 ∧ v = cn j) ∨ (t = nI v ∧ v < cn j)) → f_X10_text Mm (nI j) t = f_X10_text_75 (nI j) t (M21 Mm) → EqI Mx Mm (f_X9_text Mx (nI j) t) (f_X10_text Mm (nI j) t) := by
        intro v hv hvt hq
        obtain ⟨r, X, M, k1, k2, k3⟩ := text_go H hj4 hv (by omega) g1 c2
        exact ⟨r, X, M, by rw [text_x hj4 hv g1 hvt c2]; exact k1, by rw [hq, text75 H hj4 hv g2 hvt c2]; exact k2, k3⟩
      have e5 : gA (M21 Mm) 100 5 j = nI (cn j) := by rw [r1 5 (by omega) (by omega) (by omega)]; exact g2
      by_cases c1 : t = -1
      · by_cases c3 : cn j = 2
        · refine hno ?_ ?_
          · unfold f_X9_text f_X9_text_16 f_X9_text_36 f_X9_text_54
            rw [hcount, bn_s, if_pos c1, if_pos rfl, if_neg (n_nneg (by omega)), if_pos (nI_le (by omega) (by omega))]
            exact n1
          · rw [e0, hin, bn_s, if_pos rfl, if_pos c1, gin_n (by omega) (by omega), ix_n hj, e5, c3, if_pos rfl]
        · refine hgo (cn j) (by omega) (Or.inl ⟨c1, rfl⟩) ?_
          rw [e0, hin, bn_s, if_pos rfl, if_pos c1, gin_n (by omega) (by omega), ix_n hj, e5, if_neg (ne_n c3 (by omega) (by omega))]
      · have eis : ∀ b, f_X10_in t (nI 0) (nI (cn j) - nI 1) = some b → f_X10_is (M21 Mm) (nI j) t = some b := by
          intro b hb
          unfold f_X10_is
          rw [gin_n (by omega) (by omega), ix_n hj, e5, hb, bn_s]
        rcases int_cases t with ht | ⟨i, hi, rfl⟩
        · refine hno ?_ ?_
          · unfold f_X9_text f_X9_text_16 f_X9_text_53 f_X9_text_54
            rw [hcount, bn_s, if_neg c1, if_neg (by decide), if_pos (show t < nI 0 from ht)]
            exact n1
          · rw [e0, hin, bn_s, if_pos rfl, if_neg c1, eis false (in_neg ht 0 (by omega) _), bn_s, if_neg (by decide)]
        · by_cases c3 : i < cn j
          · refine hgo i (by omega) (Or.inr ⟨rfl, c3⟩) ?_
            rw [e0, hin, bn_s, if_pos rfl, if_neg c1, eis true (by rw [in_upto hi (by omega), decide_eq_true c3]), bn_s, if_pos rfl]
          · refine hno ?_ ?_
            · unfold f_X9_text f_X9_text_16 f_X9_text_53 f_X9_text_54
              rw [hcount, bn_s, if_neg c1, if_neg (by decide), if_neg (n_nneg hi), if_pos (nI_le (by omega) hi)]
              exact n1
            · rw [e0, hin, bn_s, if_pos rfl, if_neg c1, eis false (by rw [in_upto hi (by omega), decide_eq_false c3]), bn_s, if_neg (by decide)]
    · have hcount : f_X9_count Mx (nI j) = some (-2) := by
        unfold f_X9_count
        rw [if_neg (n_nneg hj), if_neg (nI_nlt (by omega) hj)]
      have ex : f_X9_text Mx (nI j) t = some (-2, Xn) := by
        unfold f_X9_text f_X9_text_16 f_X9_text_36 f_X9_text_53 f_X9_text_54
        rw [hcount, bn_s]
        by_cases c1 : t = -1
        · rw [if_pos c1, if_pos rfl, if_pos (by decide)]
          exact n1
        · rw [if_neg c1, if_neg (by decide)]
          by_cases c2 : t < nI 0
          · rw [if_pos c2]
            exact n1
          · rw [if_neg c2]
            rcases int_cases t with ht | ⟨i, hi, rfl⟩
            · exact absurd ht c2
            · rw [if_pos (Int32.le_of_lt (neg_lt (by decide) i hi))]
              exact n1
      refine ⟨-2, Xn, M21 Mm, ex, ?_, n2⟩
      rw [e0, in_n hj (by omega) (by omega), decide_eq_false (by omega), bn_s, if_neg (by decide)]
