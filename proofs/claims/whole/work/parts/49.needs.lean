/-! WHAT A SEAM NEEDS, WHAT LEANS ON IT -/
def rd (A : Nat → Nat) (S : Nat) : Nat → Nat
  | 0 => S
  | s + 1 => if (rd A S s).testBit s then rd A S s ||| A s else rd A S s
def itn (A : Nat → Nat) (n S : Nat) : Nat → Nat
  | 0 => S
  | j + 1 => rd A (itn A n S j) n
theorem rd_lt {A : Nat → Nat} {n S : Nat} (hA : ∀ s, s < n → A s < 2 ^ n) (hS : S < 2 ^ n) : ∀ s, s ≤ n → rd A S s < 2 ^ n := by
  intro s
  induction s with
  | zero => intro _; exact hS
  | succ s ih =>
    intro hs
    show (if (rd A S s).testBit s = true then _ else _) < _
    by_cases q : (rd A S s).testBit s = true
    · rw [if_pos q]; exact Nat.or_lt_two_pow (ih (by omega)) (hA s (by omega))
    · rw [if_neg q]; exact ih (by omega)
theorem itn_lt {A : Nat → Nat} {n S : Nat} (hA : ∀ s, s < n → A s < 2 ^ n) (hS : S < 2 ^ n) : ∀ j, itn A n S j < 2 ^ n := by
  intro j
  induction j with
  | zero => exact hS
  | succ j ih => exact rd_lt hA ih n (Nat.le_refl _)
theorem rd_mo (A : Nat → Nat) (S : Nat) (t : Nat) (h : S.testBit t = true) : ∀ s, (rd A S s).testBit t = true := by
  intro s
  induction s with
  | zero => exact h
  | succ s ih =>
    show (if (rd A S s).testBit s = true then rd A S s ||| A s else rd A S s).testBit t = true
    by_cases q : (rd A S s).testBit s = true
    · rw [if_pos q, Nat.testBit_or, ih]; rfl
    · rw [if_neg q, ih]
theorem rd_0 (A : Nat → Nat) : ∀ s, rd A 0 s = 0 := by
  intro s
  induction s with
  | zero => rfl
  | succ s ih =>
    show (if (rd A 0 s).testBit s = true then rd A 0 s ||| A s else rd A 0 s) = 0
    rw [ih, Nat.zero_testBit]
    rfl
theorem pc_str {S T n : Nat} (h : ∀ t, S.testBit t = true → T.testBit t = true) (hT : T < 2 ^ n) (hS : S < 2 ^ n) (hne : ¬ S = T) : pc S n < pc T n := by
  have : ∃ t, t < n ∧ S.testBit t = false ∧ T.testBit t = true := by
    apply Classical.byContradiction
    intro q
    apply hne
    apply Nat.eq_of_testBit_eq
    intro t
    cases h1 : S.testBit t with
    | true => rw [h t h1]
    | false =>
      cases h2 : T.testBit t with
      | false => rfl
      | true => exact absurd ⟨t, tb_lt hT h2, h1, h2⟩ q
  obtain ⟨t, h1, h2, h3⟩ := this
  have e := gS_add (fun s => if S.testBit s then 1 else 0) (fun s => if s = t then 1 else 0) n
  rw [gS_pick, if_pos h1] at e
  have := gS_le (f := fun i => (if S.testBit i = true then 1 else 0) + if i = t then 1 else 0) (g := fun s => if T.testBit s then 1 else 0) n (fun i _ => by
    show (if S.testBit i = true then 1 else 0) + (if i = t then 1 else 0) ≤ (if T.testBit i = true then 1 else 0)
    by_cases q : i = t
    · subst q; simp [h2, h3]
    · rw [if_neg q]
      by_cases r : S.testBit i = true
      · rw [if_pos r, if_pos (h i r)]; omega
      · rw [if_neg r]; omega)
  unfold pc
  omega
theorem itn_st {A : Nat → Nat} {n S j : Nat} (h : itn A n S j = itn A n S (j + 1)) : ∀ d, itn A n S (j + d) = itn A n S j := by
  intro d
  induction d with
  | zero => rfl
  | succ d ih =>
    show rd A (itn A n S (j + d)) n = _
    rw [ih]
    exact h.symm
theorem itn_9 {A : Nat → Nat} {n S : Nat} (hA : ∀ s, s < n → A s < 2 ^ n) (hS : S < 2 ^ n) (hn : n ≤ 9) : itn A n S 9 = itn A n S n := by
  have key : ∃ j, j ≤ n ∧ itn A n S j = itn A n S (j + 1) := by
    apply Classical.byContradiction
    intro q
    have h1 : ∀ j, j ≤ n → pc (itn A n S j) n < pc (itn A n S (j + 1)) n := fun j hj => pc_str (fun t h => rd_mo A _ t h n) (itn_lt hA hS _) (itn_lt hA hS _) (fun e => q ⟨j, hj, e⟩)
    have h2 : ∀ j, j ≤ n + 1 → j ≤ pc (itn A n S j) n := by
      intro j
      induction j with
      | zero => intro _; exact Nat.zero_le _
      | succ j ih =>
        intro hj
        have := ih (by omega)
        have := h1 j (by omega)
        omega
    have := h2 (n + 1) (by omega)
    have := pc_le (itn A n S (n + 1)) n
    omega
  obtain ⟨j, h1, h2⟩ := key
  have e1 := itn_st h2 (n - j)
  have e2 := itn_st h2 (9 - j)
  rw [show j + (n - j) = n by omega] at e1
  rw [show j + (9 - j) = 9 by omega] at e2
  rw [e1, e2]
def ndS (C : CoatA) (s : Nat) : Nat := itn (cAf C) (cN C) (cAf C s) (cN C)
theorem nd_lt {C : CoatA} (hV : CV C) {s : Nat} (hs : s < cN C) : ndS C s < 2 ^ cN C := itn_lt (Od_A hV) (Od_A hV s hs) _
theorem needs_v {M : Mem} {o : Nat} {C : CoatA} (hX : CX M o C) (hV : CV C) {s : Nat} (hs : s < cN C) : f_X0_needs M o (nI s) = some (nI (ndS C s)) := by
  have hn := hV.1
  have w := (pw9 (cN C) (by omega)).2.1
  have h0 := hX.1
  unfold f_X0_needs
  rw [hasSeam_v h0 (by omega) (by omega), bn_s, if_pos (dT hs), gin_n (by omega) (by omega), ix_n (by omega), hX.2.2.2.1 s (by omega)]
  unfold f_X0_needs_18 f_X0_needs_21
  refine lpU_for (fun j => (nI (itn (cAf C) (cN C) (cAf C s) j), nI j)) (cN C) (some (nI (ndS C s))) (by omega) 0 (Nat.zero_le _) ?_ ?_
  · intro rc
    show b_X0_needs_21 M o (nI s) _ (nI (itn (cAf C) (cN C) (cAf C s) (cN C))) (nI (cN C)) = _
    unfold b_X0_needs_21
    rw [h0, if_pos (nI_le (Nat.le_refl _) (by omega))]
    rfl
  · intro rc j _ hj
    show b_X0_needs_21 M o (nI s) _ (nI (itn (cAf C) (cN C) (cAf C s) j)) (nI j) = _
    unfold b_X0_needs_21
    rw [h0, if_neg (nI_ge hj (by omega))]
    have hl := itn_lt (Od_A hV) (Od_A hV s hs) j
    unfold f_X0_needs_32
    refine lpU_for (fun t => (nI (rd (cAf C) (itn (cAf C) (cN C) (cAf C s) j) t), nI t)) (cN C) _ (by omega) 0 (Nat.zero_le _) ?_ ?_
    · intro rc2
      show b_X0_needs_32 M o (nI s) _ (nI j) _ (nI (rd (cAf C) _ (cN C))) (nI (cN C)) = _
      unfold b_X0_needs_32
      rw [h0, if_pos (nI_le (Nat.le_refl _) (by omega)), nI_add, nm_s]
      rfl
    · intro rc2 t _ ht
      show b_X0_needs_32 M o (nI s) _ (nI j) _ (nI (rd (cAf C) _ t)) (nI t) = rc2 (nI (if _ then _ else _), nI (t + 1))
      unfold b_X0_needs_32
      have hl2 := rd_lt (Od_A hV) hl t (by omega)
      rw [h0, if_neg (nI_ge ht (by omega)), ite_p (bit_n (by omega) (by omega))]
      unfold f_X0_needs_61
      by_cases q : (rd (cAf C) (itn (cAf C) (cN C) (cAf C s) j) t).testBit t = true
      · rw [if_pos q, if_pos q, gin_n (by omega) (by omega), ix_n (by omega), hX.2.2.2.1 t (by omega), or_n, nm_s, nI_add, nm_s]
      · rw [if_neg q, if_neg q, nI_add, nm_s]
theorem ahead_v {M : Mem} {k : Nat} {C : CoatA} (hH : MH M k C) (hV : CV C) {s : Nat} (hs : s < cN C) : f_X10_ahead M (nI s) = some (nI (ndS C s)) := by
  have hn := hV.1
  have w := (pw9 (cN C) (by omega)).2.1
  have h0 := hH.2.2.1
  obtain ⟨hk, y0, -, -, -, -, -, m3, -⟩ := hH
  unfold f_X10_ahead ndS
  rw [← itn_9 (Od_A hV) (Od_A hV s hs) hn, nI_add, of_v y0 hk (by omega), m3 s (by omega), bn_s]
  unfold f_X10_ahead_11
  refine lpU_for (fun j => (nI (itn (cAf C) (cN C) (cAf C s) j), nI j)) 9 (some (nI (itn (cAf C) (cN C) (cAf C s) 9))) (by omega) 0 (Nat.zero_le _) ?_ ?_
  · intro rc
    show b_X10_ahead_11 M (nI s) _ (nI (itn (cAf C) (cN C) (cAf C s) 9)) (nI 9) = _
    unfold b_X10_ahead_11
    rw [if_pos (nI_le (Nat.le_refl _) (by omega))]
  · intro rc j _ hj
    show b_X10_ahead_11 M (nI s) _ (nI (itn (cAf C) (cN C) (cAf C s) j)) (nI j) = _
    unfold b_X10_ahead_11
    rw [if_neg (nI_ge hj (by omega))]
    have hl := itn_lt (Od_A hV) (Od_A hV s hs) j
    unfold f_X10_ahead_20
    refine lpU_for (fun t => (nI (rd (cAf C) (itn (cAf C) (cN C) (cAf C s) j) t), nI t)) (cN C) _ (by omega) 0 (Nat.zero_le _) ?_ ?_
    · intro rc2
      show b_X10_ahead_20 M (nI s) _ (nI j) _ (nI (rd (cAf C) _ (cN C))) (nI (cN C)) = _
      unfold b_X10_ahead_20
      rw [h0, if_pos (nI_le (Nat.le_refl _) (by omega)), nI_add, nm_s]
      rfl
    · intro rc2 t _ ht
      show b_X10_ahead_20 M (nI s) _ (nI j) _ (nI (rd (cAf C) _ t)) (nI t) = rc2 (nI (if _ then _ else _), nI (t + 1))
      unfold b_X10_ahead_20
      have hl2 := rd_lt (Od_A hV) hl t (by omega)
      rw [h0, if_neg (nI_ge ht (by omega)), has_v (by omega) (by omega), bn_s]
      unfold f_X10_ahead_52
      by_cases q : (rd (cAf C) (itn (cAf C) (cN C) (cAf C s) j) t).testBit t = true
      · rw [if_pos q, if_pos q, nI_add, of_v y0 hk (by omega), m3 t (by omega), bn_s, or_n, nm_s, nI_add, nm_s]
      · rw [if_neg q, if_neg q, or_n, nm_s, nI_add, nm_s, Nat.or_zero]
def lnS (C : CoatA) (s : Nat) : Nat → Nat
  | 0 => 0
  | t + 1 => if (ndS C t).testBit s then lnS C s t ||| 2 ^ t else lnS C s t
theorem ln_lt {C : CoatA} (s : Nat) : ∀ t, t ≤ cN C → lnS C s t < 2 ^ cN C := by
  intro t
  induction t with
  | zero => intro _; exact Nat.two_pow_pos _
  | succ t ih =>
    intro ht
    show (if (ndS C t).testBit s = true then _ else _) < _
    by_cases q : (ndS C t).testBit s = true
    · rw [if_pos q]; exact or_lt (ih (by omega)) (by omega)
    · rw [if_neg q]; exact ih (by omega)
theorem leans_v {M : Mem} {o : Nat} {C : CoatA} (hX : CX M o C) (hV : CV C) {s : Nat} (hs : s < cN C) : f_X0_leans M o (nI s) = some (nI (lnS C s (cN C))) := by
  have hn := hV.1
  have w := (pw9 (cN C) (by omega)).2.1
  have h0 := hX.1
  unfold f_X0_leans f_X0_leans_4
  refine lpU_for (fun t => (nI (lnS C s t), nI t)) (cN C) (some (nI (lnS C s (cN C)))) (by omega) 0 (Nat.zero_le _) ?_ ?_
  · intro rc
    show b_X0_leans_4 M o (nI s) _ (nI (lnS C s (cN C))) (nI (cN C)) = _
    unfold b_X0_leans_4
    rw [h0, if_pos (nI_le (Nat.le_refl _) (by omega))]
  · intro rc t _ ht
    show b_X0_leans_4 M o (nI s) _ (nI (lnS C s t)) (nI t) = rc (nI (if _ then _ else _), nI (t + 1))
    unfold b_X0_leans_4
    have hl := nd_lt hV ht
    rw [h0, if_neg (nI_ge ht (by omega)), hasSeam_v h0 (by omega) (by omega), bn_s, if_pos (dT hs), needs_v hX hV ht, bn_s, ite_p (bit_n (by omega) (by omega))]
    unfold f_X0_leans_39
    by_cases q : (ndS C t).testBit s = true
    · rw [if_pos q, if_pos q, or_nI (by omega), nm_s, nI_add, nm_s]
    · rw [if_neg q, if_neg q, nI_add, nm_s]
theorem behind_v {M : Mem} {k : Nat} {C : CoatA} (hH : MH M k C) (hV : CV C) {s : Nat} (hs : s < cN C) : f_X10_behind M (nI s) = some (nI (lnS C s (cN C))) := by
  have hn := hV.1
  have w := (pw9 (cN C) (by omega)).2.1
  have h0 := hH.2.2.1
  unfold f_X10_behind f_X10_behind_4
  refine lpU_for (fun t => (nI (lnS C s t), nI t)) (cN C) (some (nI (lnS C s (cN C)))) (by omega) 0 (Nat.zero_le _) ?_ ?_
  · intro rc
    show b_X10_behind_4 M (nI s) _ (nI (lnS C s (cN C))) (nI (cN C)) = _
    unfold b_X10_behind_4
    rw [h0, if_pos (nI_le (Nat.le_refl _) (by omega))]
  · intro rc t _ ht
    show b_X10_behind_4 M (nI s) _ (nI (lnS C s t)) (nI t) = rc (nI (if _ then _ else _), nI (t + 1))
    unfold b_X10_behind_4
    have hl := nd_lt hV ht
    rw [h0, if_neg (nI_ge ht (by omega)), ahead_v hH hV ht, bn_s, has_v (by omega) (by omega), bn_s]
    unfold f_X10_behind_32
    by_cases q : (ndS C t).testBit s = true
    · rw [if_pos q, if_pos q, or_nI (by omega), nm_s, nI_add, nm_s]
    · rw [if_neg q, if_neg q, or_n, nm_s, nI_add, nm_s, Nat.or_zero]
/-! stitches of a set -/
def stS (C : CoatA) (S : Nat) : Nat → Nat := gSum (fun s => if S.testBit s then cSt C s else 0)
theorem st_le {C : CoatA} (hV : CV C) (S : Nat) {n : Nat} (hn : n ≤ cN C) : stS C S n ≤ 81 := by
  have := gS_le (f := fun s => if S.testBit s then cSt C s else 0) (g := fun _ => 9) n (fun i hi => by
    have := (hV.2.2.1 i (by omega)).1
    show (if S.testBit i = true then _ else _) ≤ 9
    split <;> omega)
  rw [gS_const] at this
  have := hV.1
  unfold stS
  omega
theorem st_pos {C : CoatA} (hV : CV C) {S s n : Nat} (hs : s < n) (hn : n ≤ cN C) (h : S.testBit s = true) : 1 ≤ stS C S n := by
  have e := gS_pick s 1 n
  rw [if_pos hs] at e
  have := gS_le (f := fun i => if i = s then 1 else 0) (g := fun s => if S.testBit s then cSt C s else 0) n (fun i hi => by
    have := (hV.2.2.1 i (by omega)).1
    by_cases q : i = s
    · subst q
      simp only [h, if_true]
      omega
    · simp only [q, if_false]
      exact Nat.zero_le _)
  unfold stS
  omega
theorem stitchesOf_v {M : Mem} {o : Nat} {C : CoatA} (hX : CX M o C) (hV : CV C) {S : Nat} (hS : S < 512) : f_X0_stitchesOf M o (nI S) = some (nI (stS C S (cN C))) := by
  have hn := hV.1
  have h0 := hX.1
  unfold f_X0_stitchesOf f_X0_stitchesOf_4
  refine lpU_for (fun t => (nI (stS C S t), nI t)) (cN C) (some (nI (stS C S (cN C)))) (by omega) 0 (Nat.zero_le _) ?_ ?_
  · intro rc
    show b_X0_stitchesOf_4 M o (nI S) _ (nI (stS C S (cN C))) (nI (cN C)) = _
    unfold b_X0_stitchesOf_4
    rw [h0, if_pos (nI_le (Nat.le_refl _) (by omega))]
  · intro rc t _ ht
    show b_X0_stitchesOf_4 M o (nI S) _ (nI (stS C S t)) (nI t) = rc (nI (stS C S t + if S.testBit t = true then cSt C t else 0), nI (t + 1))
    unfold b_X0_stitchesOf_4
    rw [h0, if_neg (nI_ge ht (by omega)), ite_p (bit_n (by omega) (by omega))]
    unfold f_X0_stitchesOf_30
    by_cases q : S.testBit t = true
    · rw [if_pos q, if_pos q, gin_n (by omega) (by omega), ix_n (by omega), (hX.2.2.1 t ht).1, nI_add, nm_s, nI_add, nm_s]
    · rw [if_neg q, if_neg q, nI_add, nm_s]
      rfl
theorem stitches_v {M : Mem} {k : Nat} {C : CoatA} (hH : MH M k C) (hV : CV C) {S : Nat} (hS : S < 512) : f_X10_stitches M (nI S) = some (nI (stS C S (cN C))) := by
  have hn := hV.1
  have h0 := hH.2.2.1
  obtain ⟨hk, y0, -, -, -, -, m2, -⟩ := hH
  unfold f_X10_stitches f_X10_stitches_4
  refine lpU_for (fun t => (nI (stS C S t), nI t)) (cN C) (some (nI (stS C S (cN C)))) (by omega) 0 (Nat.zero_le _) ?_ ?_
  · intro rc
    show b_X10_stitches_4 M (nI S) _ (nI (stS C S (cN C))) (nI (cN C)) = _
    unfold b_X10_stitches_4
    rw [h0, if_pos (nI_le (Nat.le_refl _) (by omega))]
  · intro rc t _ ht
    show b_X10_stitches_4 M (nI S) _ (nI (stS C S t)) (nI t) = rc (nI (stS C S t + if S.testBit t = true then cSt C t else 0), nI (t + 1))
    unfold b_X10_stitches_4
    rw [h0, if_neg (nI_ge ht (by omega)), has_v (by omega) (by omega), bn_s]
    unfold f_X10_stitches_32
    by_cases q : S.testBit t = true
    · rw [if_pos q, if_pos q, nI_add, of_v y0 hk (by omega), (m2 t ht).1, bn_s, nI_add, nm_s, nI_add, nm_s]
    · rw [if_neg q, if_neg q, nI_add, nm_s, nI_add, nm_s]
theorem upd_div {a p : Nat} (ha : 1 ≤ a) (hp : 0 < p) : (a + p - 1) / p = (a - 1) / p + 1 := by
  rw [show a + p - 1 = (a - 1) + p by omega, Nat.add_div_right _ hp]
theorem q_under {Mx Mm : Mem} (H : Rl Mx Mm) (a s w : Int32) : EqI Mx Mm (f_X9_under Mx a s w) (f_X10_under Mm a s w) := by
  have h0 := FM_sI Mm (o := 100) (k := 0) (v := nI 0)
  unfold f_X9_under f_X10_under
  rw [nm_s]
  rcases ordered_cases H a with ⟨M', e1, e2, e3⟩ | ⟨k, C, r, M', hk, rfl, hO, e1, e2, ⟨hS, hR⟩, e3⟩
  · obtain ⟨c, M1, g1, g2, g3⟩ := e3 _ h0
    rw [e1, g1, bp_s, opt_none, bp_s]
    cases c with
    | false => exact ⟨_, _, _, rfl, rfl, Rl_fr H e2 (FM_tr h0 g2)⟩
    | true =>
      obtain ⟨⟨n, hn, g4⟩, M2, g5, g6⟩ := g3 rfl
      rw [if_pos rfl]
      have hR1 := Rl_fr H e2 (FM_tr h0 g2)
      have hR2 := Rl_fr H e2 (FM_tr h0 (FM_tr g2 g6))
      rcases int_cases s with hs | ⟨s, hs, rfl⟩
      · rw [isSeam_neg hs]
        exact ⟨_, _, _, rfl, rfl, hR1⟩
      rw [isSeam_v g4 (by omega) hs, bn_s]
      by_cases c1 : s < n
      · rw [if_pos (dT c1)]
        rcases int_cases w with hw | ⟨w, hw, rfl⟩
        · rw [in_neg hw 0 (by omega)]
          exact ⟨_, _, _, rfl, rfl, hR1⟩
        rw [in_n hw (by omega) (by omega), bn_s]
        by_cases c2 : 0 ≤ w ∧ w ≤ 1
        · rw [if_pos (dT c2), g5]
          exact ⟨_, _, _, rfl, rfl, hR2⟩
        · rw [if_neg (dF c2)]
          exact ⟨_, _, _, rfl, rfl, hR1⟩
      · rw [if_neg (dF c1)]
        exact ⟨_, _, _, rfl, rfl, hR1⟩
  · obtain ⟨M1, M2, g1, g2, g3, g4, g5, ⟨g6, g7, g8⟩⟩ := e3 _ h0
    rw [e1, g1, bp_s, opt_some, bp_s, if_pos rfl]
    have hV := hO.1
    have hn := hV.1
    have hR1 := Rl_fr H e2 (FM_tr h0 g2)
    have hR2 := Rl_fr H e2 (FM_tr h0 (FM_tr g2 g5))
    have hX := hS.2.2.1
    have w2 := (pw9 (cN C) (by omega)).2.1
    rcases int_cases s with hs | ⟨s, hs, rfl⟩
    · rw [isSeam_neg hs, hasSeam_neg hs]
      exact ⟨_, _, _, rfl, rfl, hR1⟩
    rw [isSeam_v g3 (by omega) hs, bn_s, hasSeam_v hX.1 (by omega) hs, bn_s]
    by_cases c1 : s < cN C
    · rw [if_pos (dT c1), if_pos (dT c1)]
      rcases int_cases w with hw | ⟨w, hw, rfl⟩
      · rw [in_neg hw 0 (by omega), if_neg (neg_ne hw 0 (by omega)), if_neg (neg_ne hw 1 (by omega))]
        exact ⟨_, _, _, rfl, rfl, hR1⟩
      rw [in_n hw (by omega) (by omega), bn_s]
      by_cases c2 : w = 0
      · subst c2
        rw [if_pos rfl, if_pos (dT (by omega)), g4, bp_s, if_pos rfl, if_pos rfl, leans_v hX hV c1, behind_v g6 hV c1]
        exact ⟨_, _, _, rfl, rfl, hR2⟩
      by_cases c3 : w = 1
      · subst c3
        have hl := nd_lt hV c1
        have hlo := or_lt hl c1
        have b1 := st_le hV (ndS C s ||| 2 ^ s) (Nat.le_refl _)
        have b2 := st_pos hV (S := ndS C s ||| 2 ^ s) c1 (Nat.le_refl _) (by rw [or_tb]; simp)
        have hp := hV.2.1
        rw [if_neg (ne_n c2 (by omega) (by omega)), if_pos rfl, if_pos (dT (by omega)), g4, bp_s, if_pos rfl, if_neg (ne_n c2 (by omega) (by omega)), needs_v hX hV c1, ahead_v g6 hV c1, bn_s, bn_s, or_nI (by omega), stitchesOf_v hX hV (by omega), stitches_v g6 hV (by omega), bn_s, bn_s, hX.2.1, g6.2.2.2.1, begun_v (by omega) (by omega) (by omega), bn_s, upd_div b2 (by omega), sub_n (Nat.le_add_left 1 _), gnz_n (by omega) (by omega), sub_n b2, div_n (by omega) (by omega) (by omega)]
        exact ⟨_, _, _, rfl, rfl, hR2⟩
      · rw [if_neg (ne_n c2 (by omega) (by omega)), if_neg (ne_n c3 (by omega) (by omega)), if_neg (dF (by omega))]
        exact ⟨_, _, _, rfl, rfl, hR1⟩
    · rw [if_neg (dF c1), if_neg (dF c1)]
      exact ⟨_, _, _, rfl, rfl, hR1⟩
