/-! HANDS: k tailors, day by day -/
abbrev HQ : Type := Nat × (Nat → Nat) × (Nat → Nat) × Nat
def dS (z : Nat → Nat) (t : Nat) : Nat → Nat
  | 0 => 0
  | s + 1 => if 0 < z s ∧ z s ≤ t then dS z t s ||| 2 ^ s else dS z t s
theorem dS_tb (z : Nat → Nat) (t : Nat) : ∀ n o, (dS z t n).testBit o = true ↔ o < n ∧ 0 < z o ∧ z o ≤ t := by
  intro n
  induction n with
  | zero =>
    intro o
    show (0 : Nat).testBit o = true ↔ _
    rw [Nat.zero_testBit]
    simp
  | succ n ih =>
    intro o
    show (if 0 < z n ∧ z n ≤ t then dS z t n ||| 2 ^ n else dS z t n).testBit o = true ↔ _
    by_cases q : 0 < z n ∧ z n ≤ t
    · rw [if_pos q, or_tb, Bool.or_eq_true, decide_eq_true_eq, ih o]
      constructor
      · rintro (h | h)
        · exact ⟨by omega, h.2⟩
        · subst h; exact ⟨by omega, q⟩
      · intro h
        by_cases r : o = n
        · exact Or.inr r.symm
        · exact Or.inl ⟨by omega, h.2⟩
    · rw [if_neg q, ih o]
      constructor
      · intro h; exact ⟨by omega, h.2⟩
      · intro h
        refine ⟨?_, h.2⟩
        by_cases r : o = n
        · subst r; exact absurd h.2 q
        · omega
theorem dS_lt (z : Nat → Nat) (t : Nat) : ∀ n m, n ≤ m → dS z t n < 2 ^ m := by
  intro n
  induction n with
  | zero => intro m _; exact Nat.two_pow_pos m
  | succ n ih =>
    intro m h
    show (if 0 < z n ∧ z n ≤ t then dS z t n ||| 2 ^ n else dS z t n) < 2 ^ m
    split
    · exact or_lt (ih m (by omega)) (by omega)
    · exact ih m (by omega)
def rdy (C : CoatA) (q : HQ) (t s : Nat) : Bool := !q.1.testBit s && (cAf C s &&& (dS q.2.1 t (cN C) ^^^ 4294967295) == 0)
def hst (C : CoatA) (t i : Nat) (q : HQ) : HQ :=
  if q.2.2.1 i ≤ t ∧ nx (rdy C q t) (cN C) < cN C then (q.1 ||| 2 ^ nx (rdy C q t) (cN C), (fun x => if x = nx (rdy C q t) (cN C) then t + wtP C (cP C) (nx (rdy C q t) (cN C)) else q.2.1 x), (fun x => if x = i then t + wtP C (cP C) (nx (rdy C q t) (cN C)) else q.2.2.1 x), max q.2.2.2 (t + wtP C (cP C) (nx (rdy C q t) (cN C)))) else q
def hdy (C : CoatA) (t : Nat) : Nat → HQ → HQ
  | 0 => fun q => q
  | i + 1 => fun q => hst C t i (hdy C t i q)
def hrn (C : CoatA) (k : Nat) : Nat → HQ
  | 0 => (0, fun _ => 0, fun _ => 0, 0)
  | t + 1 => hdy C t k (hrn C k t)
def HI (C : CoatA) (q : HQ) : Prop := q.1 < 2 ^ cN C ∧ (∀ s, s < cN C → ((q.1.testBit s = true) ↔ 0 < q.2.1 s) ∧ q.2.1 s ≤ q.2.2.2) ∧ (∀ s, cN C ≤ s → q.2.1 s = 0) ∧ (∀ i, q.2.2.1 i ≤ 110) ∧ q.2.2.2 ≤ 110 ∧ (q.2.2.2 = 0 ∨ ∃ s, s < cN C ∧ q.2.1 s = q.2.2.2)
theorem hst_I {C : CoatA} (hV : CV C) {t i : Nat} (ht : t < 100) {q : HQ} (h : HI C q) : HI C (hst C t i q) := by
  unfold hst
  by_cases c : q.2.2.1 i ≤ t ∧ nx (rdy C q t) (cN C) < cN C
  · rw [if_pos c]
    have hs := c.2
    have hr := nx_hit hs
    have hw := wtP_le hV (p := cP C) (by have := hV.2.1; omega) hs
    generalize nx (rdy C q t) (cN C) = s at hs hr hw ⊢
    generalize wtP C (cP C) s = v at hw ⊢
    obtain ⟨h1, h2, h3, h4, h5, h6⟩ := h
    have hb : q.1.testBit s = false := by
      unfold rdy at hr
      rw [Bool.and_eq_true] at hr
      simpa using hr.1
    have hz : q.2.1 s = 0 := by
      have := (h2 s hs).1
      rw [hb] at this
      by_cases e : q.2.1 s = 0
      · exact e
      · exact absurd (this.mpr (by omega)) (by decide)
    refine ⟨or_lt h1 hs, fun x hx => ⟨?_, ?_⟩, fun x hx => ?_, fun x => ?_, ?_, ?_⟩
    · show (q.1 ||| 2 ^ s).testBit x = true ↔ 0 < (if x = s then t + v else q.2.1 x)
      rw [or_tb, Bool.or_eq_true, decide_eq_true_eq]
      by_cases e : x = s
      · rw [if_pos e]
        exact ⟨fun _ => by omega, fun _ => Or.inr e.symm⟩
      · rw [if_neg e, ← (h2 x hx).1]
        exact ⟨fun h => h.elim id (fun z => absurd z.symm e), Or.inl⟩
    · show (if x = s then t + v else q.2.1 x) ≤ max q.2.2.2 (t + v)
      by_cases e : x = s
      · rw [if_pos e]; exact Nat.le_max_right _ _
      · rw [if_neg e]; exact Nat.le_trans (h2 x hx).2 (Nat.le_max_left _ _)
    · show (if x = s then t + v else q.2.1 x) = 0
      rw [if_neg (by omega)]
      exact h3 x hx
    · show (if x = i then t + v else q.2.2.1 x) ≤ 110
      have := h4 x
      split <;> omega
    · show max q.2.2.2 (t + v) ≤ 110
      exact Nat.max_le.mpr ⟨h5, by omega⟩
    · show max q.2.2.2 (t + v) = 0 ∨ ∃ x, x < cN C ∧ (if x = s then t + v else q.2.1 x) = max q.2.2.2 (t + v)
      right
      by_cases e : q.2.2.2 ≤ t + v
      · exact ⟨s, hs, by rw [if_pos rfl, Nat.max_eq_right e]⟩
      · rw [Nat.max_eq_left (by omega)]
        rcases h6 with h6 | ⟨x, a, b⟩
        · omega
        · refine ⟨x, a, ?_⟩
          rw [if_neg (fun z => by rw [z, hz] at b; omega), b]
  · rw [if_neg c]; exact h
theorem hdy_I {C : CoatA} (hV : CV C) {t : Nat} (ht : t < 100) {q : HQ} (h : HI C q) : ∀ i, HI C (hdy C t i q) := by
  intro i
  induction i with
  | zero => exact h
  | succ i ih => exact hst_I hV ht ih
theorem hrn_I {C : CoatA} (hV : CV C) (k : Nat) : ∀ t, t ≤ 100 → HI C (hrn C k t) := by
  intro t
  induction t with
  | zero =>
    intro _
    refine ⟨Nat.two_pow_pos _, fun s _ => ⟨?_, Nat.le_refl _⟩, fun _ _ => rfl, fun _ => Nat.zero_le _, Nat.zero_le _, Or.inl rfl⟩
    show (0 : Nat).testBit s = true ↔ (0 : Nat) < 0
    rw [Nat.zero_testBit]
    simp
  | succ t ih => intro h; exact hdy_I hV (by omega) (ih (by omega)) k
theorem hst_all {C : CoatA} {t i : Nat} {q : HQ} (h : q.1 = 2 ^ cN C - 1) : hst C t i q = q := by
  unfold hst
  rw [if_neg]
  rintro ⟨-, h2⟩
  have h3 := nx_hit h2
  generalize nx (rdy C q t) (cN C) = s at h2 h3
  unfold rdy at h3
  rw [Bool.and_eq_true, h, all_tb] at h3
  simp [h2] at h3
theorem hdy_all {C : CoatA} {t : Nat} {q : HQ} (h : q.1 = 2 ^ cN C - 1) : ∀ i, hdy C t i q = q := by
  intro i
  induction i with
  | zero => rfl
  | succ i ih => show hst C t i (hdy C t i q) = q; rw [ih, hst_all h]
theorem hrn_all {C : CoatA} {k t : Nat} (h : (hrn C k t).1 = 2 ^ cN C - 1) : ∀ d, hrn C k (t + d) = hrn C k t := by
  intro d
  induction d with
  | zero => rfl
  | succ d ih =>
    show hdy C (t + d) k (hrn C k (t + d)) = _
    rw [ih, hdy_all h]
/-! the class -/
def p56 : Nat → Bool := fun k => k == 5 || k == 6
def HX (M : Mem) (q : HQ) : Prop := (∀ s, s < 9 → gA M 17 5 s = nI (if q.2.1 s = 0 then 1000000 else q.2.1 s)) ∧ ∀ i, i < 4 → gA M 17 6 i = nI (q.2.2.1 i)
theorem readyOn_v {M : Mem} {o : Nat} {C : CoatA} (h : SQ M o C (cAf C) (fun _ => 511)) {q : HQ} (hI : HI C q) (hX : HX M q) {t : Nat} (ht : t < 100) : f_X3_readyOn M (nI t) (nI q.1) = some (if nx (rdy C q t) (cN C) < cN C then nI (nx (rdy C q t) (cN C)) else -1) := by
  have hV := h.2.2.2.1
  have hn := hV.1
  have w := (pw9 (cN C) (by omega)).2.1
  have h17 : gI M 17 1 = nI (cN C) := h.2.2.2.2.1
  have hD := dS_lt q.2.1 t (cN C) (cN C) (Nat.le_refl _)
  have hl := nx_le (rdy C q t) (cN C)
  have h1 := hI.1
  have k2 : f_X3_readyOn_41 M (nI t) (nI q.1) (nI (dS q.2.1 t (cN C))) FU (nI 0) = some (if nx (rdy C q t) (cN C) < cN C then nI (nx (rdy C q t) (cN C)) else -1) := by
    unfold f_X3_readyOn_41
    refine lpU_find (fun s => nI s) (cN C) (fun m => some (if m < cN C then nI m else -1)) (fun s => rdy C q t s = true) (by omega) ?_ ?_ ?_ _ hl (fun j hj => by rw [nx_min hj]; decide) (fun z => nx_hit z) 0 (Nat.zero_le _)
    · intro rc
      show b_X3_readyOn_41 M (nI t) (nI q.1) _ _ (nI (cN C)) = _
      unfold b_X3_readyOn_41
      rw [h17, if_pos (nI_le (Nat.le_refl _) (by omega)), if_neg (Nat.lt_irrefl _)]
    · intro rc s hs hst
      show b_X3_readyOn_41 M (nI t) (nI q.1) _ _ (nI s) = _
      unfold b_X3_readyOn_41
      have hA := Od_A hV s hs
      have hst2 := hst
      unfold rdy at hst2
      rw [Bool.and_eq_true, beq_iff_eq] at hst2
      rw [h17, if_neg (nI_ge hs (by omega)), ite_p (bit0_n (by omega) (by omega)), if_pos (by simpa using hst2.1), gin_n (by omega) (by omega), ix_n (by omega), (h.2.2.2.2.2 s (by omega)).1.1, not_n, hst2.2, if_pos rfl, if_pos hs]
    · intro rc s hs hst
      show b_X3_readyOn_41 M (nI t) (nI q.1) _ _ (nI s) = _
      unfold b_X3_readyOn_41 f_X3_readyOn_76
      have hA := Od_A hV s hs
      rw [h17, if_neg (nI_ge hs (by omega)), ite_p (bit0_n (by omega) (by omega)), gin_n (by omega) (by omega), ix_n (by omega), (h.2.2.2.2.2 s (by omega)).1.1, not_n, ite_p (eq_n (a := cAf C s &&& (dS q.2.1 t (cN C) ^^^ 4294967295)) (b := 0) (by have := and_lt (b := dS q.2.1 t (cN C) ^^^ 4294967295) hA; omega) (by omega)), nI_add, nm_s]
      by_cases c1 : q.1.testBit s = false
      · by_cases c2 : cAf C s &&& (dS q.2.1 t (cN C) ^^^ 4294967295) = 0
        · exact absurd (by unfold rdy; rw [c1, c2]; rfl) hst
        · rw [if_pos c1, if_neg c2]
      · rw [if_neg c1]
  rw [← k2]
  unfold f_X3_readyOn f_X3_readyOn_5
  refine lpU_for (fun s => (nI (dS q.2.1 t s), nI s)) (cN C) _ (by omega) 0 (Nat.zero_le _) ?_ ?_
  · intro rc
    show b_X3_readyOn_5 M (nI t) (nI q.1) _ _ (nI (cN C)) = _
    unfold b_X3_readyOn_5
    rw [h17, if_pos (nI_le (Nat.le_refl _) (by omega))]
  · intro rc s _ hs
    show b_X3_readyOn_5 M (nI t) (nI q.1) _ _ (nI s) = rc (nI (if 0 < q.2.1 s ∧ q.2.1 s ≤ t then _ else _), nI (s + 1))
    unfold b_X3_readyOn_5 f_X3_readyOn_32
    have hz := (hI.2.1 s hs).2
    have hm := hI.2.2.2.2.1
    rw [h17, if_neg (nI_ge hs (by omega)), gin_n (by omega) (by omega), ix_n (by omega), hX.1 s (by omega), or_nI (by omega), nI_add, nm_s, nm_s, nm_s]
    by_cases c : 0 < q.2.1 s ∧ q.2.1 s ≤ t
    · rw [if_pos c, if_neg (show ¬ q.2.1 s = 0 by omega), if_neg (nI_nlt (by omega) (by omega))]
    · rw [if_neg c]
      by_cases c2 : q.2.1 s = 0
      · rw [if_pos c2, if_pos (nI_lt (by omega) (by omega))]
      · rw [if_neg c2, if_pos (nI_lt (by omega) (by omega))]
theorem tailor_v {M : Mem} {o : Nat} {C : CoatA} (h : SQ M o C (cAf C) (fun _ => 511)) {q : HQ} (hI : HI C q) (hX : HX M q) {t i k : Nat} (ht : t < 100) (hi : i < 4) (hik : i < k) (hk : k ≤ 4) (k24 : Int32 → Int32 → Int32 → Mem → Option (Int32 × Mem)) (rc : Int32 → Int32 → Int32 → Mem → Option (Int32 × Mem)) : ∃ M', FK 17 p56 M M' ∧ HX M' (hst C t i q) ∧ b_X3_daysOfTailors_46 (nI k) k24 (nI t) rc (nI q.1) (nI q.2.2.2) (nI i) M = rc (nI (hst C t i q).1) (nI (hst C t i q).2.2.2) (nI (i + 1)) M' := by
  have hV := h.2.2.2.1
  have hn := hV.1
  have w := (pw9 (cN C) (by omega)).2.1
  have hf := hI.2.2.2.1 i
  have hm := hI.2.2.2.2.1
  unfold b_X3_daysOfTailors_46
  rw [if_neg (nI_ge hik (by omega)), if_neg (nI_ge hi (by omega)), gin_n (by omega) (by omega), ix_n (by omega), hX.2 i hi]
  have non : hst C t i q = q → ∃ M', FK 17 p56 M M' ∧ HX M' (hst C t i q) ∧ f_X3_daysOfTailors_81 (nI k) (nI t) rc (nI q.1) (nI q.2.2.2) (nI i) (-1) M = rc (nI (hst C t i q).1) (nI (hst C t i q).2.2.2) (nI (i + 1)) M' := by
    intro e
    rw [e]
    unfold f_X3_daysOfTailors_81 f_X3_daysOfTailors_152
    rw [if_pos rfl, nI_add, nm_s]
    exact ⟨M, FK_rf M, hX, rfl⟩
  by_cases c1 : q.2.2.1 i ≤ t
  · rw [if_neg (nI_nlt c1 (by omega)), readyOn_v h hI hX ht, bn_s]
    by_cases c2 : nx (rdy C q t) (cN C) < cN C
    · rw [if_pos c2]
      have c2' := c2
      have hc : q.2.2.1 i ≤ t ∧ nx (rdy C q t) (cN C) < cN C := ⟨c1, c2⟩
      unfold hst
      rw [if_pos hc]
      generalize nx (rdy C q t) (cN C) = s at c2 ⊢
      have hw := wtP_le hV (p := cP C) (by have := hV.2.1; omega) c2
      have hp := hV.2.1
      have hst := (hV.2.2.1 s c2).1
      unfold f_X3_daysOfTailors_81 f_X3_daysOfTailors_152
      have eb : f_X9_begun (gA M (gR M 17 0) 2 s) (gI M (gR M 17 0) 1) = some (nI (wtP C (cP C) s)) := by
        rw [h.1, (h.2.2.1.2.2.1 s c2).1, h.2.2.1.2.1, begun_v (by omega) (by omega) (by omega)]
        rfl
      have e5 : gA (sA M 17 5 s (nI (t + wtP C (cP C) s))) 17 5 s = nI (t + wtP C (cP C) s) := by rw [gA_sA, if_pos ⟨rfl, rfl, rfl⟩]
      have e6 : ∀ v, gA (sA (sA M 17 5 s (nI (t + wtP C (cP C) s))) 17 6 i v) 17 5 s = nI (t + wtP C (cP C) s) := fun v => by rw [gA_sA, if_neg (by omega), e5]
      rw [if_neg (m1_ne (by omega)), or_nI (by omega), nm_s, gin_n (by omega) (by omega), ix_n (by omega), eb, bn_s, gin_n (by omega) (by omega), nI_add, nm_s, gin_n (by omega) (by omega), gin_n (by omega) (by omega), ix_n (by omega), e5, nm_s, gin_n (by omega) (by omega), e6, mx_n (by omega) (by omega), nm_s, nI_add, nm_s]
      refine ⟨_, FK_tr (FK_sA M rfl) (FK_sA _ rfl), ⟨fun x hx => ?_, fun x hx => ?_⟩, rfl⟩
      · rw [gA_sA, if_neg (by omega), gA_sA]
        show _ = nI (if (if x = s then t + wtP C (cP C) s else q.2.1 x) = 0 then 1000000 else (if x = s then t + wtP C (cP C) s else q.2.1 x))
        by_cases e : x = s
        · rw [if_pos ⟨rfl, rfl, e⟩, if_pos e, if_neg (by omega)]
        · rw [if_neg (fun z => e z.2.2), if_neg e]
          exact hX.1 x hx
      · rw [gA_sA]
        show _ = nI (if x = i then t + wtP C (cP C) s else q.2.2.1 x)
        by_cases e : x = i
        · rw [if_pos ⟨rfl, rfl, e⟩, if_pos e]
        · rw [if_neg (fun z => e z.2.2), if_neg e, gA_sA, if_neg (by omega)]
          exact hX.2 x hx
    · rw [if_neg c2]
      exact non (if_neg (fun z => c2 z.2))
  · rw [if_pos (nI_lt (by omega) (by omega))]
    exact non (if_neg (fun z => c1 z.1))
theorem days_v {M : Mem} {o : Nat} {C : CoatA} (h : SQ M o C (cAf C) (fun _ => 511)) {k : Nat} (hk : 1 ≤ k ∧ k ≤ 4) : ∃ M', f_X3_daysOfTailors M (nI k) = some (nI (hrn C k 100).2.2.2, M') ∧ FK 17 p56 M M' := by
  have hV := h.2.2.2.1
  have hn := hV.1
  obtain ⟨w1, w2, w3⟩ := pw9 (cN C) (by omega)
  have h17 : gI M 17 1 = nI (cN C) := h.2.2.2.2.1
  unfold f_X3_daysOfTailors
  rw [nm_s, nm_s]
  unfold f_X3_daysOfTailors_24
  refine lpU_inv (fun t a => ∃ M', a = (nI (hrn C k t).1, nI (hrn C k t).2.2.2, nI t, M') ∧ FK 17 p56 M M' ∧ HX M' (hrn C k t)) 100 (fun x => ∃ M', x = some (nI (hrn C k 100).2.2.2, M') ∧ FK 17 p56 M M') (by omega) ?_ ?_ 0 _ (Nat.zero_le _) ⟨_, rfl, FK_tr (FK_wA M (k := 6) rfl) (FK_wA _ (k := 5) rfl), fun s hs => ?_, fun i hi => ?_⟩
  · rintro rc a ⟨M1, rfl, hf, ht⟩
    show ∃ M'', b_X3_daysOfTailors_24 (nI k) _ _ _ (nI 100) M1 = _ ∧ _
    unfold b_X3_daysOfTailors_24
    rw [if_pos (nI_le (Nat.le_refl _) (by omega))]
    exact ⟨M1, rfl, hf⟩
  · rintro rc t a ht ⟨M1, rfl, hf, hX⟩
    have hI := hrn_I hV k t (by omega)
    have hI1 := hI.1
    show (∃ M'', b_X3_daysOfTailors_24 (nI k) _ _ _ (nI t) M1 = _ ∧ _) ∨ ∃ a', _ ∧ b_X3_daysOfTailors_24 (nI k) _ _ _ (nI t) M1 = _
    unfold b_X3_daysOfTailors_24
    rw [if_neg (nI_ge ht (by omega)), hf.1, h17, w1, ite_p (eq_n (by omega) (by omega))]
    by_cases c : (hrn C k t).1 = 2 ^ cN C - 1
    · left
      rw [if_pos c]
      have e := hrn_all c (100 - t)
      rw [show t + (100 - t) = 100 by omega] at e
      rw [e]
      exact ⟨M1, rfl, hf⟩
    · right
      rw [if_neg c]
      unfold f_X3_daysOfTailors_46
      refine lpU_inv (fun i a => ∃ M', a = (nI (hdy C t i (hrn C k t)).1, nI (hdy C t i (hrn C k t)).2.2.2, nI i, M') ∧ FK 17 p56 M M' ∧ HX M' (hdy C t i (hrn C k t))) k (fun x => ∃ a', (∃ M', a' = (nI (hrn C k (t + 1)).1, nI (hrn C k (t + 1)).2.2.2, nI (t + 1), M') ∧ FK 17 p56 M M' ∧ HX M' (hrn C k (t + 1))) ∧ x = rc a') (by omega) ?_ ?_ 0 _ (Nat.zero_le _) ⟨M1, rfl, hf, hX⟩
      · rintro rc2 a ⟨M2, rfl, hf2, hX2⟩
        show ∃ a', _ ∧ b_X3_daysOfTailors_46 (nI k) _ (nI t) _ _ _ (nI k) M2 = _
        unfold b_X3_daysOfTailors_46 f_X3_daysOfTailors_158
        rw [if_pos (nI_le (Nat.le_refl _) (by omega)), nI_add, nm_s]
        exact ⟨_, ⟨M2, rfl, hf2, hX2⟩, rfl⟩
      · rintro rc2 i a hi ⟨M2, rfl, hf2, hX2⟩
        refine Or.inr ?_
        obtain ⟨M3, g1, g2, g3⟩ := tailor_v (SQ_cg h hf2 rfl rfl) (hdy_I hV ht hI i) hX2 ht (i := i) (by omega) hi hk.2 (fun x0 x1 x2 x3 => rc (x0, x1, x2, x3)) (fun x0 x1 x2 x3 => rc2 (x0, x1, x2, x3))
        exact ⟨_, ⟨M3, rfl, FK_tr hf2 g1, g2⟩, g3⟩
  · rw [gA_flA, if_pos ⟨rfl, rfl, hs⟩]
    rfl
  · rw [gA_flA, if_neg (by omega), gA_flA, if_pos ⟨rfl, rfl, hi⟩]
    rfl
/-! the reference -/
def p545 : Nat → Bool := fun k => k == 54 || k == 55
def HM (M : Mem) (q : HQ) : Prop := (∀ s, s < 9 → gA M 100 54 s = dnI (q.2.1 s)) ∧ ∀ i, i < 4 → gA M 100 55 i = nI (q.2.2.1 i)
theorem dnI_m1 (a : Nat) (ha : a < 2147483648) : (dnI a = -1) = (a = 0) := by
  apply propext
  constructor
  · intro h
    by_cases q : a = 0
    · exact q
    · obtain ⟨b, rfl⟩ : ∃ b, a = b + 1 := ⟨a - 1, by omega⟩
      rw [dnI_s] at h
      exact absurd h (m1_ne (by omega))
  · rintro rfl
    decide +kernel
theorem canBegin_v {M : Mem} {k : Nat} {C : CoatA} (hH : MH M k C) (hV : CV C) {q : HQ} (hI : HI C q) (hX : HM M q) {t s : Nat} (ht : t < 100) (hs : s < cN C) : f_X10_canBegin M (nI s) (nI t) = some (rdy C q t s) := by
  have hn := hV.1
  have w := (pw9 (cN C) (by omega)).2.1
  have h24 := hH.2.2.1
  have hA := Od_A hV s hs
  obtain ⟨hk, y0, -, -, -, -, -, m3, -⟩ := hH
  have hz := (hI.2.1 s hs)
  have hm := hI.2.2.2.2.1
  unfold f_X10_canBegin
  rw [gin_n (by omega) (by omega), ix_n (by omega), hX.1 s (by omega), ite_p (dnI_m1 _ (by omega))]
  by_cases c1 : q.2.1 s = 0
  · have hb : q.1.testBit s = false := by
      cases e : q.1.testBit s with
      | false => rfl
      | true => exact absurd (hz.1.mp e) (by omega)
    rw [if_pos c1]
    have er : rdy C q t s = (cAf C s &&& (dS q.2.1 t (cN C) ^^^ 4294967295) == 0) := by
      unfold rdy
      rw [hb]
      rfl
    obtain ⟨m, q1, q2, q3⟩ := first_of (fun o => (cAf C s).testBit o = true ∧ ¬ (0 < q.2.1 o ∧ q.2.1 o ≤ t)) (cN C)
    have em : rdy C q t s = decide (m = cN C) := by
      rw [er]
      by_cases e : m = cN C
      · rw [decide_eq_true e, beq_iff_eq, sub_iff _ _ (by omega)]
        intro o ho
        rw [dS_tb]
        have hon := tb_lt hA ho
        refine ⟨hon, ?_⟩
        have := q2 o (by omega)
        by_cases z : 0 < q.2.1 o ∧ q.2.1 o ≤ t
        · exact z
        · exact absurd ⟨ho, z⟩ this
      · rw [decide_eq_false e]
        have := q3 (by omega)
        cases z : (cAf C s &&& (dS q.2.1 t (cN C) ^^^ 4294967295) == 0) with
        | false => rfl
        | true =>
          rw [beq_iff_eq, sub_iff _ _ (by omega)] at z
          have z2 := (dS_tb _ _ _ _).mp (z m this.1)
          exact absurd z2.2 this.2
    rw [em]
    unfold f_X10_canBegin_14
    refine lpU_find (fun o => nI o) (cN C) (fun m => some (decide (m = cN C))) (fun o => (cAf C s).testBit o = true ∧ ¬ (0 < q.2.1 o ∧ q.2.1 o ≤ t)) (by omega) ?_ ?_ ?_ m q1 q2 q3 0 (Nat.zero_le _)
    · intro rc
      show b_X10_canBegin_14 M (nI s) (nI t) _ (nI (cN C)) = _
      unfold b_X10_canBegin_14
      rw [h24, if_pos (nI_le (Nat.le_refl _) (by omega)), decide_eq_true rfl]
    · intro rc o ho hst
      show b_X10_canBegin_14 M (nI s) (nI t) _ (nI o) = _
      unfold b_X10_canBegin_14
      have hz2 := (hI.2.1 o ho).2
      rw [h24, if_neg (nI_ge ho (by omega)), nI_add, of_v y0 hk (by omega), m3 s (by omega), bn_s, has_v (by omega) (by omega), bn_s, if_pos hst.1, gin_n (by omega) (by omega), ix_n (by omega), hX.1 o (by omega), ite_p (dnI_m1 _ (by omega)), decide_eq_false (show ¬ o = cN C by omega)]
      by_cases c2 : q.2.1 o = 0
      · rw [if_pos c2]
      · obtain ⟨b, hb⟩ : ∃ b, q.2.1 o = b + 1 := ⟨q.2.1 o - 1, by omega⟩
        rw [if_neg c2, gin_n (by omega) (by omega), hb, dnI_s, if_neg (nI_nlt (by omega) (by omega))]
    · intro rc o ho hst
      show b_X10_canBegin_14 M (nI s) (nI t) _ (nI o) = _
      unfold b_X10_canBegin_14 f_X10_canBegin_59
      have hz2 := (hI.2.1 o ho).2
      rw [h24, if_neg (nI_ge ho (by omega)), nI_add, of_v y0 hk (by omega), m3 s (by omega), bn_s, has_v (by omega) (by omega), bn_s, gin_n (by omega) (by omega), ix_n (by omega), hX.1 o (by omega), ite_p (dnI_m1 _ (by omega)), gin_n (by omega) (by omega), nI_add, nm_s]
      by_cases c2 : (cAf C s).testBit o = true
      · have c3 : 0 < q.2.1 o ∧ q.2.1 o ≤ t := by
          by_cases z : 0 < q.2.1 o ∧ q.2.1 o ≤ t
          · exact z
          · exact absurd ⟨c2, z⟩ hst
        obtain ⟨b, hb⟩ : ∃ b, q.2.1 o = b + 1 := ⟨q.2.1 o - 1, by omega⟩
        rw [if_pos c2, if_neg (by omega), hb, dnI_s, if_pos (nI_lt (by omega) (by omega))]
      · rw [if_neg c2]
  · rw [if_neg c1]
    have hb : q.1.testBit s = true := hz.1.mpr (by omega)
    unfold rdy
    rw [hb]
    rfl
theorem tailorM_v {M : Mem} {k : Nat} {C : CoatA} (hH : MH M k C) (hV : CV C) {q : HQ} (hI : HI C q) (hX : HM M q) {t i kk : Nat} (ht : t < 100) (hi : i < 4) (hik : i < kk) (hkk : kk ≤ 4) (rc : Int32 → Mem → Option Mem) : ∃ M', FK 100 p545 M M' ∧ HM M' (hst C t i q) ∧ b_X10_morning_2 (nI kk) (nI t) rc (nI i) M = rc (nI (i + 1)) M' := by
  have hn := hV.1
  have w := (pw9 (cN C) (by omega)).2.1
  have h24 := hH.2.2.1
  have hf := hI.2.2.2.1 i
  have hm := hI.2.2.2.2.1
  unfold b_X10_morning_2
  rw [if_neg (nI_ge hik (by omega)), gin_n (by omega) (by omega), ix_n (by omega), hX.2 i hi]
  unfold f_X10_morning_22
  have stop : ∀ s M', s ≤ cN C → FK 100 p545 M M' → ∀ rc2, b_X10_morning_27 (nI kk) (nI t) rc (nI i) rc2 true (nI s) M' = rc (nI (i + 1)) M' := by
    intro s M' hs hf' rc2
    unfold b_X10_morning_27 f_X10_morning_101
    rw [hf'.1, h24, nI_add, nm_s]
    by_cases c : cN C ≤ s
    · rw [if_pos (nI_le c (by omega))]
    · rw [if_neg (nI_ge (by omega) (by omega)), if_pos rfl]
  have stopL : ∀ s M', s ≤ cN C → FK 100 p545 M M' → f_X10_morning_27 (nI kk) (nI t) rc (nI i) FU (true, nI s, M') = rc (nI (i + 1)) M' := by
    intro s M' hs hf'
    unfold f_X10_morning_27
    exact (lp_s _ 4999 _).trans (stop s M' hs hf' _)
  by_cases c1 : q.2.2.1 i ≤ t
  · rw [if_pos (nI_le c1 (by omega))]
    have hl := nx_le (rdy C q t) (cN C)
    -- the walk over the seams: until the first that is ready
    have scan : ∀ rc2 s, s < cN C → b_X10_morning_27 (nI kk) (nI t) rc (nI i) rc2 false (nI s) M = if rdy C q t s = true then rc2 true (nI (s + 1)) (sA (sA M 100 54 s (dnI (t + wtP C (cP C) s))) 100 55 i (nI (t + wtP C (cP C) s))) else rc2 false (nI (s + 1)) M := by
      intro rc2 s hs
      unfold b_X10_morning_27 f_X10_morning_95
      have hst := (hV.2.2.1 s hs).1
      have hp := hV.2.1
      have hw := wtP_le hV (p := cP C) (by omega) hs
      have eo : f_X10_of M (nI 2 + nI s) = some (nI (cSt C s)) := by
        obtain ⟨hk, y0, -, -, -, -, m2, -, -⟩ := hH
        rw [nI_add, of_v y0 hk (by omega), (m2 s hs).1]
      have eu : f_X10_upwards (nI (cSt C s)) (gI M 100 25) = some (nI (wtP C (cP C) s)) := by
        rw [hH.2.2.2.1, upwards_v (by omega) (by omega) (by omega)]
        rfl
      have e5 : gA (sA M 100 54 s (dnI (t + wtP C (cP C) s))) 100 54 s = dnI (t + wtP C (cP C) s) := by rw [gA_sA, if_pos ⟨rfl, rfl, rfl⟩]
      have e6 : dnI (t + wtP C (cP C) s) + nI 1 = nI (t + wtP C (cP C) s) := by
        obtain ⟨b, hb⟩ : ∃ b, t + wtP C (cP C) s = b + 1 := ⟨t + wtP C (cP C) s - 1, by omega⟩
        rw [hb, dnI_s, nI_add]
      have e7 : nI t + nI (wtP C (cP C) s) - nI 1 = dnI (t + wtP C (cP C) s) := by
        rw [nI_add]
        rfl
      rw [h24, if_neg (nI_ge hs (by omega)), if_neg (by decide), canBegin_v hH hV hI hX ht hs, bn_s, eo, bn_s, eu, bn_s, gin_n (by omega) (by omega), ix_n (by omega), e7, nm_s, gin_n (by omega) (by omega), gin_n (by omega) (by omega), ix_n (by omega), e5, e6, nm_s, nI_add, nm_s, nm_s]
    by_cases c2 : nx (rdy C q t) (cN C) < cN C
    · have hr := nx_hit c2
      have hc : q.2.2.1 i ≤ t ∧ nx (rdy C q t) (cN C) < cN C := ⟨c1, c2⟩
      have hmin : ∀ j, j < nx (rdy C q t) (cN C) → rdy C q t j = false := fun j hj => nx_min hj
      unfold hst
      rw [if_pos hc]
      generalize nx (rdy C q t) (cN C) = s at c2 hr hmin ⊢
      have hw := wtP_le hV (p := cP C) (by have := hV.2.1; omega) c2
      refine ⟨sA (sA M 100 54 s (dnI (t + wtP C (cP C) s))) 100 55 i (nI (t + wtP C (cP C) s)), FK_tr (FK_sA M rfl) (FK_sA _ rfl), ⟨fun x hx => ?_, fun x hx => ?_⟩, ?_⟩
      · rw [gA_sA, if_neg (by omega), gA_sA]
        show _ = dnI (if x = s then t + wtP C (cP C) s else q.2.1 x)
        by_cases e : x = s
        · rw [if_pos ⟨rfl, rfl, e⟩, if_pos e]
        · rw [if_neg (fun z => e z.2.2), if_neg e]
          exact hX.1 x hx
      · rw [gA_sA]
        show _ = nI (if x = i then t + wtP C (cP C) s else q.2.2.1 x)
        by_cases e : x = i
        · rw [if_pos ⟨rfl, rfl, e⟩, if_pos e]
        · rw [if_neg (fun z => e z.2.2), if_neg e, gA_sA, if_neg (by omega)]
          exact hX.2 x hx
      · unfold f_X10_morning_27
        -- one step behind s the loop stops
        have key : ∀ f x, s - x + 1 < f → x ≤ s → lp (fun rc2 q => b_X10_morning_27 (nI kk) (nI t) rc (nI i) (fun x0 x1 x2 => rc2 (x0, x1, x2)) q.1 q.2.1 q.2.2) f (false, nI x, M) = rc (nI (i + 1)) (sA (sA M 100 54 s (dnI (t + wtP C (cP C) s))) 100 55 i (nI (t + wtP C (cP C) s))) := by
          intro f
          induction f with
          | zero => intro x h; omega
          | succ f ih =>
            intro x h1 h2
            rw [lp_s]
            refine (scan _ x (by omega)).trans ?_
            by_cases e : x = s
            · subst e
              rw [if_pos hr]
              obtain ⟨f, rfl⟩ : ∃ g, f = g + 1 := ⟨f - 1, by omega⟩
              show lp _ (f + 1) (true, nI (x + 1), _) = _
              rw [lp_s]
              exact stop (x + 1) _ (by omega) (FK_tr (FK_sA M rfl) (FK_sA _ rfl)) _
            · rw [hmin x (by omega), if_neg (by decide)]
              exact ih (x + 1) (by omega) (by omega)
        exact key FU 0 (by rw [FU_v]; omega) (Nat.zero_le _)
    · have e : hst C t i q = q := if_neg (fun z => c2 z.2)
      rw [e]
      refine ⟨M, FK_rf M, hX, ?_⟩
      unfold f_X10_morning_27
      refine lpU_for (fun s => (false, nI s, M)) (cN C) _ (by omega) 0 (Nat.zero_le _) ?_ ?_
      · intro rc2
        show b_X10_morning_27 (nI kk) (nI t) rc (nI i) _ false (nI (cN C)) M = _
        unfold b_X10_morning_27 f_X10_morning_101
        rw [h24, if_pos (nI_le (Nat.le_refl _) (by omega)), nI_add, nm_s]
      · intro rc2 s _ hs
        refine (scan _ s hs).trans ?_
        rw [if_neg]
        intro z
        exact c2 (nx_lt hs z)
  · rw [if_neg (nI_ge (by omega) (by omega))]
    have e : hst C t i q = q := if_neg (fun z => c1 z.1)
    rw [e]
    exact ⟨M, FK_rf M, hX, stopL 0 M (Nat.zero_le _) (FK_rf M)⟩
theorem morning_v {M : Mem} {k : Nat} {C : CoatA} (hH : MH M k C) (hV : CV C) {q : HQ} (hI : HI C q) (hX : HM M q) {t kk : Nat} (ht : t < 100) (hkk : kk ≤ 4) : ∃ M', f_X10_morning M (nI kk) (nI t) = some M' ∧ FK 100 p545 M M' ∧ HM M' (hdy C t kk q) := by
  unfold f_X10_morning f_X10_morning_2
  refine lpU_inv (fun i a => ∃ M', a = (nI i, M') ∧ FK 100 p545 M M' ∧ HM M' (hdy C t i q)) kk (fun x => ∃ M', x = some M' ∧ FK 100 p545 M M' ∧ HM M' (hdy C t kk q)) (by omega) ?_ ?_ 0 _ (Nat.zero_le _) ⟨M, rfl, FK_rf M, hX⟩
  · rintro rc a ⟨M2, rfl, hf, h2⟩
    show ∃ M'', b_X10_morning_2 (nI kk) (nI t) _ (nI kk) M2 = _ ∧ _
    unfold b_X10_morning_2
    rw [if_pos (nI_le (Nat.le_refl _) (by omega))]
    exact ⟨M2, rfl, hf, h2⟩
  · rintro rc i a hi ⟨M2, rfl, hf, h2⟩
    refine Or.inr ?_
    obtain ⟨M3, g1, g2, g3⟩ := tailorM_v (MH_FK hH hf rfl) hV (hdy_I hV ht hI i) h2 ht (i := i) (by omega) hi hkk (fun x0 x1 => rc (x0, x1))
    exact ⟨_, ⟨M3, rfl, FK_tr hf g1, g2⟩, g3⟩
theorem gr_dn {a b : Nat} (ha : a < 1000) (hb : b < 1000) : f_X10_greater (dnI a) (dnI b) = some (dnI (max a b)) := by
  unfold f_X10_greater
  by_cases h : a ≤ b
  · have : dnI a ≤ dnI b := by
      by_cases q : a = 0
      · subst q
        by_cases r : b = 0
        · subst r; decide +kernel
        · obtain ⟨c, rfl⟩ : ∃ c, b = c + 1 := ⟨b - 1, by omega⟩
          rw [dnI_s]
          exact Int32.le_of_lt (neg_lt dnI_0 c (by omega))
      · obtain ⟨c, rfl⟩ : ∃ c, b = c + 1 := ⟨b - 1, by omega⟩
        obtain ⟨d, rfl⟩ : ∃ c, a = c + 1 := ⟨a - 1, by omega⟩
        rw [dnI_s, dnI_s]
        exact nI_le (by omega) (by omega)
    rw [if_pos this, Nat.max_eq_right h]
  · have : ¬ dnI a ≤ dnI b := by
      obtain ⟨d, rfl⟩ : ∃ c, a = c + 1 := ⟨a - 1, by omega⟩
      rw [dnI_s]
      by_cases r : b = 0
      · subst r
        exact neg_nle dnI_0 d (by omega)
      · obtain ⟨c, rfl⟩ : ∃ c, b = c + 1 := ⟨b - 1, by omega⟩
        rw [dnI_s]
        exact nI_ge (by omega) (by omega)
    rw [if_neg this, Nat.max_eq_left (by omega)]
theorem handsM_v {M : Mem} {k : Nat} {C : CoatA} (hH : MH M k C) (hV : CV C) {kk : Nat} (hkk : 1 ≤ kk ∧ kk ≤ 4) (c : Int32) : ∃ M', f_X10_hands_33 c (nI kk) FU (nI 0, M) = some (nI (hrn C kk 100).2.2.2, M') ∧ FK 100 p545 M M' := by
  have hn := hV.1
  have h24 := hH.2.2.1
  unfold f_X10_hands_33
  refine lpU_inv (fun i a => ∃ M', a = (nI i, M') ∧ FK 100 p545 M M' ∧ ∀ s, s < i → gA M' 100 54 s = dnI 0) 9 (fun x => ∃ M', x = some (nI (hrn C kk 100).2.2.2, M') ∧ FK 100 p545 M M') (by omega) ?_ ?_ 0 _ (Nat.zero_le _) ⟨M, rfl, FK_rf M, fun s h => by omega⟩
  · rintro rc a ⟨M1, rfl, hf, h1⟩
    show ∃ M'', b_X10_hands_33 c (nI kk) _ (nI 9) M1 = _ ∧ _
    unfold b_X10_hands_33
    rw [if_pos (nI_le (Nat.le_refl _) (by omega))]
    unfold f_X10_hands_54
    refine lpU_inv (fun i a => ∃ M', a = (nI i, M') ∧ FK 100 p545 M M' ∧ (∀ s, s < 9 → gA M' 100 54 s = dnI 0) ∧ ∀ s, s < i → gA M' 100 55 s = nI 0) 4 (fun x => ∃ M', x = some (nI (hrn C kk 100).2.2.2, M') ∧ FK 100 p545 M M') (by omega) ?_ ?_ 0 _ (Nat.zero_le _) ⟨M1, rfl, hf, h1, fun s h => by omega⟩
    · rintro rc a ⟨M2, rfl, hf2, h2, h3⟩
      show ∃ M'', b_X10_hands_54 c (nI kk) _ (nI 4) M2 = _ ∧ _
      unfold b_X10_hands_54
      rw [if_pos (nI_le (Nat.le_refl _) (by omega))]
      unfold f_X10_hands_74
      refine lpU_inv (fun t a => ∃ M', a = (nI t, M') ∧ FK 100 p545 M M' ∧ HM M' (hrn C kk t)) 100 (fun x => ∃ M', x = some (nI (hrn C kk 100).2.2.2, M') ∧ FK 100 p545 M M') (by omega) ?_ ?_ 0 _ (Nat.zero_le _) ⟨M2, rfl, hf2, h2, h3⟩
      · rintro rc a ⟨M3, rfl, hf3, h4⟩
        show ∃ M'', b_X10_hands_74 c (nI kk) _ (nI 100) M3 = _ ∧ _
        unfold b_X10_hands_74
        rw [if_pos (nI_lt (by omega) (by omega))]
        obtain ⟨i1, i2, i3, i4, i5, i6⟩ := hrn_I hV kk 100 (Nat.le_refl _)
        have hz : ∀ s, s < 9 → (hrn C kk 100).2.1 s ≤ 110 := fun s hs => by
          by_cases q : s < cN C
          · have := (i2 s q).2; omega
          · rw [i3 s (by omega)]; omega
        have e : mxS (fun _ => true) (hrn C kk 100).2.1 (cN C) = (hrn C kk 100).2.2.2 := by
          apply Nat.le_antisymm
          · exact mxS_le _ (fun s hs _ => (i2 s hs).2)
          · rcases i6 with i6 | ⟨s, a, b⟩
            · omega
            · rw [← b]
              exact mxS_ge (p := fun _ => true) rfl _ a
        rw [← e]
        have hmx : ∀ s, s ≤ cN C → mxS (fun _ => true) (hrn C kk 100).2.1 s ≤ 110 := fun s hs => mxS_le s (fun x hx _ => hz x (by omega))
        unfold f_X10_hands_97
        refine lpU_inv (fun s a => a = (dnI (mxS (fun _ => true) (hrn C kk 100).2.1 s), nI s, M3)) (cN C) (fun x => ∃ M', x = some (nI (mxS (fun _ => true) (hrn C kk 100).2.1 (cN C)), M') ∧ FK 100 p545 M M') (by omega) ?_ ?_ 0 _ (Nat.zero_le _) (by rfl)
        · rintro rc2 a rfl
          show ∃ M'', b_X10_hands_97 c (nI kk) _ _ (nI (cN C)) M3 = _ ∧ _
          unfold b_X10_hands_97
          rw [hf3.1, h24, if_pos (nI_le (Nat.le_refl _) (by omega))]
          refine ⟨M3, ?_, hf3⟩
          congr 2
          unfold dnI
          rw [Int32.sub_add_cancel]
        · rintro rc2 s a hs rfl
          refine Or.inr ⟨_, rfl, ?_⟩
          show b_X10_hands_97 c (nI kk) _ _ (nI s) M3 = rc2 (dnI (if true = true then _ else _), nI (s + 1), M3)
          unfold b_X10_hands_97
          have := hmx s (by omega)
          have := hz s (by omega)
          rw [hf3.1, h24, if_neg (nI_ge hs (by omega)), gin_n (by omega) (by omega), ix_n (by omega), h4.1 s (by omega), gr_dn (by omega) (by omega), bn_s, nI_add, nm_s, if_pos rfl]
      · rintro rc t a ht ⟨M3, rfl, hf3, h4⟩
        refine Or.inr ?_
        show ∃ a', _ ∧ b_X10_hands_74 c (nI kk) _ (nI t) M3 = _
        unfold b_X10_hands_74
        obtain ⟨M4, g1, g2, g3⟩ := morning_v (MH_FK hH hf3 rfl) hV (hrn_I hV kk t (by omega)) h4 ht hkk.2
        rw [if_neg (nI_nlt (by omega) (by omega)), g1, bn_s, nI_add, nm_s]
        exact ⟨_, ⟨M4, rfl, FK_tr hf3 g2, g3⟩, rfl⟩
    · rintro rc i a hi ⟨M2, rfl, hf2, h2, h3⟩
      refine Or.inr ?_
      show ∃ a', _ ∧ b_X10_hands_54 c (nI kk) _ (nI i) M2 = _
      unfold b_X10_hands_54
      rw [if_neg (nI_ge hi (by omega)), gin_n (by omega) (by omega), ix_n (by omega), nm_s, nI_add, nm_s]
      refine ⟨_, ⟨_, rfl, FK_tr hf2 (FK_sA M2 rfl), fun s hs => ?_, fun s hs => ?_⟩, rfl⟩
      · rw [gA_sA, if_neg (by omega)]
        exact h2 s hs
      · rw [gA_sA]
        by_cases q : s = i
        · rw [if_pos ⟨rfl, rfl, q⟩]
        · rw [if_neg (fun z => q z.2.2)]
          exact h3 s (by omega)
  · rintro rc i a hi ⟨M2, rfl, hf2, h2⟩
    refine Or.inr ?_
    show ∃ a', _ ∧ b_X10_hands_33 c (nI kk) _ (nI i) M2 = _
    unfold b_X10_hands_33
    rw [if_neg (nI_ge hi (by omega)), gin_n (by omega) (by omega), ix_n (by omega), nm_s, nI_add, nm_s]
    refine ⟨_, ⟨_, rfl, FK_tr hf2 (FK_sA M2 rfl), fun s hs => ?_⟩, rfl⟩
    rw [gA_sA]
    by_cases q : s = i
    · rw [if_pos ⟨rfl, rfl, q⟩]
      rfl
    · rw [if_neg (fun z => q z.2.2)]
      exact h2 s (by omega)
theorem FM_q {M M' : Mem} {p : Nat → Bool} (h : FK 100 p M M') (hp : ∀ k, k ≤ 9 ∨ k = 57 → p k = false) : FM M M' := FK_FM h (fun k hk => hp k (by omega))
theorem p545_f : ∀ k, k ≤ 9 ∨ k = 57 → p545 k = false := by
  intro k hk
  unfold p545
  simp
  omega
theorem q_hands {Mx Mm : Mem} (H : Rl Mx Mm) (a w : Int32) : EqI Mx Mm (f_X9_hands Mx a w) (f_X10_hands Mm a w) := by
  have h0 := FM_sI Mm (o := 100) (k := 0) (v := nI 0)
  unfold f_X9_hands f_X10_hands
  rw [nm_s]
  rcases ordered_cases H a with ⟨M', e1, e2, e3⟩ | ⟨k, C, r, M', hk, rfl, hO, e1, e2, ⟨hS, hR⟩, e3⟩
  · obtain ⟨c, M1, g1, g2, g3⟩ := e3 _ h0
    rw [e1, bp_s, opt_none]
    have hR0 := Rl_fr H e2 h0
    rcases int_cases w with hw | ⟨w, hw, rfl⟩
    · rw [in_neg hw 1 (by omega)]
      exact ⟨_, _, _, rfl, rfl, hR0⟩
    rw [in_n hw (by omega) (by omega), bn_s]
    by_cases c2 : 1 ≤ w ∧ w ≤ 4
    · rw [if_pos (dT c2), g1, bp_s]
      cases c with
      | false => exact ⟨_, _, _, rfl, rfl, Rl_fr H e2 (FM_tr h0 g2)⟩
      | true =>
        obtain ⟨-, M2, g5, g6⟩ := g3 rfl
        rw [if_pos rfl, g5]
        exact ⟨_, _, _, rfl, rfl, Rl_fr H e2 (FM_tr h0 (FM_tr g2 g6))⟩
    · rw [if_neg (dF c2)]
      exact ⟨_, _, _, rfl, rfl, hR0⟩
  · obtain ⟨M1, M2, g1, g2, g3, g4, g5, g6⟩ := e3 _ h0
    rw [e1, bp_s, opt_some]
    have hV := hO.1
    have hR0 := Rl_fr H e2 h0
    have hF2 := FM_tr h0 (FM_tr g2 g5)
    rcases int_cases w with hw | ⟨w, hw, rfl⟩
    · rw [in_neg hw 1 (by omega), if_pos (neg_lt hw 1 (by omega))]
      exact ⟨_, _, _, rfl, rfl, hR0⟩
    rw [in_n hw (by omega) (by omega), bn_s, ite_p (lt_n hw (by omega)), ite_p (le_n hw (by omega))]
    by_cases c2 : 1 ≤ w ∧ w ≤ 4
    · obtain ⟨M3, l1, l2⟩ := handsM_v g6.1 hV c2 (nI k)
      obtain ⟨M4, l3, l4⟩ := days_v hS c2
      rw [if_pos (dT c2), if_neg (show ¬ w < 1 by omega), if_pos c2.2, g1, bp_s, if_pos rfl, g4, bp_s, if_pos rfl, l1, l3]
      exact ⟨_, _, _, rfl, rfl, Rl_fr H (FX_tr e2 (FKX l4)) (FM_tr hF2 (FM_q l2 p545_f))⟩
    · rw [if_neg (dF c2)]
      by_cases c3 : w < 1
      · rw [if_pos c3]
        exact ⟨_, _, _, rfl, rfl, hR0⟩
      · rw [if_neg c3, if_neg (by omega)]
        exact ⟨_, _, _, rfl, rfl, hR0⟩
