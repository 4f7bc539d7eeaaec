/-! THE FIRST ORDER -/
def ff (p : Nat → Bool) (i : Nat) : Nat → Nat
  | 0 => i
  | f + 1 => if p i then i else ff p (i + 1) f
theorem ff_v (p : Nat → Bool) : ∀ f i, i ≤ ff p i f ∧ ff p i f ≤ i + f ∧ (∀ j, i ≤ j → j < ff p i f → p j = false) ∧ (ff p i f < i + f → p (ff p i f) = true) := by
  intro f
  induction f with
  | zero => intro i; exact ⟨Nat.le_refl _, Nat.le_refl _, fun j a b => by have : j < i := b; omega, fun h => by have : i < i + 0 := h; omega⟩
  | succ f ih =>
    intro i
    have eq : ff p i (f + 1) = if p i = true then i else ff p (i + 1) f := rfl
    rw [eq]
    by_cases h : p i = true
    · simp only [if_pos h]
      exact ⟨Nat.le_refl _, by omega, fun j a b => by omega, fun _ => h⟩
    · simp only [if_neg h]
      obtain ⟨a, b, c, d⟩ := ih (i + 1)
      refine ⟨by omega, by omega, fun j e f => ?_, fun e => d (by omega)⟩
      by_cases q : j = i
      · rw [q]; simpa using h
      · exact c j (by omega) f
def nx (p : Nat → Bool) (n : Nat) : Nat := ff p 0 n
theorem nx_le (p : Nat → Bool) (n : Nat) : nx p n ≤ n := by have := (ff_v p n 0).2.1; unfold nx; omega
theorem nx_min {p : Nat → Bool} {n j : Nat} (h : j < nx p n) : p j = false := (ff_v p n 0).2.2.1 j (Nat.zero_le _) h
theorem nx_hit {p : Nat → Bool} {n : Nat} (h : nx p n < n) : p (nx p n) = true := (ff_v p n 0).2.2.2 (by unfold nx at h; omega)
theorem nx_lt {p : Nat → Bool} {n j : Nat} (hj : j < n) (h : p j = true) : nx p n < n := by
  have := nx_le p n
  by_cases q : nx p n < n
  · exact q
  · have := nx_min (p := p) (n := n) (j := j) (by omega)
    rw [h] at this
    exact absurd this (by decide)
theorem nx_eq {p : Nat → Bool} {n m : Nat} (hm : m < n) (h : p m = true) (h2 : ∀ j, j < m → p j = false) : nx p n = m := by
  have h3 := nx_hit (nx_lt hm h)
  have h4 := nx_lt hm h
  by_cases q : nx p n < m
  · rw [h2 _ q] at h3
    exact absurd h3 (by decide)
  · by_cases r : m < nx p n
    · rw [nx_min r] at h
      exact absurd h (by decide)
    · omega
/-- sets reached by taking always the first seam that pk allows -/
def gs (pk : Nat → Nat → Bool) (n : Nat) : Nat → Nat
  | 0 => 0
  | i + 1 => gs pk n i ||| 2 ^ nx (pk (gs pk n i)) n
/-- a set that holds what its seams come after -/
def Cl (A : Nat → Nat) (n S : Nat) : Prop := S < 2 ^ n ∧ ∀ s, S.testBit s = true → ∀ o, (A s).testBit o = true → S.testBit o = true
theorem Cl_0 (A : Nat → Nat) (n : Nat) : Cl A n 0 := ⟨Nat.two_pow_pos n, fun s h => by rw [Nat.zero_testBit] at h; exact absurd h (by decide)⟩
theorem Cl_or {A : Nat → Nat} {n S s : Nat} (hA : A s < 4294967296) (h : Cl A n S) (hs : s < n) (hm : mayB A S s = true) : Cl A n (S ||| 2 ^ s) := by
  refine ⟨or_lt h.1 hs, fun t ht o ho => ?_⟩
  rw [mayB_t hA] at hm
  rw [or_tb] at ht ⊢
  by_cases q : s = t
  · subst q
    rw [hm.2 o ho]; rfl
  · simp [q] at ht
    rw [h.2 t ht o ho]; rfl
theorem gw_pos {A : Nat → Nat} {n : Nat} (hn : n ≤ 9) {S s : Nat} (hS : S < 2 ^ n) (hs : s < n) (hm : mayB A S s = true) (h : 0 < gw (mayB A) n (S ||| 2 ^ s)) : 0 < gw (mayB A) n S := by
  have h1 := or_gt (mayB_n S s hm)
  have h2 := or_lt hS hs
  rw [gw_in mayB_n hn (by omega)]
  have e := gS_pick s (gw (mayB A) n (S ||| 2 ^ s)) n
  rw [if_pos hs] at e
  have := gS_le (f := fun t => if t = s then gw (mayB A) n (S ||| 2 ^ s) else 0) (g := fun t => if mayB A S t then gw (mayB A) n (S ||| 2 ^ t) else 0) n (fun t ht => by
    by_cases q : t = s
    · subst q
      simp only [hm, if_true]
      exact Nat.le_refl _
    · simp only [q, if_false]
      exact Nat.zero_le _)
  omega
theorem gw_step {may : Nat → Nat → Bool} {n : Nat} (hm : ∀ S s, may S s = true → S.testBit s = false) (hn : n ≤ 9) {S : Nat} (hS : S < 2 ^ n - 1) (h : 0 < gw may n S) : ∃ s, s < n ∧ may S s = true ∧ 0 < gw may n (S ||| 2 ^ s) := by
  apply Classical.byContradiction
  intro q
  rw [gw_in hm hn hS, gS_0] at h
  · omega
  · intro s hs
    by_cases r : may S s = true
    · rw [if_pos r]
      by_cases z : 0 < gw may n (S ||| 2 ^ s)
      · exact absurd ⟨s, hs, r, z⟩ q
      · omega
    · rw [if_neg r]
/-- where there is an order, seams have ranks -/
theorem rank_ex {A : Nat → Nat} {n : Nat} (hn : n ≤ 9) (hA : ∀ s, s < n → A s < 4294967296) : ∀ d S, S < 2 ^ n → 2 ^ n - 1 - S ≤ d → 0 < gw (mayB A) n S → ∃ r : Nat → Nat, ∀ s, s < n → S.testBit s = false → ∀ o, (A s).testBit o = true → S.testBit o = true ∨ r o < r s := by
  intro d
  induction d with
  | zero =>
    intro S h1 h2 _
    have e : S = 2 ^ n - 1 := by omega
    refine ⟨fun _ => 0, fun s hs h => ?_⟩
    rw [e, all_tb] at h
    exact absurd h (by simp [hs])
  | succ d ih =>
    intro S h1 h2 h3
    by_cases q : S = 2 ^ n - 1
    · refine ⟨fun _ => 0, fun s hs h => ?_⟩
      rw [q, all_tb] at h
      exact absurd h (by simp [hs])
    · obtain ⟨s, g1, g2, g3⟩ := gw_step mayB_n hn (show S < 2 ^ n - 1 by omega) h3
      have := or_gt (mayB_n S s g2)
      obtain ⟨r, hr⟩ := ih (S ||| 2 ^ s) (or_lt h1 g1) (by omega) g3
      rw [mayB_t (hA s g1)] at g2
      refine ⟨fun t => if t = s then 0 else r t + 1, fun t ht h4 o ho => ?_⟩
      by_cases e : t = s
      · subst e
        exact Or.inl (g2.2 o ho)
      · have h5 := hr t ht (by rw [or_tb, h4]; simp; exact fun z => e z.symm) o ho
        by_cases e2 : o = s
        · right
          subst e2
          show (if o = o then 0 else r o + 1) < (if t = o then 0 else r t + 1)
          rw [if_pos rfl, if_neg e]
          omega
        · rcases h5 with h5 | h5
          · left
            rw [or_tb] at h5
            have : ¬ s = o := fun z => e2 z.symm
            simp [this] at h5
            exact h5
          · right
            show (if o = s then 0 else r o + 1) < (if t = s then 0 else r t + 1)
            rw [if_neg e2, if_neg e]
            omega
theorem least_not {n : Nat} (r : Nat → Nat) {S : Nat} (h : ∃ s, s < n ∧ S.testBit s = false) : ∃ s, s < n ∧ S.testBit s = false ∧ ∀ t, t < n → S.testBit t = false → r s ≤ r t := by
  obtain ⟨k, ⟨s, h1, h2, h3⟩, hk⟩ := pk_least (fun k => ∃ s, s < n ∧ S.testBit s = false ∧ r s = k) ⟨_, h.choose, h.choose_spec.1, h.choose_spec.2, rfl⟩
  refine ⟨s, h1, h2, fun t ht h4 => ?_⟩
  by_cases q : r s ≤ r t
  · exact q
  · exact absurd ⟨t, ht, h4, rfl⟩ (hk (r t) (by omega))
/-- then each set that holds what it needs has a next seam, and leads to the end -/
theorem cl_next {A : Nat → Nat} {n : Nat} (hA : ∀ s, s < n → A s < 2 ^ n) (hn : n ≤ 9) (r : Nat → Nat) (hr : ∀ s, s < n → ∀ o, (A s).testBit o = true → r o < r s) {S : Nat} (hS : Cl A n S) (h : S < 2 ^ n - 1) : ∃ s, s < n ∧ mayB A S s = true := by
  have w := (pw9 n (by omega)).2.1
  obtain ⟨s, h1, h2, h3⟩ := least_not r (lt_all h)
  refine ⟨s, h1, ?_⟩
  rw [mayB_t (by have := hA s h1; omega)]
  refine ⟨h2, fun o ho => ?_⟩
  by_cases q : S.testBit o = true
  · exact q
  · have h4 := h3 o (tb_lt (hA s h1) ho) (by simpa using q)
    have h5 := hr s h1 o ho
    omega
theorem cl_pos {A : Nat → Nat} {n : Nat} (hA : ∀ s, s < n → A s < 2 ^ n) (hn : n ≤ 9) (r : Nat → Nat) (hr : ∀ s, s < n → ∀ o, (A s).testBit o = true → r o < r s) : ∀ d S, Cl A n S → 2 ^ n - 1 - S ≤ d → 0 < gw (mayB A) n S := by
  have w := (pw9 n (by omega)).2.1
  intro d
  induction d with
  | zero =>
    intro S h1 h2
    have := h1.1
    rw [show S = 2 ^ n - 1 by omega, gw_all mayB_n hn]
    exact Nat.one_pos
  | succ d ih =>
    intro S h1 h2
    have := h1.1
    by_cases q : S = 2 ^ n - 1
    · rw [q, gw_all mayB_n hn]
      exact Nat.one_pos
    · obtain ⟨s, g1, g2⟩ := cl_next hA hn r hr h1 (by omega)
      have := or_gt (mayB_n S s g2)
      exact gw_pos hn h1.1 g1 g2 (ih _ (Cl_or (by have := hA s g1; omega) h1 g1 g2) (by omega))
/-- a coat with an order: ranks -/
def Od (C : CoatA) (r : Nat → Nat) : Prop := CV C ∧ ∀ s, s < cN C → ∀ o, (cAf C s).testBit o = true → r o < r s
theorem Od_A {C : CoatA} (hV : CV C) : ∀ s, s < cN C → cAf C s < 2 ^ cN C := fun s hs => (hV.2.2.1 s hs).2.2.2.1
theorem Od_ex {C : CoatA} (hV : CV C) (h : 0 < gw (mayB (cAf C)) (cN C) 0) : ∃ r, Od C r := by
  have hn := hV.1
  have w := (pw9 (cN C) (by omega)).2.1
  obtain ⟨r, hr⟩ := rank_ex hn (fun s hs => by have := Od_A hV s hs; omega) 512 0 (Nat.two_pow_pos _) (by omega) h
  refine ⟨r, hV, fun s hs o ho => ?_⟩
  rcases hr s hs (Nat.zero_testBit s) o ho with q | q
  · rw [Nat.zero_testBit] at q
    exact absurd q (by decide)
  · exact q
theorem Od_next {C : CoatA} {r : Nat → Nat} (h : Od C r) {S : Nat} (hS : Cl (cAf C) (cN C) S) (h2 : S < 2 ^ cN C - 1) : ∃ s, s < cN C ∧ mayB (cAf C) S s = true := cl_next (Od_A h.1) h.1.1 r h.2 hS h2
theorem Od_pos {C : CoatA} {r : Nat → Nat} (h : Od C r) {S : Nat} (hS : Cl (cAf C) (cN C) S) : 0 < gw (mayB (cAf C)) (cN C) S := cl_pos (Od_A h.1) h.1.1 r h.2 512 S hS (by
  have := (pw9 (cN C) (by have := h.1.1; omega)).2.1
  omega)
/-- a walk that takes at each set the first seam that pk allows, of those that may come -/
theorem gs_v {C : CoatA} (hV : CV C) {pk : Nat → Nat → Bool} (hp : ∀ S s, pk S s = true → mayB (cAf C) S s = true) (he : ∀ S, Cl (cAf C) (cN C) S → S < 2 ^ cN C - 1 → ∃ s, s < cN C ∧ pk S s = true) : ∀ i, i ≤ cN C → Cl (cAf C) (cN C) (gs pk (cN C) i) ∧ pc (gs pk (cN C) i) (cN C) = i ∧ (i < cN C → nx (pk (gs pk (cN C) i)) (cN C) < cN C) := by
  have hn := hV.1
  have w := (pw9 (cN C) (by omega)).2.1
  have key : ∀ i, i ≤ cN C → Cl (cAf C) (cN C) (gs pk (cN C) i) → pc (gs pk (cN C) i) (cN C) = i → (i < cN C → nx (pk (gs pk (cN C) i)) (cN C) < cN C) := by
    intro i hi h1 h2 h3
    have h4 : gs pk (cN C) i < 2 ^ cN C - 1 := by
      have := h1.1
      by_cases q : gs pk (cN C) i = 2 ^ cN C - 1
      · rw [q] at h2
        have : pc (2 ^ cN C - 1) (cN C) = cN C := by
          have e := gS_const 1 (cN C)
          rw [Nat.mul_one] at e
          refine Eq.trans ?_ e
          exact gS_cg _ (fun s hs => by rw [all_tb]; simp [hs])
        omega
      · omega
    obtain ⟨s, g1, g2⟩ := he _ h1 h4
    exact nx_lt g1 g2
  intro i
  induction i with
  | zero =>
    intro hi
    have h2 : pc (gs pk (cN C) 0) (cN C) = 0 := gS_0 _ (fun s _ => by show (if (0 : Nat).testBit s = true then 1 else 0) = 0; rw [Nat.zero_testBit]; rfl)
    exact ⟨Cl_0 _ _, h2, key 0 hi (Cl_0 _ _) h2⟩
  | succ i ih =>
    intro hi
    obtain ⟨h1, h2, h3⟩ := ih (by omega)
    have h4 := h3 (by omega)
    have h5 := hp _ _ (nx_hit h4)
    have h6 : Cl (cAf C) (cN C) (gs pk (cN C) (i + 1)) := Cl_or (by have := Od_A hV _ h4; omega) h1 h4 h5
    have h7 : pc (gs pk (cN C) (i + 1)) (cN C) = i + 1 := by
      show pc (gs pk (cN C) i ||| 2 ^ _) (cN C) = _
      rw [pc_or (mayB_n _ _ h5), if_pos h4, h2]
    exact ⟨h6, h7, key _ hi h6 h7⟩
/-! layFirst -/
theorem layFirst_in {M : Mem} {o : Nat} {C : CoatA} (h : SQ M o C (cAf C) (fun _ => 511)) (rc : Int32 → Int32 → Mem → Option (Bool × Mem)) {S i : Nat} (hS : S < 2 ^ cN C) (hi : i < 9) : f_X3_layFirst_14 rc (nI S) (nI i) FU (nI 0, M) = if nx (mayB (cAf C) S) (cN C) < cN C then rc (nI (S ||| 2 ^ nx (mayB (cAf C) S) (cN C))) (nI (i + 1)) (sA M 17 4 i (nI (nx (mayB (cAf C) S) (cN C)))) else some (false, M) := by
  have hn : cN C ≤ 9 := h.2.2.2.1.1
  have w := (pw9 (cN C) (by omega)).2.1
  have h17 : gI M 17 1 = nI (cN C) := h.2.2.2.2.1
  have hl := nx_le (mayB (cAf C) S) (cN C)
  have K : ∀ m, m ≤ cN C → f_X3_layFirst_37 rc (nI S) (nI i) (nI m) M = if m < cN C then rc (nI (S ||| 2 ^ m)) (nI (i + 1)) (sA M 17 4 i (nI m)) else some (false, M) := by
    intro m hm
    unfold f_X3_layFirst_37
    rw [h17]
    by_cases q : m = cN C
    · rw [if_pos (by rw [q]), if_neg (by omega)]
    · rw [if_neg (ne_n q (by omega) (by omega)), if_pos (by omega), gin_n (by omega) (by omega), ix_n (by omega), nm_s, or_nI (by omega), nm_s, nI_add, nm_s]
  rw [← K _ hl]
  unfold f_X3_layFirst_14
  refine lpU_find (fun s => (nI s, M)) (cN C) (fun m => f_X3_layFirst_37 rc (nI S) (nI i) (nI m) M) (fun s => mayB (cAf C) S s = true) (by omega) ?_ ?_ ?_ _ hl (fun j hj => by rw [nx_min hj]; decide) (fun q => nx_hit q) 0 (Nat.zero_le _)
  · intro rc2
    show b_X3_layFirst_14 rc (nI S) (nI i) _ (nI (cN C)) M = _
    unfold b_X3_layFirst_14
    rw [h17, if_pos (nI_le (Nat.le_refl _) (by omega))]
  · intro rc2 s hs hst
    show b_X3_layFirst_14 rc (nI S) (nI i) _ (nI s) M = _
    unfold b_X3_layFirst_14
    rw [h17, if_neg (nI_ge hs (by omega)), mayCome_v h (by omega) hs, mayP_B (n := 9) (by omega), bn_s, if_pos hst]
  · intro rc2 s hs hst
    show b_X3_layFirst_14 rc (nI S) (nI i) _ (nI s) M = _
    unfold b_X3_layFirst_14
    rw [h17, if_neg (nI_ge hs (by omega)), mayCome_v h (by omega) hs, mayP_B (n := 9) (by omega), bn_s, if_neg hst, nI_add, nm_s]
def gsB (C : CoatA) : Nat → Nat := gs (mayB (cAf C)) (cN C)
def rwB (C : CoatA) (i : Nat) : Nat := nx (mayB (cAf C) (gsB C i)) (cN C)
theorem gsB_lt {C : CoatA} (m : Nat) (h : ∀ i, i < m → rwB C i < cN C) : ∀ i, i ≤ m → gsB C i < 2 ^ cN C := by
  intro i
  induction i with
  | zero => intro _; exact Nat.two_pow_pos _
  | succ i ih => intro hi; exact or_lt (ih (by omega)) (h i (by omega))
theorem layFirst_v {M : Mem} {o : Nat} {C : CoatA} (h : SQ M o C (cAf C) (fun _ => 511)) (m : Nat) (hm : m ≤ cN C) (h1 : ∀ i, i < m → rwB C i < cN C) (h2 : m < cN C → ¬ rwB C m < cN C) : ∃ M', f_X3_layFirst M = some (decide (m = cN C), M') ∧ FK 17 (p1 4) M M' ∧ ∀ i, i < m → gA M' 17 4 i = nI (rwB C i) := by
  have hn : cN C ≤ 9 := h.2.2.2.1.1
  have h17 : gI M 17 1 = nI (cN C) := h.2.2.2.2.1
  unfold f_X3_layFirst f_X3_layFirst_4
  refine lpU_inv (fun i a => ∃ M', a = (nI (gsB C i), nI i, M') ∧ FK 17 (p1 4) M M' ∧ ∀ j, j < i → gA M' 17 4 j = nI (rwB C j)) m (fun x => ∃ M', x = some (decide (m = cN C), M') ∧ FK 17 (p1 4) M M' ∧ ∀ i, i < m → gA M' 17 4 i = nI (rwB C i)) (by omega) ?_ ?_ 0 _ (Nat.zero_le _) ⟨M, rfl, FK_rf M, fun j hj => by omega⟩
  · rintro rc a ⟨M', rfl, hf, ht⟩
    show ∃ M'', b_X3_layFirst_4 _ (nI (gsB C m)) (nI m) M' = _ ∧ _
    unfold b_X3_layFirst_4
    rw [hf.1, h17]
    by_cases q : m = cN C
    · rw [if_pos (nI_le (by omega) (by omega)), decide_eq_true q]
      exact ⟨M', rfl, hf, ht⟩
    · rw [if_neg (nI_ge (by omega) (by omega)), layFirst_in (SQ_cg h hf rfl rfl) _ (gsB_lt m h1 m (Nat.le_refl _)) (by omega), if_neg (show ¬ nx (mayB (cAf C) (gsB C m)) (cN C) < cN C from h2 (by omega)), decide_eq_false q]
      exact ⟨M', rfl, hf, ht⟩
  · rintro rc i a hi ⟨M', rfl, hf, ht⟩
    refine Or.inr ?_
    show ∃ a', _ ∧ b_X3_layFirst_4 _ (nI (gsB C i)) (nI i) M' = _
    unfold b_X3_layFirst_4
    rw [hf.1, h17, if_neg (nI_ge (by omega) (by omega)), layFirst_in (SQ_cg h hf rfl rfl) _ (gsB_lt m h1 i (by omega)) (by omega), if_pos (show nx (mayB (cAf C) (gsB C i)) (cN C) < cN C from h1 i hi)]
    refine ⟨_, ⟨_, rfl, FK_tr hf (FK_sA M' (p1_r 4)), fun j hj => ?_⟩, rfl⟩
    rw [gA_sA]
    by_cases q : j = i
    · rw [if_pos ⟨rfl, rfl, q⟩, q]; rfl
    · rw [if_neg (fun z => q z.2.2)]
      exact ht j (by omega)
/-- an ordered coat, on both sides -/
def SF (M : Mem) (o : Nat) (C : CoatA) : Prop := SQ M o C (cAf C) (fun _ => 511) ∧ ∀ i, i < cN C → gA M 17 4 i = nI (rwB C i)
def MF (M : Mem) (k : Nat) (C : CoatA) : Prop := MH M k C ∧ gI M 100 35 = nI (2 ^ cN C - 1) ∧ ∀ j, j < 2 ^ cN C → gB M 100 34 j = lN (gw (mayB (cAf C)) (cN C) j)
theorem ordered_cases {Mx Mm : Mem} (H : Rl Mx Mm) (a : Int32) : (∃ M', f_X9_orderedAt Mx a = some (none, M') ∧ FX Mx M' ∧ ∀ Mn, FM Mm Mn → ∃ c M1, f_X10_hand Mn a = some (c, M1) ∧ FM Mn M1 ∧ (c = true → (∃ n, n ≤ 9 ∧ gI M1 100 24 = nI n) ∧ ∃ M2, f_X10_findOrders M1 = some (false, M2) ∧ FM M1 M2)) ∨ ∃ k C r M', k < 2 ∧ a = nI k ∧ Od C r ∧ f_X9_orderedAt Mx a = some (some (2 + k), M') ∧ FX Mx M' ∧ SF M' (2 + k) C ∧ ∀ Mn, FM Mm Mn → ∃ M1 M2, f_X10_hand Mn a = some (true, M1) ∧ FM Mn M1 ∧ gI M1 100 24 = nI (cN C) ∧ f_X10_findOrders M1 = some (true, M2) ∧ FM M1 M2 ∧ MF M2 k C := by
  rcases coat_cases H a with ⟨e1, e2⟩ | ⟨k, C, hk, rfl, hV, hX, hM, e1, e2⟩
  · refine Or.inl ⟨Mx, ?_, FX_rf Mx, fun Mn hn => ⟨false, Mn, e2 Mn hn, FM_rf Mn, fun z => absurd z (by decide)⟩⟩
    unfold f_X9_orderedAt
    rw [e1]
    rfl
  · have hn := hV.1
    have hS := tk_SQ hX hV (o := 2 + k) (by omega)
    have hF := FX_tk Mx (2 + k) C
    have hMn : ∀ Mn, FM Mm Mn → ∃ M2, f_X10_hand Mn (nI k) = some (true, mh Mn k C) ∧ FM Mn (mh Mn k C) ∧ f_X10_findOrders (mh Mn k C) = some (decide (0 < gw (mayB (cAf C)) (cN C) 0), M2) ∧ FM (mh Mn k C) M2 ∧ MF M2 k C := by
      intro Mn hMn
      have hH := mh_MH (M := Mn) hk (CM_cg (hMn 6 (by omega)) hM)
      obtain ⟨M1, g1, g2⟩ := findOrders_v hH hV
      refine ⟨M1, e2 Mn hMn, FM_mh Mn k C, g1, FO_FM g2, ?_⟩
      obtain ⟨M3, rfl, g5, g6⟩ := g2
      exact ⟨MH_FK (mH_sI hH (by omega)) g5 rfl, by rw [g5.1]; rfl, g6⟩
    obtain ⟨m, q1, q2, q3⟩ := first_of (fun i => ¬ rwB C i < cN C) (cN C)
    obtain ⟨M', l1, l2, l3⟩ := layFirst_v hS m q1 (fun i hi => Classical.not_not.mp (q2 i hi)) q3
    have hO : f_X9_orderedAt Mx (nI k) = some (if m = cN C then some (2 + k) else none, M') := by
      unfold f_X9_orderedAt
      rw [e1, bn_s, opt_some, take_v hX, bn_s, l1, bp_s]
      by_cases q : m = cN C
      · rw [if_pos (decide_eq_true q), if_pos q]
      · rw [if_neg (by simp [q]), if_neg q]
    have hFX := FX_tr hF (FK_FX l2 (by omega))
    by_cases z : 0 < gw (mayB (cAf C)) (cN C) 0
    · obtain ⟨r, hr⟩ := Od_ex hV z
      have hg := gs_v hV (pk := mayB (cAf C)) (fun _ _ h => h) (fun S a b => Od_next hr a b)
      have em : m = cN C := by
        by_cases q : m = cN C
        · exact q
        · exact absurd ((hg m (by omega)).2.2 (by omega)) (q3 (by omega))
      rw [if_pos em] at hO
      refine Or.inr ⟨k, C, r, M', hk, rfl, hr, hO, hFX, ⟨SQ_cg hS l2 rfl rfl, fun i hi => l3 i (by omega)⟩, fun Mn hm => ?_⟩
      obtain ⟨M2, a1, a2, a3, a4, a5⟩ := hMn Mn hm
      rw [decide_eq_true z] at a3
      exact ⟨_, M2, a1, a2, rfl, a3, a4, a5⟩
    · have em : ¬ m = cN C := by
        intro q
        apply z
        have key : ∀ d i, i ≤ cN C → cN C - i ≤ d → 0 < gw (mayB (cAf C)) (cN C) (gsB C i) := by
          have hl : ∀ i, i ≤ cN C → pc (gsB C i) (cN C) = i := by
            intro i
            induction i with
            | zero => intro _; exact gS_0 _ (fun s _ => by show (if (0 : Nat).testBit s = true then 1 else 0) = 0; rw [Nat.zero_testBit]; rfl)
            | succ i ih =>
              intro hi
              have h4 : rwB C i < cN C := Classical.not_not.mp (q2 i (by omega))
              show pc (gsB C i ||| 2 ^ rwB C i) (cN C) = _
              rw [pc_or (s := rwB C i) (mayB_n _ _ (nx_hit h4)), if_pos h4, ih (by omega)]
          have h0 : 0 < gw (mayB (cAf C)) (cN C) (gsB C (cN C)) := by
            have hlt := gsB_lt (C := C) (cN C) (fun i hi => Classical.not_not.mp (q2 i (by omega))) (cN C) (Nat.le_refl _)
            have : gsB C (cN C) = 2 ^ cN C - 1 := by
              by_cases e : gsB C (cN C) < 2 ^ cN C - 1
              · obtain ⟨s, a, b⟩ := lt_all e
                have := pc_lt a b
                rw [hl _ (Nat.le_refl _)] at this
                omega
              · omega
            rw [this, gw_all mayB_n hn]
            exact Nat.one_pos
          intro d
          induction d with
          | zero => intro i a b; rw [show i = cN C by omega]; exact h0
          | succ d ih =>
            intro i a b
            by_cases e : i = cN C
            · rw [e]; exact h0
            · have h4 : rwB C i < cN C := Classical.not_not.mp (q2 i (by omega))
              exact gw_pos hn (gsB_lt (cN C) (fun i hi => Classical.not_not.mp (q2 i (by omega))) i a) h4 (nx_hit h4) (ih (i + 1) (by omega) (by omega))
        exact key 10 0 (Nat.zero_le _) (by omega)
      rw [if_neg em] at hO
      refine Or.inl ⟨M', hO, hFX, fun Mn hm => ?_⟩
      obtain ⟨M2, a1, a2, a3, a4, a5⟩ := hMn Mn hm
      rw [decide_eq_false z] at a3
      exact ⟨true, _, a1, a2, fun _ => ⟨⟨cN C, hn, rfl⟩, M2, a3, a4⟩⟩
