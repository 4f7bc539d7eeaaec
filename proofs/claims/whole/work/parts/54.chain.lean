/-! THE LONGEST ROW; order, sewn -/
def mxS (p : Nat → Bool) (f : Nat → Nat) : Nat → Nat
  | 0 => 0
  | o + 1 => if p o then max (mxS p f o) (f o) else mxS p f o
theorem mxS_le {p : Nat → Bool} {f : Nat → Nat} {B : Nat} : ∀ n, (∀ s, s < n → p s = true → f s ≤ B) → mxS p f n ≤ B := by
  intro n
  induction n with
  | zero => intro _; exact Nat.zero_le _
  | succ n ih =>
    intro h
    show (if p n = true then max (mxS p f n) (f n) else mxS p f n) ≤ B
    have := ih (fun s a b => h s (by omega) b)
    by_cases q : p n = true
    · rw [if_pos q]
      exact Nat.max_le.mpr ⟨this, h n (by omega) q⟩
    · rw [if_neg q]; exact this
theorem mxS_ge {p : Nat → Bool} {f : Nat → Nat} {s : Nat} (h : p s = true) : ∀ n, s < n → f s ≤ mxS p f n := by
  intro n
  induction n with
  | zero => intro h; omega
  | succ n ih =>
    intro hs
    show f s ≤ (if p n = true then max (mxS p f n) (f n) else mxS p f n)
    by_cases q : s = n
    · rw [← q, if_pos h]; exact Nat.le_max_right _ _
    · have := ih (by omega)
      by_cases r : p n = true
      · rw [if_pos r]; exact Nat.le_trans this (Nat.le_max_left _ _)
      · rw [if_neg r]; exact this
theorem mxS_cg {p : Nat → Bool} {f g : Nat → Nat} : ∀ n, (∀ s, s < n → p s = true → f s = g s) → mxS p f n = mxS p g n := by
  intro n
  induction n with
  | zero => intro _; rfl
  | succ n ih =>
    intro h
    show (if p n = true then max (mxS p f n) (f n) else mxS p f n) = if p n = true then max (mxS p g n) (g n) else mxS p g n
    rw [ih (fun s a b => h s (by omega) b)]
    by_cases q : p n = true
    · rw [if_pos q, if_pos q, h n (by omega) q]
    · rw [if_neg q, if_neg q]
/-- the first order's places -/
theorem gsB_tb (C : CoatA) : ∀ i t, (gsB C i).testBit t = true ↔ ∃ j, j < i ∧ rwB C j = t := by
  intro i
  induction i with
  | zero =>
    intro t
    constructor
    · intro h
      have h' : (0 : Nat).testBit t = true := h
      rw [Nat.zero_testBit] at h'
      exact absurd h' (by decide)
    · rintro ⟨j, h, _⟩
      omega
  | succ i ih =>
    intro t
    show (gsB C i ||| 2 ^ rwB C i).testBit t = true ↔ _
    rw [or_tb, Bool.or_eq_true, decide_eq_true_eq, ih t]
    constructor
    · rintro (⟨j, a, b⟩ | h)
      · exact ⟨j, by omega, b⟩
      · exact ⟨i, by omega, h⟩
    · rintro ⟨j, a, b⟩
      by_cases q : j = i
      · right; rw [← q]; exact b
      · exact Or.inl ⟨j, by omega, b⟩
theorem rwB_v {C : CoatA} {r : Nat → Nat} (hO : Od C r) {i : Nat} (hi : i < cN C) : rwB C i < cN C ∧ (∀ j, j < i → ¬ rwB C j = rwB C i) ∧ ∀ o, (cAf C (rwB C i)).testBit o = true → ∃ j, j < i ∧ rwB C j = o := by
  obtain ⟨g1, g2⟩ := gsB_v hO (i := i) (by omega)
  have g3 := g2 hi
  have g4 : mayB (cAf C) (gsB C i) (rwB C i) = true := nx_hit g3
  have hn := hO.1.1
  have w := (pw9 (cN C) (by omega)).2.1
  rw [mayB_t (by have := Od_A hO.1 _ g3; omega)] at g4
  refine ⟨g3, fun j hj e => ?_, fun o ho => (gsB_tb C i o).mp (g4.2 o ho)⟩
  have := (gsB_tb C i (rwB C i)).mpr ⟨j, hj, e⟩
  rw [g4.1] at this
  exact absurd this (by decide)
theorem rwB_on {C : CoatA} {r : Nat → Nat} (hO : Od C r) {s : Nat} (hs : s < cN C) : ∃ i, i < cN C ∧ rwB C i = s := by
  apply (gsB_tb C (cN C) s).mp
  have h := gs_v hO.1 (pk := mayB (cAf C)) (fun _ _ h => h) (fun S a b => Od_next hO a b) (cN C) (Nat.le_refl _)
  have h1 := h.1.1
  have h2 : pc (gsB C (cN C)) (cN C) = cN C := h.2.1
  cases q : (gsB C (cN C)).testBit s with
  | true => rfl
  | false =>
    have := pc_lt hs q
    omega
def wtP (C : CoatA) (p s : Nat) : Nat := (cSt C s + p - 1) / p
theorem wtP_le {C : CoatA} (hV : CV C) {p s : Nat} (hp : 0 < p) (hs : s < cN C) : 1 ≤ wtP C p s ∧ wtP C p s ≤ 9 := by
  have h := (hV.2.2.1 s hs).1
  unfold wtP
  rw [upd_div h.1 hp]
  have h2 := Nat.div_le_self (cSt C s - 1) p
  refine ⟨Nat.le_add_left 1 _, ?_⟩
  generalize (cSt C s - 1) / p = q at h2
  omega
/-- ends of seams, laid along the first order -/
def eN (C : CoatA) (p : Nat) : Nat → Nat → Nat
  | 0 => fun _ => 0
  | i + 1 => fun t => if t = rwB C i then mxS (fun o => (cAf C (rwB C i)).testBit o) (eN C p i) (cN C) + wtP C p (rwB C i) else eN C p i t
def eL (C : CoatA) (p : Nat) : Nat → Nat := eN C p (cN C)
theorem eN_st {C : CoatA} {r : Nat → Nat} (hO : Od C r) (p : Nat) {j : Nat} : ∀ i, j < i → i ≤ cN C → eN C p i (rwB C j) = eN C p (j + 1) (rwB C j) := by
  intro i
  induction i with
  | zero => intro h; omega
  | succ i ih =>
    intro h1 h2
    by_cases q : j = i
    · rw [q]
    · show (if rwB C j = rwB C i then _ else eN C p i (rwB C j)) = _
      rw [if_neg ((rwB_v hO (i := i) (by omega)).2.1 j (by omega))]
      exact ih (by omega) (by omega)
theorem eL_i {C : CoatA} {r : Nat → Nat} (hO : Od C r) (p : Nat) {i : Nat} (hi : i < cN C) : eL C p (rwB C i) = mxS (fun o => (cAf C (rwB C i)).testBit o) (eN C p i) (cN C) + wtP C p (rwB C i) := by
  unfold eL
  rw [eN_st hO p (cN C) hi (Nat.le_refl _)]
  exact if_pos rfl
theorem eL_eq {C : CoatA} {r : Nat → Nat} (hO : Od C r) (p : Nat) {i : Nat} (hi : i < cN C) {g : Nat → Nat} (hg : ∀ j, j < i → g (rwB C j) = eL C p (rwB C j)) : eL C p (rwB C i) = mxS (fun o => (cAf C (rwB C i)).testBit o) g (cN C) + wtP C p (rwB C i) := by
  rw [eL_i hO p hi]
  congr 1
  refine mxS_cg _ (fun o _ ho => ?_)
  obtain ⟨j, h1, rfl⟩ := (rwB_v hO hi).2.2 o ho
  rw [hg j h1]
  unfold eL
  rw [eN_st hO p i h1 (by omega), eN_st hO p (cN C) (by omega) (Nat.le_refl _)]
theorem eN_b {C : CoatA} {r : Nat → Nat} (hO : Od C r) {p : Nat} (hp : 0 < p) : ∀ i, i ≤ cN C → ∀ t, eN C p i t ≤ 9 * i := by
  intro i
  induction i with
  | zero => intro _ t; exact Nat.le_refl _
  | succ i ih =>
    intro hi t
    show (if t = rwB C i then mxS (fun o => (cAf C (rwB C i)).testBit o) (eN C p i) (cN C) + wtP C p (rwB C i) else eN C p i t) ≤ _
    have h1 := mxS_le (p := fun o => (cAf C (rwB C i)).testBit o) (f := eN C p i) (B := 9 * i) (cN C) (fun s _ _ => ih (by omega) s)
    have h2 := (wtP_le hO.1 hp (rwB_v hO (i := i) (by omega)).1).2
    have h3 := ih (by omega) t
    split <;> omega
def lgS (C : CoatA) (p : Nat) : Nat := mxS (fun _ => true) (eL C p) (cN C)
theorem lg_row {C : CoatA} {r : Nat → Nat} (hO : Od C r) (p : Nat) : mxS (fun _ => true) (fun i => eL C p (rwB C i)) (cN C) = lgS C p := by
  apply Nat.le_antisymm
  · exact mxS_le _ (fun i hi _ => mxS_ge (p := fun _ => true) rfl (cN C) (rwB_v hO hi).1)
  · refine mxS_le _ (fun s hs _ => ?_)
    obtain ⟨i, h1, rfl⟩ := rwB_on hO hs
    exact mxS_ge (p := fun _ => true) (f := fun i => eL C p (rwB C i)) rfl (cN C) h1
theorem longest_v {M : Mem} {o : Nat} {C : CoatA} {r : Nat → Nat} (h : SF M o C) (hO : Od C r) {p : Nat} (hp : 1 ≤ p ∧ p ≤ 9) : ∃ M', f_X3_longest M (nI p) = some (nI (lgS C p), M') ∧ FK 17 (p1 5) M M' := by
  obtain ⟨hS, hR⟩ := h
  have hV := hO.1
  have hn := hV.1
  have w := (pw9 (cN C) (by omega)).2.1
  have h17 : gI M 17 1 = nI (cN C) := hS.2.2.2.2.1
  have hq : ∀ i, i ≤ cN C → mxS (fun _ => true) (fun i => eL C p (rwB C i)) i ≤ 81 := fun i hi => mxS_le i (fun j hj _ => by
    have := eN_b hO (p := p) (by omega) (cN C) (Nat.le_refl _) (rwB C j)
    show eL C p (rwB C j) ≤ 81
    unfold eL
    omega)
  rw [← lg_row hO]
  unfold f_X3_longest f_X3_longest_4
  refine lpU_inv (fun i a => ∃ M', a = (nI (mxS (fun _ => true) (fun i => eL C p (rwB C i)) i), nI i, M') ∧ FK 17 (p1 5) M M' ∧ ∀ j, j < i → gA M' 17 5 (rwB C j) = nI (eL C p (rwB C j))) (cN C) (fun x => ∃ M', x = some (nI (mxS (fun _ => true) (fun i => eL C p (rwB C i)) (cN C)), M') ∧ FK 17 (p1 5) M M') (by omega) ?_ ?_ 0 _ (Nat.zero_le _) ⟨M, rfl, FK_rf M, fun j h => by omega⟩
  · rintro rc a ⟨M', rfl, hf, ht⟩
    show ∃ M'', b_X3_longest_4 (nI p) _ _ (nI (cN C)) M' = _ ∧ _
    unfold b_X3_longest_4
    rw [hf.1, h17, if_pos (nI_le (Nat.le_refl _) (by omega))]
    exact ⟨M', rfl, hf⟩
  · rintro rc i a hi ⟨M', rfl, hf, ht⟩
    refine Or.inr ?_
    show ∃ a', _ ∧ b_X3_longest_4 (nI p) _ _ (nI i) M' = _
    unfold b_X3_longest_4
    have hS' := SQ_cg hS hf rfl rfl
    obtain ⟨g1, g2, g3⟩ := rwB_v hO hi
    have e4 : gA M' 17 4 i = nI (rwB C i) := by rw [(hf.2.2 17 4 (by decide)).1]; exact hR i hi
    have hq' := hq i (by omega)
    have hw := wtP_le hV (p := p) (by omega) g1
    have hA := Od_A hV _ g1
    have hL : ∀ t, t ≤ cN C → mxS (fun o => (cAf C (rwB C i)).testBit o) (eL C p) t ≤ 81 := fun t ht => mxS_le t (fun j hj _ => by
      have := eN_b hO (p := p) (by omega) (cN C) (Nat.le_refl _) j
      unfold eL
      omega)
    rw [hf.1, h17, if_neg (nI_ge hi (by omega)), gin_n (by omega) (by omega), ix_n (by omega), e4, nm_s]
    unfold f_X3_longest_26
    refine lpU_inv (fun t a => a = (nI (mxS (fun o => (cAf C (rwB C i)).testBit o) (eL C p) t), nI t, M')) (cN C) (fun x => ∃ a', (∃ M', a' = (nI (mxS (fun _ => true) (fun i => eL C p (rwB C i)) (i + 1)), nI (i + 1), M') ∧ FK 17 (p1 5) M M' ∧ ∀ j, j < i + 1 → gA M' 17 5 (rwB C j) = nI (eL C p (rwB C j))) ∧ x = rc a') (by omega) ?_ ?_ 0 _ (Nat.zero_le _) rfl
    · rintro rc2 a rfl
      show ∃ a', _ ∧ b_X3_longest_26 (nI p) _ _ (nI i) (nI (rwB C i)) _ _ (nI (cN C)) M' = _
      unfold b_X3_longest_26
      have e := eL_eq hO p hi (g := eL C p) (fun _ _ => rfl)
      have hb := hL (cN C) (Nat.le_refl _)
      have e5 : gA (sA M' 17 5 (rwB C i) (nI (eL C p (rwB C i)))) 17 5 (rwB C i) = nI (eL C p (rwB C i)) := by rw [gA_sA, if_pos ⟨rfl, rfl, rfl⟩]
      rw [hf.1, h17, if_pos (nI_le (Nat.le_refl _) (by omega)), gin_n (by omega) (by omega), ix_n (by omega), hS'.1, (hS'.2.2.1.2.2.1 _ g1).1, begun_v (by have := (hV.2.2.1 _ g1).1; omega) (by omega) (by omega), bn_s, gin_n (by omega) (by omega), nI_add, nm_s, gin_n (by omega) (by omega)]
      have e' : mxS (fun o => (cAf C (rwB C i)).testBit o) (eL C p) (cN C) + (cSt C (rwB C i) + p - 1) / p = eL C p (rwB C i) := e.symm
      rw [e', e5, mx_n (by omega) (by omega), nm_s, nI_add, nm_s]
      refine ⟨_, ⟨_, rfl, FK_tr hf (FK_sA M' (p1_r 5)), fun j hj => ?_⟩, rfl⟩
      rw [gA_sA]
      by_cases q : j = i
      · rw [if_pos ⟨rfl, rfl, by rw [q]⟩, q]
      · rw [if_neg (fun z => g2 j (by omega) z.2.2)]
        exact ht j (by omega)
    · rintro rc2 t a hs rfl
      refine Or.inr ⟨_, rfl, ?_⟩
      show b_X3_longest_26 (nI p) _ _ (nI i) (nI (rwB C i)) _ _ (nI t) M' = rc2 (nI (if (cAf C (rwB C i)).testBit t = true then _ else _), nI (t + 1), M')
      unfold b_X3_longest_26
      rw [hf.1, h17, if_neg (nI_ge hs (by omega)), gin_n (by omega) (by omega), ix_n (by omega), (hS'.2.2.2.2.2 (rwB C i) (by omega)).1.1, ite_p (bit_n (by omega) (by omega))]
      unfold f_X3_longest_65
      by_cases q : (cAf C (rwB C i)).testBit t = true
      · obtain ⟨j, h1, rfl⟩ := g3 t q
        have := hL (rwB C j) (by omega)
        have hb := eN_b hO (p := p) (by omega) (cN C) (Nat.le_refl _) (rwB C j)
        have hb' : eL C p (rwB C j) ≤ 9 * cN C := hb
        rw [if_pos q, if_pos q, gin_n (by omega) (by omega), ix_n (by omega), ht j h1, mx_n (by omega) (by omega), nm_s, nI_add, nm_s]
      · rw [if_neg q, if_neg q, nI_add, nm_s]
theorem chain_v {M : Mem} {k : Nat} {C : CoatA} {r : Nat → Nat} (hH : MH M k C) (hO : Od C r) (dy : Bool) : ∃ M', f_X10_chain M dy = some (nI (lgS C (if dy = true then cP C else 1)), M') ∧ FK 100 (p1 38) M M' := by
  have hV := hO.1
  have hn := hV.1
  have w := (pw9 (cN C) (by omega)).2.1
  have h24 := hH.2.2.1
  have hp : 1 ≤ (if dy = true then cP C else 1) ∧ (if dy = true then cP C else 1) ≤ 9 := by
    have := hV.2.1
    split <;> omega
  generalize eP : (if dy = true then cP C else 1) = p at hp
  unfold f_X10_chain f_X10_chain_2
  refine lpU_inv (fun i a => ∃ M', a = (nI i, M') ∧ FK 100 (p1 38) M M' ∧ ∀ t, t < i → gA M' 100 38 t = nI 0) 9 (fun x => ∃ M', x = some (nI (lgS C p), M') ∧ FK 100 (p1 38) M M') (by omega) ?_ ?_ 0 _ (Nat.zero_le _) ⟨M, rfl, FK_rf M, fun t h => by omega⟩
  · rintro rc a ⟨M1, rfl, hf, ht⟩
    show ∃ M'', b_X10_chain_2 dy _ (nI 9) M1 = _ ∧ _
    unfold b_X10_chain_2
    rw [if_pos (nI_le (Nat.le_refl _) (by omega))]
    unfold f_X10_chain_25
    refine lpU_inv (fun R a => ∃ (M' : Mem) (ρ : Nat → Nat), a = (nI R, M') ∧ FK 100 (p1 38) M M' ∧ (∀ t, t < 9 → gA M' 100 38 t = nI (ρ t) ∧ ρ t ≤ 9 * (9 * R)) ∧ ∀ i, i < R → i < cN C → ρ (rwB C i) = eL C p (rwB C i)) 9 (fun x => ∃ M', x = some (nI (lgS C p), M') ∧ FK 100 (p1 38) M M') (by omega) ?_ ?_ 0 _ (Nat.zero_le _) ⟨M1, fun _ => 0, rfl, hf, fun t h => ⟨ht t h, Nat.zero_le _⟩, fun i h => by omega⟩
    · rintro rc2 a ⟨M2, ρ, rfl, hf2, hr2, hl2⟩
      show ∃ M'', b_X10_chain_25 dy false _ (nI 9) M2 = _ ∧ _
      unfold b_X10_chain_25
      rw [if_pos (nI_le (Nat.le_refl _) (by omega))]
      have hl3 : ∀ s, s < cN C → ρ s = eL C p s := fun s hs => by
        obtain ⟨i, h1, rfl⟩ := rwB_on hO hs
        exact hl2 i (by omega) h1
      unfold f_X10_chain_154
      refine lpU_inv (fun s a => a = (nI (mxS (fun _ => true) (eL C p) s), nI s, M2)) (cN C) (fun x => ∃ M', x = some (nI (lgS C p), M') ∧ FK 100 (p1 38) M M') (by omega) ?_ ?_ 0 _ (Nat.zero_le _) rfl
      · rintro rc3 a rfl
        show ∃ M'', b_X10_chain_154 dy _ _ (nI (cN C)) M2 = _ ∧ _
        unfold b_X10_chain_154
        rw [hf2.1, h24, if_pos (nI_le (Nat.le_refl _) (by omega))]
        exact ⟨M2, rfl, hf2⟩
      · rintro rc3 s a hs rfl
        refine Or.inr ⟨_, rfl, ?_⟩
        show b_X10_chain_154 dy _ _ (nI s) M2 = rc3 (nI (if true = true then _ else _), nI (s + 1), M2)
        unfold b_X10_chain_154
        have h1 := mxS_le (p := fun _ => true) (f := eL C p) (B := 81) s (fun j hj _ => by
          have := eN_b hO (p := p) (by omega) (cN C) (Nat.le_refl _) j
          unfold eL
          omega)
        have h2 := eN_b hO (p := p) (by omega) (cN C) (Nat.le_refl _) s
        have h2' : eL C p s ≤ 9 * cN C := h2
        rw [hf2.1, h24, if_neg (nI_ge hs (by omega)), gin_n (by omega) (by omega), ix_n (by omega), (hr2 s (by omega)).1, hl3 s hs, greater_n (by omega) (by omega), bn_s, nI_add, nm_s, if_pos rfl]
    · rintro rc2 R a hR ⟨M2, ρ, rfl, hf2, hr2, hl2⟩
      refine Or.inr ?_
      show ∃ a', _ ∧ b_X10_chain_25 dy false _ (nI R) M2 = _
      unfold b_X10_chain_25
      rw [if_neg (nI_ge hR (by omega))]
      unfold f_X10_chain_34
      refine lpU_inv (fun s a => ∃ (M3 : Mem) (ρ : Nat → Nat), a = (nI s, M3) ∧ FK 100 (p1 38) M M3 ∧ (∀ t, t < 9 → gA M3 100 38 t = nI (ρ t) ∧ ρ t ≤ 9 * (9 * R + s)) ∧ (∀ i, i < R → i < cN C → ρ (rwB C i) = eL C p (rwB C i)) ∧ (R < cN C → rwB C R < s → ρ (rwB C R) = eL C p (rwB C R))) (cN C) (fun x => ∃ a', (∃ (M' : Mem) (ρ : Nat → Nat), a' = (nI (R + 1), M') ∧ FK 100 (p1 38) M M' ∧ (∀ t, t < 9 → gA M' 100 38 t = nI (ρ t) ∧ ρ t ≤ 9 * (9 * (R + 1))) ∧ ∀ i, i < R + 1 → i < cN C → ρ (rwB C i) = eL C p (rwB C i)) ∧ x = rc2 a') (by omega) ?_ ?_ 0 _ (Nat.zero_le _) ⟨M2, ρ, rfl, hf2, fun t h => ⟨(hr2 t h).1, by have := (hr2 t h).2; omega⟩, hl2, fun _ h => by omega⟩
      · rintro rc3 a ⟨M3, ρ, rfl, hf3, hr3, hl3, hl4⟩
        show ∃ a', _ ∧ b_X10_chain_34 dy false _ (nI R) _ (nI (cN C)) M3 = _
        unfold b_X10_chain_34
        rw [hf3.1, h24, if_pos (nI_le (Nat.le_refl _) (by omega)), nI_add, nm_s]
        refine ⟨_, ⟨M3, ρ, rfl, hf3, fun t h => ⟨(hr3 t h).1, by have := (hr3 t h).2; omega⟩, fun i h1 h2 => ?_⟩, rfl⟩
        by_cases q : i = R
        · rw [q]; exact hl4 (by omega) (rwB_v hO (by omega)).1
        · exact hl3 i (by omega) h2
      · rintro rc3 s a hs ⟨M3, ρ, rfl, hf3, hr3, hl3, hl4⟩
        refine Or.inr ?_
        show ∃ a', _ ∧ b_X10_chain_34 dy false _ (nI R) _ (nI s) M3 = _
        unfold b_X10_chain_34
        have hH3 := MH_FK hH hf3 rfl
        have hA := Od_A hV _ hs
        have hst := (hV.2.2.1 _ hs).1
        have hw := wtP_le hV (p := p) (by omega) hs
        have hb : ∀ t, t ≤ cN C → mxS (fun o => (cAf C s).testBit o) ρ t ≤ 9 * (9 * R + s) := fun t ht => mxS_le t (fun j hj _ => (hr3 j (by omega)).2)
        have fin : ∃ a', (∃ (M4 : Mem) (ρ : Nat → Nat), a' = (nI (s + 1), M4) ∧ FK 100 (p1 38) M M4 ∧ (∀ t, t < 9 → gA M4 100 38 t = nI (ρ t) ∧ ρ t ≤ 9 * (9 * R + (s + 1))) ∧ (∀ i, i < R → i < cN C → ρ (rwB C i) = eL C p (rwB C i)) ∧ (R < cN C → rwB C R < s + 1 → ρ (rwB C R) = eL C p (rwB C R))) ∧ f_X10_chain_138 dy false (nI R) (fun x0 x1 => rc3 (x0, x1)) (nI s) (nI s) (nI (mxS (fun o => (cAf C s).testBit o) ρ (cN C))) (nI (wtP C p s)) M3 = rc3 a' := by
          unfold f_X10_chain_138
          rw [gin_n (by omega) (by omega), ix_n (by omega), nI_add, nm_s, nI_add, nm_s]
          have hb' := hb (cN C) (Nat.le_refl _)
          refine ⟨_, ⟨_, fun t => if t = s then mxS (fun o => (cAf C s).testBit o) ρ (cN C) + wtP C p s else ρ t, rfl, FK_tr hf3 (FK_sA M3 (p1_r 38)), fun t ht => ?_, fun i h1 h2 => ?_, fun h1 h2 => ?_⟩, rfl⟩
          · rw [gA_sA]
            by_cases q : t = s
            · rw [if_pos ⟨rfl, rfl, q⟩]
              simp only [if_pos q]
              exact ⟨trivial, by omega⟩
            · rw [if_neg (fun z => q z.2.2)]
              simp only [if_neg q]
              exact ⟨(hr3 t ht).1, by have := (hr3 t ht).2; omega⟩
          · show (if rwB C i = s then _ else _) = _
            by_cases q : rwB C i = s
            · rw [if_pos q]
              have := eL_eq hO p h2 (g := ρ) (fun j hj => hl3 j (by omega) (by omega))
              rw [q] at this ⊢
              exact this.symm
            · rw [if_neg q]
              exact hl3 i h1 h2
          · show (if rwB C R = s then _ else _) = _
            by_cases q : rwB C R = s
            · rw [if_pos q]
              have := eL_eq hO p h1 (g := ρ) (fun j hj => hl3 j (by omega) (by omega))
              rw [q] at this ⊢
              exact this.symm
            · rw [if_neg q]
              exact hl4 h1 (by omega)
        obtain ⟨hk, y0, -, y2, -, -, m2, m3, -⟩ := hH3
        rw [hf3.1, h24, if_neg (nI_ge hs (by omega))]
        unfold f_X10_chain_49
        obtain ⟨a', ha, hfin⟩ := fin
        refine ⟨a', ha, ?_⟩
        rw [← hfin]
        refine lpU_for (fun t => (nI (mxS (fun o => (cAf C s).testBit o) ρ t), nI t, M3)) (cN C) _ (by omega) 0 (Nat.zero_le _) ?_ ?_
        · intro rc4
          show b_X10_chain_49 dy false (nI R) _ (nI s) _ _ (nI (cN C)) M3 = _
          unfold b_X10_chain_49
          have hpp := hV.2.1
          rw [hf3.1, h24, if_pos (nI_le (Nat.le_refl _) (by omega)), nI_add, of_v y0 hk (by omega), (m2 s hs).1, bn_s, bn_s, y2]
          unfold wtP
          rw [← eP]
          cases dy with
          | true =>
            rw [if_pos rfl, if_pos rfl, upwards_v (by omega) (by omega) (by omega), bn_s]
          | false =>
            rw [if_neg (by decide), if_neg (by decide), Nat.add_sub_cancel, Nat.div_one]
        · intro rc4 t _ ht
          show b_X10_chain_49 dy false (nI R) _ (nI s) _ _ (nI t) M3 = rc4 (nI (if (cAf C s).testBit t = true then _ else _), nI (t + 1), M3)
          unfold b_X10_chain_49
          have hb' := hb t (by omega)
          have hr' := hr3 t (by omega)
          rw [hf3.1, h24, if_neg (nI_ge ht (by omega)), nI_add, of_v y0 hk (by omega), m3 s (by omega), bn_s, has_v (by omega) (by omega), bn_s]
          unfold f_X10_chain_92
          by_cases q : (cAf C s).testBit t = true
          · rw [if_pos q, if_pos q, gin_n (by omega) (by omega), ix_n (by omega), hr'.1, greater_n (by omega) (by omega), bn_s, nI_add, nm_s]
          · rw [if_neg q, if_neg q, nI_add, nm_s]
  · rintro rc i a hi ⟨M', rfl, hf, ht⟩
    refine Or.inr ?_
    show ∃ a', _ ∧ b_X10_chain_2 dy _ (nI i) M' = _
    unfold b_X10_chain_2
    rw [if_neg (nI_ge hi (by omega)), gin_n (by omega) (by omega), ix_n (by omega), nm_s, nI_add, nm_s]
    refine ⟨_, ⟨_, rfl, FK_tr hf (FK_sA M' (p1_r 38)), fun t h => ?_⟩, rfl⟩
    rw [gA_sA]
    by_cases q : t = i
    · rw [if_pos ⟨rfl, rfl, q⟩]
    · rw [if_neg (fun z => q z.2.2)]
      exact ht t (by omega)
theorem FKX {p : Nat → Bool} {A B : Mem} (h : FK 17 p A B) : FX A B := FK_FX h (by omega)
theorem q_sewn {Mx Mm : Mem} (H : Rl Mx Mm) (a w : Int32) : EqI Mx Mm (f_X9_sewn Mx a w) (f_X10_sewn Mm a w) := by
  have h0 := FM_sI Mm (o := 100) (k := 0) (v := nI 0)
  have hR0 := Rl_fr H (FX_rf Mx) h0
  unfold f_X9_sewn f_X10_sewn
  rw [nm_s]
  rcases ordered_cases H a with ⟨M', e1, e2, e3⟩ | ⟨k, C, r, M', hk, rfl, hO, e1, e2, ⟨hS, hR⟩, e3⟩
  · obtain ⟨c, M1, g1, g2, g3⟩ := e3 _ h0
    rw [e1, bp_s, opt_none]
    have hR0 := Rl_fr H e2 h0
    rcases int_cases w with hw | ⟨w, hw, rfl⟩
    · rw [in_neg hw 0 (by omega)]
      exact ⟨_, _, _, rfl, rfl, hR0⟩
    rw [in_n hw (by omega) (by omega), bn_s]
    by_cases c2 : 0 ≤ w ∧ w ≤ 3
    · rw [if_pos (dT c2), g1, bp_s]
      cases c with
      | false => exact ⟨_, _, _, rfl, rfl, Rl_fr H e2 (FM_tr h0 g2)⟩
      | true =>
        obtain ⟨-, M2, g5, g6⟩ := g3 rfl
        rw [if_pos rfl, g5]
        exact ⟨_, _, _, rfl, rfl, Rl_fr H e2 (FM_tr h0 (FM_tr g2 g6))⟩
    · rw [if_neg (dF c2)]
      exact ⟨_, _, _, rfl, rfl, hR0⟩
  · obtain ⟨M1, M2, g1, g2, g3, g4, g5, g6⟩ := e3 _ h0
    rw [e1, bp_s, opt_some]
    have hV := hO.1
    have hn := hV.1
    have hX := hS.2.2.1
    have hR0 := Rl_fr H e2 h0
    have hF2 := FM_tr h0 (FM_tr g2 g5)
    have w2 := (pw9 (cN C) (by omega)).2.1
    rcases int_cases w with hw | ⟨w, hw, rfl⟩
    · rw [in_neg hw 0 (by omega), if_neg (neg_ne hw 0 (by omega)), if_neg (neg_ne hw 1 (by omega)), if_neg (neg_ne hw 2 (by omega)), if_neg (neg_ne hw 3 (by omega))]
      exact ⟨_, _, _, rfl, rfl, hR0⟩
    rw [in_n hw (by omega) (by omega), bn_s]
    by_cases c0 : w = 0
    · subst c0
      obtain ⟨M3, l1, l2, l3⟩ := findLeast_v g6 hV
      obtain ⟨M4, l4, l5, l6⟩ := fewestBursts_v hS hO
      rw [if_pos rfl, if_pos (dT (by omega)), g1, bp_s, if_pos rfl, g4, bp_s, if_pos rfl, if_pos rfl, l1, bn_s, gin_n (by omega) (by omega), ix0, l3 0 (Nat.two_pow_pos _), l4]
      exact ⟨_, _, _, rfl, rfl, Rl_fr H (FX_tr e2 (FKX l5)) (FM_tr hF2 (FM_p l2 (by omega)))⟩
    rw [if_neg (ne_n c0 (by omega) (by omega))]
    by_cases c1 : w = 1
    · subst c1
      obtain ⟨M3, l1, l2, l3⟩ := findChanges_v g6 hV
      obtain ⟨M4, l4, l5, l6⟩ := fewestChanges_v hS hO
      rw [if_pos rfl, if_pos (dT (by omega)), g1, bp_s, if_pos rfl, g4, bp_s, if_pos rfl, if_neg (ne_n c0 (by omega) (by omega)), if_pos rfl, l1, bn_s, threads_v (MH_FK g6.1 l2 rfl) hV l3, l4]
      exact ⟨_, _, _, rfl, rfl, Rl_fr H (FX_tr e2 (FKX l5)) (FM_tr hF2 (FM_p l2 (by omega)))⟩
    rw [if_neg (ne_n c1 (by omega) (by omega))]
    by_cases c2 : w = 2
    · subst c2
      obtain ⟨M3, l1, l2⟩ := chain_v g6.1 hO false
      obtain ⟨M4, l4, l5⟩ := longest_v ⟨hS, hR⟩ hO (p := 1) (by omega)
      unfold f_X10_sewn_71
      rw [if_pos rfl, if_pos (dT (by omega)), g1, bp_s, if_pos rfl, g4, bp_s, if_pos rfl, if_neg (ne_n c0 (by omega) (by omega)), if_neg (ne_n c1 (by omega) (by omega)), if_neg (ne_n (a := 2) (b := 3) (by omega) (by omega) (by omega)), l1, l4]
      exact ⟨_, _, _, rfl, rfl, Rl_fr H (FX_tr e2 (FKX l5)) (FM_tr hF2 (FM_p l2 (by omega)))⟩
    rw [if_neg (ne_n c2 (by omega) (by omega))]
    by_cases c3 : w = 3
    · subst c3
      obtain ⟨M3, l1, l2⟩ := chain_v g6.1 hO true
      obtain ⟨M4, l4, l5⟩ := longest_v ⟨hS, hR⟩ hO (p := cP C) hV.2.1
      unfold f_X10_sewn_71
      rw [if_pos rfl, hX.2.1, if_pos (dT (by omega)), g1, bp_s, if_pos rfl, g4, bp_s, if_pos rfl, if_neg (ne_n c0 (by omega) (by omega)), if_neg (ne_n c1 (by omega) (by omega)), if_pos rfl, l1, l4]
      exact ⟨_, _, _, rfl, rfl, Rl_fr H (FX_tr e2 (FKX l5)) (FM_tr hF2 (FM_p l2 (by omega)))⟩
    rw [if_neg (ne_n c3 (by omega) (by omega)), if_neg (dF (by omega))]
    exact ⟨_, _, _, rfl, rfl, hR0⟩
theorem bc_v {S : Nat} (h : S < 512) : bcI (nI S) = nI (pc S 9) := (bc_all S h).1
theorem ones_v {S : Nat} (h : S < 512) : f_X10_ones (nI S) = some (nI (pc S 9)) := (bc_all S h).2
theorem q_order {Mx Mm : Mem} (H : Rl Mx Mm) (a s w : Int32) : EqI Mx Mm (f_X9_order Mx a s w) (f_X10_order Mm a s w) := by
  have h0 := FM_sI Mm (o := 100) (k := 0) (v := nI 0)
  unfold f_X9_order f_X10_order
  rw [nm_s]
  rcases ordered_cases H a with ⟨M', e1, e2, e3⟩ | ⟨k, C, r, M', hk, rfl, hO, e1, e2, ⟨hS, hR⟩, e3⟩
  · obtain ⟨c, M1, g1, g2, g3⟩ := e3 _ h0
    rw [e1, g1, bp_s, opt_none, bp_s]
    cases c with
    | false => exact ⟨_, _, _, rfl, rfl, Rl_fr H e2 (FM_tr h0 g2)⟩
    | true =>
      obtain ⟨⟨n, hn, g4⟩, M2, g5, g6⟩ := g3 rfl
      rw [if_pos rfl]
      have hR1 := Rl_fr H e2 (FM_tr h0 g2)
      have hR2 := Rl_fr H e2 (FM_tr h0 (FM_tr g2 g6))
      rcases int_cases s with hs | ⟨s, hs, rfl⟩
      · rw [isSeam_neg hs]
        exact ⟨_, _, _, rfl, rfl, hR1⟩
      rw [isSeam_v g4 (by omega) hs, bn_s]
      by_cases c1 : s < n
      · rw [if_pos (dT c1)]
        rcases int_cases w with hw | ⟨w, hw, rfl⟩
        · rw [in_neg hw 0 (by omega)]
          exact ⟨_, _, _, rfl, rfl, hR1⟩
        rw [in_n hw (by omega) (by omega), bn_s]
        by_cases c2 : 0 ≤ w ∧ w ≤ 4
        · rw [if_pos (dT c2), g5]
          exact ⟨_, _, _, rfl, rfl, hR2⟩
        · rw [if_neg (dF c2)]
          exact ⟨_, _, _, rfl, rfl, hR1⟩
      · rw [if_neg (dF c1)]
        exact ⟨_, _, _, rfl, rfl, hR1⟩
  · obtain ⟨M1, M2, g1, g2, g3, g4, g5, g6⟩ := e3 _ h0
    rw [e1, g1, bp_s, opt_some, bp_s, if_pos rfl]
    have hV := hO.1
    have hn := hV.1
    have hR1 := Rl_fr H e2 (FM_tr h0 g2)
    have hF2 := FM_tr h0 (FM_tr g2 g5)
    have hR2 := Rl_fr H e2 hF2
    have hX := hS.2.2.1
    have w2 := (pw9 (cN C) (by omega)).2.1
    rcases int_cases s with hs | ⟨s, hs, rfl⟩
    · rw [isSeam_neg hs, if_pos (show s < nI 0 from hs)]
      exact ⟨_, _, _, rfl, rfl, hR1⟩
    rw [isSeam_v g3 (by omega) hs, bn_s, if_neg (n_nneg hs), hX.1, ite_p (lt_n hs (by omega))]
    by_cases c1 : s < cN C
    · rw [if_pos c1, if_pos (dT c1)]
      rcases int_cases w with hw | ⟨w, hw, rfl⟩
      · rw [in_neg hw 0 (by omega), if_neg (neg_ne hw 0 (by omega)), if_neg (neg_ne hw 1 (by omega)), if_neg (neg_ne hw 2 (by omega)), if_neg (neg_ne hw 3 (by omega)), if_neg (neg_ne hw 4 (by omega))]
        exact ⟨_, _, _, rfl, rfl, hR1⟩
      rw [in_n hw (by omega) (by omega), bn_s]
      have hnd := nd_lt hV c1
      have hln := ln_lt (C := C) s (cN C) (Nat.le_refl _)
      by_cases d0 : w = 0
      · subst d0
        rw [if_pos rfl, gin_n (by omega) (by omega), ix_n (by omega), hR s c1, if_pos (dT (by omega)), g4, bp_s, if_pos rfl, if_pos rfl, firstAt_v g6 hO c1]
        exact ⟨_, _, _, rfl, rfl, hR2⟩
      rw [if_neg (ne_n d0 (by omega) (by omega))]
      by_cases d1 : w = 1
      · subst d1
        rw [if_pos rfl, needs_v hX hV c1, bn_s, bc_v (by omega), if_pos (dT (by omega)), g4, bp_s, if_pos rfl, if_neg (ne_n d0 (by omega) (by omega)), if_pos rfl, ahead_v g6.1 hV c1, bn_s, ones_v (by omega)]
        exact ⟨_, _, _, rfl, rfl, hR2⟩
      rw [if_neg (ne_n d1 (by omega) (by omega))]
      by_cases d2 : w = 2
      · subst d2
        rw [if_pos rfl, leans_v hX hV c1, bn_s, bc_v (by omega), if_pos (dT (by omega)), g4, bp_s, if_pos rfl, if_neg (ne_n d0 (by omega) (by omega)), if_neg (ne_n d1 (by omega) (by omega)), if_pos rfl, behind_v g6.1 hV c1, bn_s, ones_v (by omega), bn_s, g6.1.2.2.1]
        exact ⟨_, _, _, rfl, rfl, hR2⟩
      rw [if_neg (ne_n d2 (by omega) (by omega))]
      by_cases d3 : w = 3
      · subst d3
        obtain ⟨M3, l1, l2, l3⟩ := findLeast_v g6 hV
        obtain ⟨M4, l4, l5, l6⟩ := fewestBursts_v hS hO
        rw [if_pos rfl, l4, bp_s, gin_n (by omega) (by omega), ix_n (by omega), l6 s c1, if_pos (dT (by omega)), g4, bp_s, if_pos rfl, if_neg (ne_n d0 (by omega) (by omega)), if_neg (ne_n d1 (by omega) (by omega)), if_neg (ne_n d2 (by omega) (by omega)), if_pos rfl, l1, bn_s, leastAt_v (MH_FK g6.1 l2 rfl) hO l3 c1]
        exact ⟨_, _, _, rfl, rfl, Rl_fr H (FX_tr e2 (FKX l5)) (FM_tr hF2 (FM_p l2 (by omega)))⟩
      rw [if_neg (ne_n d3 (by omega) (by omega))]
      by_cases d4 : w = 4
      · subst d4
        obtain ⟨M3, l1, l2, l3⟩ := findChanges_v g6 hV
        obtain ⟨M4, l4, l5, l6⟩ := fewestChanges_v hS hO
        rw [if_pos rfl, l4, bp_s, gin_n (by omega) (by omega), ix_n (by omega), l6 s c1, if_pos (dT (by omega)), g4, bp_s, if_pos rfl, if_neg (ne_n d0 (by omega) (by omega)), if_neg (ne_n d1 (by omega) (by omega)), if_neg (ne_n d2 (by omega) (by omega)), if_neg (ne_n d3 (by omega) (by omega)), l1, bn_s, threadedAt_v (MH_FK g6.1 l2 rfl) hO l3 c1]
        exact ⟨_, _, _, rfl, rfl, Rl_fr H (FX_tr e2 (FKX l5)) (FM_tr hF2 (FM_p l2 (by omega)))⟩
      rw [if_neg (ne_n d4 (by omega) (by omega)), if_neg (dF (by omega))]
      exact ⟨_, _, _, rfl, rfl, hR1⟩
    · rw [if_neg c1, if_neg (dF c1)]
      exact ⟨_, _, _, rfl, rfl, hR1⟩
