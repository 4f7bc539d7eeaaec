/-! cloth, enough: numbers alone -/
def pwN (b : Nat) : Nat → Nat
  | 0 => 1
  | n + 1 => pwN b n * b
theorem tens_all : ∀ n, n < 13 → f_X9_power (nI 10) (nI n) = some (lN (10 ^ n)) ∧ f_X10_tens (nI n) = some (lN (10 ^ n)) := by decide +kernel
def chN : Nat → Nat → Nat
  | _, 0 => 1
  | 0, _ + 1 => 0
  | n + 1, k + 1 => chN n k + chN n (k + 1)
def wtN (n p k : Nat) : Nat := chN n k * p ^ k * (10 - p) ^ (n - k)
theorem wt_all : ∀ n, n < 13 → ∀ k, k < n + 1 → ∀ p, p < 11 → f_X9_weight (nI n) (nI p) (nI k) = some (lN (wtN n p k)) ∧ f_X10_just (nI n) (nI k) (nI p) = some (lN (wtN n p k)) := by decide +kernel
theorem wt_le : ∀ n, n < 13 → ∀ k, k < n + 1 → ∀ p, p < 11 → wtN n p k ≤ 1000000000000 := by decide +kernel
/-! Euclid, by steps -/
theorem eu_lp {α β : Type} {F : (α → Option β) → α → Option β} (st : Nat → Nat → Nat → α) (K : Nat → Option β) (N B : Nat) (h0 : ∀ rc i a, i < N → a < B → F rc (st i a 0) = K a) (h1 : ∀ rc i a b, i < N → 0 < b → a < B → b < B → F rc (st i a b) = rc (st (i + 1) b (a % b))) : ∀ k i a b f, b < 2 ^ k → a < B → b < B → i + 2 * k < N → 2 * k + 1 ≤ f → lp F f (st i a b) = K (Nat.gcd a b) := by
  intro k
  induction k with
  | zero =>
    intro i a b f hb ha hb2 hi hf
    have hb0 : b = 0 := by simpa using hb
    subst hb0
    obtain ⟨f, rfl⟩ : ∃ g, f = g + 1 := ⟨f - 1, by omega⟩
    rw [lp_s, h0 _ _ _ (by omega) ha, Nat.gcd_zero_right]
  | succ k ih =>
    intro i a b f hb ha hb2 hi hf
    obtain ⟨f, rfl⟩ : ∃ g, f = g + 1 := ⟨f - 1, by omega⟩
    by_cases hb0 : b = 0
    · subst hb0
      rw [lp_s, h0 _ _ _ (by omega) ha, Nat.gcd_zero_right]
    have hr : a % b < b := Nat.mod_lt _ (by omega)
    have e : Nat.gcd a b = Nat.gcd b (a % b) := by
      rw [Nat.gcd_comm a b, Nat.gcd_rec b a, Nat.gcd_comm]
    rw [lp_s, h1 _ _ _ _ (by omega) (by omega) ha hb2, e]
    obtain ⟨f, rfl⟩ : ∃ g, f = g + 1 := ⟨f - 1, by omega⟩
    by_cases hr0 : a % b = 0
    · rw [hr0, lp_s, h0 _ _ _ (by omega) hb2, Nat.gcd_zero_right]
    have hs : b % (a % b) < a % b := Nat.mod_lt _ (by omega)
    have e2 : Nat.gcd b (a % b) = Nat.gcd (a % b) (b % (a % b)) := by
      rw [Nat.gcd_comm b (a % b), Nat.gcd_rec (a % b) b, Nat.gcd_comm]
    rw [lp_s, h1 _ _ _ _ (by omega) (by omega) hb2 (by omega), e2]
    refine ih (i + 1 + 1) (a % b) (b % (a % b)) f ?_ (by omega) (by omega) (by omega) (by omega)
    have h2 : 2 ^ (k + 1) = 2 * 2 ^ k := by rw [Nat.pow_succ]; omega
    by_cases hc : 2 * (a % b) ≤ b
    · omega
    · have e3 : b % (a % b) = b - a % b := by
        rw [Nat.mod_eq_sub_mod (by omega), Nat.mod_eq_of_lt (by omega)]
      omega
theorem lcmp_z {b : Nat} (hb : b < 2 ^ 62) : (lg_cmp (lN b) (lN 0) = nI 0) = (b = 0) := by
  unfold lg_cmp
  by_cases h : b = 0
  · subst h
    simp
    rfl
  · rw [if_pos (show lN b > lN 0 from (pk_lLT (by omega) (by omega)).mpr (by omega))]
    simp [h]
    decide
theorem lcmp_ge {a b : Nat} (ha : a < 2 ^ 63) (hb : b < 2 ^ 63) : (nI 0 ≤ lg_cmp (lN a) (lN b)) = (b ≤ a) := by
  unfold lg_cmp
  by_cases h : b < a
  · rw [if_pos (show lN a > lN b from (pk_lLT hb ha).mpr h)]
    have : b ≤ a := by omega
    simp [this]
    decide
  · rw [if_neg (fun q : lN a > lN b => h ((pk_lLT hb ha).mp q))]
    by_cases h2 : a = b
    · subst h2
      simp
      decide
    · rw [if_neg (fun q => h2 ((pk_lEQ ha hb).mp q))]
      have : ¬ b ≤ a := by omega
      simp [this]
      decide
theorem gnl_n {β : Type} {b : Nat} {x : Option β} (h : 0 < b) (hb : b < 2 ^ 62) : gnl (lN b) x = x := if_neg (fun e => by
  have := (pk_lEQ (a := b) (b := 0) (by omega) (by omega)).mp e
  omega)
theorem lrem_n {a b : Nat} (ha : a < 2 ^ 62) (hb : b < 2 ^ 62) (h0 : 0 < b) : lN a - lN a / lN b * lN b = lN (a % b) := pk_lRem (by omega) h0 (by omega)
theorem ldiv_n {a b : Nat} (ha : a < 2 ^ 62) (hb : b < 2 ^ 62) (h0 : 0 < b) : lN a / lN b = lN (a / b) := pk_lDiv (by omega) h0 (by omega)
theorem common_v {a b : Nat} (ha : a < 2 ^ 62) (hb : b < 2 ^ 62) : f_X10_common (lN a) (lN b) = some (lN (Nat.gcd a b)) := by
  unfold f_X10_common f_X10_common_6
  refine eu_lp (fun _ x y => (lN x, lN y)) (fun g => some (lN g)) 1000 (2 ^ 62) ?_ ?_ 62 0 a b FU hb ha hb (by omega) (by rw [FU_v]; omega)
  · intro rc i x _ hx
    show b_X10_common_6 (lN a) (lN b) _ (lN x) (lN 0) = _
    unfold b_X10_common_6
    simp [lcmp_z]
  · intro rc i x y _ h0 hx hy
    show b_X10_common_6 (lN a) (lN b) _ (lN x) (lN y) = _
    unfold b_X10_common_6
    have : ¬ y = 0 := by omega
    simp only [lcmp_z hy, this, if_false, gnl_n h0 hy, nm_s, lrem_n hx hy h0]
theorem least_v {up dn : Nat} (hu : up < 2 ^ 62) (hd : dn < 2 ^ 62) (h0 : 0 < dn) (un : Bool) : f_X9_inLeastTerms (lN up) (lN dn) un = some (lN ((if un = true then dn else up) / Nat.gcd dn up)) := by
  unfold f_X9_inLeastTerms f_X9_inLeastTerms_9
  have hg : 0 < Nat.gcd dn up := Nat.gcd_pos_of_pos_left _ h0
  have hg2 : Nat.gcd dn up < 2 ^ 62 := Nat.lt_of_le_of_lt (Nat.gcd_le_left _ h0) hd
  have e45 : f_X9_inLeastTerms_45 (lN up) (lN dn) un (lN (Nat.gcd dn up)) = some (lN ((if un = true then dn else up) / Nat.gcd dn up)) := by
    unfold f_X9_inLeastTerms_45
    rw [if_pos (by rw [lcmp_ge (by omega) (by omega)]; omega), gnl_n hg hg2, gnl_n hg hg2, ldiv_n hd hg2 hg, ldiv_n hu hg2 hg]
    cases un <;> rfl
  rw [← e45]
  refine eu_lp (fun i x y => (lN x, lN y, nI i)) (fun g => f_X9_inLeastTerms_45 (lN up) (lN dn) un (lN g)) 999 (2 ^ 62) ?_ ?_ 62 0 dn up FU hu hd hu (by omega) (by rw [FU_v]; omega)
  · intro rc i x hi hx
    show b_X9_inLeastTerms_9 (lN up) (lN dn) un _ (lN x) (lN 0) (nI i) = _
    unfold b_X9_inLeastTerms_9
    rw [if_neg (nI_ge (by omega) (by omega))]
    simp [lcmp_z]
  · intro rc i x y hi h0 hx hy
    show b_X9_inLeastTerms_9 (lN up) (lN dn) un _ (lN x) (lN y) (nI i) = _
    unfold b_X9_inLeastTerms_9
    have : ¬ y = 0 := by omega
    rw [if_neg (nI_ge (by omega) (by omega))]
    simp only [lcmp_z hy, this, if_false, gnl_n h0 hy, nm_s, lrem_n hx hy h0, nI_add]
theorem p10_lt : ∀ n, n < 13 → 10 ^ n ≤ 1000000000000 ∧ 0 < 10 ^ n := by decide +kernel
theorem power_v {n : Nat} (h : n < 13) : f_X9_power (nI 10) (nI n) = some (lN (10 ^ n)) := (tens_all n h).1
theorem tens_v {n : Nat} (h : n < 13) : f_X10_tens (nI n) = some (lN (10 ^ n)) := (tens_all n h).2
theorem weight_v {n k p : Nat} (h : n < 13) (hk : k ≤ n) (hp : p < 11) : f_X9_weight (nI n) (nI p) (nI k) = some (lN (wtN n p k)) := (wt_all n h k (by omega) p hp).1
theorem just_v {n k p : Nat} (h : n < 13) (hk : k ≤ n) (hp : p < 11) : f_X10_just (nI n) (nI k) (nI p) = some (lN (wtN n p k)) := (wt_all n h k (by omega) p hp).2
theorem wt_b {n k p : Nat} (h : n < 13) (hk : k ≤ n) (hp : p < 11) : wtN n p k ≤ 1000000000000 := wt_le n h k (by omega) p hp
theorem months_v {n p : Nat} (hn : n < 2147483648) (hp : p < 2147483648) : f_X9_areMonths (nI n) (nI p) = some (decide (1 ≤ n ∧ n ≤ 12 ∧ p ≤ 10)) := by
  unfold f_X9_areMonths
  by_cases c1 : n < 1
  · have : ¬ 1 ≤ n := by omega
    simp (disch := omega) [c1, this, bn_s, bp_s, nm_s, wM_s, opt_some, opt_none, le_n, lt_n, eq_n, nI_add, pk_mul, sub_n, gin_n, ix_n, in_n, in_upto, div_n, rem_n, gnz_n]
  by_cases c2 : 12 < n
  · have : ¬ n ≤ 12 := by omega
    simp (disch := omega) [c1, c2, this, bn_s, bp_s, nm_s, wM_s, opt_some, opt_none, le_n, lt_n, eq_n, nI_add, pk_mul, sub_n, gin_n, ix_n, in_n, in_upto, div_n, rem_n, gnz_n]
  by_cases c3 : 10 < p
  · have : ¬ p ≤ 10 := by omega
    simp (disch := omega) [c1, c2, c3, n_nneg, this, bn_s, bp_s, nm_s, wM_s, opt_some, opt_none, le_n, lt_n, eq_n, nI_add, pk_mul, sub_n, gin_n, ix_n, in_n, in_upto, div_n, rem_n, gnz_n]
  · have a1 : 1 ≤ n := by omega
    have a2 : n ≤ 12 := by omega
    have a3 : p ≤ 10 := by omega
    simp (disch := omega) [c1, c2, c3, n_nneg, a1, a2, a3, bn_s, bp_s, nm_s, wM_s, opt_some, opt_none, le_n, lt_n, eq_n, nI_add, pk_mul, sub_n, gin_n, ix_n, in_n, in_upto, div_n, rem_n, gnz_n]
/-- sums of weights -/
def wSum (n p : Nat) : Nat → Nat
  | 0 => 0
  | k + 1 => wSum n p k + wtN n p k
theorem wSum_b {n p : Nat} (h : n < 13) (hp : p < 11) : ∀ k, k ≤ n + 1 → wSum n p k ≤ k * 1000000000000 := by
  intro k
  induction k with
  | zero => intro _; exact Nat.le_refl 0
  | succ k ih =>
    intro hk
    have := ih (by omega)
    have := wt_b h (k := k) (by omega) hp
    unfold wSum
    omega
theorem q_enough {Mx Mm : Mem} (H : Rl Mx Mm) (a b c : Int32) (u : Bool) : EqL Mx Mm (wM (f_X9_enough a b c u) Mx) (f_X10_enough Mm a b c u) := by
  have hR := Rl_fr H (FX_rf Mx) (FM_sI Mm (o := 100) (k := 0) (v := nI 0))
  unfold f_X9_enough f_X10_enough
  rw [nm_s]
  rcases int_cases a with ha | ⟨n, hn, rfl⟩
  · rw [in_neg ha 1 (by omega)]
    have : f_X9_areMonths a b = some false := by
      unfold f_X9_areMonths
      rw [if_pos (neg_lt ha 1 (by omega))]
    rw [this]
    exact ⟨_, _, _, rfl, rfl, hR⟩
  rcases int_cases b with hb | ⟨p, hp, rfl⟩
  · have : f_X9_areMonths (nI n) b = some false := by
      unfold f_X9_areMonths
      rw [if_pos (show b < nI 0 from hb)]
      by_cases c1 : nI n < nI 1
      · rw [if_pos c1]
      · rw [if_neg c1]
        by_cases c2 : nI 12 < nI n
        · rw [if_pos c2]
        · rw [if_neg c2]
    rw [this, in_n hn (by omega) (by omega), in_neg hb 0 (by omega)]
    by_cases c1 : 1 ≤ n ∧ n ≤ 12
    · simp [c1, bn_s, nm_s, wM_s]
      exact ⟨_, _, _, rfl, rfl, hR⟩
    · simp [c1, bn_s, nm_s, wM_s]
      exact ⟨_, _, _, rfl, rfl, hR⟩
  rw [months_v hn hp, in_n hn (by omega) (by omega), in_n hp (by omega) (by omega)]
  by_cases c1 : 1 ≤ n ∧ n ≤ 12
  · by_cases c2 : p ≤ 10
    · rcases int_cases c with hc | ⟨x, hx, rfl⟩
      · rw [in_neg hc 0 (by omega)]
        have c3 : c < nI 0 := hc
        simp [c1, c2, c3, bn_s]
        exact ⟨_, _, _, rfl, rfl, hR⟩
      · rw [in_n hx (by omega) (by omega)]
        by_cases c3 : x ≤ 12
        · obtain ⟨m, g1, g2, g3⟩ := first_of (fun i => x < i) (n + 1)
          have p1 := p10_lt n (by omega)
          have p2 := wSum_b (n := n) (p := p) (by omega) (by omega) m g1
          have p3 : m * 1000000000000 ≤ 13 * 1000000000000 := Nat.mul_le_mul_right _ (by omega)
          have k1 : f_X9_enough_58 (nI n) (nI p) (nI x) u (lN (wSum n p m)) = some (lN ((if u = true then 10 ^ n else wSum n p m) / Nat.gcd (10 ^ n) (wSum n p m))) := by
            unfold f_X9_enough_58
            rw [power_v (by omega), bn_s, least_v (by omega) (by omega) (by omega)]
            rfl
          have k2 : ∀ M, f_X10_enough_75 (nI n) (nI p) (nI x) u (lN (wSum n p m)) M = some (lN ((if u = true then 10 ^ n else wSum n p m) / Nat.gcd (10 ^ n) (wSum n p m)), M) := by
            intro M
            have hg : 0 < Nat.gcd (10 ^ n) (wSum n p m) := Nat.gcd_pos_of_pos_left _ p1.2
            have hg2 : Nat.gcd (10 ^ n) (wSum n p m) < 2 ^ 62 := Nat.lt_of_le_of_lt (Nat.gcd_le_left _ p1.2) (by omega)
            unfold f_X10_enough_75
            rw [tens_v (by omega), bn_s, common_v (by omega) (by omega), bn_s, bn_s, gnl_n hg hg2, gnl_n hg hg2, ldiv_n (by omega) hg2 hg, ldiv_n (by omega) hg2 hg]
            cases u <;> rfl
          have l1 : f_X9_enough_28 (nI n) (nI p) (nI x) u FU (lN 0, nI 0) = f_X9_enough_58 (nI n) (nI p) (nI x) u (lN (wSum n p m)) := by
            unfold f_X9_enough_28
            refine lpU_find (fun i => (lN (wSum n p i), nI i)) (n + 1) (fun m => f_X9_enough_58 (nI n) (nI p) (nI x) u (lN (wSum n p m))) (fun i => x < i) (by omega) ?_ ?_ ?_ m g1 g2 g3 0 (Nat.zero_le _)
            · intro rc
              show b_X9_enough_28 (nI n) (nI p) (nI x) u _ (lN (wSum n p (n + 1))) (nI (n + 1)) = _
              unfold b_X9_enough_28
              rw [if_pos (nI_lt (Nat.lt_succ_self n) (by omega))]
              by_cases z : nI x < nI (n + 1)
              · rw [if_pos z]
              · rw [if_neg z]
            · intro rc i hi hs
              show b_X9_enough_28 (nI n) (nI p) (nI x) u _ (lN (wSum n p i)) (nI i) = _
              unfold b_X9_enough_28
              rw [if_pos (nI_lt hs (by omega))]
            · intro rc i hi hs
              show b_X9_enough_28 (nI n) (nI p) (nI x) u _ (lN (wSum n p i)) (nI i) = _
              unfold b_X9_enough_28
              have hs2 : ¬ x < i := hs
              rw [if_neg (nI_nlt (by omega) (by omega)), if_neg (nI_nlt (by omega) (by omega)), weight_v (by omega) (by omega) (by omega), bn_s, nm_s, nm_s, lN_add, nI_add]
              rfl
          have l2 : ∀ M, f_X10_enough_45 (nI n) (nI p) (nI x) u FU (lN 0, nI 0, M) = f_X10_enough_75 (nI n) (nI p) (nI x) u (lN (wSum n p m)) M := by
            intro M
            unfold f_X10_enough_45
            refine lpU_find (fun i => (lN (wSum n p i), nI i, M)) (n + 1) (fun m => f_X10_enough_75 (nI n) (nI p) (nI x) u (lN (wSum n p m)) M) (fun i => x < i) (by omega) ?_ ?_ ?_ m g1 g2 g3 0 (Nat.zero_le _)
            · intro rc
              show b_X10_enough_45 (nI n) (nI p) (nI x) u _ (lN (wSum n p (n + 1))) (nI (n + 1)) M = _
              unfold b_X10_enough_45
              rw [if_pos (nI_lt (Nat.lt_succ_self n) (by omega))]
              by_cases z : nI x < nI (n + 1)
              · rw [if_pos z]
              · rw [if_neg z]
            · intro rc i hi hs
              show b_X10_enough_45 (nI n) (nI p) (nI x) u _ (lN (wSum n p i)) (nI i) M = _
              unfold b_X10_enough_45
              rw [if_pos (nI_lt hs (by omega))]
            · intro rc i hi hs
              show b_X10_enough_45 (nI n) (nI p) (nI x) u _ (lN (wSum n p i)) (nI i) M = _
              unfold b_X10_enough_45
              have hs2 : ¬ x < i := hs
              rw [if_neg (nI_nlt (by omega) (by omega)), if_neg (nI_nlt (by omega) (by omega)), just_v (by omega) (by omega) (by omega), bn_s, nm_s, nm_s, lN_add, nI_add]
              rfl
          simp (disch := omega) [c1, c2, c3, n_nneg, bn_s, bp_s, nm_s, wM_s, opt_some, opt_none, le_n, lt_n, eq_n, nI_add, pk_mul, sub_n, gin_n, ix_n, in_n, in_upto, div_n, rem_n, gnz_n]
          rw [l1, l2, k1, k2]
          exact ⟨_, _, _, rfl, rfl, hR⟩
        · simp (disch := omega) [c1, c2, c3, n_nneg, bn_s, bp_s, nm_s, wM_s, opt_some, opt_none, le_n, lt_n, eq_n, nI_add, pk_mul, sub_n, gin_n, ix_n, in_n, in_upto, div_n, rem_n, gnz_n]
          exact ⟨_, _, _, rfl, rfl, hR⟩
    · simp [c1, c2, bn_s]
      exact ⟨_, _, _, rfl, rfl, hR⟩
  · have c1' : ¬ (1 ≤ n ∧ n ≤ 12 ∧ p ≤ 10) := fun q => c1 ⟨q.1, q.2.1⟩
    simp [c1, c1', bn_s, nm_s, wM_s]
    exact ⟨_, _, _, rfl, rfl, hR⟩
/-! cloth -/
def cSum (n p d x : Nat) : Nat → Nat
  | 0 => 0
  | k + 1 => cSum n p d x k + (if x < k then d * (k - x) * wtN n p k else 0)
theorem cSum_0 (n p d x : Nat) : ∀ k, k ≤ x + 1 → cSum n p d x k = 0 := by
  intro k
  induction k with
  | zero => intro _; rfl
  | succ k ih =>
    intro h
    unfold cSum
    rw [ih (by omega), if_neg (by omega)]
theorem wSum_all : ∀ n, n < 13 → ∀ p, p < 11 → wSum n p (n + 1) ≤ 10 ^ n := by decide +kernel
theorem cSum_w {n p d x : Nat} (h : n < 13) (hd : d < 100) : ∀ k, k ≤ n + 1 → cSum n p d x k ≤ 1188 * wSum n p k := by
  intro k
  induction k with
  | zero => intro _; exact Nat.zero_le _
  | succ k ih =>
    intro hk
    have h1 := ih (by omega)
    have h3 : d * (k - x) ≤ 99 * 12 := Nat.mul_le_mul (by omega) (by omega)
    have h4 : d * (k - x) * wtN n p k ≤ 1188 * wtN n p k := Nat.mul_le_mul_right _ h3
    unfold cSum wSum
    rw [Nat.mul_add]
    by_cases c : x < k
    · rw [if_pos c]; exact Nat.add_le_add h1 h4
    · rw [if_neg c]; exact Nat.le_trans h1 (Nat.le_add_right _ _)
theorem cSum_b {n p d x : Nat} (h : n < 13) (hp : p < 11) (hd : d < 100) : ∀ k, k ≤ n + 1 → cSum n p d x k ≤ k * 1188000000000000 := by
  intro k
  induction k with
  | zero => intro _; exact Nat.zero_le _
  | succ k ih =>
    intro hk
    have h1 := ih (by omega)
    have h2 := wt_b h (k := k) (by omega) hp
    have h3 : d * (k - x) ≤ 99 * 12 := Nat.mul_le_mul (by omega) (by omega)
    have h4 : d * (k - x) * wtN n p k ≤ 1188000000000000 := Nat.le_trans (Nat.mul_le_mul h3 h2) (by decide)
    unfold cSum
    by_cases c : x < k
    · rw [if_pos c, Nat.succ_mul]; omega
    · rw [if_neg c, Nat.succ_mul]; exact Nat.le_trans h1 (Nat.le_add_right _ _)
def cost (n p c d x : Nat) : Nat := c * x * 10 ^ n + cSum n p d x (n + 1)
theorem cost_b {n p c d x : Nat} (h : n < 13) (hp : p < 11) (hc : c < 100) (hd : d < 100) (hx : x ≤ n) : cost n p c d x < 2 ^ 62 := by
  have h1 := cSum_b (x := x) h hp hd (n + 1) (Nat.le_refl _)
  have h2 := (p10_lt n h).1
  have h3 : c * x ≤ 99 * 12 := Nat.mul_le_mul (by omega) (by omega)
  have h4 : c * x * 10 ^ n ≤ 1188000000000000 := Nat.le_trans (Nat.mul_le_mul h3 h2) (by decide)
  have h5 : (n + 1) * 1188000000000000 ≤ 13 * 1188000000000000 := Nat.mul_le_mul_right _ (by omega)
  unfold cost
  omega
theorem cost_0 {n p c d : Nat} (h : n < 13) (hp : p < 11) (hd : d < 100) : cost n p c d 0 < 1000000 * 10 ^ n := by
  have h1 := cSum_w (p := p) (x := 0) h hd (n + 1) (Nat.le_refl _)
  have h2 := wSum_all n h p hp
  have h3 := (p10_lt n h).2
  have h4 : 1188 * wSum n p (n + 1) ≤ 1188 * 10 ^ n := Nat.mul_le_mul_left _ h2
  unfold cost
  rw [Nat.mul_zero, Nat.zero_mul]
  omega
/-- the first x below j of the least cost -/
def amN (f : Nat → Nat) : Nat → Nat
  | 0 => 0
  | x + 1 => if f x < f (amN f x) then x else amN f x
theorem amN_le (f : Nat → Nat) : ∀ x, amN f x ≤ x - 1 := by
  intro x
  induction x with
  | zero => exact Nat.le_refl 0
  | succ x ih =>
    unfold amN
    by_cases c : f x < f (amN f x)
    · rw [if_pos c]; omega
    · rw [if_neg c]; omega
theorem costs_v {n p c d x : Nat} (h : n < 13) (hp : p < 11) (hc : c < 100) (hd : d < 100) (hx : x ≤ n) : f_X10_costs (nI n) (nI p) (nI c) (nI d) (nI x) = some (lN (cost n p c d x)) := by
  unfold f_X10_costs
  have hcx : c * x ≤ 99 * 12 := Nat.mul_le_mul (by omega) (by omega)
  rw [tens_v h, bn_s, nm_s, nm_s, pk_mul, nI_l (by omega), lN_mul, nI_add]
  unfold f_X10_costs_18
  have e : (lN (c * x * 10 ^ n), nI (x + 1)) = (fun i => (lN (c * x * 10 ^ n + cSum n p d x i), nI i)) (x + 1) := by
    show _ = (lN (c * x * 10 ^ n + cSum n p d x (x + 1)), nI _)
    rw [cSum_0 n p d x (x + 1) (Nat.le_refl _)]
    rfl
  rw [e]
  refine lpU_for (fun i => (lN (c * x * 10 ^ n + cSum n p d x i), nI i)) (n + 1) _ (by omega) (x + 1) (by omega) ?_ ?_
  · intro rc
    show b_X10_costs_18 (nI n) (nI p) (nI c) (nI d) (nI x) _ (lN (c * x * 10 ^ n + cSum n p d x (n + 1))) (nI (n + 1)) = _
    unfold b_X10_costs_18
    rw [if_pos (nI_lt (Nat.lt_succ_self n) (by omega))]
    rfl
  · intro rc i hxi hi
    have h3 : d * (i - x) ≤ 99 * 12 := Nat.mul_le_mul (by omega) (by omega)
    show b_X10_costs_18 (nI n) (nI p) (nI c) (nI d) (nI x) _ (lN (c * x * 10 ^ n + cSum n p d x i)) (nI i) = rc (lN (c * x * 10 ^ n + (cSum n p d x i + (if x < i then d * (i - x) * wtN n p i else 0))), nI (i + 1))
    unfold b_X10_costs_18
    rw [if_neg (nI_nlt (by omega) (by omega)), just_v h (by omega) hp, bn_s, nm_s, nm_s, sub_n (by omega), nI_l (by omega), nI_l (by omega), lN_mul, lN_mul, lN_add, nI_add, if_pos (show x < i from hxi), Nat.add_assoc]
theorem cost_v {n p c d x w : Nat} (h : n < 13) (hp : p < 11) (hc : c < 100) (hd : d < 100) (hx : x ≤ n) (k : Int64 → Int32 → Int32 → Option Int64) (lst : Int64) (bst : Nat) (hb : bst < 2147483648) :
    f_X9_cloth_82 (nI n) (nI p) (nI c) (nI d) (nI w) k lst (nI bst) (nI x) FU (lN (c * x * 10 ^ n), nI x + nI 1) = if nI 0 ≤ lg_cmp (lN (cost n p c d x)) lst then k lst (nI bst) (nI (x + 1)) else k (lN (cost n p c d x)) (nI x) (nI (x + 1)) := by
  have hcx : c * x ≤ 99 * 12 := Nat.mul_le_mul (by omega) (by omega)
  unfold f_X9_cloth_82
  have e : (lN (c * x * 10 ^ n), nI x + nI 1) = (fun i => (lN (c * x * 10 ^ n + cSum n p d x i), nI i)) (x + 1) := by
    show _ = (lN (c * x * 10 ^ n + cSum n p d x (x + 1)), nI (x + 1))
    rw [cSum_0 n p d x (x + 1) (Nat.le_refl _), Nat.add_zero, nI_add]
  rw [e]
  refine lpU_for (fun i => (lN (c * x * 10 ^ n + cSum n p d x i), nI i)) (n + 1) _ (by omega) (x + 1) (by omega) ?_ ?_
  · intro rc
    show b_X9_cloth_82 (nI n) (nI p) (nI c) (nI d) (nI w) k lst (nI bst) (nI x) _ (lN (cost n p c d x)) (nI (n + 1)) = _
    unfold b_X9_cloth_82 f_X9_cloth_132
    rw [if_pos (nI_lt (Nat.lt_succ_self n) (by omega)), nm_s, nm_s, nI_add]
  · intro rc i hxi hi
    have h3 : d * (i - x) ≤ 99 * 12 := Nat.mul_le_mul (by omega) (by omega)
    show b_X9_cloth_82 (nI n) (nI p) (nI c) (nI d) (nI w) k lst (nI bst) (nI x) _ (lN (c * x * 10 ^ n + cSum n p d x i)) (nI i) = rc (lN (c * x * 10 ^ n + (cSum n p d x i + (if x < i then d * (i - x) * wtN n p i else 0))), nI (i + 1))
    unfold b_X9_cloth_82
    rw [if_neg (nI_nlt (by omega) (by omega)), weight_v h (by omega) hp, bn_s, nm_s, nm_s, sub_n (by omega), pk_mul, nI_l (by omega), lN_mul, lN_add, nI_add, if_pos (show x < i from hxi), Nat.add_assoc]
theorem isCost_v {c : Nat} (hc : c < 2147483648) : f_X9_isCost (nI c) = some (decide (c ≤ 99)) := by
  unfold f_X9_isCost
  by_cases c1 : 99 < c
  · have : ¬ c ≤ 99 := by omega
    simp (disch := omega) [n_nneg, c1, this, bn_s, bp_s, nm_s, wM_s, opt_some, opt_none, le_n, lt_n, eq_n, nI_add, pk_mul, sub_n, gin_n, ix_n, in_n, in_upto, div_n, rem_n, gnz_n]
  · have : c ≤ 99 := by omega
    simp (disch := omega) [n_nneg, c1, this, bn_s, bp_s, nm_s, wM_s, opt_some, opt_none, le_n, lt_n, eq_n, nI_add, pk_mul, sub_n, gin_n, ix_n, in_n, in_upto, div_n, rem_n, gnz_n]
theorem isCost_neg {c : Int32} (hc : c < 0) : f_X9_isCost c = some false := by
  unfold f_X9_isCost
  rw [if_pos (show c < nI 0 from hc)]
theorem months_neg1 {a b : Int32} (ha : a < 0) : f_X9_areMonths a b = some false := by
  unfold f_X9_areMonths
  rw [if_pos (neg_lt ha 1 (by omega))]
theorem months_neg2 {a b : Int32} (hb : b < 0) : f_X9_areMonths a b = some false := by
  unfold f_X9_areMonths
  by_cases c1 : a < nI 1
  · rw [if_pos c1]
  · rw [if_neg c1]
    by_cases c2 : nI 12 < a
    · rw [if_pos c2]
    · rw [if_neg c2, if_pos (show b < nI 0 from hb)]
/-- the answer of cloth -/
def clo (n p c d w : Nat) : Nat := if w = 0 then amN (cost n p c d) (n + 1) else if w = 1 then cost n p c d (amN (cost n p c d) (n + 1)) / Nat.gcd (10 ^ n) (cost n p c d (amN (cost n p c d) (n + 1))) else 10 ^ n / Nat.gcd (10 ^ n) (cost n p c d (amN (cost n p c d) (n + 1)))
theorem clothX_v {n p c d w : Nat} (h1 : 1 ≤ n) (h : n < 13) (hp : p < 11) (hc : c < 100) (hd : d < 100) (hw : w ≤ 2) : f_X9_cloth_56 (nI n) (nI p) (nI c) (nI d) (nI w) FU (lN (1000000 * 10 ^ n), nI 0, nI 0) = some (lN (clo n p c d w)) := by
  have hx := amN_le (cost n p c d)
  have hb : ∀ x, x ≤ n → cost n p c d x < 2 ^ 62 := fun x hx => cost_b h hp hc hd hx
  have p1 := p10_lt n h
  have p0 := cost_0 (n := n) (p := p) (c := c) (d := d) h hp hd
  unfold f_X9_cloth_56
  refine lpU_for (fun x => (if x = 0 then lN (1000000 * 10 ^ n) else lN (cost n p c d (amN (cost n p c d) x)), nI (amN (cost n p c d) x), nI x)) (n + 1) _ (by omega) 0 (Nat.zero_le _) ?_ ?_
  · intro rc
    have hm := hx (n + 1)
    have hm2 := hb _ (show amN (cost n p c d) (n + 1) ≤ n by omega)
    have e : (if n + 1 = 0 then lN (1000000 * 10 ^ n) else lN (cost n p c d (amN (cost n p c d) (n + 1)))) = lN (cost n p c d (amN (cost n p c d) (n + 1))) := if_neg (by omega)
    show b_X9_cloth_56 (nI n) (nI p) (nI c) (nI d) (nI w) _ (if n + 1 = 0 then lN (1000000 * 10 ^ n) else lN (cost n p c d (amN (cost n p c d) (n + 1)))) (nI (amN (cost n p c d) (n + 1))) (nI (n + 1)) = _
    rw [e]
    unfold b_X9_cloth_56 f_X9_cloth_168
    rw [if_pos (nI_lt (Nat.lt_succ_self n) (by omega)), nI_l (by omega), power_v h, bn_s, least_v hm2 (by omega) (by omega), least_v hm2 (by omega) (by omega)]
    unfold clo
    rcases (show w = 0 ∨ w = 1 ∨ w = 2 by omega) with rfl | rfl | rfl
    · rw [if_pos rfl, if_pos rfl]
    · rw [if_neg (ne_n (a := 1) (b := 0) (by omega) (by omega) (by omega)), if_neg (ne_n (a := 1) (b := 2) (by omega) (by omega) (by omega)), if_neg (show ¬ 1 = 0 by omega), if_pos rfl]
      rfl
    · rw [if_neg (ne_n (a := 2) (b := 0) (by omega) (by omega) (by omega)), if_pos rfl, if_neg (show ¬ 2 = 0 by omega), if_neg (show ¬ 2 = 1 by omega)]
      rfl
  · intro rc x _ hxn
    have hm := hx x
    have hm2 := hb x (by omega)
    have hcx : c * x ≤ 99 * 12 := Nat.mul_le_mul (by omega) (by omega)
    show b_X9_cloth_56 (nI n) (nI p) (nI c) (nI d) (nI w) _ (if x = 0 then lN (1000000 * 10 ^ n) else lN (cost n p c d (amN (cost n p c d) x))) (nI (amN (cost n p c d) x)) (nI x) = rc (if x + 1 = 0 then lN (1000000 * 10 ^ n) else lN (cost n p c d (amN (cost n p c d) (x + 1))), nI (amN (cost n p c d) (x + 1)), nI (x + 1))
    unfold b_X9_cloth_56
    rw [if_neg (nI_nlt (by omega) (by omega)), power_v h, bn_s, nm_s, nm_s, pk_mul, nI_l (by omega), lN_mul, cost_v h hp hc hd (by omega) _ _ _ (by omega), if_neg (show ¬ x + 1 = 0 by omega)]
    by_cases x0 : x = 0
    · subst x0
      rw [if_pos rfl, if_neg (by rw [lcmp_ge (by omega) (by omega)]; omega)]
      have e : amN (cost n p c d) (0 + 1) = 0 := by
        unfold amN amN
        rw [if_neg (Nat.lt_irrefl _)]
      rw [e]
    · have hm3 := hb (amN (cost n p c d) x) (by omega)
      rw [if_neg x0]
      by_cases cc : cost n p c d x < cost n p c d (amN (cost n p c d) x)
      · have e : amN (cost n p c d) (x + 1) = x := by
          unfold amN
          exact if_pos cc
        rw [if_neg (by rw [lcmp_ge (by omega) (by omega)]; omega), e]
      · have e : amN (cost n p c d) (x + 1) = amN (cost n p c d) x := by
          conv => lhs; unfold amN
          exact if_neg cc
        rw [if_pos (by rw [lcmp_ge (by omega) (by omega)]; omega), e]
theorem clothM_v {n p c d w : Nat} (h1 : 1 ≤ n) (h : n < 13) (hp : p < 11) (hc : c < 100) (hd : d < 100) (hw : w ≤ 2) (M : Mem) : f_X10_cloth_66 (nI n) (nI p) (nI c) (nI d) (nI w) FU (nI 0, nI 1, M) = some (lN (clo n p c d w), M) := by
  have hx := amN_le (cost n p c d)
  have hb : ∀ x, x ≤ n → cost n p c d x < 2 ^ 62 := fun x hx => cost_b h hp hc hd hx
  have p1 := p10_lt n h
  unfold f_X10_cloth_66
  have e1 : amN (cost n p c d) 1 = 0 := by
    unfold amN amN
    rw [if_neg (Nat.lt_irrefl _)]
  have e0 : (nI 0, nI 1, M) = (fun x => (nI (amN (cost n p c d) x), nI x, M)) 1 := by
    show _ = (nI _, nI 1, M)
    rw [e1]
  rw [e0]
  refine lpU_for (fun x => (nI (amN (cost n p c d) x), nI x, M)) (n + 1) _ (by omega) 1 (by omega) ?_ ?_
  · intro rc
    have hm := hx (n + 1)
    have hm2 := hb _ (show amN (cost n p c d) (n + 1) ≤ n by omega)
    have hg : 0 < Nat.gcd (10 ^ n) (cost n p c d (amN (cost n p c d) (n + 1))) := Nat.gcd_pos_of_pos_left _ p1.2
    have hg2 : Nat.gcd (10 ^ n) (cost n p c d (amN (cost n p c d) (n + 1))) < 2 ^ 62 := Nat.lt_of_le_of_lt (Nat.gcd_le_left _ p1.2) (by omega)
    show b_X10_cloth_66 (nI n) (nI p) (nI c) (nI d) (nI w) _ (nI (amN (cost n p c d) (n + 1))) (nI (n + 1)) M = _
    unfold b_X10_cloth_66
    rw [if_pos (nI_lt (Nat.lt_succ_self n) (by omega)), tens_v h, bn_s, costs_v h hp hc hd (by omega), bn_s, common_v (by omega) hm2, bn_s, bn_s, bn_s, gnl_n hg hg2, gnl_n hg hg2, ldiv_n hm2 hg2 hg, ldiv_n (by omega) hg2 hg, nI_l (by omega)]
    unfold clo
    rcases (show w = 0 ∨ w = 1 ∨ w = 2 by omega) with rfl | rfl | rfl
    · rw [if_pos rfl, if_pos rfl]
    · rw [if_neg (ne_n (a := 1) (b := 0) (by omega) (by omega) (by omega)), if_pos rfl, if_neg (show ¬ 1 = 0 by omega), if_pos rfl]
    · rw [if_neg (ne_n (a := 2) (b := 0) (by omega) (by omega) (by omega)), if_neg (ne_n (a := 2) (b := 1) (by omega) (by omega) (by omega)), if_neg (show ¬ 2 = 0 by omega), if_neg (show ¬ 2 = 1 by omega)]
  · intro rc x hx1 hxn
    have hm := hx x
    have hm2 := hb x (by omega)
    have hm3 := hb (amN (cost n p c d) x) (by omega)
    show b_X10_cloth_66 (nI n) (nI p) (nI c) (nI d) (nI w) _ (nI (amN (cost n p c d) x)) (nI x) M = rc (nI (amN (cost n p c d) (x + 1)), nI (x + 1), M)
    unfold b_X10_cloth_66 f_X10_cloth_103
    rw [if_neg (nI_nlt (by omega) (by omega)), costs_v h hp hc hd (by omega), bn_s, costs_v h hp hc hd (by omega), bn_s, nm_s, nm_s, nI_add]
    by_cases cc : cost n p c d x < cost n p c d (amN (cost n p c d) x)
    · have e : amN (cost n p c d) (x + 1) = x := by
        unfold amN
        exact if_pos cc
      rw [if_neg (by rw [lcmp_ge (by omega) (by omega)]; omega), e]
    · have e : amN (cost n p c d) (x + 1) = amN (cost n p c d) x := by
        conv => lhs; unfold amN
        exact if_neg cc
      rw [if_pos (by rw [lcmp_ge (by omega) (by omega)]; omega), e]
theorem q_cloth {Mx Mm : Mem} (H : Rl Mx Mm) (a b c d w : Int32) : EqL Mx Mm (wM (f_X9_cloth a b c d w) Mx) (f_X10_cloth Mm a b c d w) := by
  have hR := Rl_fr H (FX_rf Mx) (FM_sI Mm (o := 100) (k := 0) (v := nI 0))
  have no : ∀ M : Mem, EqL Mx Mm (wM (some (-1 : Int64)) Mx) (some ((-1 : Int64), sI Mm 100 0 (nI 0))) := fun _ => ⟨_, _, _, rfl, rfl, hR⟩
  unfold f_X9_cloth f_X10_cloth
  rw [nm_s]
  rcases int_cases a with ha | ⟨n, hn, rfl⟩
  · rw [in_neg ha 1 (by omega), months_neg1 ha]
    exact no Mx
  rcases int_cases b with hb | ⟨p, hp, rfl⟩
  · rw [months_neg2 hb, in_neg hb 0 (by omega), in_n hn (by omega) (by omega)]
    by_cases c1 : 1 ≤ n ∧ n ≤ 12
    · simp [c1, bn_s]; exact no Mx
    · simp [c1, bn_s]; exact no Mx
  rw [months_v hn hp, in_n hn (by omega) (by omega), in_n hp (by omega) (by omega)]
  by_cases c1 : 1 ≤ n ∧ n ≤ 12
  · by_cases c2 : p ≤ 10
    · rcases int_cases c with hc | ⟨x, hx, rfl⟩
      · simp [c1, c2, in_neg hc, isCost_neg hc, bn_s]; exact no Mx
      rcases int_cases d with hd | ⟨y, hy, rfl⟩
      · rw [in_neg hd 0 (by omega), isCost_neg hd, isCost_v hx, in_n hx (by omega) (by omega)]
        by_cases c3 : x ≤ 99
        · simp [c1, c2, c3, bn_s]; exact no Mx
        · simp [c1, c2, c3, bn_s]; exact no Mx
      rw [isCost_v hx, in_n hx (by omega) (by omega), isCost_v hy, in_n hy (by omega) (by omega)]
      by_cases c3 : x ≤ 99
      · by_cases c4 : y ≤ 99
        · rcases int_cases w with hw | ⟨z, hz, rfl⟩
          · have c5 : w < nI 0 := hw
            simp [c1, c2, c3, c4, c5, in_neg hw, bn_s]; exact no Mx
          · by_cases c5 : z ≤ 2
            · simp (disch := omega) [c1, c2, c3, c4, c5, n_nneg, bn_s, bp_s, nm_s, wM_s, opt_some, opt_none, le_n, lt_n, eq_n, nI_add, pk_mul, sub_n, gin_n, ix_n, in_n, in_upto, div_n, rem_n, gnz_n]
              rw [power_v (by omega), bn_s, lN_mul, clothX_v c1.1 (by omega) (by omega) (by omega) (by omega) c5, clothM_v c1.1 (by omega) (by omega) (by omega) (by omega) c5]
              exact ⟨_, _, _, rfl, rfl, hR⟩
            · simp (disch := omega) [c1, c2, c3, c4, c5, n_nneg, bn_s, bp_s, nm_s, wM_s, opt_some, opt_none, le_n, lt_n, eq_n, nI_add, pk_mul, sub_n, gin_n, ix_n, in_n, in_upto, div_n, rem_n, gnz_n]; exact no Mx
        · simp [c1, c2, c3, c4, bn_s]; exact no Mx
      · simp [c1, c2, c3, bn_s]; exact no Mx
    · simp [c1, c2, bn_s]; exact no Mx
  · have c1' : ¬ (1 ≤ n ∧ n ≤ 12 ∧ p ≤ 10) := fun q => c1 ⟨q.1, q.2.1⟩
    simp [c1, c1', bn_s]; exact no Mx
