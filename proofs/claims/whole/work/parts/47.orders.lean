/-! COUNTS OF ORDERS -/
def dv {α : Type} [Inhabited α] (F : (Nat → α) → Nat → α) : Nat → Nat → α
  | 0 => F (fun _ => default)
  | f + 1 => F (dv F f)
theorem dv_eq {α : Type} [Inhabited α] {F : (Nat → α) → Nat → α} {all : Nat} (hF : ∀ g g' S, S ≤ all → (∀ S', S < S' → S' ≤ all → g S' = g' S') → F g S = F g' S) : ∀ d S f f', S ≤ all → all - S ≤ d → all - S ≤ f → all - S ≤ f' → dv F f S = dv F f' S := by
  intro d
  induction d with
  | zero =>
    intro S f f' h1 h2 _ _
    have e : ∀ f, ∃ g, dv F f S = F g S := by
      intro f
      cases f with
      | zero => exact ⟨_, rfl⟩
      | succ f => exact ⟨_, rfl⟩
    obtain ⟨g, e1⟩ := e f
    obtain ⟨g', e2⟩ := e f'
    rw [e1, e2]
    exact hF _ _ _ h1 (fun S' a b => by omega)
  | succ d ih =>
    intro S f f' h1 h2 h3 h4
    by_cases q : all - S = 0
    · exact ih S f f' h1 (by omega) h3 h4
    · obtain ⟨f, rfl⟩ : ∃ a, f = a + 1 := ⟨f - 1, by omega⟩
      obtain ⟨f', rfl⟩ : ∃ a, f' = a + 1 := ⟨f' - 1, by omega⟩
      exact hF _ _ _ h1 (fun S' a b => ih S' f f' b (by omega) (by omega) (by omega))
def dvv {α : Type} [Inhabited α] (F : (Nat → α) → Nat → α) : Nat → α := dv F 600
theorem dvv_eq {α : Type} [Inhabited α] {F : (Nat → α) → Nat → α} {all : Nat} (hF : ∀ g g' S, S ≤ all → (∀ S', S < S' → S' ≤ all → g S' = g' S') → F g S = F g' S) (ha : all ≤ 512) {S : Nat} (hS : S ≤ all) : dvv F S = F (dvv F) S := by
  show dv F 600 S = F (dv F 600) S
  rw [dv_eq hF 600 S 600 601 hS (by omega) (by omega) (by omega)]
  rfl
/-- how many ways lead from a set to all -/
def gwF (may : Nat → Nat → Bool) (n : Nat) (g : Nat → Nat) (S : Nat) : Nat := if S = 2 ^ n - 1 then 1 else gSum (fun s => if may S s then g (S ||| 2 ^ s) else 0) n
def gw (may : Nat → Nat → Bool) (n : Nat) : Nat → Nat := dvv (gwF may n)
theorem gw_eq {may : Nat → Nat → Bool} {n : Nat} (hm : ∀ S s, may S s = true → S.testBit s = false) (hn : n ≤ 9) {S : Nat} (hS : S ≤ 2 ^ n - 1) : gw may n S = gwF may n (gw may n) S := by
  obtain ⟨-, p1, p2⟩ := pw9 n (by omega)
  refine dvv_eq (all := 2 ^ n - 1) ?_ (by omega) hS
  intro g g' S hS h
  unfold gwF
  by_cases q : S = 2 ^ n - 1
  · rw [if_pos q, if_pos q]
  · rw [if_neg q, if_neg q]
    refine gS_cg n (fun s hs => ?_)
    by_cases r : may S s = true
    · rw [if_pos r, if_pos r]
      have := or_lt (S := S) (n := n) (s := s) (by omega) hs
      exact h _ (or_gt (hm S s r)) (by omega)
    · rw [if_neg r, if_neg r]
theorem gw_all {may : Nat → Nat → Bool} {n : Nat} (hm : ∀ S s, may S s = true → S.testBit s = false) (hn : n ≤ 9) : gw may n (2 ^ n - 1) = 1 := by
  rw [gw_eq hm hn (Nat.le_refl _)]
  exact if_pos rfl
theorem gw_in {may : Nat → Nat → Bool} {n : Nat} (hm : ∀ S s, may S s = true → S.testBit s = false) (hn : n ≤ 9) {S : Nat} (hS : S < 2 ^ n - 1) : gw may n S = gSum (fun s => if may S s then gw may n (S ||| 2 ^ s) else 0) n := by
  rw [gw_eq hm hn (by omega)]
  exact if_neg (by omega)
theorem gw_le {may : Nat → Nat → Bool} {n : Nat} (hm : ∀ S s, may S s = true → S.testBit s = false) (hn : n ≤ 9) : ∀ d S, S ≤ 2 ^ n - 1 → n - pc S n ≤ d → gw may n S ≤ 9 ^ d := by
  obtain ⟨-, q1, q2⟩ := pw9 n (by omega)
  intro d
  induction d with
  | zero =>
    intro S h1 h2
    by_cases q : S = 2 ^ n - 1
    · rw [q, gw_all hm hn]
      exact Nat.le_refl 1
    · obtain ⟨s, g1, g2⟩ := lt_all (show S < 2 ^ n - 1 by omega)
      have := pc_lt g1 g2
      omega
  | succ d ih =>
    intro S h1 h2
    by_cases q : S = 2 ^ n - 1
    · rw [q, gw_all hm hn]
      exact Nat.pow_le_pow_right (i := 0) (by omega) (Nat.zero_le _)
    · rw [gw_in hm hn (by omega)]
      have := gS_le (f := fun s => if may S s then gw may n (S ||| 2 ^ s) else 0) (g := fun _ => 9 ^ d) n (fun s hs => by
        by_cases r : may S s = true
        · simp only [r, if_true]
          have e := pc_or (hm S s r) n
          rw [if_pos hs] at e
          have := or_lt (S := S) (n := n) (s := s) (by omega) hs
          exact ih _ (by omega) (by omega)
        · simp only [r]
          exact Nat.zero_le _)
      rw [gS_const] at this
      have e : 9 ^ (d + 1) = 9 * 9 ^ d := by rw [Nat.pow_succ, Nat.mul_comm]
      have : n * 9 ^ d ≤ 9 * 9 ^ d := Nat.mul_le_mul_right _ hn
      omega
theorem gw_b {may : Nat → Nat → Bool} {n : Nat} (hm : ∀ S s, may S s = true → S.testBit s = false) (hn : n ≤ 9) {S : Nat} (hS : S ≤ 2 ^ n - 1) : gw may n S ≤ 387420489 := by
  have h := gw_le hm hn 9 S hS (by omega)
  have : (9 : Nat) ^ 9 = 387420489 := by decide
  omega
/-- pushing counts forward -/
def psh (may : Nat → Nat → Bool) (T : Nat → Nat) (i : Nat) : Nat → Nat → Nat
  | 0 => T
  | s + 1 => fun j => if may i s = true ∧ j = i ||| 2 ^ s then psh may T i s j + psh may T i s i else psh may T i s j
def fwd (may : Nat → Nat → Bool) (n : Nat) : Nat → Nat → Nat
  | 0 => fun S => if S = 0 then 1 else 0
  | i + 1 => psh may (fwd may n i) i n
theorem psh_lo {may : Nat → Nat → Bool} (hm : ∀ S s, may S s = true → S.testBit s = false) (T : Nat → Nat) (i : Nat) : ∀ s j, j ≤ i → psh may T i s j = T j := by
  intro s
  induction s with
  | zero => intro j _; rfl
  | succ s ih =>
    intro j hj
    show (if may i s = true ∧ j = i ||| 2 ^ s then _ else psh may T i s j) = T j
    rw [if_neg, ih j hj]
    intro ⟨a, b⟩
    have := or_gt (hm i s a)
    omega
theorem fwd_st {may : Nat → Nat → Bool} (hm : ∀ S s, may S s = true → S.testBit s = false) (n : Nat) {j : Nat} : ∀ i, j ≤ i → fwd may n i j = fwd may n j j := by
  intro i
  induction i with
  | zero => intro h; have : j = 0 := by omega
            rw [this]
  | succ i ih =>
    intro h
    by_cases q : j = i + 1
    · rw [q]
    · show psh may (fwd may n i) i n j = _
      rw [psh_lo hm _ _ _ _ (by omega), ih (by omega)]
theorem psh_sum {may : Nat → Nat → Bool} (hm : ∀ S s, may S s = true → S.testBit s = false) (T w : Nat → Nat) (i n : Nat) (hi : i < 2 ^ n) : ∀ s, s ≤ n → gSum (fun S => w S * psh may T i s S) (2 ^ n) = gSum (fun S => w S * T S) (2 ^ n) + T i * gSum (fun t => if may i t then w (i ||| 2 ^ t) else 0) s := by
  intro s
  induction s with
  | zero => intro _; rfl
  | succ s ih =>
    intro hs
    show _ = _ + T i * (gSum (fun t => if may i t then w (i ||| 2 ^ t) else 0) s + (if may i s then w (i ||| 2 ^ s) else 0))
    by_cases r : may i s = true
    · rw [if_pos r, Nat.mul_add, ← Nat.add_assoc, ← ih (by omega)]
      have e := gS_add (fun S => w S * psh may T i s S) (fun S => if S = i ||| 2 ^ s then T i * w (i ||| 2 ^ s) else 0) (2 ^ n)
      rw [gS_pick, if_pos (or_lt hi (by omega))] at e
      rw [← e]
      refine gS_cg _ (fun S _ => ?_)
      show w S * (if may i s = true ∧ S = i ||| 2 ^ s then psh may T i s S + psh may T i s i else psh may T i s S) = _
      by_cases q : S = i ||| 2 ^ s
      · rw [if_pos ⟨r, q⟩, if_pos q, psh_lo hm T i s i (Nat.le_refl i), Nat.mul_add, q, Nat.mul_comm (T i)]
      · rw [if_neg (fun z => q z.2), if_neg q]; rfl
    · rw [if_neg r]
      refine Eq.trans ?_ (ih (by omega))
      refine gS_cg _ (fun S _ => ?_)
      show w S * (if may i s = true ∧ S = i ||| 2 ^ s then psh may T i s S + psh may T i s i else psh may T i s S) = _
      rw [if_neg (fun z => r z.1)]
theorem push_all {may : Nat → Nat → Bool} {n : Nat} (hm : ∀ S s, may S s = true → S.testBit s = false) (h H : Nat → Nat) (hH : ∀ S, S < 2 ^ n - 1 → H S = h S + gSum (fun s => if may S s then H (S ||| 2 ^ s) else 0) n) : gSum (fun S => h S * fwd may n (2 ^ n - 1) S) (2 ^ n - 1) + H (2 ^ n - 1) * fwd may n (2 ^ n - 1) (2 ^ n - 1) = H 0 := by
  have hp : 0 < 2 ^ n := Nat.two_pow_pos n
  have key : ∀ i, i ≤ 2 ^ n - 1 → gSum (fun S => (if S < i then h S else H S) * fwd may n i S) (2 ^ n) = H 0 := by
    intro i
    induction i with
    | zero =>
      intro _
      have e := gS_pick 0 (H 0) (2 ^ n)
      rw [if_pos hp] at e
      rw [← e]
      refine gS_cg _ (fun S _ => ?_)
      show (if S < 0 then h S else H S) * (if S = 0 then 1 else 0) = _
      by_cases q : S = 0
      · subst q; simp
      · simp [q]
    | succ i ih =>
      intro hi
      rw [← ih (by omega)]
      show gSum (fun S => (if S < i + 1 then h S else H S) * psh may (fwd may n i) i n S) (2 ^ n) = _
      have e := psh_sum hm (fwd may n i) (fun S => if S < i + 1 then h S else H S) i n (by omega) n (Nat.le_refl n)
      rw [e]
      have e2 := gS_add (fun S => (if S < i + 1 then h S else H S) * fwd may n i S) (fun S => if S = i then fwd may n i i * gSum (fun t => if may i t then (fun S => if S < i + 1 then h S else H S) (i ||| 2 ^ t) else 0) n else 0) (2 ^ n)
      rw [gS_pick, if_pos (by omega)] at e2
      rw [← e2]
      refine gS_cg _ (fun S _ => ?_)
      by_cases q : S = i
      · subst q
        show (if S < S + 1 then h S else H S) * fwd may n S S + (if S = S then _ else 0) = (if S < S then h S else H S) * fwd may n S S
        rw [if_pos (by omega), if_pos rfl, if_neg (by omega), hH S (by omega), Nat.add_mul, Nat.mul_comm (gSum _ _)]
        congr 2
        refine gS_cg _ (fun s hs => ?_)
        by_cases r : may S s = true
        · rw [if_pos r, if_pos r]
          have := or_gt (hm S s r)
          exact if_neg (by omega)
        · rw [if_neg r, if_neg r]
      · show (if S < i + 1 then h S else H S) * fwd may n i S + (if S = i then _ else 0) = (if S < i then h S else H S) * fwd may n i S
        rw [if_neg q, Nat.add_zero]
        by_cases r : S < i
        · rw [if_pos r, if_pos (by omega)]
        · rw [if_neg r, if_neg (by omega)]
  have e := key (2 ^ n - 1) (Nat.le_refl _)
  have e2 : 2 ^ n = (2 ^ n - 1) + 1 := by omega
  rw [← e]
  generalize 2 ^ n - 1 = a at e2 ⊢
  rw [e2]
  show _ = gSum (fun S => (if S < a then h S else H S) * fwd may n a S) a + (if a < a then h a else H a) * fwd may n a a
  rw [if_neg (Nat.lt_irrefl a)]
  congr 1
  refine gS_cg _ (fun S hS => ?_)
  show _ = (if S < a then h S else H S) * fwd may n a S
  rw [if_pos hS]
theorem fwd_all {may : Nat → Nat → Bool} {n : Nat} (hm : ∀ S s, may S s = true → S.testBit s = false) (hn : n ≤ 9) : fwd may n (2 ^ n - 1) (2 ^ n - 1) = gw may n 0 := by
  have e := push_all hm (fun _ => 0) (gw may n) (fun S hS => by rw [gw_in hm hn hS, Nat.zero_add])
  have hp : 0 < 2 ^ n := Nat.two_pow_pos n
  rw [gS_0 _ (fun i _ => by show 0 * _ = 0; omega), gw_all hm hn] at e
  omega
theorem mayB_n {A : Nat → Nat} (S s : Nat) (h : mayB A S s = true) : S.testBit s = false := by
  unfold mayB at h
  simp at h
  exact h.1
theorem mayP_n {A P : Nat → Nat} (S s : Nat) (h : mayP A P S s = true) : S.testBit s = false := by
  unfold mayP at h
  rw [Bool.and_eq_true] at h
  exact mayB_n S s h.1
/-! the class's ways() -/
theorem psh_z {may : Nat → Nat → Bool} (hm : ∀ S s, may S s = true → S.testBit s = false) (T : Nat → Nat) (i : Nat) (h : nI (T i) = nI 0) : ∀ s j, nI (psh may T i s j) = nI (T j) := by
  intro s
  induction s with
  | zero => intro j; rfl
  | succ s ih =>
    intro j
    show nI (if may i s = true ∧ j = i ||| 2 ^ s then psh may T i s j + psh may T i s i else psh may T i s j) = _
    by_cases q : may i s = true ∧ j = i ||| 2 ^ s
    · rw [if_pos q, ← nI_add, ih, ih, h, nI_add]; rfl
    · rw [if_neg q, ih]
theorem cways_v {M : Mem} {o : Nat} {C : CoatA} {A P : Nat → Nat} (h : SQ M o C A P) : ∃ M', f_X3_ways M = some (nI (gw (mayP A P) (cN C) 0), M') ∧ FK 17 (p1 8) M M' := by
  have hn : cN C ≤ 9 := h.2.2.2.1.1
  have hs17 : gI M 17 1 = nI (cN C) := h.2.2.2.2.1
  obtain ⟨w1, w2, w3⟩ := pw9 (cN C) (by omega)
  have hm : ∀ S s, mayP A P S s = true → S.testBit s = false := mayP_n
  rw [← fwd_all hm hn]
  generalize eA : 2 ^ cN C - 1 = all at w1
  have hal : all < 512 := by omega
  unfold f_X3_ways
  rw [hs17, w1, nm_s, nm_s, gin_n (by omega) (by omega), nm_s]
  unfold f_X3_ways_26
  refine lpU_inv (fun i a => ∃ M', a = (nI i, M') ∧ FK 17 (p1 8) M M' ∧ ∀ j, j < 512 → gA M' 17 8 j = nI (fwd (mayP A P) (cN C) i j)) all (fun x => ∃ M', x = some (nI (fwd (mayP A P) (cN C) all all), M') ∧ FK 17 (p1 8) M M') (by omega) ?_ ?_ 0 _ (Nat.zero_le _) ?_
  · rintro rc a ⟨M', rfl, hf, ht⟩
    show ∃ M'', b_X3_ways_26 (nI all) _ (nI all) M' = _ ∧ _
    unfold b_X3_ways_26
    rw [if_pos (nI_le (Nat.le_refl _) (by omega)), gin_n (by omega) (by omega), ix_n (by omega), ht all hal]
    exact ⟨M', rfl, hf⟩
  · rintro rc i a hi ⟨M', rfl, hf, ht⟩
    refine Or.inr ?_
    show ∃ a', _ ∧ b_X3_ways_26 (nI all) _ (nI i) M' = _
    unfold b_X3_ways_26
    rw [if_neg (nI_ge hi (by omega)), gin_n (by omega) (by omega), ix_n (by omega), ht i (by omega)]
    by_cases z : nI (fwd (mayP A P) (cN C) i i) = nI 0
    · rw [if_pos z]
      unfold f_X3_ways_87
      rw [nI_add, nm_s]
      exact ⟨_, ⟨M', rfl, hf, fun j hj => by rw [ht j hj]; exact (psh_z hm _ i z _ j).symm⟩, rfl⟩
    · rw [if_neg z]
      unfold f_X3_ways_45
      have e0 : i < 2 ^ cN C := by omega
      refine lpU_inv (fun s a => ∃ M', a = (nI s, M') ∧ FK 17 (p1 8) M M' ∧ ∀ j, j < 512 → gA M' 17 8 j = nI (psh (mayP A P) (fwd (mayP A P) (cN C) i) i s j)) (cN C) (fun x => ∃ a', (∃ M', a' = (nI (i + 1), M') ∧ FK 17 (p1 8) M M' ∧ ∀ j, j < 512 → gA M' 17 8 j = nI (fwd (mayP A P) (cN C) (i + 1) j)) ∧ x = rc a') (by omega) ?_ ?_ 0 _ (Nat.zero_le _) ⟨M', rfl, hf, ht⟩
      · rintro rc2 a ⟨M2, rfl, hf2, ht2⟩
        show ∃ a', _ ∧ b_X3_ways_45 (nI all) _ (nI i) _ (nI (cN C)) M2 = _
        unfold b_X3_ways_45
        rw [hf2.1, hs17, if_pos (nI_le (Nat.le_refl _) (by omega))]
        show ∃ a', _ ∧ f_X3_ways_87 (nI all) _ (nI i) M2 = _
        unfold f_X3_ways_87
        rw [nI_add, nm_s]
        exact ⟨_, ⟨M2, rfl, hf2, ht2⟩, rfl⟩
      · rintro rc2 s a hs ⟨M2, rfl, hf2, ht2⟩
        refine Or.inr ?_
        show ∃ a', _ ∧ b_X3_ways_45 (nI all) _ (nI i) _ (nI s) M2 = _
        unfold b_X3_ways_45
        have ho := or_lt e0 hs
        rw [hf2.1, hs17, if_neg (nI_ge hs (by omega)), mayCome_v (SQ_cg h hf2 rfl rfl) (by omega) hs, bn_s]
        unfold f_X3_ways_81
        by_cases r : mayP A P i s = true
        · rw [if_pos r, or_nI (by omega), gin_n (by omega) (by omega), gin_n (by omega) (by omega), gin_n (by omega) (by omega), nm_s, nI_add, nm_s, ix_n (by omega), ix_n (by omega), ht2 _ (by omega), ht2 _ (by omega), nI_add]
          refine ⟨_, ⟨_, rfl, FK_tr hf2 (FK_sA M2 (p1_r 8)), fun j hj => ?_⟩, rfl⟩
          rw [gA_sA]
          show _ = nI (if mayP A P i s = true ∧ j = i ||| 2 ^ s then _ else _)
          by_cases q : j = i ||| 2 ^ s
          · rw [if_pos ⟨rfl, rfl, q⟩, if_pos ⟨r, q⟩, q]
          · rw [if_neg (fun z => q z.2.2), if_neg (fun z => q z.2), ht2 j hj]
        · rw [if_neg r, nI_add, nm_s]
          refine ⟨_, ⟨M2, rfl, hf2, fun j hj => ?_⟩, rfl⟩
          rw [ht2 j hj]
          show _ = nI (if mayP A P i s = true ∧ j = i ||| 2 ^ s then _ else _)
          rw [if_neg (fun z => r z.1)]
  · refine ⟨_, rfl, FK_tr (FK_wA M (k := 8) (p1_r 8)) (FK_sA _ (p1_r 8)), fun j hj => ?_⟩
    rw [gA_sA, ix0]
    show _ = nI (if j = 0 then 1 else 0)
    by_cases q : j = 0
    · rw [if_pos ⟨rfl, rfl, q⟩, if_pos q]
    · rw [if_neg (fun z => q z.2.2), if_neg q, gA_flA, if_pos ⟨rfl, rfl, hj⟩]
/-! the reference's findOrders -/
def dnI (k : Nat) : Int32 := nI k - nI 1
theorem dnI_0 : dnI 0 < nI 0 := by decide +kernel
theorem dnI_s (k : Nat) : dnI (k + 1) = nI k := by
  unfold dnI
  rw [sub_n (by omega)]
  rfl
theorem dnI_n (k : Nat) : nI k + (-1) = dnI k := by
  unfold dnI
  have e : -(nI 1) = (-1 : Int32) := by decide +kernel
  rw [Int32.sub_eq_add_neg, e]
/-- a memory of the reference with the hand on a coat, but for rows p -/
theorem MH_FK {M M' : Mem} {k : Nat} {C : CoatA} {p : Nat → Bool} (h : MH M k C) (f : FK 100 p M M') (h6 : p 6 = false) : MH M' k C := by
  obtain ⟨a, b, c, d, e⟩ := h
  exact ⟨a, by rw [f.1]; exact b, by rw [f.1]; exact c, by rw [f.1]; exact d, CM_cg (f.2.2 100 6 (fun q => by rw [h6] at q; exact absurd q.2 (by decide))).1 e⟩
theorem lcmp_le {a b : Nat} (ha : a < 2 ^ 63) (hb : b < 2 ^ 63) : (lg_cmp (lN a) (lN b) ≤ nI 0) = (a ≤ b) := by
  unfold lg_cmp
  by_cases h : b < a
  · rw [if_pos (show lN a > lN b from (pk_lLT hb ha).mpr h)]
    have : ¬ a ≤ b := by omega
    simp [this]
    decide
  · rw [if_neg (fun q : lN a > lN b => h ((pk_lLT hb ha).mp q))]
    have : a ≤ b := by omega
    by_cases h2 : a = b
    · subst h2
      simp
      decide
    · rw [if_neg (fun q => h2 ((pk_lEQ ha hb).mp q))]
      simp [this]
      decide
theorem mH_sI {M : Mem} {k : Nat} {C : CoatA} {j : Nat} {v : Int32} (h : MH M k C) (hj : ¬ j = 23 ∧ ¬ j = 24 ∧ ¬ j = 25) : MH (sI M 100 j v) k C := by
  obtain ⟨a, b, c, d, e⟩ := h
  refine ⟨a, ?_, ?_, ?_, CM_cg rfl e⟩
  · rw [gI_sI, if_neg (fun q => hj.1 q.2.symm)]; exact b
  · rw [gI_sI, if_neg (fun q => hj.2.1 q.2.symm)]; exact c
  · rw [gI_sI, if_neg (fun q => hj.2.2 q.2.symm)]; exact d
/-- after findOrders: the count table stands -/
def FO (M0 M' : Mem) (C : CoatA) : Prop := ∃ M1, M1 = sI M0 100 35 (nI (2 ^ cN C - 1)) ∧ FK 100 (p1 34) M1 M' ∧ ∀ j, j < 2 ^ cN C → gB M' 100 34 j = lN (gw (mayB (cAf C)) (cN C) j)
theorem findOrders_v {M : Mem} {k : Nat} {C : CoatA} (hH : MH M k C) (hV : CV C) : ∃ M', f_X10_findOrders M = some (decide (0 < gw (mayB (cAf C)) (cN C) 0), M') ∧ FO M M' C := by
  have hn : cN C ≤ 9 := hV.1
  obtain ⟨w1, w2, w3⟩ := pw9 (cN C) (by omega)
  have hm : ∀ S s, mayB (cAf C) S s = true → S.testBit s = false := mayB_n
  have h24 : gI M 100 24 = nI (cN C) := hH.2.2.1
  unfold f_X10_findOrders FO
  rw [h24, w1]
  have hH1 : MH (sI M 100 35 (nI (2 ^ cN C - 1))) k C := mH_sI hH (by omega)
  have e35 : gI (sI M 100 35 (nI (2 ^ cN C - 1))) 100 35 = nI (2 ^ cN C - 1) := rfl
  generalize sI M 100 35 (nI (2 ^ cN C - 1)) = M1 at hH1 e35 ⊢
  have h24 : gI M1 100 24 = nI (cN C) := hH1.2.2.1
  generalize eA : 2 ^ cN C - 1 = all at e35
  have eA2 : 2 ^ cN C = all + 1 := by omega
  rw [nm_s, e35, gin_n (by omega) (by omega), ix_n (by omega), nm_s, show gI (sB M1 100 34 all (lN 1)) 100 35 = nI all from e35, nm_s]
  unfold f_X10_findOrders_29
  refine lpU_inv (fun i a => ∃ M', a = (dnI (all - i), M') ∧ FK 100 (p1 34) M1 M' ∧ ∀ j, all - i ≤ j → j ≤ all → gB M' 100 34 j = lN (gw (mayB (cAf C)) (cN C) j)) all (fun x => ∃ M', x = some (decide (0 < gw (mayB (cAf C)) (cN C) 0), M') ∧ ∃ M1', M1' = M1 ∧ FK 100 (p1 34) M1' M' ∧ ∀ j, j < 2 ^ cN C → gB M' 100 34 j = lN (gw (mayB (cAf C)) (cN C) j)) (by omega) ?_ ?_ 0 _ (Nat.zero_le _) ?_
  · rintro rc a ⟨M', rfl, hf, ht⟩
    show ∃ M'', b_X10_findOrders_29 _ (dnI (all - all)) M' = _ ∧ _
    unfold b_X10_findOrders_29
    have hb := gw_b hm hn (S := 0) (by omega)
    rw [Nat.sub_self, if_pos dnI_0, gin_n (by omega) (by omega), ix0, ht 0 (by omega) (by omega)]
    refine ⟨M', ?_, M1, rfl, hf, fun j hj => ht j (by omega) (by omega)⟩
    by_cases z : gw (mayB (cAf C)) (cN C) 0 = 0
    · rw [if_pos ((lcmp_le (by omega) (by omega)).mpr (by omega)), z]
      rfl
    · rw [if_neg (fun q => z (by have := (lcmp_le (by omega) (by omega)).mp q; omega)), decide_eq_true (show 0 < gw (mayB (cAf C)) (cN C) 0 by omega)]
  · rintro rc i a hi ⟨M', rfl, hf, ht⟩
    refine Or.inr ?_
    show ∃ a', _ ∧ b_X10_findOrders_29 _ (dnI (all - i)) M' = _
    unfold b_X10_findOrders_29
    obtain ⟨v, hv⟩ : ∃ v, all - i = v + 1 := ⟨all - i - 1, by omega⟩
    rw [hv, dnI_s, if_neg (n_nneg (by omega)), nm_s]
    unfold f_X10_findOrders_38
    have e0 : v < 2 ^ cN C := by omega
    have hH' := MH_FK hH1 hf rfl
    refine lpU_inv (fun s a => a = (lN (gSum (fun s => if mayB (cAf C) v s then gw (mayB (cAf C)) (cN C) (v ||| 2 ^ s) else 0) s), nI s, M')) (cN C) (fun x => ∃ a', (∃ M', a' = (dnI (all - (i + 1)), M') ∧ FK 100 (p1 34) M1 M' ∧ ∀ j, all - (i + 1) ≤ j → j ≤ all → gB M' 100 34 j = lN (gw (mayB (cAf C)) (cN C) j)) ∧ x = rc a') (by omega) ?_ ?_ 0 _ (Nat.zero_le _) rfl
    · rintro rc2 a rfl
      show ∃ a', _ ∧ b_X10_findOrders_38 _ (nI v) _ _ (nI (cN C)) M' = _
      unfold b_X10_findOrders_38
      rw [hf.1, h24, if_pos (nI_le (Nat.le_refl _) (by omega)), gin_n (by omega) (by omega), ix_n (by omega), nm_s, dnI_n, nm_s]
      have ev : all - (i + 1) = v := by omega
      refine ⟨_, ⟨_, by rw [ev], FK_tr hf (FK_sB M' (p1_r 34)), fun j h1 h2 => ?_⟩, rfl⟩
      rw [gB_sB]
      by_cases q : j = v
      · rw [if_pos ⟨rfl, rfl, q⟩, q, gw_in hm hn (by omega)]
      · rw [if_neg (fun z => q z.2.2)]
        exact ht j (by omega) h2
    · rintro rc2 s a hs rfl
      refine Or.inr ?_
      show ∃ a', _ ∧ b_X10_findOrders_38 _ (nI v) _ _ (nI s) M' = _
      unfold b_X10_findOrders_38
      have ho := or_lt e0 hs
      rw [hf.1, h24, if_neg (nI_ge hs (by omega)), mayNext_v hH' hV (by omega) hs, bn_s]
      unfold f_X10_findOrders_73
      by_cases r : mayB (cAf C) v s = true
      · have := or_gt (hm v s r)
        rw [if_pos r, or_nI (by omega), gin_n (by omega) (by omega), ix_n (by omega), ht _ (by omega) (by omega), lN_add, nm_s, nI_add, nm_s]
        refine ⟨_, rfl, ?_⟩
        show _ = rc2 (lN (_ + (if mayB (cAf C) v s then _ else 0)), nI (s + 1), M')
        rw [if_pos r]
      · rw [if_neg r, lN_add, nm_s, nI_add, nm_s]
        refine ⟨_, rfl, ?_⟩
        show _ = rc2 (lN (_ + (if mayB (cAf C) v s then _ else 0)), nI (s + 1), M')
        rw [if_neg r]
  · refine ⟨_, rfl, FK_sB M1 (p1_r 34), fun j h1 h2 => ?_⟩
    rw [gB_sB, if_pos ⟨rfl, rfl, by omega⟩, show j = 2 ^ cN C - 1 by omega, gw_all hm hn]
theorem FM_p {M M' : Mem} {k : Nat} (h : FK 100 (p1 k) M M') (hk : 10 ≤ k ∧ k ≠ 57) : FM M M' := FK_FM h (fun b hb => by
  unfold p1
  simp
  omega)
theorem FO_FM {M M' : Mem} {C : CoatA} (h : FO M M' C) : FM M M' := by
  obtain ⟨M1, rfl, h2, -⟩ := h
  exact FM_tr (FM_sI M) (FM_p h2 (by omega))
/-! take(c) of the class -/
def tk (M : Mem) (o : Nat) (C : CoatA) : Mem := flA (cpA (sI (sR M 17 0 o) 17 1 (nI (cN C))) o 5 17 2 9) 17 3 9 (nI 511)
theorem take_v {M : Mem} {o : Nat} {C : CoatA} (hX : CX M o C) : f_X3_take M o = some (tk M o C) := by
  unfold f_X3_take tk
  rw [nm_s, show gI (sR M 17 0 o) o 0 = nI (cN C) from hX.1, nm_s, nm_s, nm_s]
theorem FX_tk (M : Mem) (o : Nat) (C : CoatA) : FX M (tk M o C) := FX_tr (FX_tr (FX_tr (FX_sR M) (FX_sI _ (by omega))) (FX_cpA _ (by omega))) (FX_flA _ (by omega))
theorem tk_SQ {M : Mem} {o : Nat} {C : CoatA} (hX : CX M o C) (hV : CV C) (ho : o < 10) : SQ (tk M o C) o C (cAf C) (fun _ => 511) := by
  have f := FX_tk M o C
  have w2 := (pw9 (cN C) (by have := hV.1; omega)).2.1
  refine ⟨rfl, Or.inl ho, CX_cg (f o (Or.inl ho)) hX, hV, rfl, fun s hs => ⟨⟨?_, ?_⟩, ?_, (by decide : 511 < 512)⟩⟩
  · unfold tk
    rw [gA_flA, if_neg (by omega), gA_cpA, if_pos ⟨rfl, rfl, hs⟩]
    exact hX.2.2.2.1 s hs
  · by_cases q : s < cN C
    · have := (hV.2.2.1 s q).2.2.2.1
      omega
    · rw [hV.2.2.2.1 s (by omega)]
      omega
  · unfold tk
    rw [gA_flA, if_pos ⟨rfl, rfl, hs⟩]
theorem mayP_B {A : Nat → Nat} {S s n : Nat} (hs : s < 9) : mayP A (fun _ => 511) S s = mayB A S s := by
  unfold mayP
  cases h : mayB A S s with
  | false => rfl
  | true =>
    have := pc_lt hs (mayB_n S s h)
    show (2 ^ 9 - 1).testBit (pc S 9) = true
    rw [Nat.testBit_two_pow_sub_one]
    exact decide_eq_true this
theorem gw_cg {may may' : Nat → Nat → Bool} {n : Nat} (h : ∀ S s, s < n → may S s = may' S s) : gw may n = gw may' n := by
  have : gwF may n = gwF may' n := by
    funext g S
    unfold gwF
    by_cases q : S = 2 ^ n - 1
    · rw [if_pos q, if_pos q]
    · rw [if_neg q, if_neg q]
      exact gS_cg n (fun s hs => by rw [h S s hs])
  unfold gw
  rw [this]
theorem q_orders {Mx Mm : Mem} (H : Rl Mx Mm) (a : Int32) : EqL Mx Mm (f_X9_orders Mx a) (f_X10_orders Mm a) := by
  have h0 := FM_sI Mm (o := 100) (k := 0) (v := nI 0)
  unfold f_X9_orders f_X10_orders
  rw [nm_s]
  rcases coat_cases H a with ⟨e1, e2⟩ | ⟨k, C, hk, rfl, hV, hX, hM, e1, e2⟩
  · rw [e1, e2 _ h0]
    exact ⟨_, _, _, rfl, rfl, Rl_fr H (FX_rf Mx) h0⟩
  · have hH := mh_MH (M := sI Mm 100 0 (nI 0)) hk (CM_cg rfl hM)
    obtain ⟨M1, g1, g2⟩ := findOrders_v hH hV
    have hn := hV.1
    obtain ⟨M2, g3, g4⟩ := cways_v (tk_SQ hX hV (by omega))
    have hb := gw_b (may := mayB (cAf C)) mayB_n hn (S := 0) (by omega)
    rw [e1, e2 _ h0, bn_s, bp_s, if_pos rfl, opt_some, take_v hX, bn_s, g3, bp_s, g1, bp_s, gin_n (by omega) (by omega), ix0, gw_cg (may' := mayB (cAf C)) (fun S s hs => mayP_B (n := 9) (by omega)), nI_l (by omega)]
    refine ⟨_, _, _, rfl, ?_, Rl_fr H (FX_tr (FX_tk Mx (2 + k) C) (FK_FX g4 (by omega))) (FM_tr h0 (FM_tr (FM_mh _ k C) (FO_FM g2)))⟩
    obtain ⟨M3, -, -, g5⟩ := g2
    rw [g5 0 (Nat.two_pow_pos _)]
