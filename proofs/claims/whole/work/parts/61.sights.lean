/-! SIGHTS: counts of orders that keep to what was seen -/
theorem gw_dead {may : Nat → Nat → Bool} {n : Nat} (hm : ∀ S s, may S s = true → S.testBit s = false) (hn : n ≤ 9) (D : Nat → Prop) (h1 : ¬ D (2 ^ n - 1)) (h2 : ∀ S s, S < 2 ^ n → s < n → D S → may S s = true → D (S ||| 2 ^ s)) : ∀ d S, S ≤ 2 ^ n - 1 → n - pc S n ≤ d → D S → gw may n S = 0 := by
  obtain ⟨-, q1, q2⟩ := pw9 n (by omega)
  intro d
  induction d with
  | zero =>
    intro S a b c
    by_cases q : S = 2 ^ n - 1
    · rw [q] at c; exact absurd c h1
    · obtain ⟨s, g1, g2⟩ := lt_all (show S < 2 ^ n - 1 by omega)
      have := pc_lt g1 g2
      omega
  | succ d ih =>
    intro S a b c
    by_cases q : S = 2 ^ n - 1
    · rw [q] at c; exact absurd c h1
    · rw [gw_in hm hn (by omega)]
      refine gS_0 n (fun s hs => ?_)
      show (if may S s = true then gw may n (S ||| 2 ^ s) else 0) = 0
      by_cases r : may S s = true
      · have e := pc_or (hm S s r) n
        rw [if_pos hs] at e
        have := or_lt (S := S) (n := n) (s := s) (by omega) hs
        rw [if_pos r]
        exact ih _ (by omega) (by omega) (h2 S s (by omega) hs c r)
      · rw [if_neg r]
theorem gw_sim {may may' : Nat → Nat → Bool} {n : Nat} (hm : ∀ S s, may S s = true → S.testBit s = false) (hm' : ∀ S s, may' S s = true → S.testBit s = false) (hn : n ≤ 9) (U D : Nat → Prop) (h1 : ¬ D (2 ^ n - 1)) (h2 : ∀ S s, S < 2 ^ n → s < n → D S → may S s = true → D (S ||| 2 ^ s)) (h3 : ∀ S s, S < 2 ^ n → s < n → U S → may' S s = true → may S s = true ∧ U (S ||| 2 ^ s)) (h4 : ∀ S s, S < 2 ^ n → s < n → U S → may S s = true → ¬ may' S s = true → D (S ||| 2 ^ s)) : ∀ d S, S ≤ 2 ^ n - 1 → n - pc S n ≤ d → U S → gw may n S = gw may' n S := by
  obtain ⟨-, q1, q2⟩ := pw9 n (by omega)
  intro d
  induction d with
  | zero =>
    intro S a b c
    by_cases q : S = 2 ^ n - 1
    · rw [q, gw_all hm hn, gw_all hm' hn]
    · obtain ⟨s, g1, g2⟩ := lt_all (show S < 2 ^ n - 1 by omega)
      have := pc_lt g1 g2
      omega
  | succ d ih =>
    intro S a b c
    by_cases q : S = 2 ^ n - 1
    · rw [q, gw_all hm hn, gw_all hm' hn]
    · rw [gw_in hm hn (by omega), gw_in hm' hn (by omega)]
      refine gS_cg n (fun s hs => ?_)
      show (if may S s = true then gw may n (S ||| 2 ^ s) else 0) = if may' S s = true then gw may' n (S ||| 2 ^ s) else 0
      have ho := or_lt (S := S) (n := n) (s := s) (by omega) hs
      by_cases r' : may' S s = true
      · obtain ⟨r, u⟩ := h3 S s (by omega) hs c r'
        have e := pc_or (hm S s r) n
        rw [if_pos hs] at e
        rw [if_pos r, if_pos r']
        exact ih _ (by omega) (by omega) u
      · rw [if_neg r']
        by_cases r : may S s = true
        · rw [if_pos r]
          exact gw_dead hm hn D h1 h2 n _ (by omega) (by omega) (h4 S s (by omega) hs c r r')
        · rw [if_neg r]
theorem gw_mono {may may' : Nat → Nat → Bool} {n : Nat} (hm : ∀ S s, may S s = true → S.testBit s = false) (h : ∀ S s, may' S s = true → may S s = true) (hn : n ≤ 9) : ∀ d S, S ≤ 2 ^ n - 1 → n - pc S n ≤ d → gw may' n S ≤ gw may n S := by
  have hm' : ∀ S s, may' S s = true → S.testBit s = false := fun S s q => hm S s (h S s q)
  obtain ⟨-, q1, q2⟩ := pw9 n (by omega)
  intro d
  induction d with
  | zero =>
    intro S a b
    by_cases q : S = 2 ^ n - 1
    · rw [q, gw_all hm hn, gw_all hm' hn]; exact Nat.le_refl _
    · obtain ⟨s, g1, g2⟩ := lt_all (show S < 2 ^ n - 1 by omega)
      have := pc_lt g1 g2
      omega
  | succ d ih =>
    intro S a b
    by_cases q : S = 2 ^ n - 1
    · rw [q, gw_all hm hn, gw_all hm' hn]; exact Nat.le_refl _
    · rw [gw_in hm hn (by omega), gw_in hm' hn (by omega)]
      refine gS_le n (fun s hs => ?_)
      show (if may' S s = true then gw may' n (S ||| 2 ^ s) else 0) ≤ if may S s = true then gw may n (S ||| 2 ^ s) else 0
      have ho := or_lt (S := S) (n := n) (s := s) (by omega) hs
      by_cases r' : may' S s = true
      · have r := h S s r'
        have e := pc_or (hm S s r) n
        rw [if_pos hs] at e
        rw [if_pos r, if_pos r']
        exact ih _ (by omega) (by omega)
      · rw [if_neg r']; exact Nat.zero_le _
def fac : Nat → Nat
  | 0 => 1
  | d + 1 => (d + 1) * fac d
theorem fac_mo : ∀ d, 1 ≤ fac d ∧ fac d ≤ fac (d + 1) := by
  intro d
  induction d with
  | zero => decide
  | succ d ih =>
    have h : 1 ≤ fac (d + 1) := Nat.le_trans ih.1 ih.2
    refine ⟨h, ?_⟩
    show fac (d + 1) ≤ (d + 2) * fac (d + 1)
    exact Nat.le_mul_of_pos_left _ (by omega)
theorem gw_fac {may : Nat → Nat → Bool} {n : Nat} (hm : ∀ S s, may S s = true → S.testBit s = false) (hn : n ≤ 9) : ∀ d S, S ≤ 2 ^ n - 1 → n - pc S n ≤ d → gw may n S ≤ fac d := by
  obtain ⟨-, q1, q2⟩ := pw9 n (by omega)
  intro d
  induction d with
  | zero =>
    intro S a b
    by_cases q : S = 2 ^ n - 1
    · rw [q, gw_all hm hn]; exact Nat.le_refl _
    · obtain ⟨s, g1, g2⟩ := lt_all (show S < 2 ^ n - 1 by omega)
      have := pc_lt g1 g2
      omega
  | succ d ih =>
    intro S a b
    by_cases q : S = 2 ^ n - 1
    · rw [q, gw_all hm hn]; exact (fac_mo _).1
    · rw [gw_in hm hn (by omega)]
      have h1 := gS_le (f := fun s => if may S s = true then gw may n (S ||| 2 ^ s) else 0) (g := fun s => if S.testBit s = true then 0 else fac d) n (fun s hs => by
        show (if may S s = true then gw may n (S ||| 2 ^ s) else 0) ≤ if S.testBit s = true then 0 else fac d
        have ho := or_lt (S := S) (n := n) (s := s) (by omega) hs
        by_cases r : may S s = true
        · have e := pc_or (hm S s r) n
          rw [if_pos hs] at e
          have hb := hm S s r
          rw [if_pos r, hb, if_neg (by decide)]
          exact ih _ (by omega) (by omega)
        · rw [if_neg r]; exact Nat.zero_le _)
      have h2 := gS_add (fun s => if S.testBit s = true then 0 else fac d) (fun s => fac d * (if S.testBit s = true then 1 else 0)) n
      rw [gS_mul] at h2
      have h3 : gSum (fun s => (if S.testBit s = true then 0 else fac d) + fac d * (if S.testBit s = true then 1 else 0)) n = n * fac d := by
        rw [← gS_const]
        refine gS_cg n (fun s _ => ?_)
        show (if S.testBit s = true then 0 else fac d) + fac d * (if S.testBit s = true then 1 else 0) = fac d
        by_cases q : S.testBit s = true
        · rw [if_pos q, if_pos q]; omega
        · rw [if_neg q, if_neg q]; omega
      have h4 : gSum (fun s => if S.testBit s = true then 1 else 0) n = pc S n := rfl
      rw [h3, h4] at h2
      have h5 : n * fac d ≤ (d + 1 + pc S n) * fac d := Nat.mul_le_mul_right _ (by omega)
      have h6 : (d + 1 + pc S n) * fac d = (d + 1) * fac d + fac d * pc S n := by rw [Nat.add_mul, Nat.mul_comm (pc S n)]
      show _ ≤ (d + 1) * fac d
      omega
theorem gw_FAR {may : Nat → Nat → Bool} {n : Nat} (hm : ∀ S s, may S s = true → S.testBit s = false) (hn : n ≤ 9) : gw may n 0 ≤ 362880 := gw_fac hm hn 9 0 (Nat.zero_le _) (by omega)
/-- one seam alone restricted -/
def rst (may : Nat → Nat → Bool) (z : Nat) (c : Nat → Bool) (S s : Nat) : Bool := may S s && (!(s == z) || c S)
theorem rst_t {may : Nat → Nat → Bool} {z : Nat} {c : Nat → Bool} {S s : Nat} : (rst may z c S s = true) ↔ (may S s = true ∧ (s = z → c S = true)) := by
  unfold rst
  rw [Bool.and_eq_true, Bool.or_eq_true]
  by_cases q : s = z
  · simp [q]
  · simp [q]
theorem rst_n {may : Nat → Nat → Bool} {z : Nat} {c : Nat → Bool} (hm : ∀ S s, may S s = true → S.testBit s = false) : ∀ S s, rst may z c S s = true → S.testBit s = false := fun S s h => hm S s (rst_t.mp h).1
theorem rst_sum {may : Nat → Nat → Bool} {n : Nat} (hm : ∀ S s, may S s = true → S.testBit s = false) (hn : n ≤ 9) {z : Nat} (hz : z < n) (c : Nat → Bool) : gSum (fun S => (if (c S && may S z) = true then gw may n (S ||| 2 ^ z) else 0) * fwd may n (2 ^ n - 1) S) (2 ^ n - 1) = gw (rst may z c) n 0 := by
  obtain ⟨-, q1, q2⟩ := pw9 n (by omega)
  have e := push_all hm (fun S => if (c S && may S z) = true then gw may n (S ||| 2 ^ z) else 0) (fun S => if S.testBit z = true then 0 else gw (rst may z c) n S) (fun S hS => by
    show (if S.testBit z = true then 0 else gw (rst may z c) n S) = (if (c S && may S z) = true then gw may n (S ||| 2 ^ z) else 0) + gSum (fun s => if may S s = true then (if (S ||| 2 ^ s).testBit z = true then 0 else gw (rst may z c) n (S ||| 2 ^ s)) else 0) n
    by_cases b : S.testBit z = true
    · have b2 : ¬ (c S && may S z) = true := by
        rw [Bool.and_eq_true]
        rintro ⟨-, q⟩
        rw [hm S z q] at b
        exact absurd b (by decide)
      rw [if_pos b, if_neg b2, gS_0 n (fun s _ => by
        show (if may S s = true then (if (S ||| 2 ^ s).testBit z = true then 0 else gw (rst may z c) n (S ||| 2 ^ s)) else 0) = 0
        rw [or_tb, b, Bool.true_or, if_pos rfl]
        split <;> rfl)]
    · rw [if_neg b, gw_in (rst_n hm) hn hS]
      have p := gS_pick z (if (c S && may S z) = true then gw may n (S ||| 2 ^ z) else 0) n
      rw [if_pos hz] at p
      rw [← p, ← gS_add]
      refine gS_cg n (fun s hs => ?_)
      show (if rst may z c S s = true then gw (rst may z c) n (S ||| 2 ^ s) else 0) = (if s = z then (if (c S && may S z) = true then gw may n (S ||| 2 ^ z) else 0) else 0) + (if may S s = true then (if (S ||| 2 ^ s).testBit z = true then 0 else gw (rst may z c) n (S ||| 2 ^ s)) else 0)
      have hb : S.testBit z = false := by simpa using b
      have ho := or_lt (S := S) (n := n) (s := s) (by omega) hs
      rw [or_tb, hb, Bool.false_or]
      by_cases q : s = z
      · subst q
        have e1 : gw may n (S ||| 2 ^ s) = gw (rst may s c) n (S ||| 2 ^ s) := by
          refine gw_sim hm (rst_n hm) hn (fun T => T.testBit s = true) (fun _ => False) (fun h => h) (fun _ _ _ _ h _ => h) (fun T t _ _ hT h => ⟨(rst_t.mp h).1, by show (T ||| 2 ^ t).testBit s = true; rw [or_tb, hT, Bool.true_or]⟩) (fun T t _ _ hT h h2 => ?_) n _ (by omega) (by omega) (by show (S ||| 2 ^ s).testBit s = true; rw [or_tb]; simp)
          apply h2
          rw [rst_t]
          refine ⟨h, fun e => ?_⟩
          subst e
          rw [hm T t h] at hT
          exact absurd hT (by decide)
        rw [if_pos rfl, decide_eq_true rfl, if_pos rfl, ← e1]
        by_cases k : (c S && may S s) = true
        · have k2 := k
          rw [Bool.and_eq_true] at k2
          rw [if_pos (rst_t.mpr ⟨k2.2, fun _ => k2.1⟩), if_pos k]
          split <;> rfl
        · rw [if_neg k, if_neg (fun h => k (by
            rw [rst_t] at h
            rw [Bool.and_eq_true]
            exact ⟨h.2 rfl, h.1⟩))]
          split <;> rfl
      · rw [if_neg q, decide_eq_false q, if_neg (show ¬ (false = true) by decide), Nat.zero_add]
        by_cases k : may S s = true
        · rw [if_pos k, if_pos (rst_t.mpr ⟨k, fun e => absurd e q⟩)]
        · rw [if_neg k, if_neg (fun h => k (rst_t.mp h).1)])
  have e1 : (2 ^ n - 1).testBit z = true := by rw [all_tb, decide_eq_true hz]
  have e2 : ((if (2 ^ n - 1).testBit z = true then 0 else gw (rst may z c) n (2 ^ n - 1)) : Nat) = 0 := if_pos e1
  have e3 : ((if (0 : Nat).testBit z = true then 0 else gw (rst may z c) n 0) : Nat) = gw (rst may z c) n 0 := by rw [Nat.zero_testBit]; rfl
  rw [← e3, ← e]
  show _ = _ + (if (2 ^ n - 1).testBit z = true then 0 else gw (rst may z c) n (2 ^ n - 1)) * _
  rw [e2, Nat.zero_mul, Nat.add_zero]
/-! what a sight says -/
def foB (S : SightA) (m T s : Nat) : Bool := if S.2.1 m = 0 then (!(s == S.2.2.2 m) || T.testBit (S.2.2.1 m)) else if S.2.1 m = 1 then ((s == S.2.2.1 m) == (pc T 9 == S.2.2.2 m)) else (!(s == S.2.2.1 m) || !(pc T 9 == S.2.2.2 m))
def soK (C : CoatA) (S : SightA) (T s : Nat) : Nat → Bool
  | 0 => mayB (cAf C) T s
  | m + 1 => soK C S T s m && foB S m T s
def so (C : CoatA) (S : SightA) (T s : Nat) : Bool := soK C S T s S.1
theorem soK_t (C : CoatA) (S : SightA) (T s : Nat) : ∀ m, soK C S T s m = true ↔ (mayB (cAf C) T s = true ∧ ∀ k, k < m → foB S k T s = true) := by
  intro m
  induction m with
  | zero => exact ⟨fun h => ⟨h, fun k hk => by omega⟩, fun h => h.1⟩
  | succ m ih =>
    show (soK C S T s m && foB S m T s) = true ↔ _
    rw [Bool.and_eq_true, ih]
    constructor
    · rintro ⟨⟨a, b⟩, c⟩
      refine ⟨a, fun k hk => ?_⟩
      by_cases q : k = m
      · rw [q]; exact c
      · exact b k (by omega)
    · rintro ⟨a, b⟩
      exact ⟨⟨a, fun k hk => b k (by omega)⟩, b m (by omega)⟩
theorem soK_f {C : CoatA} {S : SightA} {T s i : Nat} (h : soK C S T s i = false) {m : Nat} (hm : i ≤ m) : soK C S T s m = false := by
  cases q : soK C S T s m with
  | false => rfl
  | true =>
    rw [soK_t] at q
    have : soK C S T s i = true := (soK_t C S T s i).mpr ⟨q.1, fun k hk => q.2 k (by omega)⟩
    rw [h] at this
    exact absurd this (by decide)
theorem so_n {C : CoatA} {S : SightA} : ∀ T s, so C S T s = true → T.testBit s = false := fun T s h => mayB_n T s ((soK_t C S T s S.1).mp h).1
def seeA (C : CoatA) (S : SightA) : Nat → Nat → Nat
  | 0 => cAf C
  | m + 1 => fun x => if S.2.1 m = 0 ∧ x = S.2.2.2 m then seeA C S m x ||| 2 ^ S.2.2.1 m else seeA C S m x
def seeP (S : SightA) : Nat → Nat → Nat
  | 0 => fun _ => 511
  | m + 1 => fun x => if S.2.1 m = 1 ∧ x = S.2.2.1 m then seeP S m x &&& 2 ^ S.2.2.2 m else if S.2.1 m = 2 ∧ x = S.2.2.1 m then rmv (seeP S m x) (2 ^ S.2.2.2 m) else seeP S m x
theorem seeP_lt (S : SightA) : ∀ m x, seeP S m x < 512 := by
  intro m
  induction m with
  | zero => intro x; exact (by decide : 511 < 512)
  | succ m ih =>
    intro x
    show (if S.2.1 m = 1 ∧ x = S.2.2.1 m then seeP S m x &&& 2 ^ S.2.2.2 m else if S.2.1 m = 2 ∧ x = S.2.2.1 m then rmv (seeP S m x) (2 ^ S.2.2.2 m) else seeP S m x) < 512
    split
    · exact and_lt (ih x)
    · split
      · have := rmv_le (seeP S m x) (2 ^ S.2.2.2 m)
        have := ih x
        omega
      · exact ih x
theorem seeA_lt {C : CoatA} (hV : CV C) {S : SightA} (hS : SV S) : ∀ m, m ≤ S.1 → ∀ x, seeA C S m x < 512 := by
  intro m
  induction m with
  | zero =>
    intro _ x
    have w2 := (pw9 (cN C) (by have := hV.1; omega)).2.1
    show cAf C x < 512
    by_cases q : x < cN C
    · have := (hV.2.2.1 x q).2.2.2.1
      omega
    · rw [hV.2.2.2.1 x (by omega)]
      omega
  | succ m ih =>
    intro hm x
    show (if S.2.1 m = 0 ∧ x = S.2.2.2 m then seeA C S m x ||| 2 ^ S.2.2.1 m else seeA C S m x) < 512
    have h := ih (by omega) x
    split
    · have := (hS.2 m (by omega)).2.1
      exact or_lt (n := 9) h (by omega)
    · exact h
theorem seeA_t (C : CoatA) (S : SightA) (T s : Nat) : ∀ m, (∀ o, (seeA C S m s).testBit o = true → T.testBit o = true) ↔ ((∀ o, (cAf C s).testBit o = true → T.testBit o = true) ∧ ∀ k, k < m → S.2.1 k = 0 → S.2.2.2 k = s → T.testBit (S.2.2.1 k) = true) := by
  intro m
  induction m with
  | zero => exact ⟨fun h => ⟨h, fun k hk => by omega⟩, fun h => h.1⟩
  | succ m ih =>
    show (∀ o, (if S.2.1 m = 0 ∧ s = S.2.2.2 m then seeA C S m s ||| 2 ^ S.2.2.1 m else seeA C S m s).testBit o = true → T.testBit o = true) ↔ _
    by_cases q : S.2.1 m = 0 ∧ s = S.2.2.2 m
    · rw [if_pos q]
      constructor
      · intro h
        have h1 := ih.mp (fun o ho => h o (by rw [or_tb, ho, Bool.true_or]))
        refine ⟨h1.1, fun k hk a b => ?_⟩
        by_cases r : k = m
        · rw [r]
          exact h _ (by rw [or_tb]; simp)
        · exact h1.2 k (by omega) a b
      · intro h o ho
        rw [or_tb, Bool.or_eq_true, decide_eq_true_eq] at ho
        rcases ho with ho | ho
        · exact ih.mpr ⟨h.1, fun k hk => h.2 k (by omega)⟩ o ho
        · rw [← ho]
          exact h.2 m (by omega) q.1 q.2.symm
    · rw [if_neg q, ih]
      constructor
      · intro h
        refine ⟨h.1, fun k hk a b => ?_⟩
        by_cases r : k = m
        · rw [r] at a b
          exact absurd ⟨a, b.symm⟩ q
        · exact h.2 k (by omega) a b
      · intro h
        exact ⟨h.1, fun k hk => h.2 k (by omega)⟩
theorem seeP_t (S : SightA) (s p : Nat) : ∀ m, (seeP S m s).testBit p = true ↔ (p < 9 ∧ ∀ k, k < m → S.2.2.1 k = s → (S.2.1 k = 1 → p = S.2.2.2 k) ∧ (S.2.1 k = 2 → ¬ p = S.2.2.2 k)) := by
  intro m
  induction m with
  | zero =>
    show (2 ^ 9 - 1).testBit p = true ↔ _
    rw [all_tb, decide_eq_true_eq]
    exact ⟨fun h => ⟨h, fun k hk => by omega⟩, fun h => h.1⟩
  | succ m ih =>
    have ext : ∀ (P : Prop), ((seeP S m s).testBit p = true ∧ P ↔ (p < 9 ∧ ∀ k, k < m → S.2.2.1 k = s → (S.2.1 k = 1 → p = S.2.2.2 k) ∧ (S.2.1 k = 2 → ¬ p = S.2.2.2 k)) ∧ P) := fun P => by rw [ih]
    have spl : (p < 9 ∧ ∀ k, k < m + 1 → S.2.2.1 k = s → (S.2.1 k = 1 → p = S.2.2.2 k) ∧ (S.2.1 k = 2 → ¬ p = S.2.2.2 k)) ↔ ((p < 9 ∧ ∀ k, k < m → S.2.2.1 k = s → (S.2.1 k = 1 → p = S.2.2.2 k) ∧ (S.2.1 k = 2 → ¬ p = S.2.2.2 k)) ∧ (S.2.2.1 m = s → (S.2.1 m = 1 → p = S.2.2.2 m) ∧ (S.2.1 m = 2 → ¬ p = S.2.2.2 m))) := by
      constructor
      · intro h
        exact ⟨⟨h.1, fun k hk => h.2 k (by omega)⟩, h.2 m (by omega)⟩
      · intro h
        refine ⟨h.1.1, fun k hk => ?_⟩
        by_cases r : k = m
        · rw [r]; exact h.2
        · exact h.1.2 k (by omega)
    rw [spl, ← ext]
    show (if S.2.1 m = 1 ∧ s = S.2.2.1 m then seeP S m s &&& 2 ^ S.2.2.2 m else if S.2.1 m = 2 ∧ s = S.2.2.1 m then rmv (seeP S m s) (2 ^ S.2.2.2 m) else seeP S m s).testBit p = true ↔ _
    by_cases q : S.2.1 m = 1 ∧ s = S.2.2.1 m
    · rw [if_pos q, Nat.testBit_and, Bool.and_eq_true, tb_pw, decide_eq_true_eq]
      constructor
      · rintro ⟨a, b⟩
        exact ⟨a, fun _ => ⟨fun _ => b.symm, fun h => by omega⟩⟩
      · rintro ⟨a, b⟩
        exact ⟨a, ((b q.2.symm).1 q.1).symm⟩
    · rw [if_neg q]
      by_cases r : S.2.1 m = 2 ∧ s = S.2.2.1 m
      · rw [if_pos r, rmv_tb (seeP_lt S m s), Bool.and_eq_true, tb_pw]
        constructor
        · rintro ⟨a, b⟩
          refine ⟨a, fun _ => ⟨fun h => by omega, fun _ e => ?_⟩⟩
          rw [decide_eq_true e.symm] at b
          exact absurd b (by decide)
        · rintro ⟨a, b⟩
          refine ⟨a, ?_⟩
          rw [decide_eq_false (fun e => (b r.2.symm).2 r.1 e.symm)]
          rfl
      · rw [if_neg r]
        constructor
        · intro a
          exact ⟨a, fun e => ⟨fun h => absurd ⟨h, e.symm⟩ q, fun h => absurd ⟨h, e.symm⟩ r⟩⟩
        · intro h
          exact h.1
/-- a sight whose seams are there -/
def siOK (n : Nat) (S : SightA) : Prop := ∀ k, k < S.1 → S.2.2.1 k < n ∧ (S.2.1 k = 0 → S.2.2.2 k < n)
def sGood (S : SightA) (T : Nat) : Prop := ∀ k, k < S.1 → S.2.1 k = 1 → (T.testBit (S.2.2.1 k) = true ↔ S.2.2.2 k < pc T 9)
def sDead (S : SightA) (T : Nat) : Prop := ∃ k, k < S.1 ∧ S.2.1 k = 1 ∧ T.testBit (S.2.2.1 k) = false ∧ S.2.2.2 k < pc T 9
theorem mayS_t {C : CoatA} (hV : CV C) {S : SightA} (hS : SV S) (T s : Nat) : mayP (seeA C S S.1) (seeP S S.1) T s = true ↔ ((T.testBit s = false ∧ (∀ o, (cAf C s).testBit o = true → T.testBit o = true) ∧ ∀ k, k < S.1 → S.2.1 k = 0 → S.2.2.2 k = s → T.testBit (S.2.2.1 k) = true) ∧ (pc T 9 < 9 ∧ ∀ k, k < S.1 → S.2.2.1 k = s → (S.2.1 k = 1 → pc T 9 = S.2.2.2 k) ∧ (S.2.1 k = 2 → ¬ pc T 9 = S.2.2.2 k))) := by
  unfold mayP
  have := seeA_lt hV hS S.1 (Nat.le_refl _) s
  rw [Bool.and_eq_true, mayB_t (by omega), seeP_t, seeA_t]
theorem so_t {C : CoatA} (hV : CV C) {S : SightA} {T s : Nat} (hs : s < cN C) : so C S T s = true ↔ ((T.testBit s = false ∧ ∀ o, (cAf C s).testBit o = true → T.testBit o = true) ∧ ∀ k, k < S.1 → foB S k T s = true) := by
  unfold so
  have w2 := (pw9 (cN C) (by have := hV.1; omega)).2.1
  have := (hV.2.2.1 s hs).2.2.2.1
  rw [soK_t, mayB_t (by omega)]
theorem foB_0 {S : SightA} {m T s : Nat} (h : S.2.1 m = 0) : foB S m T s = true ↔ (S.2.2.2 m = s → T.testBit (S.2.2.1 m) = true) := by
  unfold foB
  rw [if_pos h]
  by_cases q : s = S.2.2.2 m
  · simp [q]
  · have : ¬ S.2.2.2 m = s := fun e => q e.symm
    simp [q, this]
theorem foB_1 {S : SightA} {m T s : Nat} (h : S.2.1 m = 1) : foB S m T s = true ↔ (S.2.2.1 m = s ↔ pc T 9 = S.2.2.2 m) := by
  unfold foB
  rw [if_neg (by omega), if_pos h]
  by_cases q : s = S.2.2.1 m
  · by_cases r : pc T 9 = S.2.2.2 m
    · simp [q, r]
    · simp [q, r]
  · have q2 : ¬ S.2.2.1 m = s := fun e => q e.symm
    by_cases r : pc T 9 = S.2.2.2 m
    · simp [q, q2, r]
    · rw [beq_eq_false_iff_ne.mpr q, beq_eq_false_iff_ne.mpr r]
      simp [q2, r]
theorem foB_2 {S : SightA} {m T s : Nat} (h : S.2.1 m = 2) : foB S m T s = true ↔ (S.2.2.1 m = s → ¬ pc T 9 = S.2.2.2 m) := by
  unfold foB
  rw [if_neg (by omega), if_neg (by omega)]
  by_cases q : s = S.2.2.1 m
  · simp [q]
  · have : ¬ S.2.2.1 m = s := fun e => q e.symm
    simp [q, this]
theorem see_gw {C : CoatA} (hV : CV C) {S : SightA} (hS : SV S) (hK : siOK (cN C) S) (z : Nat) (c : Nat → Bool) : gw (rst (mayP (seeA C S S.1) (seeP S S.1)) z c) (cN C) 0 = gw (rst (so C S) z c) (cN C) 0 := by
  have hn := hV.1
  have kinds : ∀ k, k < S.1 → S.2.1 k = 0 ∨ S.2.1 k = 1 ∨ S.2.1 k = 2 := fun k hk => by
    have := (hS.2 k hk).1
    omega
  refine gw_sim (rst_n mayP_n) (rst_n so_n) hn (sGood S) (sDead S) ?_ ?_ ?_ ?_ (cN C) 0 (Nat.zero_le _) (by omega) ?_
  · rintro ⟨k, h1, h2, h3, -⟩
    rw [all_tb, decide_eq_true (hK k h1).1] at h3
    exact absurd h3 (by decide)
  · rintro T s hT hs ⟨k, h1, h2, h3, h4⟩ h5
    rw [rst_t, mayS_t hV hS] at h5
    obtain ⟨⟨⟨a, -, -⟩, b, d⟩, -⟩ := h5
    have e := pc_or a 9
    rw [if_pos (by omega)] at e
    have hne : ¬ s = S.2.2.1 k := fun q => by
      have := (d k h1 q.symm).1 h2
      omega
    refine ⟨k, h1, h2, ?_, by omega⟩
    rw [or_tb, h3, decide_eq_false hne]
    rfl
  · intro T s hT hs hU h
    rw [rst_t, so_t hV hs] at h
    obtain ⟨⟨⟨a, b⟩, d⟩, f⟩ := h
    have e := pc_or a 9
    rw [if_pos (by omega)] at e
    have hp := pc_lt (n := 9) (show s < 9 by omega) a
    refine ⟨?_, fun k h1 h2 => ?_⟩
    · rw [rst_t, mayS_t hV hS]
      refine ⟨⟨⟨a, b, fun k h1 h2 h3 => ?_⟩, hp, fun k h1 h2 => ⟨fun h3 => ?_, fun h3 => ?_⟩⟩, f⟩
      · exact (foB_0 h2).mp (d k h1) h3
      · exact ((foB_1 h3).mp (d k h1)).mp h2
      · exact (foB_2 h3).mp (d k h1) h2
    · have g := (foB_1 h2).mp (d k h1)
      have u := hU k h1 h2
      rw [or_tb, Bool.or_eq_true, decide_eq_true_eq, u, e]
      constructor
      · rintro (q | q)
        · omega
        · have := g.mp q.symm
          omega
      · intro q
        by_cases r : pc T 9 = S.2.2.2 k
        · exact Or.inr (g.mpr r).symm
        · exact Or.inl (by omega)
  · intro T s hT hs hU h h'
    rw [rst_t, mayS_t hV hS] at h
    obtain ⟨⟨⟨a, b1, b2⟩, hp, d⟩, f⟩ := h
    have e := pc_or a 9
    rw [if_pos (by omega)] at e
    have : ∃ k, k < S.1 ∧ ¬ foB S k T s = true := by
      apply Classical.byContradiction
      intro q
      apply h'
      rw [rst_t, so_t hV hs]
      refine ⟨⟨⟨a, b1⟩, fun k hk => ?_⟩, f⟩
      by_cases r : foB S k T s = true
      · exact r
      · exact absurd ⟨k, hk, r⟩ q
    obtain ⟨k, h1, h2⟩ := this
    rcases kinds k h1 with q | q | q
    · rw [foB_0 q] at h2
      exact absurd (b2 k h1 q) h2
    · rw [foB_1 q] at h2
      have u := hU k h1 q
      have v := d k h1
      have hne : ¬ S.2.2.1 k = s := fun r => h2 ⟨fun _ => (v r).1 q, fun _ => r⟩
      have hpc : pc T 9 = S.2.2.2 k := by
        apply Classical.byContradiction
        intro r
        exact h2 ⟨fun t => absurd t hne, fun t => absurd t r⟩
      refine ⟨k, h1, q, ?_, by omega⟩
      rw [or_tb, decide_eq_false (fun r => hne r.symm)]
      cases t : T.testBit (S.2.2.1 k) with
      | false => rfl
      | true => have := u.mp t; omega
    · rw [foB_2 q] at h2
      exact absurd (fun r => (d k h1 r).2 q) h2
  · intro k h1 h2
    rw [Nat.zero_testBit, pc_0]
    constructor
    · intro h; exact absurd h (by decide)
    · intro h; omega
theorem rst_tr (may : Nat → Nat → Bool) (z n : Nat) : gw (rst may z (fun _ => true)) n = gw may n := gw_cg (fun S s _ => by unfold rst; simp)
