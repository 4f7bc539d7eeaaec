/-! SETS, SUMS, FRAMES -/
theorem ite_p {α : Type} {p q : Prop} {i : Decidable p} (h : p = q) [j : Decidable q] {a b : α} : @ite α p i a b = @ite α q j a b := by
  subst h
  have : i = j := Subsingleton.elim _ _
  rw [this]
theorem lpU_inv {α β : Type} {F : (α → Option β) → α → Option β} (I : Nat → α → Prop) (n : Nat) (P : Option β → Prop) (hn : n < 5000) (hend : ∀ rc a, I n a → P (F rc a)) (hstep : ∀ rc i a, i < n → I i a → P (F rc a) ∨ ∃ a', I (i + 1) a' ∧ F rc a = rc a') (i0 : Nat) (a0 : α) (hi : i0 ≤ n) (h0 : I i0 a0) : P (lp F FU a0) := by
  have key : ∀ f i a, n - i < f → i ≤ n → I i a → P (lp F f a) := by
    intro f
    induction f with
    | zero => intro i a h; omega
    | succ f ih =>
      intro i a h1 h2 h3
      rw [lp_s]
      by_cases h : i = n
      · subst h
        exact hend _ _ h3
      · rcases hstep (lp F f) i a (by omega) h3 with h4 | ⟨a', h4, h5⟩
        · exact h4
        · rw [h5]
          exact ih (i + 1) a' (by omega) (by omega) h4
  exact key FU i0 a0 (by rw [FU_v]; omega) hi h0
/-- a memory but for the rows p of the object o -/
def FK (o : Nat) (p : Nat → Bool) (M M' : Mem) : Prop := (∀ a b, gI M' a b = gI M a b) ∧ (∀ a b, gR M' a b = gR M a b) ∧ ∀ a b, ¬ (a = o ∧ p b = true) → gA M' a b = gA M a b ∧ gB M' a b = gB M a b
theorem FK_rf {o : Nat} {p : Nat → Bool} (M : Mem) : FK o p M M := ⟨fun _ _ => rfl, fun _ _ => rfl, fun _ _ _ => ⟨rfl, rfl⟩⟩
theorem FK_tr {o : Nat} {p : Nat → Bool} {A B C : Mem} (h : FK o p A B) (g : FK o p B C) : FK o p A C := ⟨fun a b => (g.1 a b).trans (h.1 a b), fun a b => (g.2.1 a b).trans (h.2.1 a b), fun a b q => ⟨((g.2.2 a b q).1).trans (h.2.2 a b q).1, ((g.2.2 a b q).2).trans (h.2.2 a b q).2⟩⟩
theorem FK_mo {o : Nat} {p q : Nat → Bool} {A B : Mem} (h : FK o p A B) (g : ∀ b, p b = true → q b = true) : FK o q A B := ⟨h.1, h.2.1, fun a b r => h.2.2 a b (fun s => r ⟨s.1, g b s.2⟩)⟩
theorem FK_wA {o : Nat} {p : Nat → Bool} (M : Mem) {k : Nat} {f : Nat → Int32} (h : p k = true) : FK o p M (wA M o k f) := ⟨fun _ _ => rfl, fun _ _ => rfl, fun a b q => ⟨if_neg (fun r => q ⟨r.1, by rw [r.2]; exact h⟩), rfl⟩⟩
theorem FK_wB {o : Nat} {p : Nat → Bool} (M : Mem) {k : Nat} {f : Nat → Int64} (h : p k = true) : FK o p M (wB M o k f) := ⟨fun _ _ => rfl, fun _ _ => rfl, fun a b q => ⟨rfl, if_neg (fun r => q ⟨r.1, by rw [r.2]; exact h⟩)⟩⟩
theorem FK_sA {o : Nat} {p : Nat → Bool} (M : Mem) {k j : Nat} {v : Int32} (h : p k = true) : FK o p M (sA M o k j v) := FK_wA M h
theorem FK_sB {o : Nat} {p : Nat → Bool} (M : Mem) {k j : Nat} {v : Int64} (h : p k = true) : FK o p M (sB M o k j v) := FK_wB M h
theorem FK_FX {o : Nat} {p : Nat → Bool} {A B : Mem} (h : FK o p A B) (ho : 10 ≤ o ∧ o < 21) : FX A B := fun a ha => ⟨fun k => h.1 a k, fun k => (h.2.2 a k (fun q => by omega)).1⟩
theorem FK_FM {o : Nat} {p : Nat → Bool} {A B : Mem} (h : FK o p A B) (hp : ∀ k, (1 ≤ k ∧ k ≤ 9) ∨ k = 57 → p k = false) : FM A B := fun k hk => (h.2.2 100 k (fun q => by rw [hp k hk] at q; exact absurd q.2 (by decide))).1
def p1 (k : Nat) : Nat → Bool := fun b => b == k
theorem p1_r (k : Nat) : p1 k k = true := by simp [p1]
/-! sums: gSum -/
theorem gS_cg {f g : Nat → Nat} : ∀ n, (∀ i, i < n → f i = g i) → gSum f n = gSum g n := by
  intro n
  induction n with
  | zero => intro _; rfl
  | succ n ih =>
    intro h
    show gSum f n + f n = gSum g n + g n
    rw [ih (fun i hi => h i (by omega)), h n (by omega)]
theorem gS_le {f g : Nat → Nat} : ∀ n, (∀ i, i < n → f i ≤ g i) → gSum f n ≤ gSum g n := by
  intro n
  induction n with
  | zero => intro _; exact Nat.le_refl 0
  | succ n ih =>
    intro h
    show gSum f n + f n ≤ gSum g n + g n
    have := ih (fun i hi => h i (by omega))
    have := h n (by omega)
    omega
theorem gS_add (f g : Nat → Nat) : ∀ n, gSum (fun i => f i + g i) n = gSum f n + gSum g n := by
  intro n
  induction n with
  | zero => rfl
  | succ n ih =>
    show gSum (fun i => f i + g i) n + (f n + g n) = gSum f n + f n + (gSum g n + g n)
    omega
theorem gS_0 {f : Nat → Nat} : ∀ n, (∀ i, i < n → f i = 0) → gSum f n = 0 := by
  intro n
  induction n with
  | zero => intro _; rfl
  | succ n ih =>
    intro h
    show gSum f n + f n = 0
    rw [ih (fun i hi => h i (by omega)), h n (by omega)]
theorem gS_mul (c : Nat) (f : Nat → Nat) : ∀ n, gSum (fun i => c * f i) n = c * gSum f n := by
  intro n
  induction n with
  | zero => rfl
  | succ n ih =>
    show gSum (fun i => c * f i) n + c * f n = c * (gSum f n + f n)
    rw [ih, Nat.mul_add]
theorem gS_const (c : Nat) : ∀ n, gSum (fun _ => c) n = n * c := by
  intro n
  induction n with
  | zero => simp [gSum]
  | succ n ih =>
    show gSum (fun _ => c) n + c = (n + 1) * c
    rw [ih, Nat.succ_mul]
theorem gS_pick (k c : Nat) : ∀ n, gSum (fun i => if i = k then c else 0) n = if k < n then c else 0 := by
  intro n
  induction n with
  | zero => simp [gSum]
  | succ n ih =>
    show gSum (fun i => if i = k then c else 0) n + (if n = k then c else 0) = _
    rw [ih]
    by_cases h1 : k < n
    · rw [if_pos h1, if_neg (by omega), if_pos (by omega)]; rfl
    · rw [if_neg h1]
      by_cases h2 : n = k
      · rw [if_pos h2, if_pos (by omega)]; omega
      · rw [if_neg h2, if_neg (by omega)]
/-! bits -/
def pc (S : Nat) : Nat → Nat := gSum (fun s => if S.testBit s then 1 else 0)
theorem sub_iff (a b : Nat) (ha : a < 4294967296) : (a &&& (b ^^^ 4294967295) = 0) = (∀ o, a.testBit o = true → b.testBit o = true) := by
  apply propext
  have e : ∀ o, (a &&& (b ^^^ 4294967295)).testBit o = (a.testBit o && (b.testBit o ^^ decide (o < 32))) := by
    intro o
    rw [Nat.testBit_and, Nat.testBit_xor]
    have : (4294967295 : Nat).testBit o = decide (o < 32) := Nat.testBit_two_pow_sub_one 32 o
    rw [this]
  constructor
  · intro h o ho
    have h2 := e o
    rw [h, Nat.zero_testBit, ho] at h2
    by_cases ho2 : o < 32
    · simp [ho2] at h2
      exact h2
    · have : a.testBit o = false := Nat.testBit_lt_two_pow (Nat.lt_of_lt_of_le ha (by
        have : 2 ^ 32 ≤ 2 ^ o := Nat.pow_le_pow_right (by omega) (by omega)
        omega))
      rw [this] at ho
      exact absurd ho (by decide)
  · intro h
    apply Nat.eq_of_testBit_eq
    intro o
    rw [e, Nat.zero_testBit]
    by_cases ho : a.testBit o = true
    · rw [ho, h o ho]
      by_cases ho2 : o < 32
      · simp [ho2]
      · have : a.testBit o = false := Nat.testBit_lt_two_pow (Nat.lt_of_lt_of_le ha (by
          have : 2 ^ 32 ≤ 2 ^ o := Nat.pow_le_pow_right (by omega) (by omega)
          omega))
        rw [this] at ho
        exact absurd ho (by decide)
    · simp at ho
      simp [ho]
theorem m1_n : (-1 : Int32) = nI 4294967295 := by decide +kernel
theorem not_n (a b : Nat) : nI a &&& (nI b ^^^ (-1)) = nI (a &&& (b ^^^ 4294967295)) := by
  rw [m1_n, xor_n, and_n]
theorem and_lt {a b n : Nat} (h : a < n) : a &&& b < n := Nat.lt_of_le_of_lt Nat.and_le_left h
theorem tb_lt {S n s : Nat} (h : S < 2 ^ n) (hs : S.testBit s = true) : s < n := by
  by_cases q : s < n
  · exact q
  · rw [Nat.testBit_lt_two_pow (Nat.lt_of_lt_of_le h (Nat.pow_le_pow_right (by omega) (by omega)))] at hs
    exact absurd hs (by decide)
theorem or_tb (S s t : Nat) : (S ||| 2 ^ s).testBit t = (S.testBit t || decide (s = t)) := by
  rw [Nat.testBit_or, Nat.testBit_two_pow]
theorem or_lt {S n s : Nat} (h : S < 2 ^ n) (hs : s < n) : S ||| 2 ^ s < 2 ^ n := Nat.or_lt_two_pow h (Nat.pow_lt_pow_right (by omega) hs)
theorem or_gt {S s : Nat} (h : S.testBit s = false) : S < S ||| 2 ^ s := by
  have h1 : S ≤ S ||| 2 ^ s := Nat.left_le_or
  have h2 : S ≠ S ||| 2 ^ s := fun e => by
    have := or_tb S s s
    rw [← e, h] at this
    simp at this
  omega
theorem pc_or {S s : Nat} (h : S.testBit s = false) (n : Nat) : pc (S ||| 2 ^ s) n = pc S n + (if s < n then 1 else 0) := by
  have e := gS_add (fun t => if S.testBit t then 1 else 0) (fun t => if t = s then 1 else 0) n
  rw [gS_pick] at e
  unfold pc
  rw [← e]
  refine gS_cg n (fun i hi => ?_)
  rw [or_tb]
  by_cases q : i = s
  · subst q
    simp [h]
  · have : ¬ s = i := fun e => q e.symm
    simp [q, this]
theorem pc_le (S n : Nat) : pc S n ≤ n := by
  have := gS_le (f := fun s => if S.testBit s then 1 else 0) (g := fun _ => 1) n (fun i _ => by split <;> omega)
  rw [gS_const] at this
  unfold pc
  omega
theorem pc_ext {S n m : Nat} (h : S < 2 ^ n) (hm : n ≤ m) : pc S m = pc S n := by
  induction m with
  | zero => have : n = 0 := by omega
            rw [this]
  | succ m ih =>
    by_cases q : n = m + 1
    · rw [q]
    · have e : pc S (m + 1) = pc S m + (if S.testBit m then 1 else 0) := rfl
      have : S.testBit m = false := Nat.testBit_lt_two_pow (Nat.lt_of_lt_of_le h (Nat.pow_le_pow_right (by omega) (by omega)))
      rw [e, ih (by omega), this]
      rfl
theorem pc_lt {S s n : Nat} (hs : s < n) (h : S.testBit s = false) : pc S n < n := by
  have := pc_or h n
  rw [if_pos hs] at this
  have := pc_le (S ||| 2 ^ s) n
  omega
theorem all_tb {n s : Nat} : (2 ^ n - 1).testBit s = decide (s < n) := Nat.testBit_two_pow_sub_one n s
theorem lt_all {S n : Nat} (h : S < 2 ^ n - 1) : ∃ s, s < n ∧ S.testBit s = false := by
  apply Classical.byContradiction
  intro q
  have e : S = 2 ^ n - 1 := by
    apply Nat.eq_of_testBit_eq
    intro i
    rw [all_tb]
    by_cases hi : i < n
    · rw [decide_eq_true hi]
      cases h2 : S.testBit i with
      | true => rfl
      | false => exact absurd ⟨i, hi, h2⟩ q
    · rw [decide_eq_false hi]
      exact Nat.testBit_lt_two_pow (Nat.lt_of_lt_of_le (show S < 2 ^ n by omega) (Nat.pow_le_pow_right (by omega) (by omega)))
  omega
theorem bc_all : ∀ S, S < 512 → bcI (nI S) = nI (pc S 9) ∧ f_X10_ones (nI S) = some (nI (pc S 9)) := by decide +kernel
theorem pw9 : ∀ n, n < 10 → nI 1 <<< (nI n &&& 31) - nI 1 = nI (2 ^ n - 1) ∧ 2 ^ n ≤ 512 ∧ 0 < 2 ^ n := by decide +kernel
theorem has_v {S s : Nat} (hS : S < 2147483648) (hs : s < 32) : f_X10_has (nI S) (nI s) = some (S.testBit s) := by
  unfold f_X10_has
  rw [ite_p (bit_n hS hs)]
  by_cases h : S.testBit s = true
  · rw [if_pos h, h]
  · rw [if_neg h]
    simp at h
    rw [h]
def mayB (A : Nat → Nat) (S s : Nat) : Bool := !S.testBit s && (A s &&& (S ^^^ 4294967295) == 0)
theorem mayB_t {A : Nat → Nat} {S s : Nat} (h : A s < 4294967296) : (mayB A S s = true) = (S.testBit s = false ∧ ∀ o, (A s).testBit o = true → S.testBit o = true) := by
  unfold mayB
  rw [← sub_iff _ _ h]
  simp
theorem bit0_n {a s : Nat} (ha : a < 2147483648) (hs : s < 32) : (nI a >>> (nI s &&& 31) &&& nI 1 = nI 0) = (a.testBit s = false) := by
  rw [shr_n ha hs, and1_n, Nat.testBit_eq_decide_div_mod_eq]
  have h2 : a / 2 ^ s % 2 < 2147483648 := by omega
  rw [eq_n h2 (by omega)]
  simp
theorem mayNext_v {M : Mem} {k : Nat} {C : CoatA} (hH : MH M k C) (hV : CV C) {S s : Nat} (hS : S < 512) (hs : s < cN C) : f_X10_mayNext M (nI S) (nI s) = some (mayB (cAf C) S s) := by
  obtain ⟨hk, y0, -, -, -, -, -, m3, -⟩ := hH
  obtain ⟨v1, v2, v3, v4, v5⟩ := hV
  have h9 := (pw9 (cN C) (by omega)).2.1
  have hA := (v3 s hs).2.2.2.1
  unfold f_X10_mayNext mayB
  rw [has_v (by omega) (by omega), bn_s]
  by_cases h : S.testBit s = true
  · rw [if_pos h, h]; rfl
  · rw [if_neg h, nI_add, of_v y0 hk (by omega), bn_s, m3 s (by omega), not_n, ite_p (eq_n (by have := and_lt (b := S ^^^ 4294967295) (show cAf C s < 512 by omega); omega) (by omega))]
    simp at h
    rw [h]
    by_cases h2 : cAf C s &&& (S ^^^ 4294967295) = 0
    · simp [h2]
    · simp [h2]
/-- the class's Sewing holds a coat, the rows before and places -/
def SQ (M : Mem) (o : Nat) (C : CoatA) (A P : Nat → Nat) : Prop := gR M 17 0 = o ∧ (o < 10 ∨ o = 16) ∧ CX M o C ∧ CV C ∧ gI M 17 1 = nI (cN C) ∧ ∀ s, s < 9 → (gA M 17 2 s = nI (A s) ∧ A s < 512) ∧ gA M 17 3 s = nI (P s) ∧ P s < 512
theorem SQ_cg {M M' : Mem} {o : Nat} {C : CoatA} {A P : Nat → Nat} {p : Nat → Bool} (h : SQ M o C A P) (f : FK 17 p M M') (h2 : p 2 = false) (h3 : p 3 = false) : SQ M' o C A P := by
  obtain ⟨a, b, c, d, e, g⟩ := h
  refine ⟨by rw [f.2.1]; exact a, b, CX_cg ⟨fun k => f.1 o k, fun k => (f.2.2 o k (fun q => by omega)).1⟩ c, d, by rw [f.1]; exact e, fun s hs => ?_⟩
  rw [(f.2.2 17 2 (fun q => by rw [h2] at q; exact absurd q.2 (by decide))).1, (f.2.2 17 3 (fun q => by rw [h3] at q; exact absurd q.2 (by decide))).1]
  exact g s hs
def mayP (A P : Nat → Nat) (S s : Nat) : Bool := mayB A S s && (P s).testBit (pc S 9)
theorem mayCome_v {M : Mem} {o : Nat} {C : CoatA} {A P : Nat → Nat} (h : SQ M o C A P) {S s : Nat} (hS : S < 512) (hs : s < cN C) : f_X3_mayCome M (nI s) (nI S) = some (mayP A P S s) := by
  obtain ⟨-, -, -, ⟨v1, -⟩, -, g⟩ := h
  obtain ⟨⟨g1, g2⟩, g3, g4⟩ := g s (by omega)
  have hp := pc_le S 9
  unfold f_X3_mayCome mayP mayB
  rw [ite_p (bit0_n (by omega) (by omega)), (bc_all S hS).1, gin_n (by omega) (by omega), gin_n (by omega) (by omega), ix_n (by omega), g1, g3, not_n, ite_p (eq_n (a := A s &&& (S ^^^ 4294967295)) (b := 0) (by have := and_lt (b := S ^^^ 4294967295) g2; omega) (by omega)), ite_p (bit_n (by omega) (by omega))]
  cases h1 : S.testBit s with
  | true => simp
  | false =>
    by_cases h2 : A s &&& (S ^^^ 4294967295) = 0
    · by_cases h3 : (P s).testBit (pc S 9) = true
      · simp [h2, h3]
      · simp [h2, h3]
    · simp [h2]
theorem or_nI {S s : Nat} (hs : s < 31) : nI S ||| nI 1 <<< (nI s &&& 31) = nI (S ||| 2 ^ s) := by
  rw [shl1_n hs, or_n]
