/-! cloth, enough: numbers alone -/
def pwN (b : Nat) : Nat → Nat
  | 0 => 1
  | n + 1 => pwN b n * b
theorem tens_all : ∀ n, n < 13 → f_X9_power (nI 10) (nI n) = some (lN (10 ^ n)) ∧ f_X10_tens (nI n) = some (lN (10 ^ n)) := by decide +kernel
def chN : Nat → Nat → Nat
  | _, 0 => 1
  | 0, _ + 1 => 0
  | n + 1, k + 1 => chN n k + chN n (k + 1)
def wtN (n p k : Nat) : Nat := chN n k * p ^ k * (10 - p) ^ (n - k)
theorem wt_all : ∀ n, n < 13 → ∀ k, k < n + 1 → ∀ p, p < 11 → f_X9_weight (nI n) (nI p) (nI k) = some (lN (wtN n p k)) ∧ f_X10_just (nI n) (nI k) (nI p) = some (lN (wtN n p k)) := by decide +kernel
theorem wt_le : ∀ n, n < 13 → ∀ k, k < n + 1 → ∀ p, p < 11 → wtN n p k ≤ 1000000000000 := by decide +kernel
