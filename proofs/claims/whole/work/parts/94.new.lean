/-! BOTH SIDES, as they are made -/
theorem Rl_0 {Mx Mm : Mem} (h1 : gI Mx 1 1 = nI 0) (h2 : gA Mm 100 2 0 = nI 0) (h3 : ∀ j, j < 600 → gA Mx 1 0 j = 0 ∧ gA Mm 100 1 j = 0) (h4 : gI Mx 1 2 = gA Mm 100 3 0 ∧ gI Mx 1 3 = gA Mm 100 4 0) (h5 : ∀ s, s < 4 → gA Mx 1 4 s = nI 0 ∧ gA Mm 100 5 s = nI 0) (h6 : ∀ j, j < 3 → gA Mx 0 1 j = 0 ∧ gA Mm 100 57 j = nI 0) : Rl Mx Mm := by
  refine ⟨⟨⟨0, by omega, h1, h2⟩, fun j hj => ?_, h4, fun _ => 0, fun s hs => ⟨Nat.zero_le _, (h5 s hs).1, ?_⟩, fun k hk => absurd hk (Nat.not_lt_zero k), fun k hk => absurd hk (Nat.not_lt_zero k), fun k hk => absurd hk (Nat.not_lt_zero k), fun k hk => absurd hk (Nat.not_lt_zero k)⟩, fun j hj => Or.inl (h6 j hj)⟩
  · rw [show 600 * 0 + j = j by omega, (h3 j hj).1, (h3 j hj).2]
  · rw [show 4 * 0 + s = s by omega]
    exact (h5 s hs).2
