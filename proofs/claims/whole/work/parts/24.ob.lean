theorem ob_X9_orderedAt {ns : List (Nat × Nat)} {M M' : Mem} {a : Int32} {o : Nat} (hN : NsC ns) (h : f_X9_orderedAt M a = some (some o, M')) : Ob ns 0 o := by
  unfold f_X9_orderedAt at h
  obtain ⟨b, hb, h⟩ := bn_of h
  cases b with
  | none => cases h
  | some u =>
    have h := opt_s h
    obtain ⟨M1, -, h⟩ := bn_of h
    obtain ⟨b, M2, -, h⟩ := bp_of h
    by_cases c : b = true
    · rw [if_pos c] at h
      cases h
      exact ob_X9_coatAt hN hb
    · rw [if_neg c] at h
      cases h
theorem ob_X9_seenAt {ns : List (Nat × Nat)} {M M' : Mem} {a a2 : Int32} {o : Nat} (hN : NsC ns) (h : f_X9_seenAt M a a2 = some (some o, M')) : Ob ns 0 o := by
  unfold f_X9_seenAt at h
  obtain ⟨b, hb, h⟩ := bn_of h
  obtain ⟨b2, hb2, h⟩ := bn_of h
  cases b with
  | none => cases h
  | some u =>
    have h := opt_s h
    cases b2 with
    | none => cases h
    | some u2 =>
      have h := opt_s h
      obtain ⟨z, -, h⟩ := bn_of h
      by_cases c : z < gI M u 0
      · rw [if_pos c] at h
        obtain ⟨M1, -, h⟩ := bn_of h
        obtain ⟨M2, -, h⟩ := bn_of h
        cases h
        exact ob_X9_coatAt hN hb
      · rw [if_neg c] at h
        cases h
