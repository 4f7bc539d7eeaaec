theorem ob_X9_coatAt {ns : List (Nat × Nat)} {M : Mem} {a : Int32} {o : Nat} (hN : NsC ns) (h : f_X9_coatAt M a = some (some o)) : Ob ns 0 o := by
  unfold f_X9_coatAt at h
  obtain ⟨b, hb, h⟩ := bn_of h
  by_cases c : b = true
  · rw [if_pos c] at h
    obtain ⟨g, h⟩ := gin_of h
    have e := Option.some.inj (some_of h)
    subst e
    exact (hN.2 1 (o_of hN (o := 1) (c := 5) (by decide) rfl) _ (gin_lt g)).1
  · rw [if_neg c] at h
    cases h
theorem ob_X9_lifeAt {ns : List (Nat × Nat)} {M : Mem} {a : Int32} {o : Nat} (hN : NsC ns) (h : f_X9_lifeAt M a = some (some o)) : Ob ns 1 o := by
  unfold f_X9_lifeAt at h
  obtain ⟨b, hb, h⟩ := bn_of h
  by_cases c : b = true
  · rw [if_pos c] at h
    obtain ⟨g, h⟩ := gin_of h
    have e := Option.some.inj (some_of h)
    subst e
    exact (hN.2 1 (o_of hN (o := 1) (c := 5) (by decide) rfl) _ (gin_lt g)).2.1
  · rw [if_neg c] at h
    cases h
theorem ob_X9_townAt {ns : List (Nat × Nat)} {M : Mem} {a : Int32} {o : Nat} (hN : NsC ns) (h : f_X9_townAt M a = some (some o)) : Ob ns 6 o := by
  unfold f_X9_townAt at h
  obtain ⟨b, hb, h⟩ := bn_of h
  by_cases c : b = true
  · rw [if_pos c] at h
    obtain ⟨g, h⟩ := gin_of h
    have e := Option.some.inj (some_of h)
    subst e
    exact (hN.2 1 (o_of hN (o := 1) (c := 5) (by decide) rfl) _ (gin_lt g)).2.2.1
  · rw [if_neg c] at h
    cases h
theorem ob_X9_sightAt {ns : List (Nat × Nat)} {M : Mem} {a : Int32} {o : Nat} (hN : NsC ns) (h : f_X9_sightAt M a = some (some o)) : Ob ns 4 o := by
  unfold f_X9_sightAt at h
  obtain ⟨b, hb, h⟩ := bn_of h
  by_cases c : b = true
  · rw [if_pos c] at h
    obtain ⟨g, h⟩ := gin_of h
    have e := Option.some.inj (some_of h)
    subst e
    exact (hN.2 1 (o_of hN (o := 1) (c := 5) (by decide) rfl) _ (gin_lt g)).2.2.2
  · rw [if_neg c] at h
    cases h
