/-! TEXTS: the relation of both sides, once a text is kept -/
theorem CM_CR {M M' : Mem} {b : Nat} {C : CoatA} (e : ∀ j, j < 138 → gA M' 100 6 (b + j) = gA M 100 19 j) (hn : cN C ≤ 9) (h : CR M C) : CM M' b C := by
  obtain ⟨a0, a1, a2, a3, a4⟩ := h
  refine ⟨?_, by rw [e 1 (by omega)]; exact a1, fun s hs => ?_, fun s hs => ?_, fun d hd => ?_⟩
  · have := e 0 (by omega)
    rw [Nat.add_zero] at this
    rw [this]; exact a0
  · rw [e _ (by omega), e _ (by omega), e _ (by omega)]; exact a2 s hs
  · rw [e _ (by omega)]; exact a3 s hs
  · rw [e _ (by omega)]; exact a4 d hd
theorem LM_LR {M M' : Mem} {b : Nat} {L : LifeA} (e : ∀ j, j < 81 → gA M' 100 7 (b + j) = gA M 100 19 j) (hn : L.1 ≤ 40) (h : LR1 M L) : LM M' b L := by
  obtain ⟨a0, a1⟩ := h
  refine ⟨?_, fun s hs => ?_⟩
  · have := e 0 (by omega)
    rw [Nat.add_zero] at this
    rw [this]; exact a0
  · rw [e _ (by omega), e _ (by omega)]; exact a1 s hs
theorem TM_TR {M M' : Mem} {b : Nat} {T : TownA} (e : ∀ j, j < 41 → gA M' 100 8 (b + j) = gA M 100 19 j) (hn : tW T ≤ 6) (h : TR1 M T) : TM M' b T := by
  obtain ⟨⟨a0, a1, a2, a3, a4⟩, a5, a6⟩ := h
  refine ⟨⟨?_, by rw [e 1 (by omega)]; exact a1, by rw [e 2 (by omega)]; exact a2, by rw [e 3 (by omega)]; exact a3, by rw [e 4 (by omega)]; exact a4⟩, fun s hs => ?_, fun s hs => ?_⟩
  · have := e 0 (by omega)
    rw [Nat.add_zero] at this
    rw [this]; exact a0
  · rw [e _ (by omega), e _ (by omega), e _ (by omega), e _ (by omega)]; exact a5 s hs
  · rw [e _ (by omega), e _ (by omega)]; exact a6 s hs
theorem SM_SR {M M' : Mem} {b : Nat} {S : SightA} (e : ∀ j, j < 31 → gA M' 100 9 (b + j) = gA M 100 19 j) (hn : S.1 ≤ 10) (h : SR1 M S) : SM M' b S := by
  obtain ⟨a0, a1⟩ := h
  refine ⟨?_, fun s hs => ?_⟩
  · have := e 0 (by omega)
    rw [Nat.add_zero] at this
    rw [this]; exact a0
  · rw [e _ (by omega), e _ (by omega), e _ (by omega)]; exact a1 s hs
theorem keep_q {Mx Mm : Mem} {a v c : Nat} (H : Rl Mx Mm) (ha : a < 4) (hv : v < 2) (hvc : v ≤ c) (hc : gA Mx 1 4 a = nI c) (hc2 : c ≤ 2) (hF : FinA a Mx Mm) : ∃ Mx' Mm', f_X5_keep Mx 1 (nI a) (nI v) = some Mx' ∧ f_X10_storeAll (sA Mm 100 5 a (nI (max c (v + 1)))) (nI a) (nI v) = some Mm' ∧ Rl Mx' Mm' := by
  obtain ⟨Mx', x1, x2, x3, x4, x5, x6, x7, x8, x9⟩ := keepX_v ha hv hc hc2
  obtain ⟨f, m1, m2, m3⟩ := storeAll_v (M := sA Mm 100 5 a (nI (max c (v + 1)))) ha hv
  obtain ⟨⟨n, h1, h2, h3⟩, h4, ⟨h5, h6⟩, cn, h7, h8, h9, h10, h11⟩ := H.1
  have hcn : cn a = c := by
    have g1 := (h7 a ha).2.1
    have g0 := (h7 a ha).1
    rw [hc] at g1
    exact ((nI_eq (by omega) (by omega)).mp g1).symm
  have hR : ∀ r, ¬ r = 5 → ¬ r = 6 + a → gA (wA (sA Mm 100 5 a (nI (max c (v + 1)))) 100 (roA a) f) 100 r = gA Mm 100 r := by
    intro r r1 r2
    have e6 : roA a = 6 + a := rfl
    rw [gA_wA', if_neg (by rw [e6]; omega)]
    funext j
    rw [gA_sA, if_neg (by omega)]
  have hS : gA (wA (sA Mm 100 5 a (nI (max c (v + 1)))) 100 (roA a) f) 100 (6 + a) = f := by
    rw [gA_wA', if_pos ⟨rfl, rfl⟩]
  have h5r : ∀ j, gA (wA (sA Mm 100 5 a (nI (max c (v + 1)))) 100 (roA a) f) 100 5 j = if j = a then nI (max c (v + 1)) else gA Mm 100 5 j := by
    intro j
    have e6 : roA a = 6 + a := rfl
    rw [gA_wA', if_neg (by rw [e6]; omega), gA_sA]
    by_cases q : j = a
    · rw [if_pos ⟨rfl, rfl, q⟩, if_pos q]
    · rw [if_neg (fun z => q z.2.2), if_neg q]
  have m2' : ∀ j, j < wdA a → f (wdA a * v + j) = gA Mm 100 19 j := by
    intro j hj
    rw [m2 j hj, gA_sA, if_neg (by omega)]
  have m3' : ∀ j, (j < wdA a * v ∨ wdA a * v + wdA a ≤ j) → f j = gA Mm 100 (6 + a) j := by
    intro j hj
    rw [m3 j hj, gA_sA, if_neg (by show ¬ (100 = 100 ∧ 6 + a = 5 ∧ _); omega)]
    rfl
  refine ⟨Mx', _, x1, m1, Rl_new H (fun o ho => x2 o (by omega) (by omega)) (fun r j hj => ?_) ⟨⟨n, h1, by rw [x3]; exact h2, by rw [hR 2 (by omega) (by omega)]; exact h3⟩, fun j hj => by rw [x4 0 (by omega), hR 1 (by omega) (by omega)]; exact h4 j hj, ⟨by rw [x3, hR 3 (by omega) (by omega)]; exact h5, by rw [x3, hR 4 (by omega) (by omega)]; exact h6⟩, (fun s => if s = a then max c (v + 1) else cn s), fun s hs => ?_, ?_, ?_, ?_, ?_⟩⟩
  · by_cases r5 : r = 5
    · subst r5
      rw [h5r, if_neg (by omega)]
    · by_cases r6 : r = 6 + a
      · subst r6
        rw [hS]
        refine m3' j (Or.inr ?_)
        have hcs : a = 0 ∨ a = 1 ∨ a = 2 ∨ a = 3 := by omega
        rcases hcs with rfl | rfl | rfl | rfl
        · show 138 * v + 138 ≤ j; omega
        · show 81 * v + 81 ≤ j; omega
        · show 41 * v + 41 ≤ j; omega
        · show 31 * v + 31 ≤ j; omega
      · rw [hR r r5 r6]
  · obtain ⟨g0, g1, g2⟩ := h7 s hs
    show (if s = a then max c (v + 1) else cn s) ≤ 2 ∧ _ = nI (if s = a then max c (v + 1) else cn s) ∧ _ = nI (if s = a then max c (v + 1) else cn s)
    rw [x5, show 4 * 0 + s = s by omega, h5r]
    rw [show 4 * 0 + s = s by omega] at g2
    by_cases q : s = a
    · simp only [if_pos q]
      exact ⟨by omega, trivial, trivial⟩
    · simp only [if_neg q]
      exact ⟨g0, g1, g2⟩
  · by_cases q : a = 0
    · subst q
      show ∀ k, k < (if 0 = 0 then max c (v + 1) else cn 0) → _
      rw [if_pos rfl]
      rw [hcn] at h8
      refine keep_list (V := CV) (QX := CX) (QM := CM) h8 ?_ (fun k A hk h => CX_cg (x2 _ (by omega) (by omega)) h) (fun k A hk hV h => CM_at h (fun j hj => ?_) hV.1) hvc
      · obtain ⟨A, a1, a2, a3⟩ := hF
        exact ⟨A, a1, by rw [show 1 + 1 + v = 2 + 2 * 0 + v by omega]; exact x6 rfl A a1.1 a2, CM_CR (fun j hj => by rw [hS, show 138 * (2 * 0 + v) + j = wdA 0 * v + j by show _ = 138 * v + j; omega]; exact m2' j hj) a1.1 a3⟩
      · rw [hS]
        exact m3' _ (by show (_ < 138 * v ∨ 138 * v + 138 ≤ _); omega)
    · show ∀ k, k < (if 0 = a then max c (v + 1) else cn 0) → _
      rw [if_neg (by omega)]
      intro k hk
      have k2 := (h7 0 (by omega)).1
      obtain ⟨A, a1, a2, a3⟩ := h8 k hk
      exact ⟨A, a1, CX_cg (x2 _ (by omega) (by omega)) a2, CM_cg (hR 6 (by omega) (by omega)) a3⟩
  · by_cases q : a = 1
    · subst q
      show ∀ k, k < (if 1 = 1 then max c (v + 1) else cn 1) → _
      rw [if_pos rfl]
      rw [hcn] at h9
      refine keep_list (V := LV) (QX := LX) (QM := LM) h9 ?_ (fun k A hk h => LX_cg (x2 _ (by omega) (by omega)) h) (fun k A hk hV h => LM_at h (fun j hj => ?_) hV.1) hvc
      · obtain ⟨A, a1, a2, a3⟩ := hF
        exact ⟨A, a1, by rw [show 1 + 3 + v = 2 + 2 * 1 + v by omega]; exact x7 rfl A a1.1 a2, LM_LR (fun j hj => by rw [hS, show 81 * (2 * 0 + v) + j = wdA 1 * v + j by show _ = 81 * v + j; omega]; exact m2' j hj) a1.1 a3⟩
      · rw [hS]
        exact m3' _ (by show (_ < 81 * v ∨ 81 * v + 81 ≤ _); omega)
    · show ∀ k, k < (if 1 = a then max c (v + 1) else cn 1) → _
      rw [if_neg (by omega)]
      intro k hk
      have k2 := (h7 1 (by omega)).1
      obtain ⟨A, a1, a2, a3⟩ := h9 k hk
      exact ⟨A, a1, LX_cg (x2 _ (by omega) (by omega)) a2, LM_cg (hR 7 (by omega) (by omega)) a3⟩
  · by_cases q : a = 2
    · subst q
      show ∀ k, k < (if 2 = 2 then max c (v + 1) else cn 2) → _
      rw [if_pos rfl]
      rw [hcn] at h10
      refine keep_list (V := TV) (QX := TX) (QM := TM) h10 ?_ (fun k A hk h => TX_cg (x2 _ (by omega) (by omega)) h) (fun k A hk hV h => TM_at h (fun j hj => ?_) hV.1.2.2.2.2) hvc
      · obtain ⟨A, a1, a2, a3⟩ := hF
        exact ⟨A, a1, by rw [show 1 + 5 + v = 2 + 2 * 2 + v by omega]; exact x8 rfl A a1.1.2.2.2.2 a2, TM_TR (fun j hj => by rw [hS, show 41 * (2 * 0 + v) + j = wdA 2 * v + j by show _ = 41 * v + j; omega]; exact m2' j hj) a1.1.2.2.2.2 a3⟩
      · rw [hS]
        exact m3' _ (by show (_ < 41 * v ∨ 41 * v + 41 ≤ _); omega)
    · show ∀ k, k < (if 2 = a then max c (v + 1) else cn 2) → _
      rw [if_neg (by omega)]
      intro k hk
      have k2 := (h7 2 (by omega)).1
      obtain ⟨A, a1, a2, a3⟩ := h10 k hk
      exact ⟨A, a1, TX_cg (x2 _ (by omega) (by omega)) a2, TM_cg (hR 8 (by omega) (by omega)) a3⟩
  · by_cases q : a = 3
    · subst q
      show ∀ k, k < (if 3 = 3 then max c (v + 1) else cn 3) → _
      rw [if_pos rfl]
      rw [hcn] at h11
      refine keep_list (V := SV) (QX := SX) (QM := SM) h11 ?_ (fun k A hk h => SX_cg (x2 _ (by omega) (by omega)) h) (fun k A hk hV h => SM_at h (fun j hj => ?_) hV.1) hvc
      · obtain ⟨A, a1, a2, a3⟩ := hF
        exact ⟨A, a1, by rw [show 1 + 7 + v = 2 + 2 * 3 + v by omega]; exact x9 rfl A a1.1 a2, SM_SR (fun j hj => by rw [hS, show 31 * (2 * 0 + v) + j = wdA 3 * v + j by show _ = 31 * v + j; omega]; exact m2' j hj) a1.1 a3⟩
      · rw [hS]
        exact m3' _ (by show (_ < 31 * v ∨ 31 * v + 31 ≤ _); omega)
    · show ∀ k, k < (if 3 = a then max c (v + 1) else cn 3) → _
      rw [if_neg (by omega)]
      intro k hk
      have k2 := (h7 3 (by omega)).1
      obtain ⟨A, a1, a2, a3⟩ := h11 k hk
      exact ⟨A, a1, SX_cg (x2 _ (by omega) (by omega)) a2, SM_cg (hR 9 (by omega) (by omega)) a3⟩
